/-! the law: from its entry to its loop -/
section START
variable {d L : Nat} {xs : Nat → Int} {h h1 h2 : AH}
theorem RS_k {q : Nat} (a : RS q) : ∃ k : Nat, k < 4 ∧ q = 1 + 51 + 12 * k := by
  unfold RS at a
  rcases a with q | q | q | q
  · exact ⟨0, by decide, q⟩
  · exact ⟨1, by decide, q⟩
  · exact ⟨2, by decide, q⟩
  · exact ⟨3, by decide, q⟩
theorem start6 {S : Nat → Prop} (o : OS h1 h2 S) (n : ∀ x, x ≤ 103 → S x) (k1 : hk h1 1 = (0, 6)) (st : ∀ i : Nat, i < 4 → hr h1 1 i = some (1 + 1 + 12 * i) ∧ QS h1 (1 + 1 + 12 * i) ∧ ES h1 (1 + 1 + 12 * i) s00) (v4 : hi h1 1 4 = 0) (r5 : hr h1 1 5 = some (1 + 49)) (qh : QH h1 (1 + 49)) (v50 : hi h1 (1 + 49) 1 = 0) (rows : ∀ k : Nat, k < 4 → hr h1 (1 + 50) k = some (1 + 51 + 12 * k) ∧ QS h1 (1 + 51 + 12 * k)) (r6 : hr h1 1 6 = some (1 + 99)) (qx : QX h1 (1 + 99)) (v100 : hi h1 (1 + 99) 1 = 0) : L6 h2 ∧ G6 h2 g00 := by
  have o1 := o 1 (n 1 (by decide))
  have qs : ∀ i : Nat, i < 4 → QS h2 (1 + 1 + 12 * i) := fun i hi2 => (st i hi2).2.1.os o (fun x q1 q2 => n x (by omega))
  have hr1 : ∀ i : Nat, i < 4 → hr h2 1 i = some (1 + 1 + 12 * i) := fun i hi2 => by rw [o1.2.1]; exact (st i hi2).1
  have qh2 : QH h2 (1 + 49) := qh.os2 o (n _ (by omega)) (n _ (by omega))
  have qx2 : QX h2 (1 + 99) := qx.os o (fun x q1 q2 => n x (by omega))
  have e0 : ES h2 (1 + 1 + 12 * 0) s00 := (st 0 (by decide)).2.2.os o (fun x q1 q2 => n x (by omega))
  refine ⟨⟨⟨o1.1.trans k1, hr1 0 (by decide), qs 0 (by decide), hr1 1 (by decide), qs 1 (by decide), hr1 2 (by decide), qs 2 (by decide), hr1 3 (by decide), qs 3 (by decide), by rw [o1.2.1]; exact r5, qh2, by rw [o1.2.1]; exact r6, qx2⟩, qh2, fun q hq => ?_⟩, e0, ⟨?_, by decide, fun k => 1 + 51 + 12 * k, ⟨fun k hk4 => ?_, fun k hk4 => ?_, fun i j hi2 hj2 e => by have e' : 1 + 51 + 12 * i = 1 + 51 + 12 * j := e; omega⟩, fun k s hk => by simp [g00] at hk⟩, ⟨fun _ => ?_, fun v hv => by cases hv⟩, ⟨?_, by decide, fun i v hv => by simp [g00] at hv⟩⟩
  · obtain ⟨k, hk4, rfl⟩ := RS_k hq
    exact (rows k hk4).2.os o (fun x q1 q2 => n x (by omega))
  · have e := (o 50 (n 50 (by decide))).2.2
    rw [e]
    exact v50
  · have e := (o 51 (n 51 (by decide))).2.1
    rw [e]
    exact (rows k hk4).1
  · unfold RS
    show 1 + 51 + 12 * k = 52 ∨ 1 + 51 + 12 * k = 64 ∨ 1 + 51 + 12 * k = 76 ∨ 1 + 51 + 12 * k = 88
    omega
  · rw [o1.2.2]
    exact v4
  · have e := (o 100 (n 100 (by decide))).2.2
    rw [e]
    exact v100
theorem start7 (z2 : hi h2 105 2 = 1) (z4 : hi h2 105 4 = 1) (z : ∀ m, m ≠ 2 → m ≠ 4 → hi h2 105 m = 0) (v : ∀ m, hi h2 104 m = 0) : G7 h2 g00 := by
  refine ⟨⟨z 0 (by decide) (by decide), z 1 (by decide) (by decide), fun k k1 k2 => ?_, fun i c hc => by simp [g00, s00] at hc, fun i u hu => by simp [g00, s00] at hu, WL.nil, by decide, Or.inr rfl, Or.inl rfl, (by decide : (0 : Int) ≤ 1), (by decide : (1 : Int) < 2147483648)⟩, ⟨v 3, by decide, fun k s hk => by simp [g00] at hk⟩, ⟨fun _ => v 5, fun u hu => by cases hu⟩, ⟨v 7, by decide, fun i u hu => by simp [g00] at hu⟩⟩
  show hi h2 105 k = F00 k
  unfold F00
  by_cases q : k = 2
  · rw [q, if_pos (Or.inl rfl)]; exact z2
  · by_cases q2 : k = 4
    · rw [q2, if_pos (Or.inr rfl)]; exact z4
    · rw [if_neg (by omega)]; exact z k q q2
set_option maxRecDepth 100000 in
set_option maxHeartbeats 4000000 in
theorem law_start (hd : 101 ≤ d) (hL : L ≤ 1536) (hx : ∀ j, rg (xs j)) : AW m_L_law d (some (L, xs)) (fun r _ => r = some 1) 0 [some (.inr (some 0)), none, none, none] [] hE (0, 0) := by
  refine aw_new (pc := 0) (ci := 6) dL_law_0 (by decide) kl_L_7 it_X6 ii_X6 (by decide) (by decide) ?_
  show AW m_L_law d (some (L, xs)) _ 3 _ [.inr (some 1)] (nw hE (0, 6)) _
  refine aw_dup (pc := 3) dL_law_3 ?_
  refine aw_invI (pc := 4) (md' := m_X6_init) (n := 0) (j := 0) (as := []) dL_law_4 mo_X6_init rfl im_X6_init rfl (Or.inl ml_L_9) rfl (by omega) (Nat.le_of_ble_eq_true rfl) (Nat.le_of_ble_eq_true rfl) (Nat.le_of_ble_eq_true rfl) ?_
  refine am_mono (i_X6 (j := 1) (by omega) rfl (by decide) hk_nw) (fun r h1 _ _ z => ?_)
  obtain ⟨rfl, n1, o1, k1, st, v4, r5, qh, v50, rows, r6, qx, v100⟩ := z
  show AW m_L_law d (some (L, xs)) _ 7 _ [.inr (some 1)] h1 _
  refine ax_astore_n (pc := 7) (ls' := [some (.inr (some 0)), some (.inr (some 1)), none, none]) dL_law_7 (Nat.le_of_ble_eq_true rfl) rfl ?_
  refine aw_new (pc := 8) (ci := 7) dL_law_8 (by decide) kl_L_10 it_X7 ii_X7 (Nat.le_of_ble_eq_true rfl) (Nat.le_of_ble_eq_true rfl) ?_
  rw [n1]
  show AW m_L_law d (some (L, xs)) _ 11 _ [.inr (some 104)] (nw h1 (0, 7)) _
  refine aw_dup (pc := 11) dL_law_11 ?_
  refine aw_invI (pc := 12) (md' := m_X7_init) (n := 0) (j := 103) (as := []) dL_law_12 mo_X7_init rfl im_X7_init rfl (Or.inl ml_L_12) rfl (by omega) (Nat.le_of_ble_eq_true rfl) (Nat.le_of_ble_eq_true rfl) (Nat.le_of_ble_eq_true rfl) ?_
  have e104 : (104 : Nat) = h1.1 + 1 := by rw [n1]
  refine am_mono (i_X7 (j := 104) (by omega) (by show h1.1 + 1 = 104; omega) (by decide) (by rw [e104]; exact hk_nw)) (fun r h2 _ _ z => ?_)
  obtain ⟨rfl, i2, lay, z2, z4, zz, vv⟩ := z
  show AW m_L_law d (some (L, xs)) _ 15 _ [.inr (some 104)] h2 _
  refine ax_astore_n (pc := 15) (ls' := [some (.inr (some 0)), some (.inr (some 1)), some (.inr (some 104)), none]) dL_law_15 (Nat.le_of_ble_eq_true rfl) rfl ?_
  refine aw_iconst (pc := 16) dL_law_16 ?_
  refine ax_istore_n (pc := 17) (ls' := LOC 0) dL_law_17 (Nat.le_of_ble_eq_true rfl) rfl ?_
  have o2 : OS h1 h2 (fun x => x ≤ 103) := (os_nw.tr i2.os).wk (fun x q => ⟨by show x ≤ h1.1; have q' : x ≤ 103 := q; omega, by show x < 104; have q' : x ≤ 103 := q; omega⟩)
  have g6 := start6 o2 (fun x q => q) k1 st v4 r5 qh v50 rows r6 qx v100
  have g7 : G7 h2 g00 := start7 z2 z4 zz (fun m => by
    rw [vv m, e104]
    exact hi_nw)
  have qz : QZ h2 := lay
  exact law_loop (by omega) hL hx (L + 1) 0 h2 _ (by omega) (by omega) (by omega) (Nat.le_of_ble_eq_true rfl) (Nat.le_of_ble_eq_true rfl) ⟨g6.1, qz, g00, g6.2, g7⟩
end START
