/-! the law: from its entry to its loop -/
def hE : AH := (0, fun _ => (9, 0), fun _ _ => none, fun _ _ => 0)
section START
variable {d L : Nat} {xs : Nat → Int} {h h1 h2 : AH}
theorem RS_k {q : Nat} (a : RS q) : ∃ k : Nat, k < 4 ∧ q = 1 + 51 + 12 * k := by
  unfold RS at a
  rcases a with q | q | q | q
  · exact ⟨0, by decide, q⟩
  · exact ⟨1, by decide, q⟩
  · exact ⟨2, by decide, q⟩
  · exact ⟨3, by decide, q⟩
theorem start6 {S : Nat → Prop} (o : OS h1 h2 S) (n : ∀ x, x ≤ 103 → S x) (k1 : hk h1 1 = (0, 6)) (st : ∀ i : Nat, i < 4 → hr h1 1 i = some (1 + 1 + 12 * i) ∧ QS h1 (1 + 1 + 12 * i) ∧ ES h1 (1 + 1 + 12 * i) s00) (v4 : hi h1 1 4 = 0) (r5 : hr h1 1 5 = some (1 + 49)) (qh : QH h1 (1 + 49)) (v50 : hi h1 (1 + 49) 1 = 0) (rows : ∀ k : Nat, k < 4 → hr h1 (1 + 50) k = some (1 + 51 + 12 * k) ∧ QS h1 (1 + 51 + 12 * k)) (r6 : hr h1 1 6 = some (1 + 99)) (qx : QX h1 (1 + 99)) (v100 : hi h1 (1 + 99) 1 = 0) : L6 h2 ∧ G6 h2 g00 := by
  have o1 := o 1 (n 1 (by decide))
  have qs : ∀ i : Nat, i < 4 → QS h2 (1 + 1 + 12 * i) := fun i hi2 => (st i hi2).2.1.os o (fun x q1 q2 => n x (by omega))
  have hr1 : ∀ i : Nat, i < 4 → hr h2 1 i = some (1 + 1 + 12 * i) := fun i hi2 => by rw [o1.2.1]; exact (st i hi2).1
  have qh2 : QH h2 (1 + 49) := qh.os2 o (n _ (by omega)) (n _ (by omega))
  have qx2 : QX h2 (1 + 99) := qx.os o (fun x q1 q2 => n x (by omega))
  have e0 : ES h2 (1 + 1 + 12 * 0) s00 := (st 0 (by decide)).2.2.os o (fun x q1 q2 => n x (by omega))
  refine ⟨⟨⟨o1.1.trans k1, hr1 0 (by decide), qs 0 (by decide), hr1 1 (by decide), qs 1 (by decide), hr1 2 (by decide), qs 2 (by decide), hr1 3 (by decide), qs 3 (by decide), by rw [o1.2.1]; exact r5, qh2, by rw [o1.2.1]; exact r6, qx2⟩, qh2, fun q hq => ?_⟩, e0, ⟨?_, by decide, fun k => 1 + 51 + 12 * k, ⟨fun k hk4 => ?_, fun k hk4 => ?_, fun i j hi2 hj2 e => by have e' : 1 + 51 + 12 * i = 1 + 51 + 12 * j := e; omega⟩, fun k s hk => by simp [g00] at hk⟩, ⟨fun _ => ?_, fun v hv => by cases hv⟩, ⟨?_, by decide, fun i v hv => by simp [g00] at hv⟩⟩
  · obtain ⟨k, hk4, rfl⟩ := RS_k hq
    exact (rows k hk4).2.os o (fun x q1 q2 => n x (by omega))
  · have e := (o 50 (n 50 (by decide))).2.2
    rw [e]
    exact v50
  · have e := (o 51 (n 51 (by decide))).2.1
    rw [e]
    exact (rows k hk4).1
  · unfold RS
    show 1 + 51 + 12 * k = 52 ∨ 1 + 51 + 12 * k = 64 ∨ 1 + 51 + 12 * k = 76 ∨ 1 + 51 + 12 * k = 88
    omega
  · rw [o1.2.2]
    exact v4
  · have e := (o 100 (n 100 (by decide))).2.2
    rw [e]
    exact v100
theorem GI0 : GI 0 g00 := by
  refine ⟨⟨WL.nil, ⟨Or.inr rfl, Or.inl rfl, (by decide : (0 : Int) ≤ 1), (by decide : (1 : Int) < 2147483648)⟩, by decide, ⟨?_, ?_, ?_, ?_, ?_, ?_⟩, ?_, ?_, ?_, ?_, fun c hc => (by cases hc)⟩, fun s hs => (by cases hs), fun s hs => (by cases hs), rfl, by decide⟩
  all_goals decide
set_option maxRecDepth 100000 in
set_option maxHeartbeats 4000000 in
theorem law_start (hd : 120 ≤ d) (hL : L ≤ 260) : AW m_L_law d (some (some (L, xs), [], [])) (fun r _ => r = some 1) 0 [some (.inr (some 0)), none, none, none, none, none, none, none, none, none, none, none, none, none, none, none] [] hE (0, 0) := by
  refine aw_new (pc := 0) (ci := 6) dL_law_0 (by decide) kl_L_14 it_X6 ii_X6 (by decide) (by decide) ?_
  show AW m_L_law d (some (some (L, xs), [], [])) _ 3 _ [.inr (some 1)] (nw hE (0, 6)) _
  refine aw_dup (pc := 3) dL_law_3 ?_
  refine aw_invI (pc := 4) (md' := m_X6_init) (n := 0) (j := 0) (as := []) dL_law_4 mo_X6_init rfl im_X6_init rfl (Or.inl ml_L_105) rfl (by omega) (Nat.le_of_ble_eq_true rfl) (Nat.le_of_ble_eq_true rfl) (Nat.le_of_ble_eq_true rfl) ?_
  refine am_mono (i_X6 (j := 1) (by omega) rfl (by decide) hk_nw) (fun r h1 _ _ z => ?_)
  obtain ⟨rfl, n1, o1, k1, st, v4, r5, qh, v50, rows, r6, qx, v100⟩ := z
  show AW m_L_law d (some (some (L, xs), [], [])) _ 7 _ [.inr (some 1)] h1 _
  refine ax_astore_n (pc := 7) (ls' := [some (.inr (some 0)), some (.inr (some 1)), none, none, none, none, none, none, none, none, none, none, none, none, none, none]) dL_law_7 (Nat.le_of_ble_eq_true rfl) rfl ?_
  have g6 := start6 (h1 := h1) (h2 := h1) (S := fun _ => True) (fun x _ => ⟨rfl, rfl, rfl⟩) (fun x q => trivial) k1 st v4 r5 qh v50 rows r6 qx v100
  have r8 := l_law8 (d := d) (q := (L, xs)) (g := g00) (by omega) (by show L < 2147483648; omega) GI0 rfl rfl rfl rfl rfl rfl h1 g6.1 g6.2
  exact aw_mono r8 (fun r h' z => by
    obtain ⟨v, g', e, -, -, p⟩ := z
    rw [e]
    exact congrArg some p)
end START
