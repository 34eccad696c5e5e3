/-! constructor of the history -/
section INIT3
variable {d : Nat} {h h' h1 h2 : AH} {S T : Nat → Prop}
set_option maxRecDepth 100000 in
set_option maxHeartbeats 4000000 in
theorem i_X0 {t : Nat} (hd : 4 ≤ d) (hn : h.1 = t) (h0 : t ≠ 0) (hx : hk h t = (0, 0)) : AM d m_X0_init [.inr (some t)] h (fun r h' => r = none ∧ IN h h' t (t + 49) ∧ QH h' t ∧ hi h' t 1 = 0 ∧ ∀ k : Nat, k < 4 → hr h' (t + 1) k = some (t + 2 + 12 * k) ∧ QS h' (t + 2 + 12 * k)) := by
  refine am_body mo_X0_init (Nat.le_of_ble_eq_true rfl) ?_
  show AW m_X0_init d none _ 0 [some (.inr (some t)), none] [] h (0, 0)
  have lp : ∀ (n i : Nat) (H : AH) (k : Nat × Nat), n + i = 4 → k.1 + 12 * n ≤ 49 → k.2 + 346 * n ≤ 1388 → H.1 = t + 1 + 12 * i → (∀ a, a ≤ t → hk H a = hk h a) → (∀ a, a < t → hr H a = hr h a ∧ hi H a = hi h a) → hr H t 0 = some (t + 1) → hk H (t + 1) = (4, 4) → hi H t 1 = 0 → (∀ m : Nat, m < i → hr H (t + 1) m = some (t + 2 + 12 * m) ∧ QS H (t + 2 + 12 * m)) →
      AW m_X0_init d none (fun r h' => r = none ∧ IN h h' t (t + 49) ∧ QH h' t ∧ hi h' t 1 = 0 ∧ ∀ k : Nat, k < 4 → hr h' (t + 1) k = some (t + 2 + 12 * k) ∧ QS h' (t + 2 + 12 * k)) 19 [some (.inr (some t)), some (.inl (i : Int))] [] H k := by
    intro n
    induction n with
    | zero =>
      intro i H k hi4 k1 k2 nH kH oH rH kr vH rows
      refine aw_iload_n (pc := 19) dX0_init_19 rfl ?_
      refine aw_iconst (pc := 20) dX0_init_20 ?_
      refine aw_icmp_ge (pc := 21) (tgt := 43) dX0_init_21 (by decide) (fun c => ?_) (fun c => by omega)
      refine aw_return (pc := 43) dX0_init_43 rfl ?_ (by show k.1 ≤ 49; omega) (by show k.2 ≤ 1388; omega)
      exact ⟨rfl, ⟨by omega, kH, oH⟩, ⟨(kH t (Nat.le_refl _)).trans hx, rH, kr⟩, vH, fun m hm => rows m (by omega)⟩
    | succ n ih =>
      intro i H k hi4 k1 k2 nH kH oH rH kr vH rows
      have kt : hk H t = (0, 0) := (kH t (Nat.le_refl _)).trans hx
      refine aw_iload_n (pc := 19) dX0_init_19 rfl ?_
      refine aw_iconst (pc := 20) dX0_init_20 ?_
      refine aw_icmp_ge (pc := 21) (tgt := 43) dX0_init_21 (by decide) (fun c => by omega) (fun c => ?_)
      refine aw_aload_n (pc := 24) dX0_init_24 rfl ?_
      refine aw_getr (pc := 25) (r := some (t + 1)) dX0_init_25 fl_X0_11 (by decide) rfl kt rH ?_
      refine aw_iload_n (pc := 28) dX0_init_28 rfl ?_
      refine aw_new (pc := 29) (ci := 2) dX0_init_29 (by decide) kl_X0_9 it_X2 ii_X2 (by show k.1 + 1 ≤ 49; omega) (by show k.2 + 7 ≤ 1388; omega) ?_
      refine aw_dup (pc := 32) dX0_init_32 ?_
      refine aw_invI (pc := 33) (md' := m_X2_init) (n := 0) (j := H.1) (as := []) dX0_init_33 mo_X2_init rfl im_X2_init rfl (Or.inl ml_X0_21) rfl (by omega) (Nat.le_of_ble_eq_true rfl) (by show k.1 + 1 + 11 ≤ 49; omega) (by show k.2 + 7 + 339 ≤ 1388; omega) ?_
      refine am_mono (i_X2 (b := H.1 + 1) (by omega) rfl (by omega) hk_nw) (fun r h2 _ _ z => ?_)
      obtain ⟨rfl, i2, q2, e2⟩ := z
      have n2 : h2.1 = H.1 + 12 := i2.1
      have o2 : OS H h2 (fun x => x ≤ H.1) := (os_nw.tr i2.os).wk (fun x q => ⟨q, by show x < H.1 + 1; have q' : x ≤ H.1 := q; omega⟩)
      have o2' : ∀ a, a ≤ H.1 → hk h2 a = hk H a ∧ hr h2 a = hr H a ∧ hi h2 a = hi H a := o2
      have kr2 : hk h2 (t + 1) = (4, 4) := (o2' (t + 1) (by omega)).1.trans kr
      refine ax_aastore (pc := 36) (n := 4) dX0_init_36 kr2 ⟨by omega, by omega⟩ q2.1 ?_
      refine ax_iinc (pc := 37) (v' := (i : Int) + 1) (ls' := [some (.inr (some t)), some (.inl ((i : Int) + 1))]) dX0_init_37 rfl (by unfold rg; omega) rfl rfl ?_
      refine aw_goto (pc := 40) (tgt := 19) dX0_init_40 (by decide) ?_
      refine ih (i + 1) (ur h2 (t + 1) (i : Int) (some (H.1 + 1))) _ (by omega) (by show k.1 + 1 + 11 + 12 * n ≤ 49; omega) (by show k.2 + 7 + 339 + 346 * n ≤ 1388; omega) (by show h2.1 = _; omega) (fun a ha => ?_) (fun a ha => ?_) ?_ kr2 ?_ (fun m hm => ?_)
      · exact (o2' a (by omega)).1.trans (kH a ha)
      · refine ⟨?_, (o2' a (by omega)).2.2.trans (oH a ha).2⟩
        funext x
        rw [hr_ur, if_neg (by omega), (o2' a (by omega)).2.1, (oH a ha).1]
      · rw [hr_ur, if_neg (by omega), (o2' t (by omega)).2.1]
        exact rH
      · rw [hi_ur, (o2' t (by omega)).2.2]
        exact vH
      · by_cases q : m = i
        · subst q
          refine ⟨?_, ?_⟩
          · rw [hr_ur, if_pos ⟨rfl, rfl⟩]
            congr 1
            omega
          · have eb : t + 2 + 12 * m = H.1 + 1 := by omega
            rw [eb]
            exact q2.os os_ur (fun x q1 q2 => by show x ≠ t + 1; omega)
        · obtain ⟨g1, g2⟩ := rows m (by omega)
          refine ⟨?_, ?_⟩
          · rw [hr_ur, if_neg (by omega), (o2' (t + 1) (by omega)).2.1]
            exact g1
          · exact g2.os (o2.tr os_ur) (fun x q1 q2 => ⟨by show x ≤ H.1; omega, by show x ≠ t + 1; omega⟩)
  refine aw_aload_n (pc := 0) dX0_init_0 rfl ?_
  refine aw_obj0 (pc := 1) h0 dX0_init_1 ml_X0_3 im_obj oc_obj (by omega) (by decide) ?_
  refine aw_aload_n (pc := 4) dX0_init_4 rfl ?_
  refine aw_iconst (pc := 5) dX0_init_5 ?_
  refine aw_newref (pc := 6) (n := 4) dX0_init_6 kl_X0_9 rfl (by decide) (by decide) (by decide) ?_
  refine aw_putrF (pc := 9) dX0_init_9 fl_X0_11 (by decide) rfl ⟨rfl, rfl, rfl⟩ (hkW hx (by omega)) ?_
  generalize e9 : ur (nw h (4, 4)) t ((0 : Nat) : Int) (some (h.1 + 1)) = h9
  have f9 : fld h t 0 (4, 4) = h9 := e9
  have k9 : hk h9 t = (0, 0) := by rw [← f9]; exact hkF hx (by omega)
  refine aw_aload_n (pc := 12) dX0_init_12 rfl ?_
  refine aw_iconst (pc := 13) dX0_init_13 ?_
  refine ax_puti (pc := 14) dX0_init_14 fl_X0_17 (by decide) rfl rfl rfl k9 ?_
  refine aw_iconst (pc := 17) dX0_init_17 ?_
  refine ax_istore_n (pc := 18) (ls' := [some (.inr (some t)), some (.inl ((0 : Nat) : Int))]) dX0_init_18 (Nat.le_refl 2) rfl ?_
  refine lp 4 0 (up h9 t ((1 : Nat) : Int) 0) _ (by decide) (by decide) (by decide) (by rw [n_up, ← f9, n_fld]; omega) (fun a ha => ?_) (fun a ha => ⟨?_, ?_⟩) ?_ ?_ ?_ (fun m hm => by omega)
  · rw [hk_up, ← f9, hkF_ne (by omega)]
  · rw [hr_up, ← f9]
    exact (os_fld a ⟨by omega, by omega⟩).2.1
  · rw [up_ne (by omega), ← f9]
    exact (os_fld a ⟨by omega, by omega⟩).2.2
  · rw [hr_up, ← f9, hrF_eq, hn]
  · rw [hk_up, ← f9]
    exact hkF_eq (by omega)
  · rw [hi_up, if_pos ⟨rfl, rfl⟩]
end INIT3
