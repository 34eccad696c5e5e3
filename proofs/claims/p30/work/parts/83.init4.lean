/-! constructor of the object -/
def g00 : Gs := (s00, [], none, [])
def PS6 (h : AH) (H : AH) (j m : Nat) : Prop := H.1 = j + 12 * m ∧ hk H j = (0, 6) ∧ OS h H (fun x => x < j) ∧ ∀ i : Nat, i < m → hr H j i = some (j + 1 + 12 * i) ∧ QS H (j + 1 + 12 * i) ∧ ES H (j + 1 + 12 * i) s00
section INIT4
variable {d : Nat} {h h' H : AH} {S T : Nat → Prop}
theorem ES.os {b : Nat} {s : Ms} (a : ES h b s) (o : OS h h' S) (n : ∀ x, b ≤ x → x ≤ b + 11 → S x) : ES h' b s := a.same (fun x q1 q2 => (o x (n x q1 (by omega))).2.2)
theorem PS6.st {j m : Nat} {H' : AH} {S : Nat → Prop} (a : PS6 h H j m) (o : OS H H' S) (n : ∀ x, x ≤ j + 12 * m → x ≠ j → S x) (nH : H'.1 = j + 12 * m) (kj : hk H' j = hk H j) (rj : ∀ i : Nat, i < m → hr H' j i = hr H j i) : PS6 h H' j m :=
  ⟨nH, kj.trans a.2.1, (a.2.2.1.tr o).wk (fun x q => ⟨q, n x (by have q' : x < j := q; omega) (by have q' : x < j := q; omega)⟩), fun i hi2 => by
    obtain ⟨g1, g2, g3⟩ := a.2.2.2 i hi2
    exact ⟨(rj i hi2).trans g1, g2.os o (fun x q1 q2 => n x (by omega) (by omega)), g3.os o (fun x q1 q2 => n x (by omega) (by omega))⟩⟩
theorem QH.os2 {t : Nat} (a : QH h t) (o : OS h h' S) (n1 : S t) (n2 : S (t + 1)) : QH h' t := by
  unfold QH at *
  rw [(o t n1).1, (o t n1).2.1, (o (t + 1) n2).1]
  exact a
theorem aw_newState {Q : Option Int → AH → Prop} {j m idxP pc : Nat} {k : Nat × Nat} (hd : 5 ≤ d) (h0 : j ≠ 0) (a : PS6 h H j m) (d0 : decode cX6_init pc = .ok (.aload_n 0, 1)) (d1 : decode cX6_init (pc + 1) = .ok (.new 7, 3)) (d4 : decode cX6_init (pc + 4) = .ok (.dup, 1)) (d5 : decode cX6_init (pc + 5) = .ok (.invokespecial 9, 3)) (d8 : decode cX6_init (pc + 8) = .ok (.putfield idxP, 3))
    (fl : Cond.fieldLink RX6 idxP (cU 6 m).1 (cU 6 m).2.1 (cU 6 m).2.2.1 ∈ tbG) (hm : m < cN 6) (hT : isR (cT 6 m) = true) (hfin : (cU 6 m).2.2.2 = true ∧ (cU 6 m).1 = RX6) (k1 : k.1 + 12 ≤ 102) (k2 : k.2 + 346 ≤ 2901)
    (kk : ∀ H', PS6 h H' j (m + 1) → AW m_X6_init d none Q (pc + 11) [some (.inr (some j))] [] H' (k.1 + 1 + 11, k.2 + 7 + 339)) : AW m_X6_init d none Q pc [some (.inr (some j))] [] H k := by
  obtain ⟨nH, kH, oH, rows⟩ := id a
  refine aw_aload_n (pc := pc) d0 rfl ?_
  refine aw_new (pc := pc + 1) (ci := 2) d1 (by decide) kl_X6_7 it_X2 ii_X2 (by show k.1 + 1 ≤ 102; omega) (by show k.2 + 7 ≤ 2901; omega) ?_
  refine aw_dup (pc := pc + 4) d4 ?_
  refine aw_invI (pc := pc + 5) (md' := m_X2_init) (n := 0) (j := H.1) (as := []) d5 mo_X2_init rfl im_X2_init rfl (Or.inl ml_X6_9) rfl (by omega) (Nat.le_of_ble_eq_true rfl) (by show k.1 + 1 + 11 ≤ 102; omega) (by show k.2 + 7 + 339 ≤ 2901; omega) ?_
  refine am_mono (i_X2 (b := H.1 + 1) (by omega) rfl (by omega) hk_nw) (fun r h2 _ _ z => ?_)
  obtain ⟨rfl, i2, q2, e2⟩ := z
  have n2 : h2.1 = H.1 + 12 := i2.1
  have o2 : OS H h2 (fun x => x ≤ H.1) := (os_nw.tr i2.os).wk (fun x q => ⟨q, by show x < H.1 + 1; have q' : x ≤ H.1 := q; omega⟩)
  have o2' : ∀ a, a ≤ H.1 → hk h2 a = hk H a ∧ hr h2 a = hr H a ∧ hi h2 a = hi H a := o2
  have a2 : PS6 h H j m := a
  refine aw_putrF (pc := pc + 8) (j := j) (kf := m) (ci := 6) d8 fl hm hT ⟨hfin.1, rfl, hfin.2⟩ ((o2' j (by omega)).1.trans kH) ?_
  refine kk _ ⟨by show h2.1 = _; omega, (o2' j (by omega)).1.trans kH, (oH.tr (o2.tr os_ur)).wk (fun x q => ⟨q, by show x ≤ H.1; have q' : x < j := q; omega, by show x ≠ j; have q' : x < j := q; omega⟩), fun i hi2 => ?_⟩
  by_cases q : i = m
  · subst q
    have eb : j + 1 + 12 * i = H.1 + 1 := by omega
    rw [eb]
    exact ⟨by rw [hr_ur, if_pos ⟨rfl, rfl⟩], q2.os os_ur (fun x q1 q2 => by show x ≠ j; omega), e2.os os_ur (fun x q1 q2 => by show x ≠ j; omega)⟩
  · obtain ⟨g1, g2, g3⟩ := rows i (by omega)
    refine ⟨?_, g2.os (o2.tr os_ur) (fun x q1 q2 => ⟨by show x ≤ H.1; omega, by show x ≠ j; omega⟩), g3.os (o2.tr os_ur) (fun x q1 q2 => ⟨by show x ≤ H.1; omega, by show x ≠ j; omega⟩)⟩
    rw [hr_ur, if_neg (by omega), (o2' j (by omega)).2.1]
    exact g1
set_option maxRecDepth 100000 in
set_option maxHeartbeats 4000000 in
theorem i_X6 {j : Nat} (hd : 5 ≤ d) (hn : h.1 = j) (h0 : j ≠ 0) (hx : hk h j = (0, 6)) : AM d m_X6_init [.inr (some j)] h (fun r h' => r = none ∧ h'.1 = j + 102 ∧ OS h h' (fun x => x < j) ∧ hk h' j = (0, 6) ∧ (∀ i : Nat, i < 4 → hr h' j i = some (j + 1 + 12 * i) ∧ QS h' (j + 1 + 12 * i) ∧ ES h' (j + 1 + 12 * i) s00) ∧ hi h' j 4 = 0 ∧ hr h' j 5 = some (j + 49) ∧ QH h' (j + 49) ∧ hi h' (j + 49) 1 = 0 ∧ (∀ k : Nat, k < 4 → hr h' (j + 50) k = some (j + 51 + 12 * k) ∧ QS h' (j + 51 + 12 * k)) ∧ hr h' j 6 = some (j + 99) ∧ QX h' (j + 99) ∧ hi h' (j + 99) 1 = 0) := by
  refine am_body mo_X6_init (Nat.le_of_ble_eq_true rfl) ?_
  show AW m_X6_init d none _ 0 [some (.inr (some j))] [] h (0, 0)
  refine aw_aload_n (pc := 0) dX6_init_0 rfl ?_
  refine aw_obj0 (pc := 1) h0 dX6_init_1 ml_X6_1 im_obj oc_obj (by omega) (by decide) ?_
  refine aw_newState (pc := 4) (m := 0) hd h0 ⟨hn, hx, OS.rf, fun i hi2 => by omega⟩ dX6_init_4 dX6_init_5 dX6_init_8 dX6_init_9 dX6_init_12 fl_X6_10 (by decide) rfl ⟨rfl, rfl⟩ (by decide) (by decide) (fun H1 a1 => ?_)
  refine aw_newState (pc := 15) (m := 1) hd h0 a1 dX6_init_15 dX6_init_16 dX6_init_19 dX6_init_20 dX6_init_23 fl_X6_16 (by decide) rfl ⟨rfl, rfl⟩ (by decide) (by decide) (fun H2 a2 => ?_)
  refine aw_newState (pc := 26) (m := 2) hd h0 a2 dX6_init_26 dX6_init_27 dX6_init_30 dX6_init_31 dX6_init_34 fl_X6_19 (by decide) rfl ⟨rfl, rfl⟩ (by decide) (by decide) (fun H3 a3 => ?_)
  refine aw_newState (pc := 37) (m := 3) hd h0 a3 dX6_init_37 dX6_init_38 dX6_init_41 dX6_init_42 dX6_init_45 fl_X6_22 (by decide) rfl ⟨rfl, rfl⟩ (by decide) (by decide) (fun H4 a4 => ?_)
  -- no snapshot
  refine aw_aload_n (pc := 48) dX6_init_48 rfl ?_
  refine aw_iconst (pc := 49) dX6_init_49 ?_
  refine aw_puti (pc := 50) dX6_init_50 fl_X6_25 (by decide) rfl rfl a4.2.1 (show okr (some .boolean) 0 from by simp [okr]) ?_
  generalize e5 : up H4 j ((4 : Nat) : Int) 0 = H5
  have a5 : PS6 h H5 j 4 := by
    rw [← e5]
    exact a4.st os_up (fun x q1 q2 => q2) a4.1 rfl (fun i hi2 => rfl)
  have v5 : hi H5 j 4 = 0 := by rw [← e5]; exact if_pos ⟨rfl, rfl⟩
  have n5 : H5.1 = j + 48 := a5.1
  -- the history
  refine aw_aload_n (pc := 53) dX6_init_53 rfl ?_
  refine aw_new (pc := 54) (ci := 0) dX6_init_54 (by decide) kl_X6_29 it_X0 ii_X0 (by decide) (by decide) ?_
  rw [n5]
  refine aw_dup (pc := 57) dX6_init_57 ?_
  refine aw_invI (pc := 58) (md' := m_X0_init) (n := 0) (j := j + 48) (as := []) dX6_init_58 mo_X0_init rfl im_X0_init rfl (Or.inl ml_X6_31) rfl (by omega) (Nat.le_of_ble_eq_true rfl) (by decide) (by decide) ?_
  refine am_mono (i_X0 (t := j + 49) (by omega) (by show H5.1 + 1 = j + 49; omega) (by omega) (by
    have e : j + 49 = H5.1 + 1 := by omega
    rw [e]
    exact hk_nw)) (fun r h6 _ _ z => ?_)
  obtain ⟨rfl, i6, q6, z6, rows6⟩ := z
  have n6 : h6.1 = j + 98 := i6.1
  have o6 : OS H5 h6 (fun x => x ≤ j + 48) := (os_nw.tr i6.os).wk (fun x q => ⟨by show x ≤ H5.1; have q' : x ≤ j + 48 := q; omega, by show x < j + 49; have q' : x ≤ j + 48 := q; omega⟩)
  have o6' : ∀ a, a ≤ j + 48 → hk h6 a = hk H5 a ∧ hr h6 a = hr H5 a ∧ hi h6 a = hi H5 a := o6
  refine aw_putrF (pc := 61) dX6_init_61 fl_X6_32 (by decide) rfl ⟨rfl, rfl, rfl⟩ ((o6' j (by omega)).1.trans a5.2.1) ?_
  generalize e7 : ur h6 j ((5 : Nat) : Int) (some (j + 48 + 1)) = h7
  have o7 : OS h6 h7 (fun x => x ≠ j) := by rw [← e7]; exact os_ur
  have n7 : h7.1 = j + 98 := by rw [← e7]; exact n6
  have k7 : hk h7 j = (0, 6) := by rw [← e7]; exact (o6' j (by omega)).1.trans a5.2.1
  -- the text
  refine aw_aload_n (pc := 64) dX6_init_64 rfl ?_
  refine aw_new (pc := 65) (ci := 4) dX6_init_65 (by decide) kl_X6_36 it_X4 ii_X4 (by decide) (by decide) ?_
  rw [n7]
  refine aw_dup (pc := 68) dX6_init_68 ?_
  refine aw_invI (pc := 69) (md' := m_X4_init) (n := 0) (j := j + 98) (as := []) dX6_init_69 mo_X4_init rfl im_X4_init rfl (Or.inr ⟨_, nl_X6_38⟩) rfl (by omega) (Nat.le_of_ble_eq_true rfl) (by decide) (by decide) ?_
  refine am_mono (i_X4 (j := j + 99) (by omega) (by show h7.1 + 1 = j + 99; omega) (by omega) (by
    have e : j + 99 = h7.1 + 1 := by omega
    rw [e]
    exact hk_nw)) (fun r h8 _ _ z => ?_)
  obtain ⟨rfl, i8, q8, z8⟩ := z
  have n8 : h8.1 = j + 102 := i8.1
  have o8 : OS h7 h8 (fun x => x ≤ j + 98) := (os_nw.tr i8.os).wk (fun x q => ⟨by show x ≤ h7.1; have q' : x ≤ j + 98 := q; omega, by show x < j + 99; have q' : x ≤ j + 98 := q; omega⟩)
  have o8' : ∀ a, a ≤ j + 98 → hk h8 a = hk h7 a ∧ hr h8 a = hr h7 a ∧ hi h8 a = hi h7 a := o8
  refine aw_putrF (pc := 72) dX6_init_72 fl_X6_39 (by decide) rfl ⟨rfl, rfl, rfl⟩ ((o8' j (by omega)).1.trans k7) ?_
  generalize e9 : ur h8 j ((6 : Nat) : Int) (some (j + 98 + 1)) = h9
  have o9 : OS h8 h9 (fun x => x ≠ j) := by rw [← e9]; exact os_ur
  refine aw_return (pc := 75) dX6_init_75 rfl ?_ (by decide) (by decide)
  have o69 : OS h6 h9 (fun x => x ≤ j + 98 ∧ x ≠ j) := (o7.tr (o8.tr o9)).wk (fun x q => ⟨q.2, q.1, q.2⟩)
  have o59 : OS H5 h9 (fun x => x ≤ j + 48 ∧ x ≠ j) := (o6.tr o69).wk (fun x q => ⟨q.1, by show x ≤ j + 98; have := q.1; omega, q.2⟩)
  have r9 : ∀ i : Int, i ≠ 5 → i ≠ 6 → hr h9 j i = hr H5 j i := fun i h5 h6 => by
    rw [← e9, hr_ur, if_neg (by omega), (o8' j (by omega)).2.1, ← e7, hr_ur, if_neg (by omega), (o6' j (by omega)).2.1]
  have k9 : hk h9 j = (0, 6) := by rw [← e9]; exact (o8' j (by omega)).1.trans k7
  refine ⟨rfl, by rw [← e9]; exact n8, (a5.2.2.1.tr o59).wk (fun x q => ⟨q, by show x ≤ j + 48; have q' : x < j := q; omega, by show x ≠ j; have q' : x < j := q; omega⟩), k9, fun i hi2 => ?_, ?_, ?_, q6.os2 o69 ⟨by omega, by omega⟩ ⟨by omega, by omega⟩, ?_, fun k hk4 => ?_, ?_, q8.os o9 (fun x q1 q2 => by show x ≠ j; omega), ?_⟩
  · obtain ⟨g1, g2, g3⟩ := a5.2.2.2 i hi2
    exact ⟨(r9 i (by omega) (by omega)).trans g1, g2.os o59 (fun x q1 q2 => ⟨by omega, by omega⟩), g3.os o59 (fun x q1 q2 => ⟨by omega, by omega⟩)⟩
  · rw [← e9, hi_ur, (o8' j (by omega)).2.2, ← e7, hi_ur, (o6' j (by omega)).2.2]
    exact v5
  · rw [← e9, hr_ur, if_neg (by omega), (o8' j (by omega)).2.1, ← e7, hr_ur, if_pos ⟨rfl, rfl⟩]
  · rw [(o69 (j + 49) ⟨by omega, by omega⟩).2.2]
    exact z6
  · obtain ⟨g1, g2⟩ := rows6 k hk4
    refine ⟨?_, ?_⟩
    · rw [(o69 (j + 50) ⟨by omega, by omega⟩).2.1]
      exact g1
    · exact g2.os o69 (fun x q1 q2 => ⟨by omega, by omega⟩)
  · rw [← e9, hr_ur, if_pos ⟨rfl, rfl⟩]
  · rw [(o9 (j + 99) (by show j + 99 ≠ j; omega)).2.2]
    exact z8
end INIT4
