/-! constructors of the state, of the history, of the object -/
def OS (h h' : AH) (S : Nat → Prop) : Prop := ∀ a, S a → hk h' a = hk h a ∧ hr h' a = hr h a ∧ hi h' a = hi h a
def F00 : Int → Int := fun k => if k = 2 ∨ k = 4 then 1 else 0
def s00 : Ms := ([], [], F00)
section INIT2
variable {d : Nat} {h h' h1 h2 : AH} {S T : Nat → Prop}
theorem OS.rf : OS h h S := fun _ _ => ⟨rfl, rfl, rfl⟩
theorem OS.tr (a : OS h h1 S) (b : OS h1 h2 T) : OS h h2 (fun x => S x ∧ T x) := fun x q => ⟨(b x q.2).1.trans (a x q.1).1, (b x q.2).2.1.trans (a x q.1).2.1, (b x q.2).2.2.trans (a x q.1).2.2⟩
theorem OS.wk (a : OS h h1 S) (n : ∀ x, T x → S x) : OS h h1 T := fun x q => a x (n x q)
theorem os_nw {kd : Nat × Nat} : OS h (nw h kd) (fun a => a ≤ h.1) := fun a q => by
  have q' : a ≤ h.1 := q
  refine ⟨hkW rfl q', ?_, ?_⟩
  · funext b
    exact if_neg (by omega)
  · funext b
    exact if_neg (by omega)
theorem os_ur {j : Nat} {k : Int} {v : Option Nat} : OS h (ur h j k v) (fun a => a ≠ j) := fun a q => ⟨rfl, by
  funext b
  exact if_neg (fun z => q z.1), rfl⟩
theorem os_up {j : Nat} {k v : Int} : OS h (up h j k v) (fun a => a ≠ j) := fun a q => ⟨rfl, rfl, up_ne q⟩
theorem os_fld {j : Nat} {k : Int} {kd : Nat × Nat} : OS h (fld h j k kd) (fun a => a ≤ h.1 ∧ a ≠ j) := os_nw.tr os_ur
theorem IN.os {j n : Nat} (a : IN h h' j n) : OS h h' (fun x => x < j) := fun x q => ⟨a.2.1 x (Nat.le_of_lt q), a.2.2 x q⟩
theorem QP.os {p : Nat} (a : QP h p) (o : OS h h' S) (n : ∀ x, p ≤ x → x ≤ p + 6 → S x) : QP h' p := by
  unfold QP at *
  rw [(o p (n _ (by omega) (by omega))).1, (o p (n _ (by omega) (by omega))).2.1, (o (p + 1) (n _ (by omega) (by omega))).1, (o (p + 2) (n _ (by omega) (by omega))).1, (o (p + 3) (n _ (by omega) (by omega))).1, (o (p + 4) (n _ (by omega) (by omega))).1, (o (p + 5) (n _ (by omega) (by omega))).1, (o (p + 6) (n _ (by omega) (by omega))).1]
  exact a
theorem QT.os {t : Nat} (a : QT h t) (o : OS h h' S) (n : ∀ x, t ≤ x → x ≤ t + 1 → S x) : QT h' t := by
  unfold QT at *
  rw [(o t (n _ (by omega) (by omega))).1, (o t (n _ (by omega) (by omega))).2.1, (o (t + 1) (n _ (by omega) (by omega))).1]
  exact a
theorem QY.os {y : Nat} (a : QY h y) (o : OS h h' S) (n : S y) : QY h' y := by
  unfold QY at *
  rw [(o y n).1]
  exact a
theorem QX.os {t : Nat} (a : QX h t) (o : OS h h' S) (n : ∀ x, t ≤ x → x ≤ t + 3 → S x) : QX h' t := by
  unfold QX at *
  rw [(o t (n _ (by omega) (by omega))).1, (o t (n _ (by omega) (by omega))).2.1, (o (t + 1) (n _ (by omega) (by omega))).1, (o (t + 2) (n _ (by omega) (by omega))).1, (o (t + 3) (n _ (by omega) (by omega))).1]
  exact a
theorem QS.os {b : Nat} (a : QS h b) (o : OS h h' S) (n : ∀ x, b ≤ x → x ≤ b + 11 → S x) : QS h' b := by
  obtain ⟨a1, a2, a3, a4, a5, a6, a7, a8, a9⟩ := a
  have hb := o b (n _ (by omega) (by omega))
  exact ⟨hb.1.trans a1, by rw [hb.2.1]; exact a2, a3.os o (fun x q1 q2 => n x (by omega) (by omega)), by rw [hb.2.1]; exact a4, a5.os o (fun x q1 q2 => n x (by omega) (by omega)), by rw [hb.2.1]; exact a6, a7.os o (n _ (by omega) (by omega)), by rw [hb.2.1]; exact a8, (o (b + 11) (n _ (by omega) (by omega))).1.trans a9⟩
theorem WL.nil : WL [] := ⟨by decide, fun c hc => (by cases hc), List.Pairwise.nil⟩
theorem ES00 {b : Nat} (a1 : hi h (b + 1) 6 = 0) (a2 : hi h (b + 8) 1 = 0) (a3 : ∀ k, 0 ≤ k → k < 8 → hi h (b + 10) k = 0) (a4 : hi h (b + 11) 0 = 1) (a5 : hi h (b + 11) 1 = 0) (a6 : hi h b 4 = 1) : ES h b s00 :=
  ⟨⟨a1, fun i c hc => (by cases hc), WL.nil⟩, ⟨a2, fun i v hv => (by cases hv), by decide⟩, ⟨a3 0 (by decide) (by decide), a3 1 (by decide) (by decide), a3 2 (by decide) (by decide), a3 3 (by decide) (by decide), a3 4 (by decide) (by decide), a3 5 (by decide) (by decide), a3 6 (by decide) (by decide), a3 7 (by decide) (by decide)⟩, a4, a5, a6, Or.inr rfl, Or.inl rfl, (by decide : (0 : Int) ≤ 1), (by decide : (1 : Int) < 2147483648)⟩
set_option maxRecDepth 100000 in
set_option maxHeartbeats 4000000 in
theorem i_X2 {b : Nat} (hd : 3 ≤ d) (hn : h.1 = b) (h0 : b ≠ 0) (hx : hk h b = (0, 2)) : AM d m_X2_init [.inr (some b)] h (fun r h' => r = none ∧ IN h h' b (b + 11) ∧ QS h' b ∧ ES h' b s00) := by
  refine am_body mo_X2_init (Nat.le_of_ble_eq_true rfl) ?_
  show AW m_X2_init d none _ 0 [some (.inr (some b))] [] h (0, 0)
  refine aw_aload_n (pc := 0) dX2_init_0 rfl ?_
  refine aw_obj0 (pc := 1) h0 dX2_init_1 ml_X2_3 im_obj oc_obj (by omega) (by decide) ?_
  -- the pocket
  refine aw_aload_n (pc := 4) dX2_init_4 rfl ?_
  refine aw_new (pc := 5) (ci := 1) dX2_init_5 (by decide) kl_X2_9 it_X1 ii_X1 (by decide) (by decide) ?_
  rw [hn]
  refine aw_dup (pc := 8) dX2_init_8 ?_
  refine aw_invI (pc := 9) (md' := m_X1_init) (n := 0) (j := b) (as := []) dX2_init_9 mo_X1_init rfl im_X1_init rfl (Or.inr ⟨_, nl_X2_11⟩) rfl (by omega) (Nat.le_of_ble_eq_true rfl) (by decide) (by decide) ?_
  refine am_mono (i_X1 (j := b + 1) (by omega) (by show h.1 + 1 = b + 1; omega) (by omega) (by rw [← hn]; exact hk_nw)) (fun r h2 _ _ z => ?_)
  obtain ⟨rfl, i2, q2, z2⟩ := z
  have n2 : h2.1 = b + 7 := i2.1
  have o2 : OS h h2 (fun x => x ≤ b) := (os_nw.tr i2.os).wk (fun x q => ⟨by show x ≤ h.1; omega, by show x < b + 1; omega⟩)
  have k2 : hk h2 b = (0, 2) := (o2 b (Nat.le_refl _)).1.trans hx
  refine aw_putrF (pc := 12) dX2_init_12 fl_X2_12 (by decide) rfl ⟨rfl, rfl, rfl⟩ k2 ?_
  generalize e3 : ur h2 b ((0 : Nat) : Int) (some (b + 1)) = h3
  have n3 : h3.1 = b + 7 := by rw [← e3]; exact n2
  have o3 : OS h2 h3 (fun x => x ≠ b) := by rw [← e3]; exact os_ur
  have k3 : hk h3 b = (0, 2) := by rw [← e3]; exact k2
  have r3 : hr h3 b 0 = some (b + 1) := by rw [← e3]; exact if_pos ⟨rfl, rfl⟩
  -- the list of those told
  refine aw_aload_n (pc := 15) dX2_init_15 rfl ?_
  refine aw_new (pc := 16) (ci := 5) dX2_init_16 (by decide) kl_X2_18 it_X5 ii_X5 (by decide) (by decide) ?_
  rw [n3]
  refine aw_dup (pc := 19) dX2_init_19 ?_
  refine aw_invI (pc := 20) (md' := m_X5_init) (n := 0) (j := b + 7) (as := []) dX2_init_20 mo_X5_init rfl im_X5_init rfl (Or.inr ⟨_, nl_X2_20⟩) rfl (by omega) (Nat.le_of_ble_eq_true rfl) (by decide) (by decide) ?_
  refine am_mono (i_X5 (j := b + 8) (by omega) (by show h3.1 + 1 = b + 8; omega) (by omega) (by
    have e : b + 8 = h3.1 + 1 := by omega
    rw [e]
    exact hk_nw)) (fun r h5 _ _ z => ?_)
  obtain ⟨rfl, i5, q5, z5⟩ := z
  have n5 : h5.1 = b + 9 := i5.1
  have o5 : OS h3 h5 (fun x => x ≤ b + 7) := (os_nw.tr i5.os).wk (fun x q => ⟨by show x ≤ h3.1; omega, by show x < b + 8; omega⟩)
  have k5 : hk h5 b = (0, 2) := (o5 b (by show b ≤ b + 7; omega)).1.trans k3
  refine aw_putrF (pc := 23) dX2_init_23 fl_X2_21 (by decide) rfl ⟨rfl, rfl, rfl⟩ k5 ?_
  generalize e6 : ur h5 b ((1 : Nat) : Int) (some (b + 7 + 1)) = h6
  have n6 : h6.1 = b + 9 := by rw [← e6]; exact n5
  have o6 : OS h5 h6 (fun x => x ≠ b) := by rw [← e6]; exact os_ur
  have k6 : hk h6 b = (0, 2) := by rw [← e6]; exact k5
  have r6a : hr h6 b 0 = some (b + 1) := by rw [← e6, hr_ur, if_neg (by omega), (o5 b (by show b ≤ b + 7; omega)).2.1]; exact r3
  have r6b : hr h6 b 1 = some (b + 8) := by rw [← e6]; exact if_pos ⟨rfl, rfl⟩
  -- the tally
  refine aw_aload_n (pc := 26) dX2_init_26 rfl ?_
  refine aw_new (pc := 27) (ci := 3) dX2_init_27 (by decide) kl_X2_25 it_X3 ii_X3 (by decide) (by decide) ?_
  rw [n6]
  refine aw_dup (pc := 30) dX2_init_30 ?_
  refine aw_invI (pc := 31) (md' := m_X3_init) (n := 0) (j := b + 9) (as := []) dX2_init_31 mo_X3_init rfl im_X3_init rfl (Or.inr ⟨_, nl_X2_27⟩) rfl (by omega) (Nat.le_of_ble_eq_true rfl) (by decide) (by decide) ?_
  refine am_mono (i_X3 (j := b + 10) (by omega) (by show h6.1 + 1 = b + 10; omega) (by omega) (by
    have e : b + 10 = h6.1 + 1 := by omega
    rw [e]
    exact hk_nw)) (fun r h7 _ _ z => ?_)
  obtain ⟨rfl, i7, q7, z7⟩ := z
  have n7 : h7.1 = b + 10 := i7.1
  have o7 : OS h6 h7 (fun x => x ≤ b + 9) := (os_nw.tr i7.os).wk (fun x q => ⟨by show x ≤ h6.1; omega, by show x < b + 10; omega⟩)
  have k7 : hk h7 b = (0, 2) := (o7 b (by show b ≤ b + 9; omega)).1.trans k6
  refine aw_putrF (pc := 34) dX2_init_34 fl_X2_28 (by decide) rfl ⟨rfl, rfl, rfl⟩ k7 ?_
  generalize e8 : ur h7 b ((2 : Nat) : Int) (some (b + 9 + 1)) = h8
  have n8 : h8.1 = b + 10 := by rw [← e8]; exact n7
  have o8 : OS h7 h8 (fun x => x ≠ b) := by rw [← e8]; exact os_ur
  have k8 : hk h8 b = (0, 2) := by rw [← e8]; exact k7
  have r8a : hr h8 b 0 = some (b + 1) := by rw [← e8, hr_ur, if_neg (by omega), (o7 b (by show b ≤ b + 9; omega)).2.1]; exact r6a
  have r8b : hr h8 b 1 = some (b + 8) := by rw [← e8, hr_ur, if_neg (by omega), (o7 b (by show b ≤ b + 9; omega)).2.1]; exact r6b
  have r8c : hr h8 b 2 = some (b + 10) := by rw [← e8]; exact if_pos ⟨rfl, rfl⟩
  -- the settings
  refine aw_aload_n (pc := 37) dX2_init_37 rfl ?_
  refine aw_iconst (pc := 38) dX2_init_38 ?_
  refine aw_newarr_int (pc := 39) (n := 2) dX2_init_39 rfl ac_int rfl (by decide) (by decide) (by decide) ?_
  refine aw_putrF (pc := 41) dX2_init_41 fl_X2_32 (by decide) rfl ⟨rfl, rfl, rfl⟩ (hkW k8 (by omega)) ?_
  generalize e9 : ur (nw h8 (1, 2)) b ((3 : Nat) : Int) (some (h8.1 + 1)) = h9
  have f9 : fld h8 b 3 (1, 2) = h9 := e9
  have n9 : h9.1 = b + 11 := by rw [← e9]; show h8.1 + 1 = b + 11; omega
  have o9 : OS h8 h9 (fun x => x ≤ b + 10 ∧ x ≠ b) := by
    rw [← f9]
    exact os_fld.wk (fun x q => ⟨by show x ≤ h8.1; omega, q.2⟩)
  have k9 : hk h9 b = (0, 2) := by rw [← f9]; exact hkF k8 (by omega)
  have r9a : hr h9 b 0 = some (b + 1) := by rw [← f9, hrF_ne (by omega) (by omega)]; exact r8a
  have r9b : hr h9 b 1 = some (b + 8) := by rw [← f9, hrF_ne (by omega) (by omega)]; exact r8b
  have r9c : hr h9 b 2 = some (b + 10) := by rw [← f9, hrF_ne (by omega) (by omega)]; exact r8c
  have r9d : hr h9 b 3 = some (b + 11) := by rw [← f9, hrF_eq, n8]
  have k9s : hk h9 (b + 11) = (1, 2) := by rw [← f9]; exact hkF_eq (by omega)
  have v9s : ∀ k, hi h9 (b + 11) k = 0 := fun k => by rw [← f9]; exact hiF_eq (by omega)
  -- numbers
  refine aw_aload_n (pc := 44) dX2_init_44 rfl ?_
  refine aw_iconst (pc := 45) dX2_init_45 ?_
  refine ax_puti (pc := 46) dX2_init_46 fl_X2_36 (by decide) rfl rfl rfl k9 ?_
  refine aw_aload_n (pc := 49) dX2_init_49 rfl ?_
  refine aw_iconst (pc := 50) dX2_init_50 ?_
  refine ax_puti (pc := 51) dX2_init_51 fl_X2_40 (by decide) rfl rfl rfl (hkU k9) ?_
  refine aw_aload_n (pc := 54) dX2_init_54 rfl ?_
  refine aw_iconst (pc := 55) dX2_init_55 ?_
  refine ax_puti (pc := 56) dX2_init_56 fl_X2_43 (by decide) rfl rfl rfl (hkU (hkU k9)) ?_
  refine aw_aload_n (pc := 59) dX2_init_59 rfl ?_
  refine aw_getr (pc := 60) (r := some (b + 11)) dX2_init_60 fl_X2_32 (by decide) rfl (hkU (hkU (hkU k9))) (hrU (hrU (hrU r9d))) ?_
  refine aw_iconst (pc := 63) dX2_init_63 ?_
  refine aw_iconst (pc := 64) dX2_init_64 ?_
  refine ax_iastore (pc := 65) (n := 2) dX2_init_65 (hkU (hkU (hkU k9s))) (by decide) ?_
  refine aw_return (pc := 66) dX2_init_66 rfl ?_ (by decide) (by decide)
  generalize eA : up (up (up (up h9 b ((4 : Nat) : Int) 1) b ((5 : Nat) : Int) 0) b ((6 : Nat) : Int) 0) (b + 11) 0 1 = hA
  have nA : hA.1 = b + 11 := by rw [← eA]; exact n9
  have oA : OS h9 hA (fun x => x ≠ b ∧ x ≠ b + 11) := by
    rw [← eA]
    exact (((os_up.tr os_up).tr os_up).tr os_up).wk (fun x q => ⟨⟨⟨q.1, q.1⟩, q.1⟩, q.2⟩)
  have kA : hk hA = hk h9 := by rw [← eA]; rfl
  have rA : hr hA = hr h9 := by rw [← eA]; rfl
  have o8A : OS h8 hA (fun x => x ≤ b + 10 ∧ x ≠ b) := (o9.tr oA).wk (fun x q => ⟨q, q.2, by show x ≠ b + 11; have := q.1; omega⟩)
  have o6A : OS h6 hA (fun x => x ≤ b + 9 ∧ x ≠ b) := (o7.tr (o8.tr o8A)).wk (fun x q => ⟨q.1, q.2, by show x ≤ b + 10 ∧ x ≠ b; exact ⟨by have := q.1; omega, q.2⟩⟩)
  have o3A : OS h3 hA (fun x => x ≤ b + 7 ∧ x ≠ b) := (o5.tr (o6.tr o6A)).wk (fun x q => ⟨q.1, q.2, by show x ≤ b + 9 ∧ x ≠ b; exact ⟨by have := q.1; omega, q.2⟩⟩)
  have o2A : OS h2 hA (fun x => x ≤ b + 7 ∧ x ≠ b) := (o3.tr o3A).wk (fun x q => ⟨q.2, q⟩)
  have oHA : OS h hA (fun x => x < b) := (o2.tr o2A).wk (fun x q => ⟨by show x ≤ b; exact Nat.le_of_lt q, by show x ≤ b + 7 ∧ x ≠ b; have q' : x < b := q; omega⟩)
  have o5A : OS h5 hA (fun x => x ≤ b + 9 ∧ x ≠ b) := (o6.tr o6A).wk (fun x q => ⟨q.2, q⟩)
  have o7A : OS h7 hA (fun x => x ≤ b + 10 ∧ x ≠ b) := (o8.tr o8A).wk (fun x q => ⟨q.2, q⟩)
  refine ⟨rfl, ⟨nA, fun a ha => ?_, fun a ha => (oHA a ha).2⟩, ⟨by rw [kA]; exact k9, by rw [rA]; exact r9a, ?_, by rw [rA]; exact r9b, ?_, by rw [rA]; exact r9c, ?_, by rw [rA]; exact r9d, by rw [kA]; exact k9s⟩, ES00 ?_ ?_ (fun k k0 k8 => ?_) ?_ ?_ ?_⟩
  · by_cases q : a = b
    · rw [q, kA, k9, hx]
    · exact (oHA a (by show a < b; omega)).1
  · exact q2.os o2A (fun x q1 q2 => ⟨by omega, by omega⟩)
  · exact q5.os o5A (fun x q1 q2 => ⟨by omega, by omega⟩)
  · exact q7.os o7A ⟨by omega, by omega⟩
  · rw [(o2A (b + 1) ⟨by omega, by omega⟩).2.2]; exact z2
  · rw [(o5A (b + 8) ⟨by omega, by omega⟩).2.2]; exact z5
  · rw [(o7A (b + 10) ⟨by omega, by omega⟩).2.2]
    rcases (show k = 0 ∨ k = 1 ∨ k = 2 ∨ k = 3 ∨ k = 4 ∨ k = 5 ∨ k = 6 ∨ k = 7 by omega) with q | q | q | q | q | q | q | q
    · rw [q]; exact z7.1
    · rw [q]; exact z7.2.1
    · rw [q]; exact z7.2.2.1
    · rw [q]; exact z7.2.2.2.1
    · rw [q]; exact z7.2.2.2.2.1
    · rw [q]; exact z7.2.2.2.2.2.1
    · rw [q]; exact z7.2.2.2.2.2.2.1
    · rw [q]; exact z7.2.2.2.2.2.2.2
  · rw [← eA, hi_up, if_pos ⟨rfl, rfl⟩]
  · rw [← eA, hi_up, if_neg (by omega), hi_up, if_neg (by omega), hi_up, if_neg (by omega), hi_up, if_neg (by omega)]
    exact v9s 1
  · rw [← eA, hi_up, if_neg (by omega), hi_up, if_neg (by omega), hi_up, if_neg (by omega), hi_up, if_pos ⟨rfl, rfl⟩]
end INIT2
