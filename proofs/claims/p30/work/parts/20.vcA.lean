set_option maxRecDepth 100000 in
set_option maxHeartbeats 4000000 in
theorem vc_X1_copyFrom {d : Nat} {Q : Option Int → AH → Prop} {h : AH} {p : Nat} {q1 : Nat} (hL : QP h p) (hL1 : QP h q1) (hdj : p + 7 ≤ q1 ∨ q1 + 7 ≤ p)
  (g :
    AW m_X1_copyFrom d none Q 15 [some (.inr (some p)), some (.inr (some q1)), some (.inl 0)] [] (up h p 6 (hi h q1 6)) (0, 0)) :
  AM d m_X1_copyFrom [(.inr (some p)), (.inr (some q1))] h Q := by
  refine am_body mo_X1_copyFrom (Nat.le_of_ble_eq_true rfl) ?_
  show AW m_X1_copyFrom d none Q 0 [some (.inr (some p)), some (.inr (some q1)), none] [] h (0, 0)
  obtain ⟨kp, rp_names, kp_names, rp_asksToGo, kp_asksToGo, rp_tellings, kp_tellings, rp_slots, kp_slots, rp_awake, kp_awake, rp_answering, kp_answering⟩ := id hL
  obtain ⟨kq1, rq1_names, kq1_names, rq1_asksToGo, kq1_asksToGo, rq1_tellings, kq1_tellings, rq1_slots, kq1_slots, rq1_awake, kq1_awake, rq1_answering, kq1_answering⟩ := id hL1
  refine aw_aload_n (pc := 0) dX1_copyFrom_0 rfl ?_
  refine aw_ifnonnull (pc := 1) (tgt := 5) dX1_copyFrom_1 (by decide) (fun _ => ?_) (fun q => by cases q)
  refine aw_aload_n (pc := 5) dX1_copyFrom_5 rfl ?_
  refine aw_aload_n (pc := 6) dX1_copyFrom_6 rfl ?_
  refine ax_geti (pc := 7) (v := hi h q1 6) dX1_copyFrom_7 fl_X1_31 (by decide) rfl kq1 rfl ?_
  refine ax_puti (pc := 10) dX1_copyFrom_10 fl_X1_31 (by decide) rfl rfl rfl kp ?_
  refine aw_iconst (pc := 13) dX1_copyFrom_13 ?_
  refine ax_istore_n (pc := 14) (ls' := [some (.inr (some p)), some (.inr (some q1)), some (.inl 0)]) dX1_copyFrom_14 (Nat.le_of_ble_eq_true rfl) rfl ?_
  exact g
set_option maxRecDepth 100000 in
set_option maxHeartbeats 4000000 in
theorem vc_X1_copyFrom_15 {d : Nat} {Q : Option Int → AH → Prop} {h : AH} {p : Nat} {q1 : Nat} {x2 : Int} (hL : QP h p) (hL1 : QP h q1) (hdj : p + 7 ≤ q1 ∨ q1 + 7 ≤ p)
  (g :
    ((hi h p 6 ≤ x2 → (
      Q none h
    )) ∧
    (¬ (hi h p 6 ≤ x2) → (
      ((20 ≤ x2 → (
        Q none h
      )) ∧
      (¬ (20 ≤ x2) → (
        (0 ≤ x2 ∧ x2 < 20) ∧
        (hi h (q1 + 5) x2 = 0 ∨ hi h (q1 + 5) x2 = 1) ∧
        (rg (x2 + 1)) ∧
        AW m_X1_copyFrom d none Q 15 [some (.inr (some p)), some (.inr (some q1)), some (.inl (x2 + 1))] [] (up (up (up (up h (p + 1) x2 (hi h (q1 + 1) x2)) (p + 2) x2 (hi h (q1 + 2) x2)) (p + 3) x2 (hi h (q1 + 3) x2)) (p + 5) x2 (hi h (q1 + 5) x2)) (0, 0)
      )))
    )))) :
  AW m_X1_copyFrom d none Q 15 [some (.inr (some p)), some (.inr (some q1)), some (.inl x2)] [] h (0, 0) := by
  obtain ⟨kp, rp_names, kp_names, rp_asksToGo, kp_asksToGo, rp_tellings, kp_tellings, rp_slots, kp_slots, rp_awake, kp_awake, rp_answering, kp_answering⟩ := id hL
  obtain ⟨kq1, rq1_names, kq1_names, rq1_asksToGo, kq1_asksToGo, rq1_tellings, kq1_tellings, rq1_slots, kq1_slots, rq1_awake, kq1_awake, rq1_answering, kq1_answering⟩ := id hL1
  refine aw_iload_n (pc := 15) dX1_copyFrom_15 rfl ?_
  refine aw_aload_n (pc := 16) dX1_copyFrom_16 rfl ?_
  refine ax_geti (pc := 17) (v := hi h p 6) dX1_copyFrom_17 fl_X1_31 (by decide) rfl kp rfl ?_
  refine aw_icmp_ge (pc := 20) (tgt := 83) dX1_copyFrom_20 (by decide) (fun c1 => ?_) (fun c1 => ?_)
  · replace g := g.1 c1
    exact aw_return (pc := 83) dX1_copyFrom_83 rfl g (by decide) (by decide)
  · replace g := g.2 c1
    refine aw_iload_n (pc := 23) dX1_copyFrom_23 rfl ?_
    refine aw_bipush (pc := 24) dX1_copyFrom_24 ?_
    refine aw_icmp_ge (pc := 26) (tgt := 83) dX1_copyFrom_26 (by decide) (fun c2 => ?_) (fun c2 => ?_)
    · replace g := g.1 c2
      exact aw_return (pc := 83) dX1_copyFrom_83 rfl g (by decide) (by decide)
    · replace g := g.2 c2
      refine aw_aload_n (pc := 29) dX1_copyFrom_29 rfl ?_
      refine aw_getr (pc := 30) (r := some (p + 1)) dX1_copyFrom_30 fl_X1_9 (by decide) rfl kp rp_names ?_
      refine aw_iload_n (pc := 33) dX1_copyFrom_33 rfl ?_
      refine aw_aload_n (pc := 34) dX1_copyFrom_34 rfl ?_
      refine aw_getr (pc := 35) (r := some (q1 + 1)) dX1_copyFrom_35 fl_X1_9 (by decide) rfl kq1 rq1_names ?_
      refine aw_iload_n (pc := 38) dX1_copyFrom_38 rfl ?_
      obtain ⟨s3, g⟩ := g
      refine ax_iaload (pc := 39) (n := 20) (v := hi h (q1 + 1) x2) dX1_copyFrom_39 kq1_names s3 rfl ?_
      refine ax_iastore (pc := 40) (n := 20) dX1_copyFrom_40 kp_names s3 ?_
      refine aw_aload_n (pc := 41) dX1_copyFrom_41 rfl ?_
      refine aw_getr (pc := 42) (r := some (p + 2)) dX1_copyFrom_42 fl_X1_15 (by decide) rfl (hkU kp) (hrU rp_asksToGo) ?_
      refine aw_iload_n (pc := 45) dX1_copyFrom_45 rfl ?_
      refine aw_aload_n (pc := 46) dX1_copyFrom_46 rfl ?_
      refine aw_getr (pc := 47) (r := some (q1 + 2)) dX1_copyFrom_47 fl_X1_15 (by decide) rfl (hkU kq1) (hrU rq1_asksToGo) ?_
      refine aw_iload_n (pc := 50) dX1_copyFrom_50 rfl ?_
      refine ax_iaload (pc := 51) (n := 20) (v := hi h (q1 + 2) x2) dX1_copyFrom_51 (hkU kq1_asksToGo) s3 (hiN (Or.inl (by omega)) rfl) ?_
      refine ax_iastore (pc := 52) (n := 20) dX1_copyFrom_52 (hkU kp_asksToGo) s3 ?_
      refine aw_aload_n (pc := 53) dX1_copyFrom_53 rfl ?_
      refine aw_getr (pc := 54) (r := some (p + 3)) dX1_copyFrom_54 fl_X1_18 (by decide) rfl (hkU (hkU kp)) (hrU (hrU rp_tellings)) ?_
      refine aw_iload_n (pc := 57) dX1_copyFrom_57 rfl ?_
      refine aw_aload_n (pc := 58) dX1_copyFrom_58 rfl ?_
      refine aw_getr (pc := 59) (r := some (q1 + 3)) dX1_copyFrom_59 fl_X1_18 (by decide) rfl (hkU (hkU kq1)) (hrU (hrU rq1_tellings)) ?_
      refine aw_iload_n (pc := 62) dX1_copyFrom_62 rfl ?_
      refine ax_iaload (pc := 63) (n := 20) (v := hi h (q1 + 3) x2) dX1_copyFrom_63 (hkU (hkU kq1_tellings)) s3 (hiN (Or.inl (by omega)) (hiN (Or.inl (by omega)) rfl)) ?_
      refine ax_iastore (pc := 64) (n := 20) dX1_copyFrom_64 (hkU (hkU kp_tellings)) s3 ?_
      refine aw_aload_n (pc := 65) dX1_copyFrom_65 rfl ?_
      refine aw_getr (pc := 66) (r := some (p + 5)) dX1_copyFrom_66 fl_X1_24 (by decide) rfl (hkU (hkU (hkU kp))) (hrU (hrU (hrU rp_awake))) ?_
      refine aw_iload_n (pc := 69) dX1_copyFrom_69 rfl ?_
      refine aw_aload_n (pc := 70) dX1_copyFrom_70 rfl ?_
      refine aw_getr (pc := 71) (r := some (q1 + 5)) dX1_copyFrom_71 fl_X1_24 (by decide) rfl (hkU (hkU (hkU kq1))) (hrU (hrU (hrU rq1_awake))) ?_
      refine aw_iload_n (pc := 74) dX1_copyFrom_74 rfl ?_
      refine ax_baload (pc := 75) (n := 20) (v := hi h (q1 + 5) x2) dX1_copyFrom_75 (hkU (hkU (hkU kq1_awake))) s3 (hiN (Or.inl (by omega)) (hiN (Or.inl (by omega)) (hiN (Or.inl (by omega)) rfl))) ?_
      obtain ⟨s4, g⟩ := g
      refine ax_bastore (pc := 76) (n := 20) dX1_copyFrom_76 (hkU (hkU (hkU kp_awake))) s3 s4 ?_
      obtain ⟨s5, g⟩ := g
      refine ax_iinc (pc := 77) (v' := x2 + 1) (ls' := [some (.inr (some p)), some (.inr (some q1)), some (.inl (x2 + 1))]) dX1_copyFrom_77 rfl s5 rfl rfl ?_
      refine aw_goto (pc := 80) (tgt := 15) dX1_copyFrom_80 (by decide) ?_
      exact g
set_option maxRecDepth 100000 in
set_option maxHeartbeats 4000000 in
theorem vc_X1_cards {d : Nat} {Q : Option Int → AH → Prop} {h : AH} {p : Nat} (hL : QP h p)
  (g :
    Q (some (hi h p 6)) h) :
  AM d m_X1_cards [(.inr (some p))] h Q := by
  refine am_body mo_X1_cards (Nat.le_of_ble_eq_true rfl) ?_
  show AW m_X1_cards d none Q 0 [some (.inr (some p))] [] h (0, 0)
  obtain ⟨kp, rp_names, kp_names, rp_asksToGo, kp_asksToGo, rp_tellings, kp_tellings, rp_slots, kp_slots, rp_awake, kp_awake, rp_answering, kp_answering⟩ := id hL
  refine aw_aload_n (pc := 0) dX1_cards_0 rfl ?_
  refine ax_geti (pc := 1) (v := hi h p 6) dX1_cards_1 fl_X1_31 (by decide) rfl kp rfl ?_
  exact ax_ireturn (pc := 4) dX1_cards_4 rfl g (by decide) (by decide)
set_option maxRecDepth 100000 in
set_option maxHeartbeats 4000000 in
theorem vc_X1_isCard {d : Nat} {Q : Option Int → AH → Prop} {h : AH} {p : Nat} {x1 : Int} (hL : QP h p)
  (g :
    ((x1 < 0 → (
      Q (some 0) h
    )) ∧
    (¬ (x1 < 0) → (
      ((hi h p 6 ≤ x1 → (
        Q (some 0) h
      )) ∧
      (¬ (hi h p 6 ≤ x1) → (
        ((20 ≤ x1 → (
          Q (some 0) h
        )) ∧
        (¬ (20 ≤ x1) → (
          Q (some 1) h
        )))
      )))
    )))) :
  AM d m_X1_isCard [(.inr (some p)), (.inl x1)] h Q := by
  refine am_body mo_X1_isCard (Nat.le_of_ble_eq_true rfl) ?_
  show AW m_X1_isCard d none Q 0 [some (.inr (some p)), some (.inl x1)] [] h (0, 0)
  obtain ⟨kp, rp_names, kp_names, rp_asksToGo, kp_asksToGo, rp_tellings, kp_tellings, rp_slots, kp_slots, rp_awake, kp_awake, rp_answering, kp_answering⟩ := id hL
  refine aw_iload_n (pc := 0) dX1_isCard_0 rfl ?_
  refine aw_if_lt (pc := 1) (tgt := 22) dX1_isCard_1 (by decide) (fun c1 => ?_) (fun c1 => ?_)
  · replace g := g.1 c1
    refine aw_iconst (pc := 22) dX1_isCard_22 ?_
    exact aw_ireturn (pc := 23) dX1_isCard_23 (by simp [okr]) g (by decide) (by decide)
  · replace g := g.2 c1
    refine aw_iload_n (pc := 4) dX1_isCard_4 rfl ?_
    refine aw_aload_n (pc := 5) dX1_isCard_5 rfl ?_
    refine ax_geti (pc := 6) (v := hi h p 6) dX1_isCard_6 fl_X1_31 (by decide) rfl kp rfl ?_
    refine aw_icmp_ge (pc := 9) (tgt := 22) dX1_isCard_9 (by decide) (fun c2 => ?_) (fun c2 => ?_)
    · replace g := g.1 c2
      refine aw_iconst (pc := 22) dX1_isCard_22 ?_
      exact aw_ireturn (pc := 23) dX1_isCard_23 (by simp [okr]) g (by decide) (by decide)
    · replace g := g.2 c2
      refine aw_iload_n (pc := 12) dX1_isCard_12 rfl ?_
      refine aw_bipush (pc := 13) dX1_isCard_13 ?_
      refine aw_icmp_ge (pc := 15) (tgt := 22) dX1_isCard_15 (by decide) (fun c3 => ?_) (fun c3 => ?_)
      · replace g := g.1 c3
        refine aw_iconst (pc := 22) dX1_isCard_22 ?_
        exact aw_ireturn (pc := 23) dX1_isCard_23 (by simp [okr]) g (by decide) (by decide)
      · replace g := g.2 c3
        refine aw_iconst (pc := 18) dX1_isCard_18 ?_
        refine aw_goto (pc := 19) (tgt := 23) dX1_isCard_19 (by decide) ?_
        exact aw_ireturn (pc := 23) dX1_isCard_23 (by simp [okr]) g (by decide) (by decide)
set_option maxRecDepth 100000 in
set_option maxHeartbeats 4000000 in
theorem vc_X1_placeOf {d : Nat} {Q : Option Int → AH → Prop} {h : AH} {p : Nat} {x1 : Int} (hL : QP h p)
  (g :
    AW m_X1_placeOf d none Q 2 [some (.inr (some p)), some (.inl x1), some (.inl 0)] [] h (0, 0)) :
  AM d m_X1_placeOf [(.inr (some p)), (.inl x1)] h Q := by
  refine am_body mo_X1_placeOf (Nat.le_of_ble_eq_true rfl) ?_
  show AW m_X1_placeOf d none Q 0 [some (.inr (some p)), some (.inl x1), none] [] h (0, 0)
  obtain ⟨kp, rp_names, kp_names, rp_asksToGo, kp_asksToGo, rp_tellings, kp_tellings, rp_slots, kp_slots, rp_awake, kp_awake, rp_answering, kp_answering⟩ := id hL
  refine aw_iconst (pc := 0) dX1_placeOf_0 ?_
  refine ax_istore_n (pc := 1) (ls' := [some (.inr (some p)), some (.inl x1), some (.inl 0)]) dX1_placeOf_1 (Nat.le_of_ble_eq_true rfl) rfl ?_
  exact g
set_option maxRecDepth 100000 in
set_option maxHeartbeats 4000000 in
theorem vc_X1_placeOf_2 {d : Nat} {Q : Option Int → AH → Prop} {h : AH} {p : Nat} {x1 x2 : Int} (hL : QP h p)
  (g :
    ((hi h p 6 ≤ x2 → (
      Q (some (-1)) h
    )) ∧
    (¬ (hi h p 6 ≤ x2) → (
      ((20 ≤ x2 → (
        Q (some (-1)) h
      )) ∧
      (¬ (20 ≤ x2) → (
        (0 ≤ x2 ∧ x2 < 20) ∧
        ((¬ hi h (p + 1) x2 = x1 → (
          (rg (x2 + 1)) ∧
          AW m_X1_placeOf d none Q 2 [some (.inr (some p)), some (.inl x1), some (.inl (x2 + 1))] [] h (0, 0)
        )) ∧
        (¬ (¬ hi h (p + 1) x2 = x1) → (
          Q (some x2) h
        )))
      )))
    )))) :
  AW m_X1_placeOf d none Q 2 [some (.inr (some p)), some (.inl x1), some (.inl x2)] [] h (0, 0) := by
  obtain ⟨kp, rp_names, kp_names, rp_asksToGo, kp_asksToGo, rp_tellings, kp_tellings, rp_slots, kp_slots, rp_awake, kp_awake, rp_answering, kp_answering⟩ := id hL
  refine aw_iload_n (pc := 2) dX1_placeOf_2 rfl ?_
  refine aw_aload_n (pc := 3) dX1_placeOf_3 rfl ?_
  refine ax_geti (pc := 4) (v := hi h p 6) dX1_placeOf_4 fl_X1_31 (by decide) rfl kp rfl ?_
  refine aw_icmp_ge (pc := 7) (tgt := 34) dX1_placeOf_7 (by decide) (fun c1 => ?_) (fun c1 => ?_)
  · replace g := g.1 c1
    refine aw_iconst (pc := 34) dX1_placeOf_34 ?_
    exact ax_ireturn (pc := 35) dX1_placeOf_35 rfl g (by decide) (by decide)
  · replace g := g.2 c1
    refine aw_iload_n (pc := 10) dX1_placeOf_10 rfl ?_
    refine aw_bipush (pc := 11) dX1_placeOf_11 ?_
    refine aw_icmp_ge (pc := 13) (tgt := 34) dX1_placeOf_13 (by decide) (fun c2 => ?_) (fun c2 => ?_)
    · replace g := g.1 c2
      refine aw_iconst (pc := 34) dX1_placeOf_34 ?_
      exact ax_ireturn (pc := 35) dX1_placeOf_35 rfl g (by decide) (by decide)
    · replace g := g.2 c2
      refine aw_aload_n (pc := 16) dX1_placeOf_16 rfl ?_
      refine aw_getr (pc := 17) (r := some (p + 1)) dX1_placeOf_17 fl_X1_9 (by decide) rfl kp rp_names ?_
      refine aw_iload_n (pc := 20) dX1_placeOf_20 rfl ?_
      obtain ⟨s3, g⟩ := g
      refine ax_iaload (pc := 21) (n := 20) (v := hi h (p + 1) x2) dX1_placeOf_21 kp_names s3 rfl ?_
      refine aw_iload_n (pc := 22) dX1_placeOf_22 rfl ?_
      refine aw_icmp_ne (pc := 23) (tgt := 28) dX1_placeOf_23 (by decide) (fun c4 => ?_) (fun c4 => ?_)
      · replace g := g.1 c4
        obtain ⟨s5, g⟩ := g
        refine ax_iinc (pc := 28) (v' := x2 + 1) (ls' := [some (.inr (some p)), some (.inl x1), some (.inl (x2 + 1))]) dX1_placeOf_28 rfl s5 rfl rfl ?_
        refine aw_goto (pc := 31) (tgt := 2) dX1_placeOf_31 (by decide) ?_
        exact g
      · replace g := g.2 c4
        refine aw_iload_n (pc := 26) dX1_placeOf_26 rfl ?_
        exact ax_ireturn (pc := 27) dX1_placeOf_27 rfl g (by decide) (by decide)
set_option maxRecDepth 100000 in
set_option maxHeartbeats 4000000 in
theorem vc_X1_nameAt {d : Nat} {Q : Option Int → AH → Prop} {h : AH} {p : Nat} {x1 : Int} (hd : 1 ≤ d) (hL : QP h p)
  (g :
    AM (d - 1) m_X1_isCard [(.inr (some p)), (.inl x1)] h (fun r h1 => 
      ∃ v2, r = some v2 ∧ SS h h1 ∧
      ((v2 = 0 → (
        Q (some (-5)) h1
      )) ∧
      (¬ (v2 = 0) → (
        (0 ≤ x1 ∧ x1 < 20) ∧
        Q (some (hi h1 (p + 1) x1)) h1
      ))))) :
  AM d m_X1_nameAt [(.inr (some p)), (.inl x1)] h Q := by
  refine am_body mo_X1_nameAt (Nat.le_of_ble_eq_true rfl) ?_
  show AW m_X1_nameAt d none Q 0 [some (.inr (some p)), some (.inl x1)] [] h (0, 0)
  obtain ⟨kp, rp_names, kp_names, rp_asksToGo, kp_asksToGo, rp_tellings, kp_tellings, rp_slots, kp_slots, rp_awake, kp_awake, rp_answering, kp_answering⟩ := id hL
  refine aw_aload_n (pc := 0) dX1_nameAt_0 rfl ?_
  refine aw_iload_n (pc := 1) dX1_nameAt_1 rfl ?_
  refine aw_invV (pc := 2) (md' := m_X1_isCard) (ci := 1) (as := [(.inl x1)]) dX1_nameAt_2 mo_X1_isCard im_X1_isCard se_X1_isCard ml_X1_35 rfl kp rfl hd (Nat.le_of_ble_eq_true rfl) (Nat.le_of_ble_eq_true rfl) (Nat.le_of_ble_eq_true rfl) ?_
  refine am_mono g (fun _ h1 _ ok_h1 g => ?_)
  obtain ⟨v2, rfl, ss_h1, g⟩ := g
  replace hL := QP.ss hL ss_h1
  obtain ⟨kp, rp_names, kp_names, rp_asksToGo, kp_asksToGo, rp_tellings, kp_tellings, rp_slots, kp_slots, rp_awake, kp_awake, rp_answering, kp_answering⟩ := id hL
  show AW m_X1_nameAt d none Q 5 [some (.inr (some p)), some (.inl x1)] [(.inl v2)] h1 (0, 0)
  refine aw_if_eq (pc := 5) (tgt := 17) dX1_nameAt_5 (by decide) (fun c3 => ?_) (fun c3 => ?_)
  · replace g := g.1 c3
    refine aw_bipush (pc := 17) dX1_nameAt_17 ?_
    exact ax_ireturn (pc := 19) dX1_nameAt_19 rfl g (by decide) (by decide)
  · replace g := g.2 c3
    refine aw_aload_n (pc := 8) dX1_nameAt_8 rfl ?_
    refine aw_getr (pc := 9) (r := some (p + 1)) dX1_nameAt_9 fl_X1_9 (by decide) rfl kp rp_names ?_
    refine aw_iload_n (pc := 12) dX1_nameAt_12 rfl ?_
    obtain ⟨s4, g⟩ := g
    refine ax_iaload (pc := 13) (n := 20) (v := hi h1 (p + 1) x1) dX1_nameAt_13 kp_names s4 rfl ?_
    refine aw_goto (pc := 14) (tgt := 19) dX1_nameAt_14 (by decide) ?_
    exact ax_ireturn (pc := 19) dX1_nameAt_19 rfl g (by decide) (by decide)
set_option maxRecDepth 100000 in
set_option maxHeartbeats 4000000 in
theorem vc_X1_isAwake {d : Nat} {Q : Option Int → AH → Prop} {h : AH} {p : Nat} {x1 : Int} (hd : 1 ≤ d) (hL : QP h p)
  (g :
    AM (d - 1) m_X1_isCard [(.inr (some p)), (.inl x1)] h (fun r h1 => 
      ∃ v2, r = some v2 ∧ SS h h1 ∧
      ((v2 = 0 → (
        Q (some 0) h1
      )) ∧
      (¬ (v2 = 0) → (
        (0 ≤ x1 ∧ x1 < 20) ∧
        ((hi h1 (p + 5) x1 = 0 → (
          Q (some 0) h1
        )) ∧
        (¬ (hi h1 (p + 5) x1 = 0) → (
          Q (some 1) h1
        )))
      ))))) :
  AM d m_X1_isAwake [(.inr (some p)), (.inl x1)] h Q := by
  refine am_body mo_X1_isAwake (Nat.le_of_ble_eq_true rfl) ?_
  show AW m_X1_isAwake d none Q 0 [some (.inr (some p)), some (.inl x1)] [] h (0, 0)
  obtain ⟨kp, rp_names, kp_names, rp_asksToGo, kp_asksToGo, rp_tellings, kp_tellings, rp_slots, kp_slots, rp_awake, kp_awake, rp_answering, kp_answering⟩ := id hL
  refine aw_aload_n (pc := 0) dX1_isAwake_0 rfl ?_
  refine aw_iload_n (pc := 1) dX1_isAwake_1 rfl ?_
  refine aw_invV (pc := 2) (md' := m_X1_isCard) (ci := 1) (as := [(.inl x1)]) dX1_isAwake_2 mo_X1_isCard im_X1_isCard se_X1_isCard ml_X1_35 rfl kp rfl hd (Nat.le_of_ble_eq_true rfl) (Nat.le_of_ble_eq_true rfl) (Nat.le_of_ble_eq_true rfl) ?_
  refine am_mono g (fun _ h1 _ ok_h1 g => ?_)
  obtain ⟨v2, rfl, ss_h1, g⟩ := g
  replace hL := QP.ss hL ss_h1
  obtain ⟨kp, rp_names, kp_names, rp_asksToGo, kp_asksToGo, rp_tellings, kp_tellings, rp_slots, kp_slots, rp_awake, kp_awake, rp_answering, kp_answering⟩ := id hL
  show AW m_X1_isAwake d none Q 5 [some (.inr (some p)), some (.inl x1)] [(.inl v2)] h1 (0, 0)
  refine aw_if_eq (pc := 5) (tgt := 21) dX1_isAwake_5 (by decide) (fun c3 => ?_) (fun c3 => ?_)
  · replace g := g.1 c3
    refine aw_iconst (pc := 21) dX1_isAwake_21 ?_
    exact aw_ireturn (pc := 22) dX1_isAwake_22 (by simp [okr]) g (by decide) (by decide)
  · replace g := g.2 c3
    refine aw_aload_n (pc := 8) dX1_isAwake_8 rfl ?_
    refine aw_getr (pc := 9) (r := some (p + 5)) dX1_isAwake_9 fl_X1_24 (by decide) rfl kp rp_awake ?_
    refine aw_iload_n (pc := 12) dX1_isAwake_12 rfl ?_
    obtain ⟨s4, g⟩ := g
    refine ax_baload (pc := 13) (n := 20) (v := hi h1 (p + 5) x1) dX1_isAwake_13 kp_awake s4 rfl ?_
    refine aw_if_eq (pc := 14) (tgt := 21) dX1_isAwake_14 (by decide) (fun c5 => ?_) (fun c5 => ?_)
    · replace g := g.1 c5
      refine aw_iconst (pc := 21) dX1_isAwake_21 ?_
      exact aw_ireturn (pc := 22) dX1_isAwake_22 (by simp [okr]) g (by decide) (by decide)
    · replace g := g.2 c5
      refine aw_iconst (pc := 17) dX1_isAwake_17 ?_
      refine aw_goto (pc := 18) (tgt := 22) dX1_isAwake_18 (by decide) ?_
      exact aw_ireturn (pc := 22) dX1_isAwake_22 (by simp [okr]) g (by decide) (by decide)
set_option maxRecDepth 100000 in
set_option maxHeartbeats 4000000 in
theorem vc_X1_asksToGo {d : Nat} {Q : Option Int → AH → Prop} {h : AH} {p : Nat} {x1 : Int} (hd : 1 ≤ d) (hL : QP h p)
  (g :
    AM (d - 1) m_X1_isCard [(.inr (some p)), (.inl x1)] h (fun r h1 => 
      ∃ v2, r = some v2 ∧ SS h h1 ∧
      ((v2 = 0 → (
        Q (some 0) h1
      )) ∧
      (¬ (v2 = 0) → (
        (0 ≤ x1 ∧ x1 < 20) ∧
        Q (some (hi h1 (p + 2) x1)) h1
      ))))) :
  AM d m_X1_asksToGo [(.inr (some p)), (.inl x1)] h Q := by
  refine am_body mo_X1_asksToGo (Nat.le_of_ble_eq_true rfl) ?_
  show AW m_X1_asksToGo d none Q 0 [some (.inr (some p)), some (.inl x1)] [] h (0, 0)
  obtain ⟨kp, rp_names, kp_names, rp_asksToGo, kp_asksToGo, rp_tellings, kp_tellings, rp_slots, kp_slots, rp_awake, kp_awake, rp_answering, kp_answering⟩ := id hL
  refine aw_aload_n (pc := 0) dX1_asksToGo_0 rfl ?_
  refine aw_iload_n (pc := 1) dX1_asksToGo_1 rfl ?_
  refine aw_invV (pc := 2) (md' := m_X1_isCard) (ci := 1) (as := [(.inl x1)]) dX1_asksToGo_2 mo_X1_isCard im_X1_isCard se_X1_isCard ml_X1_35 rfl kp rfl hd (Nat.le_of_ble_eq_true rfl) (Nat.le_of_ble_eq_true rfl) (Nat.le_of_ble_eq_true rfl) ?_
  refine am_mono g (fun _ h1 _ ok_h1 g => ?_)
  obtain ⟨v2, rfl, ss_h1, g⟩ := g
  replace hL := QP.ss hL ss_h1
  obtain ⟨kp, rp_names, kp_names, rp_asksToGo, kp_asksToGo, rp_tellings, kp_tellings, rp_slots, kp_slots, rp_awake, kp_awake, rp_answering, kp_answering⟩ := id hL
  show AW m_X1_asksToGo d none Q 5 [some (.inr (some p)), some (.inl x1)] [(.inl v2)] h1 (0, 0)
  refine aw_if_eq (pc := 5) (tgt := 17) dX1_asksToGo_5 (by decide) (fun c3 => ?_) (fun c3 => ?_)
  · replace g := g.1 c3
    refine aw_iconst (pc := 17) dX1_asksToGo_17 ?_
    exact ax_ireturn (pc := 18) dX1_asksToGo_18 rfl g (by decide) (by decide)
  · replace g := g.2 c3
    refine aw_aload_n (pc := 8) dX1_asksToGo_8 rfl ?_
    refine aw_getr (pc := 9) (r := some (p + 2)) dX1_asksToGo_9 fl_X1_15 (by decide) rfl kp rp_asksToGo ?_
    refine aw_iload_n (pc := 12) dX1_asksToGo_12 rfl ?_
    obtain ⟨s4, g⟩ := g
    refine ax_iaload (pc := 13) (n := 20) (v := hi h1 (p + 2) x1) dX1_asksToGo_13 kp_asksToGo s4 rfl ?_
    refine aw_goto (pc := 14) (tgt := 18) dX1_asksToGo_14 (by decide) ?_
    exact ax_ireturn (pc := 18) dX1_asksToGo_18 rfl g (by decide) (by decide)
set_option maxRecDepth 100000 in
set_option maxHeartbeats 4000000 in
theorem vc_X1_tellings {d : Nat} {Q : Option Int → AH → Prop} {h : AH} {p : Nat} {x1 : Int} (hd : 1 ≤ d) (hL : QP h p)
  (g :
    AM (d - 1) m_X1_isCard [(.inr (some p)), (.inl x1)] h (fun r h1 => 
      ∃ v2, r = some v2 ∧ SS h h1 ∧
      ((v2 = 0 → (
        Q (some 0) h1
      )) ∧
      (¬ (v2 = 0) → (
        (0 ≤ x1 ∧ x1 < 20) ∧
        Q (some (hi h1 (p + 3) x1)) h1
      ))))) :
  AM d m_X1_tellings [(.inr (some p)), (.inl x1)] h Q := by
  refine am_body mo_X1_tellings (Nat.le_of_ble_eq_true rfl) ?_
  show AW m_X1_tellings d none Q 0 [some (.inr (some p)), some (.inl x1)] [] h (0, 0)
  obtain ⟨kp, rp_names, kp_names, rp_asksToGo, kp_asksToGo, rp_tellings, kp_tellings, rp_slots, kp_slots, rp_awake, kp_awake, rp_answering, kp_answering⟩ := id hL
  refine aw_aload_n (pc := 0) dX1_tellings_0 rfl ?_
  refine aw_iload_n (pc := 1) dX1_tellings_1 rfl ?_
  refine aw_invV (pc := 2) (md' := m_X1_isCard) (ci := 1) (as := [(.inl x1)]) dX1_tellings_2 mo_X1_isCard im_X1_isCard se_X1_isCard ml_X1_35 rfl kp rfl hd (Nat.le_of_ble_eq_true rfl) (Nat.le_of_ble_eq_true rfl) (Nat.le_of_ble_eq_true rfl) ?_
  refine am_mono g (fun _ h1 _ ok_h1 g => ?_)
  obtain ⟨v2, rfl, ss_h1, g⟩ := g
  replace hL := QP.ss hL ss_h1
  obtain ⟨kp, rp_names, kp_names, rp_asksToGo, kp_asksToGo, rp_tellings, kp_tellings, rp_slots, kp_slots, rp_awake, kp_awake, rp_answering, kp_answering⟩ := id hL
  show AW m_X1_tellings d none Q 5 [some (.inr (some p)), some (.inl x1)] [(.inl v2)] h1 (0, 0)
  refine aw_if_eq (pc := 5) (tgt := 17) dX1_tellings_5 (by decide) (fun c3 => ?_) (fun c3 => ?_)
  · replace g := g.1 c3
    refine aw_iconst (pc := 17) dX1_tellings_17 ?_
    exact ax_ireturn (pc := 18) dX1_tellings_18 rfl g (by decide) (by decide)
  · replace g := g.2 c3
    refine aw_aload_n (pc := 8) dX1_tellings_8 rfl ?_
    refine aw_getr (pc := 9) (r := some (p + 3)) dX1_tellings_9 fl_X1_18 (by decide) rfl kp rp_tellings ?_
    refine aw_iload_n (pc := 12) dX1_tellings_12 rfl ?_
    obtain ⟨s4, g⟩ := g
    refine ax_iaload (pc := 13) (n := 20) (v := hi h1 (p + 3) x1) dX1_tellings_13 kp_tellings s4 rfl ?_
    refine aw_goto (pc := 14) (tgt := 18) dX1_tellings_14 (by decide) ?_
    exact ax_ireturn (pc := 18) dX1_tellings_18 rfl g (by decide) (by decide)
set_option maxRecDepth 100000 in
set_option maxHeartbeats 4000000 in
theorem vc_X1_sharedBits {d : Nat} {Q : Option Int → AH → Prop} {h : AH} {p : Nat} {x1 : Int} (hd : 1 ≤ d) (hL : QP h p)
  (g :
    AM (d - 1) m_X1_isCard [(.inr (some p)), (.inl x1)] h (fun r h1 => 
      ∃ v2, r = some v2 ∧ SS h h1 ∧
      ((¬ v2 = 0 → (
        AW m_X1_sharedBits d none Q 16 [some (.inr (some p)), some (.inl x1), some (.inl (-5)), some (.inl 0)] [] h1 (0, 0)
      )) ∧
      (¬ (¬ v2 = 0) → (
        Q (some (-5)) h1
      ))))) :
  AM d m_X1_sharedBits [(.inr (some p)), (.inl x1)] h Q := by
  refine am_body mo_X1_sharedBits (Nat.le_of_ble_eq_true rfl) ?_
  show AW m_X1_sharedBits d none Q 0 [some (.inr (some p)), some (.inl x1), none, none] [] h (0, 0)
  obtain ⟨kp, rp_names, kp_names, rp_asksToGo, kp_asksToGo, rp_tellings, kp_tellings, rp_slots, kp_slots, rp_awake, kp_awake, rp_answering, kp_answering⟩ := id hL
  refine aw_aload_n (pc := 0) dX1_sharedBits_0 rfl ?_
  refine aw_iload_n (pc := 1) dX1_sharedBits_1 rfl ?_
  refine aw_invV (pc := 2) (md' := m_X1_isCard) (ci := 1) (as := [(.inl x1)]) dX1_sharedBits_2 mo_X1_isCard im_X1_isCard se_X1_isCard ml_X1_35 rfl kp rfl hd (Nat.le_of_ble_eq_true rfl) (Nat.le_of_ble_eq_true rfl) (Nat.le_of_ble_eq_true rfl) ?_
  refine am_mono g (fun _ h1 _ ok_h1 g => ?_)
  obtain ⟨v2, rfl, ss_h1, g⟩ := g
  replace hL := QP.ss hL ss_h1
  obtain ⟨kp, rp_names, kp_names, rp_asksToGo, kp_asksToGo, rp_tellings, kp_tellings, rp_slots, kp_slots, rp_awake, kp_awake, rp_answering, kp_answering⟩ := id hL
  show AW m_X1_sharedBits d none Q 5 [some (.inr (some p)), some (.inl x1), none, none] [(.inl v2)] h1 (0, 0)
  refine aw_if_ne (pc := 5) (tgt := 11) dX1_sharedBits_5 (by decide) (fun c3 => ?_) (fun c3 => ?_)
  · replace g := g.1 c3
    refine aw_bipush (pc := 11) dX1_sharedBits_11 ?_
    refine ax_istore_n (pc := 13) (ls' := [some (.inr (some p)), some (.inl x1), some (.inl (-5)), none]) dX1_sharedBits_13 (Nat.le_of_ble_eq_true rfl) rfl ?_
    refine aw_iconst (pc := 14) dX1_sharedBits_14 ?_
    refine ax_istore_n (pc := 15) (ls' := [some (.inr (some p)), some (.inl x1), some (.inl (-5)), some (.inl 0)]) dX1_sharedBits_15 (Nat.le_of_ble_eq_true rfl) rfl ?_
    exact g
  · replace g := g.2 c3
    refine aw_bipush (pc := 8) dX1_sharedBits_8 ?_
    exact ax_ireturn (pc := 10) dX1_sharedBits_10 rfl g (by decide) (by decide)
set_option maxRecDepth 100000 in
set_option maxHeartbeats 4000000 in
theorem vc_X1_sharedBits_16 {d : Nat} {Q : Option Int → AH → Prop} {h : AH} {p : Nat} {x1 x2 x3 : Int} (hd : 1 ≤ d) (hL : QP h p)
  (g :
    ((hi h p 6 ≤ x3 → (
      Q (some x2) h
    )) ∧
    (¬ (hi h p 6 ≤ x3) → (
      ((20 ≤ x3 → (
        Q (some x2) h
      )) ∧
      (¬ (20 ≤ x3) → (
        ((x3 = x1 → (
          (rg (x3 + 1)) ∧
          AW m_X1_sharedBits d none Q 16 [some (.inr (some p)), some (.inl x1), some (.inl x2), some (.inl (x3 + 1))] [] h (0, 0)
        )) ∧
        (¬ (x3 = x1) → (
          (0 ≤ x3 ∧ x3 < 20) ∧
          (0 ≤ x1 ∧ x1 < 20) ∧
          AM (d - 1) m_X6_firstOne [(.inl (xr (hi h (p + 1) x3) (hi h (p + 1) x1)))] h (fun r h10 => 
            ∃ v11, r = some v11 ∧ SS h h10 ∧
            (rg (x3 + 1)) ∧
            AW m_X1_sharedBits d none Q 16 [some (.inr (some p)), some (.inl x1), some (.inl ((if x2 < v11 then v11 else x2))), some (.inl (x3 + 1))] [] h10 (0, 0))
        )))
      )))
    )))) :
  AW m_X1_sharedBits d none Q 16 [some (.inr (some p)), some (.inl x1), some (.inl x2), some (.inl x3)] [] h (0, 0) := by
  obtain ⟨kp, rp_names, kp_names, rp_asksToGo, kp_asksToGo, rp_tellings, kp_tellings, rp_slots, kp_slots, rp_awake, kp_awake, rp_answering, kp_answering⟩ := id hL
  refine aw_iload_n (pc := 16) dX1_sharedBits_16 rfl ?_
  refine aw_aload_n (pc := 17) dX1_sharedBits_17 rfl ?_
  refine ax_geti (pc := 18) (v := hi h p 6) dX1_sharedBits_18 fl_X1_31 (by decide) rfl kp rfl ?_
  refine aw_icmp_ge (pc := 21) (tgt := 62) dX1_sharedBits_21 (by decide) (fun c4 => ?_) (fun c4 => ?_)
  · replace g := g.1 c4
    refine aw_iload_n (pc := 62) dX1_sharedBits_62 rfl ?_
    exact ax_ireturn (pc := 63) dX1_sharedBits_63 rfl g (by decide) (by decide)
  · replace g := g.2 c4
    refine aw_iload_n (pc := 24) dX1_sharedBits_24 rfl ?_
    refine aw_bipush (pc := 25) dX1_sharedBits_25 ?_
    refine aw_icmp_ge (pc := 27) (tgt := 62) dX1_sharedBits_27 (by decide) (fun c5 => ?_) (fun c5 => ?_)
    · replace g := g.1 c5
      refine aw_iload_n (pc := 62) dX1_sharedBits_62 rfl ?_
      exact ax_ireturn (pc := 63) dX1_sharedBits_63 rfl g (by decide) (by decide)
    · replace g := g.2 c5
      refine aw_iload_n (pc := 30) dX1_sharedBits_30 rfl ?_
      refine aw_iload_n (pc := 31) dX1_sharedBits_31 rfl ?_
      refine aw_icmp_eq (pc := 32) (tgt := 56) dX1_sharedBits_32 (by decide) (fun c6 => ?_) (fun c6 => ?_)
      · replace g := g.1 c6
        obtain ⟨s7, g⟩ := g
        refine ax_iinc (pc := 56) (v' := x3 + 1) (ls' := [some (.inr (some p)), some (.inl x1), some (.inl x2), some (.inl (x3 + 1))]) dX1_sharedBits_56 rfl s7 rfl rfl ?_
        refine aw_goto (pc := 59) (tgt := 16) dX1_sharedBits_59 (by decide) ?_
        exact g
      · replace g := g.2 c6
        refine aw_iload_n (pc := 35) dX1_sharedBits_35 rfl ?_
        refine aw_aload_n (pc := 36) dX1_sharedBits_36 rfl ?_
        refine aw_getr (pc := 37) (r := some (p + 1)) dX1_sharedBits_37 fl_X1_9 (by decide) rfl kp rp_names ?_
        refine aw_iload_n (pc := 40) dX1_sharedBits_40 rfl ?_
        obtain ⟨s8, g⟩ := g
        refine ax_iaload (pc := 41) (n := 20) (v := hi h (p + 1) x3) dX1_sharedBits_41 kp_names s8 rfl ?_
        refine aw_aload_n (pc := 42) dX1_sharedBits_42 rfl ?_
        refine aw_getr (pc := 43) (r := some (p + 1)) dX1_sharedBits_43 fl_X1_9 (by decide) rfl kp rp_names ?_
        refine aw_iload_n (pc := 46) dX1_sharedBits_46 rfl ?_
        obtain ⟨s9, g⟩ := g
        refine ax_iaload (pc := 47) (n := 20) (v := hi h (p + 1) x1) dX1_sharedBits_47 kp_names s9 rfl ?_
        refine aw_ixor (pc := 48) dX1_sharedBits_48 ?_
        refine aw_invSN (pc := 49) (md' := m_X6_firstOne) (as := [(.inl (xr (hi h (p + 1) x3) (hi h (p + 1) x1)))]) dX1_sharedBits_49 mo_X6_firstOne sm_X6_firstOne nl_X1_39 rfl hd (Nat.le_of_ble_eq_true rfl) (Nat.le_of_ble_eq_true rfl) (Nat.le_of_ble_eq_true rfl) ?_
        refine am_mono g (fun _ h10 _ ok_h10 g => ?_)
        obtain ⟨v11, rfl, ss_h10, g⟩ := g
        replace hL := QP.ss hL ss_h10
        obtain ⟨kp, rp_names, kp_names, rp_asksToGo, kp_asksToGo, rp_tellings, kp_tellings, rp_slots, kp_slots, rp_awake, kp_awake, rp_answering, kp_answering⟩ := id hL
        show AW m_X1_sharedBits d none Q 52 [some (.inr (some p)), some (.inl x1), some (.inl x2), some (.inl x3)] [(.inl v11), (.inl x2)] h10 (0, 0)
        refine aw_max (pc := 52) dX1_sharedBits_52 ml_X1_43 sm_max ii_Math oc_max hd (Nat.le_of_ble_eq_true rfl) (Nat.le_of_ble_eq_true rfl) (Nat.le_of_ble_eq_true rfl) ?_
        refine ax_istore_n (pc := 55) (ls' := [some (.inr (some p)), some (.inl x1), some (.inl ((if x2 < v11 then v11 else x2))), some (.inl x3)]) dX1_sharedBits_55 (Nat.le_of_ble_eq_true rfl) rfl ?_
        obtain ⟨s12, g⟩ := g
        refine ax_iinc (pc := 56) (v' := x3 + 1) (ls' := [some (.inr (some p)), some (.inl x1), some (.inl ((if x2 < v11 then v11 else x2))), some (.inl (x3 + 1))]) dX1_sharedBits_56 rfl s12 rfl rfl ?_
        refine aw_goto (pc := 59) (tgt := 16) dX1_sharedBits_59 (by decide) ?_
        exact g
set_option maxRecDepth 100000 in
set_option maxHeartbeats 4000000 in
theorem vc_X1_awakeCards {d : Nat} {Q : Option Int → AH → Prop} {h : AH} {p : Nat} (hd : 1 ≤ d) (hL : QP h p)
  (g :
    AM (d - 1) m_X1_awakeWith [(.inr (some p)), (.inl 0), (.inl 0)] h (fun r h1 => 
      ∃ v2, r = some v2 ∧ SS h h1 ∧
      Q (some v2) h1)) :
  AM d m_X1_awakeCards [(.inr (some p))] h Q := by
  refine am_body mo_X1_awakeCards (Nat.le_of_ble_eq_true rfl) ?_
  show AW m_X1_awakeCards d none Q 0 [some (.inr (some p))] [] h (0, 0)
  obtain ⟨kp, rp_names, kp_names, rp_asksToGo, kp_asksToGo, rp_tellings, kp_tellings, rp_slots, kp_slots, rp_awake, kp_awake, rp_answering, kp_answering⟩ := id hL
  refine aw_aload_n (pc := 0) dX1_awakeCards_0 rfl ?_
  refine aw_iconst (pc := 1) dX1_awakeCards_1 ?_
  refine aw_iconst (pc := 2) dX1_awakeCards_2 ?_
  refine aw_invV (pc := 3) (md' := m_X1_awakeWith) (ci := 1) (as := [(.inl 0), (.inl 0)]) dX1_awakeCards_3 mo_X1_awakeWith im_X1_awakeWith se_X1_awakeWith ml_X1_49 rfl kp rfl hd (Nat.le_of_ble_eq_true rfl) (Nat.le_of_ble_eq_true rfl) (Nat.le_of_ble_eq_true rfl) ?_
  refine am_mono g (fun _ h1 _ ok_h1 g => ?_)
  obtain ⟨v2, rfl, ss_h1, g⟩ := g
  replace hL := QP.ss hL ss_h1
  obtain ⟨kp, rp_names, kp_names, rp_asksToGo, kp_asksToGo, rp_tellings, kp_tellings, rp_slots, kp_slots, rp_awake, kp_awake, rp_answering, kp_answering⟩ := id hL
  show AW m_X1_awakeCards d none Q 6 [some (.inr (some p))] [(.inl v2)] h1 (0, 0)
  exact ax_ireturn (pc := 6) dX1_awakeCards_6 rfl g (by decide) (by decide)
set_option maxRecDepth 100000 in
set_option maxHeartbeats 4000000 in
theorem vc_X1_awakeWith {d : Nat} {Q : Option Int → AH → Prop} {h : AH} {p : Nat} {x1 x2 : Int} (hd : 1 ≤ d) (hL : QP h p)
  (g :
    AW m_X1_awakeWith d none Q 5 [some (.inr (some p)), some (.inl x1), some (.inl x2), some (.inl 0), some (.inl 0)] [] h (0, 0)) :
  AM d m_X1_awakeWith [(.inr (some p)), (.inl x1), (.inl x2)] h Q := by
  refine am_body mo_X1_awakeWith (Nat.le_of_ble_eq_true rfl) ?_
  show AW m_X1_awakeWith d none Q 0 [some (.inr (some p)), some (.inl x1), some (.inl x2), none, none] [] h (0, 0)
  obtain ⟨kp, rp_names, kp_names, rp_asksToGo, kp_asksToGo, rp_tellings, kp_tellings, rp_slots, kp_slots, rp_awake, kp_awake, rp_answering, kp_answering⟩ := id hL
  refine aw_iconst (pc := 0) dX1_awakeWith_0 ?_
  refine ax_istore_n (pc := 1) (ls' := [some (.inr (some p)), some (.inl x1), some (.inl x2), some (.inl 0), none]) dX1_awakeWith_1 (Nat.le_of_ble_eq_true rfl) rfl ?_
  refine aw_iconst (pc := 2) dX1_awakeWith_2 ?_
  refine ax_istore (pc := 3) (ls' := [some (.inr (some p)), some (.inl x1), some (.inl x2), some (.inl 0), some (.inl 0)]) dX1_awakeWith_3 (Nat.le_of_ble_eq_true rfl) rfl ?_
  exact g
set_option maxRecDepth 100000 in
set_option maxHeartbeats 4000000 in
theorem vc_X1_awakeWith_5 {d : Nat} {Q : Option Int → AH → Prop} {h : AH} {p : Nat} {x1 x2 x3 x4 : Int} (hd : 1 ≤ d) (hL : QP h p)
  (g :
    ((hi h p 6 ≤ x4 → (
      Q (some x3) h
    )) ∧
    (¬ (hi h p 6 ≤ x4) → (
      ((20 ≤ x4 → (
        Q (some x3) h
      )) ∧
      (¬ (20 ≤ x4) → (
        (0 ≤ x4 ∧ x4 < 20) ∧
        ((hi h (p + 5) x4 = 0 → (
          (rg (x4 + 1)) ∧
          AW m_X1_awakeWith d none Q 5 [some (.inr (some p)), some (.inl x1), some (.inl x2), some (.inl x3), some (.inl (x4 + 1))] [] h (0, 0)
        )) ∧
        (¬ (hi h (p + 5) x4 = 0) → (
          AM (d - 1) m_X6_firstBits [(.inl (hi h (p + 1) x4)), (.inl x1)] h (fun r h6 => 
            ∃ v7, r = some v7 ∧ SS h h6 ∧
            ((¬ v7 = x2 → (
              (rg (x4 + 1)) ∧
              AW m_X1_awakeWith d none Q 5 [some (.inr (some p)), some (.inl x1), some (.inl x2), some (.inl x3), some (.inl (x4 + 1))] [] h6 (0, 0)
            )) ∧
            (¬ (¬ v7 = x2) → (
              (rg (x3 + 1)) ∧
              (rg (x4 + 1)) ∧
              AW m_X1_awakeWith d none Q 5 [some (.inr (some p)), some (.inl x1), some (.inl x2), some (.inl (x3 + 1)), some (.inl (x4 + 1))] [] h6 (0, 0)
            ))))
        )))
      )))
    )))) :
  AW m_X1_awakeWith d none Q 5 [some (.inr (some p)), some (.inl x1), some (.inl x2), some (.inl x3), some (.inl x4)] [] h (0, 0) := by
  obtain ⟨kp, rp_names, kp_names, rp_asksToGo, kp_asksToGo, rp_tellings, kp_tellings, rp_slots, kp_slots, rp_awake, kp_awake, rp_answering, kp_answering⟩ := id hL
  refine aw_iload (pc := 5) dX1_awakeWith_5 rfl ?_
  refine aw_aload_n (pc := 7) dX1_awakeWith_7 rfl ?_
  refine ax_geti (pc := 8) (v := hi h p 6) dX1_awakeWith_8 fl_X1_31 (by decide) rfl kp rfl ?_
  refine aw_icmp_ge (pc := 11) (tgt := 55) dX1_awakeWith_11 (by decide) (fun c1 => ?_) (fun c1 => ?_)
  · replace g := g.1 c1
    refine aw_iload_n (pc := 55) dX1_awakeWith_55 rfl ?_
    exact ax_ireturn (pc := 56) dX1_awakeWith_56 rfl g (by decide) (by decide)
  · replace g := g.2 c1
    refine aw_iload (pc := 14) dX1_awakeWith_14 rfl ?_
    refine aw_bipush (pc := 16) dX1_awakeWith_16 ?_
    refine aw_icmp_ge (pc := 18) (tgt := 55) dX1_awakeWith_18 (by decide) (fun c2 => ?_) (fun c2 => ?_)
    · replace g := g.1 c2
      refine aw_iload_n (pc := 55) dX1_awakeWith_55 rfl ?_
      exact ax_ireturn (pc := 56) dX1_awakeWith_56 rfl g (by decide) (by decide)
    · replace g := g.2 c2
      refine aw_aload_n (pc := 21) dX1_awakeWith_21 rfl ?_
      refine aw_getr (pc := 22) (r := some (p + 5)) dX1_awakeWith_22 fl_X1_24 (by decide) rfl kp rp_awake ?_
      refine aw_iload (pc := 25) dX1_awakeWith_25 rfl ?_
      obtain ⟨s3, g⟩ := g
      refine ax_baload (pc := 27) (n := 20) (v := hi h (p + 5) x4) dX1_awakeWith_27 kp_awake s3 rfl ?_
      refine aw_if_eq (pc := 28) (tgt := 49) dX1_awakeWith_28 (by decide) (fun c4 => ?_) (fun c4 => ?_)
      · replace g := g.1 c4
        obtain ⟨s5, g⟩ := g
        refine ax_iinc (pc := 49) (v' := x4 + 1) (ls' := [some (.inr (some p)), some (.inl x1), some (.inl x2), some (.inl x3), some (.inl (x4 + 1))]) dX1_awakeWith_49 rfl s5 rfl rfl ?_
        refine aw_goto (pc := 52) (tgt := 5) dX1_awakeWith_52 (by decide) ?_
        exact g
      · replace g := g.2 c4
        refine aw_aload_n (pc := 31) dX1_awakeWith_31 rfl ?_
        refine aw_getr (pc := 32) (r := some (p + 1)) dX1_awakeWith_32 fl_X1_9 (by decide) rfl kp rp_names ?_
        refine aw_iload (pc := 35) dX1_awakeWith_35 rfl ?_
        refine ax_iaload (pc := 37) (n := 20) (v := hi h (p + 1) x4) dX1_awakeWith_37 kp_names s3 rfl ?_
        refine aw_iload_n (pc := 38) dX1_awakeWith_38 rfl ?_
        refine aw_invSN (pc := 39) (md' := m_X6_firstBits) (as := [(.inl (hi h (p + 1) x4)), (.inl x1)]) dX1_awakeWith_39 mo_X6_firstBits sm_X6_firstBits nl_X1_52 rfl hd (Nat.le_of_ble_eq_true rfl) (Nat.le_of_ble_eq_true rfl) (Nat.le_of_ble_eq_true rfl) ?_
        refine am_mono g (fun _ h6 _ ok_h6 g => ?_)
        obtain ⟨v7, rfl, ss_h6, g⟩ := g
        replace hL := QP.ss hL ss_h6
        obtain ⟨kp, rp_names, kp_names, rp_asksToGo, kp_asksToGo, rp_tellings, kp_tellings, rp_slots, kp_slots, rp_awake, kp_awake, rp_answering, kp_answering⟩ := id hL
        show AW m_X1_awakeWith d none Q 42 [some (.inr (some p)), some (.inl x1), some (.inl x2), some (.inl x3), some (.inl x4)] [(.inl v7)] h6 (0, 0)
        refine aw_iload_n (pc := 42) dX1_awakeWith_42 rfl ?_
        refine aw_icmp_ne (pc := 43) (tgt := 49) dX1_awakeWith_43 (by decide) (fun c8 => ?_) (fun c8 => ?_)
        · replace g := g.1 c8
          obtain ⟨s9, g⟩ := g
          refine ax_iinc (pc := 49) (v' := x4 + 1) (ls' := [some (.inr (some p)), some (.inl x1), some (.inl x2), some (.inl x3), some (.inl (x4 + 1))]) dX1_awakeWith_49 rfl s9 rfl rfl ?_
          refine aw_goto (pc := 52) (tgt := 5) dX1_awakeWith_52 (by decide) ?_
          exact g
        · replace g := g.2 c8
          obtain ⟨s10, g⟩ := g
          refine ax_iinc (pc := 46) (v' := x3 + 1) (ls' := [some (.inr (some p)), some (.inl x1), some (.inl x2), some (.inl (x3 + 1)), some (.inl x4)]) dX1_awakeWith_46 rfl s10 rfl rfl ?_
          obtain ⟨s11, g⟩ := g
          refine ax_iinc (pc := 49) (v' := x4 + 1) (ls' := [some (.inr (some p)), some (.inl x1), some (.inl x2), some (.inl (x3 + 1)), some (.inl (x4 + 1))]) dX1_awakeWith_49 rfl s11 rfl rfl ?_
          refine aw_goto (pc := 52) (tgt := 5) dX1_awakeWith_52 (by decide) ?_
          exact g
set_option maxRecDepth 100000 in
set_option maxHeartbeats 4000000 in
theorem vc_X1_leavingCards {d : Nat} {Q : Option Int → AH → Prop} {h : AH} {p : Nat} (hL : QP h p)
  (g :
    AW m_X1_leavingCards d none Q 4 [some (.inr (some p)), some (.inl 0), some (.inl 0)] [] h (0, 0)) :
  AM d m_X1_leavingCards [(.inr (some p))] h Q := by
  refine am_body mo_X1_leavingCards (Nat.le_of_ble_eq_true rfl) ?_
  show AW m_X1_leavingCards d none Q 0 [some (.inr (some p)), none, none] [] h (0, 0)
  obtain ⟨kp, rp_names, kp_names, rp_asksToGo, kp_asksToGo, rp_tellings, kp_tellings, rp_slots, kp_slots, rp_awake, kp_awake, rp_answering, kp_answering⟩ := id hL
  refine aw_iconst (pc := 0) dX1_leavingCards_0 ?_
  refine ax_istore_n (pc := 1) (ls' := [some (.inr (some p)), some (.inl 0), none]) dX1_leavingCards_1 (Nat.le_of_ble_eq_true rfl) rfl ?_
  refine aw_iconst (pc := 2) dX1_leavingCards_2 ?_
  refine ax_istore_n (pc := 3) (ls' := [some (.inr (some p)), some (.inl 0), some (.inl 0)]) dX1_leavingCards_3 (Nat.le_of_ble_eq_true rfl) rfl ?_
  exact g
set_option maxRecDepth 100000 in
set_option maxHeartbeats 4000000 in
theorem vc_X1_leavingCards_4 {d : Nat} {Q : Option Int → AH → Prop} {h : AH} {p : Nat} {x1 x2 : Int} (hL : QP h p)
  (g :
    ((hi h p 6 ≤ x2 → (
      Q (some x1) h
    )) ∧
    (¬ (hi h p 6 ≤ x2) → (
      ((20 ≤ x2 → (
        Q (some x1) h
      )) ∧
      (¬ (20 ≤ x2) → (
        (0 ≤ x2 ∧ x2 < 20) ∧
        ((hi h (p + 2) x2 ≤ 0 → (
          (rg (x2 + 1)) ∧
          AW m_X1_leavingCards d none Q 4 [some (.inr (some p)), some (.inl x1), some (.inl (x2 + 1))] [] h (0, 0)
        )) ∧
        (¬ (hi h (p + 2) x2 ≤ 0) → (
          (rg (x1 + 1)) ∧
          (rg (x2 + 1)) ∧
          AW m_X1_leavingCards d none Q 4 [some (.inr (some p)), some (.inl (x1 + 1)), some (.inl (x2 + 1))] [] h (0, 0)
        )))
      )))
    )))) :
  AW m_X1_leavingCards d none Q 4 [some (.inr (some p)), some (.inl x1), some (.inl x2)] [] h (0, 0) := by
  obtain ⟨kp, rp_names, kp_names, rp_asksToGo, kp_asksToGo, rp_tellings, kp_tellings, rp_slots, kp_slots, rp_awake, kp_awake, rp_answering, kp_answering⟩ := id hL
  refine aw_iload_n (pc := 4) dX1_leavingCards_4 rfl ?_
  refine aw_aload_n (pc := 5) dX1_leavingCards_5 rfl ?_
  refine ax_geti (pc := 6) (v := hi h p 6) dX1_leavingCards_6 fl_X1_31 (by decide) rfl kp rfl ?_
  refine aw_icmp_ge (pc := 9) (tgt := 36) dX1_leavingCards_9 (by decide) (fun c1 => ?_) (fun c1 => ?_)
  · replace g := g.1 c1
    refine aw_iload_n (pc := 36) dX1_leavingCards_36 rfl ?_
    exact ax_ireturn (pc := 37) dX1_leavingCards_37 rfl g (by decide) (by decide)
  · replace g := g.2 c1
    refine aw_iload_n (pc := 12) dX1_leavingCards_12 rfl ?_
    refine aw_bipush (pc := 13) dX1_leavingCards_13 ?_
    refine aw_icmp_ge (pc := 15) (tgt := 36) dX1_leavingCards_15 (by decide) (fun c2 => ?_) (fun c2 => ?_)
    · replace g := g.1 c2
      refine aw_iload_n (pc := 36) dX1_leavingCards_36 rfl ?_
      exact ax_ireturn (pc := 37) dX1_leavingCards_37 rfl g (by decide) (by decide)
    · replace g := g.2 c2
      refine aw_aload_n (pc := 18) dX1_leavingCards_18 rfl ?_
      refine aw_getr (pc := 19) (r := some (p + 2)) dX1_leavingCards_19 fl_X1_15 (by decide) rfl kp rp_asksToGo ?_
      refine aw_iload_n (pc := 22) dX1_leavingCards_22 rfl ?_
      obtain ⟨s3, g⟩ := g
      refine ax_iaload (pc := 23) (n := 20) (v := hi h (p + 2) x2) dX1_leavingCards_23 kp_asksToGo s3 rfl ?_
      refine aw_if_le (pc := 24) (tgt := 30) dX1_leavingCards_24 (by decide) (fun c4 => ?_) (fun c4 => ?_)
      · replace g := g.1 c4
        obtain ⟨s5, g⟩ := g
        refine ax_iinc (pc := 30) (v' := x2 + 1) (ls' := [some (.inr (some p)), some (.inl x1), some (.inl (x2 + 1))]) dX1_leavingCards_30 rfl s5 rfl rfl ?_
        refine aw_goto (pc := 33) (tgt := 4) dX1_leavingCards_33 (by decide) ?_
        exact g
      · replace g := g.2 c4
        obtain ⟨s6, g⟩ := g
        refine ax_iinc (pc := 27) (v' := x1 + 1) (ls' := [some (.inr (some p)), some (.inl (x1 + 1)), some (.inl x2)]) dX1_leavingCards_27 rfl s6 rfl rfl ?_
        obtain ⟨s7, g⟩ := g
        refine ax_iinc (pc := 30) (v' := x2 + 1) (ls' := [some (.inr (some p)), some (.inl (x1 + 1)), some (.inl (x2 + 1))]) dX1_leavingCards_30 rfl s7 rfl rfl ?_
        refine aw_goto (pc := 33) (tgt := 4) dX1_leavingCards_33 (by decide) ?_
        exact g
set_option maxRecDepth 100000 in
set_option maxHeartbeats 4000000 in
theorem vc_X1_insert {d : Nat} {Q : Option Int → AH → Prop} {h : AH} {p : Nat} {x1 : Int} (hd : 1 ≤ d) (hL : QP h p)
  (g :
    ((hi h p 6 < 0 → (
      Q none h
    )) ∧
    (¬ (hi h p 6 < 0) → (
      ((hi h p 6 < 20 → (
        AW m_X1_insert d none Q 22 [some (.inr (some p)), some (.inl x1), some (.inl (hi h p 6))] [] h (0, 0)
      )) ∧
      (¬ (hi h p 6 < 20) → (
        Q none h
      )))
    )))) :
  AM d m_X1_insert [(.inr (some p)), (.inl x1)] h Q := by
  refine am_body mo_X1_insert (Nat.le_of_ble_eq_true rfl) ?_
  show AW m_X1_insert d none Q 0 [some (.inr (some p)), some (.inl x1), none] [] h (0, 0)
  obtain ⟨kp, rp_names, kp_names, rp_asksToGo, kp_asksToGo, rp_tellings, kp_tellings, rp_slots, kp_slots, rp_awake, kp_awake, rp_answering, kp_answering⟩ := id hL
  refine aw_aload_n (pc := 0) dX1_insert_0 rfl ?_
  refine ax_geti (pc := 1) (v := hi h p 6) dX1_insert_1 fl_X1_31 (by decide) rfl kp rfl ?_
  refine aw_if_lt (pc := 4) (tgt := 16) dX1_insert_4 (by decide) (fun c1 => ?_) (fun c1 => ?_)
  · replace g := g.1 c1
    exact aw_return (pc := 16) dX1_insert_16 rfl g (by decide) (by decide)
  · replace g := g.2 c1
    refine aw_aload_n (pc := 7) dX1_insert_7 rfl ?_
    refine ax_geti (pc := 8) (v := hi h p 6) dX1_insert_8 fl_X1_31 (by decide) rfl kp rfl ?_
    refine aw_bipush (pc := 11) dX1_insert_11 ?_
    refine aw_icmp_lt (pc := 13) (tgt := 17) dX1_insert_13 (by decide) (fun c2 => ?_) (fun c2 => ?_)
    · replace g := g.1 c2
      refine aw_aload_n (pc := 17) dX1_insert_17 rfl ?_
      refine ax_geti (pc := 18) (v := hi h p 6) dX1_insert_18 fl_X1_31 (by decide) rfl kp rfl ?_
      refine ax_istore_n (pc := 21) (ls' := [some (.inr (some p)), some (.inl x1), some (.inl (hi h p 6))]) dX1_insert_21 (Nat.le_of_ble_eq_true rfl) rfl ?_
      exact g
    · replace g := g.2 c2
      exact aw_return (pc := 16) dX1_insert_16 rfl g (by decide) (by decide)
set_option maxRecDepth 100000 in
set_option maxHeartbeats 4000000 in
theorem vc_X1_insert_22 {d : Nat} {Q : Option Int → AH → Prop} {h : AH} {p : Nat} {x1 x2 : Int} (hd : 1 ≤ d) (hL : QP h p)
  (g :
    ((x2 ≤ 0 → (
      (0 ≤ x2 ∧ x2 < 20) ∧
      (rg ((hi h p 6) + 1)) ∧
      Q none (up (up (up (up (up (up h (p + 1) x2 x1) (p + 2) x2 0) (p + 3) x2 0) (p + 4) x2 (-1)) (p + 5) x2 1) p 6 ((hi h p 6) + 1))
    )) ∧
    (¬ (x2 ≤ 0) → (
      (rg (x2 - 1)) ∧
      (0 ≤ x2 - 1 ∧ x2 - 1 < 20) ∧
      ((hi h (p + 1) (x2 - 1) ≤ x1 → (
        (0 ≤ x2 ∧ x2 < 20) ∧
        (rg ((hi h p 6) + 1)) ∧
        Q none (up (up (up (up (up (up h (p + 1) x2 x1) (p + 2) x2 0) (p + 3) x2 0) (p + 4) x2 (-1)) (p + 5) x2 1) p 6 ((hi h p 6) + 1))
      )) ∧
      (¬ (hi h (p + 1) (x2 - 1) ≤ x1) → (
        AM (d - 1) m_X1_moveCard [(.inr (some p)), (.inl (x2 - 1)), (.inl x2)] h (fun r h11 => 
          r = none ∧ SS h h11 ∧
          AW m_X1_insert d none Q 22 [some (.inr (some p)), some (.inl x1), some (.inl (x2 - 1))] [] h11 (0, 0))
      )))
    )))) :
  AW m_X1_insert d none Q 22 [some (.inr (some p)), some (.inl x1), some (.inl x2)] [] h (0, 0) := by
  obtain ⟨kp, rp_names, kp_names, rp_asksToGo, kp_asksToGo, rp_tellings, kp_tellings, rp_slots, kp_slots, rp_awake, kp_awake, rp_answering, kp_answering⟩ := id hL
  refine aw_iload_n (pc := 22) dX1_insert_22 rfl ?_
  refine aw_if_le (pc := 23) (tgt := 52) dX1_insert_23 (by decide) (fun c3 => ?_) (fun c3 => ?_)
  · replace g := g.1 c3
    refine aw_aload_n (pc := 52) dX1_insert_52 rfl ?_
    refine aw_getr (pc := 53) (r := some (p + 1)) dX1_insert_53 fl_X1_9 (by decide) rfl kp rp_names ?_
    refine aw_iload_n (pc := 56) dX1_insert_56 rfl ?_
    refine aw_iload_n (pc := 57) dX1_insert_57 rfl ?_
    obtain ⟨s4, g⟩ := g
    refine ax_iastore (pc := 58) (n := 20) dX1_insert_58 kp_names s4 ?_
    refine aw_aload_n (pc := 59) dX1_insert_59 rfl ?_
    refine aw_getr (pc := 60) (r := some (p + 2)) dX1_insert_60 fl_X1_15 (by decide) rfl (hkU kp) (hrU rp_asksToGo) ?_
    refine aw_iload_n (pc := 63) dX1_insert_63 rfl ?_
    refine aw_iconst (pc := 64) dX1_insert_64 ?_
    refine ax_iastore (pc := 65) (n := 20) dX1_insert_65 (hkU kp_asksToGo) s4 ?_
    refine aw_aload_n (pc := 66) dX1_insert_66 rfl ?_
    refine aw_getr (pc := 67) (r := some (p + 3)) dX1_insert_67 fl_X1_18 (by decide) rfl (hkU (hkU kp)) (hrU (hrU rp_tellings)) ?_
    refine aw_iload_n (pc := 70) dX1_insert_70 rfl ?_
    refine aw_iconst (pc := 71) dX1_insert_71 ?_
    refine ax_iastore (pc := 72) (n := 20) dX1_insert_72 (hkU (hkU kp_tellings)) s4 ?_
    refine aw_aload_n (pc := 73) dX1_insert_73 rfl ?_
    refine aw_getr (pc := 74) (r := some (p + 4)) dX1_insert_74 fl_X1_21 (by decide) rfl (hkU (hkU (hkU kp))) (hrU (hrU (hrU rp_slots))) ?_
    refine aw_iload_n (pc := 77) dX1_insert_77 rfl ?_
    refine aw_iconst (pc := 78) dX1_insert_78 ?_
    refine ax_iastore (pc := 79) (n := 20) dX1_insert_79 (hkU (hkU (hkU kp_slots))) s4 ?_
    refine aw_aload_n (pc := 80) dX1_insert_80 rfl ?_
    refine aw_getr (pc := 81) (r := some (p + 5)) dX1_insert_81 fl_X1_24 (by decide) rfl (hkU (hkU (hkU (hkU kp)))) (hrU (hrU (hrU (hrU rp_awake)))) ?_
    refine aw_iload_n (pc := 84) dX1_insert_84 rfl ?_
    refine aw_iconst (pc := 85) dX1_insert_85 ?_
    refine ax_bastore (pc := 86) (n := 20) dX1_insert_86 (hkU (hkU (hkU (hkU kp_awake)))) s4 (by decide) ?_
    refine aw_aload_n (pc := 87) dX1_insert_87 rfl ?_
    refine aw_dup (pc := 88) dX1_insert_88 ?_
    refine ax_geti (pc := 89) (v := hi h p 6) dX1_insert_89 fl_X1_31 (by decide) rfl (hkU (hkU (hkU (hkU (hkU kp))))) (hiN (Or.inl (by omega)) (hiN (Or.inl (by omega)) (hiN (Or.inl (by omega)) (hiN (Or.inl (by omega)) (hiN (Or.inl (by omega)) rfl))))) ?_
    refine aw_iconst (pc := 92) dX1_insert_92 ?_
    obtain ⟨s5, g⟩ := g
    refine ax_iadd (pc := 93) (v := (hi h p 6) + 1) dX1_insert_93 s5 rfl ?_
    refine ax_puti (pc := 94) dX1_insert_94 fl_X1_31 (by decide) rfl rfl rfl (hkU (hkU (hkU (hkU (hkU kp))))) ?_
    exact aw_return (pc := 97) dX1_insert_97 rfl g (by decide) (by decide)
  · replace g := g.2 c3
    refine aw_aload_n (pc := 26) dX1_insert_26 rfl ?_
    refine aw_getr (pc := 27) (r := some (p + 1)) dX1_insert_27 fl_X1_9 (by decide) rfl kp rp_names ?_
    refine aw_iload_n (pc := 30) dX1_insert_30 rfl ?_
    refine aw_iconst (pc := 31) dX1_insert_31 ?_
    obtain ⟨s6, g⟩ := g
    refine ax_isub (pc := 32) (v := x2 - 1) dX1_insert_32 s6 rfl ?_
    obtain ⟨s7, g⟩ := g
    refine ax_iaload (pc := 33) (n := 20) (v := hi h (p + 1) (x2 - 1)) dX1_insert_33 kp_names s7 rfl ?_
    refine aw_iload_n (pc := 34) dX1_insert_34 rfl ?_
    refine aw_icmp_le (pc := 35) (tgt := 52) dX1_insert_35 (by decide) (fun c8 => ?_) (fun c8 => ?_)
    · replace g := g.1 c8
      refine aw_aload_n (pc := 52) dX1_insert_52 rfl ?_
      refine aw_getr (pc := 53) (r := some (p + 1)) dX1_insert_53 fl_X1_9 (by decide) rfl kp rp_names ?_
      refine aw_iload_n (pc := 56) dX1_insert_56 rfl ?_
      refine aw_iload_n (pc := 57) dX1_insert_57 rfl ?_
      obtain ⟨s9, g⟩ := g
      refine ax_iastore (pc := 58) (n := 20) dX1_insert_58 kp_names s9 ?_
      refine aw_aload_n (pc := 59) dX1_insert_59 rfl ?_
      refine aw_getr (pc := 60) (r := some (p + 2)) dX1_insert_60 fl_X1_15 (by decide) rfl (hkU kp) (hrU rp_asksToGo) ?_
      refine aw_iload_n (pc := 63) dX1_insert_63 rfl ?_
      refine aw_iconst (pc := 64) dX1_insert_64 ?_
      refine ax_iastore (pc := 65) (n := 20) dX1_insert_65 (hkU kp_asksToGo) s9 ?_
      refine aw_aload_n (pc := 66) dX1_insert_66 rfl ?_
      refine aw_getr (pc := 67) (r := some (p + 3)) dX1_insert_67 fl_X1_18 (by decide) rfl (hkU (hkU kp)) (hrU (hrU rp_tellings)) ?_
      refine aw_iload_n (pc := 70) dX1_insert_70 rfl ?_
      refine aw_iconst (pc := 71) dX1_insert_71 ?_
      refine ax_iastore (pc := 72) (n := 20) dX1_insert_72 (hkU (hkU kp_tellings)) s9 ?_
      refine aw_aload_n (pc := 73) dX1_insert_73 rfl ?_
      refine aw_getr (pc := 74) (r := some (p + 4)) dX1_insert_74 fl_X1_21 (by decide) rfl (hkU (hkU (hkU kp))) (hrU (hrU (hrU rp_slots))) ?_
      refine aw_iload_n (pc := 77) dX1_insert_77 rfl ?_
      refine aw_iconst (pc := 78) dX1_insert_78 ?_
      refine ax_iastore (pc := 79) (n := 20) dX1_insert_79 (hkU (hkU (hkU kp_slots))) s9 ?_
      refine aw_aload_n (pc := 80) dX1_insert_80 rfl ?_
      refine aw_getr (pc := 81) (r := some (p + 5)) dX1_insert_81 fl_X1_24 (by decide) rfl (hkU (hkU (hkU (hkU kp)))) (hrU (hrU (hrU (hrU rp_awake)))) ?_
      refine aw_iload_n (pc := 84) dX1_insert_84 rfl ?_
      refine aw_iconst (pc := 85) dX1_insert_85 ?_
      refine ax_bastore (pc := 86) (n := 20) dX1_insert_86 (hkU (hkU (hkU (hkU kp_awake)))) s9 (by decide) ?_
      refine aw_aload_n (pc := 87) dX1_insert_87 rfl ?_
      refine aw_dup (pc := 88) dX1_insert_88 ?_
      refine ax_geti (pc := 89) (v := hi h p 6) dX1_insert_89 fl_X1_31 (by decide) rfl (hkU (hkU (hkU (hkU (hkU kp))))) (hiN (Or.inl (by omega)) (hiN (Or.inl (by omega)) (hiN (Or.inl (by omega)) (hiN (Or.inl (by omega)) (hiN (Or.inl (by omega)) rfl))))) ?_
      refine aw_iconst (pc := 92) dX1_insert_92 ?_
      obtain ⟨s10, g⟩ := g
      refine ax_iadd (pc := 93) (v := (hi h p 6) + 1) dX1_insert_93 s10 rfl ?_
      refine ax_puti (pc := 94) dX1_insert_94 fl_X1_31 (by decide) rfl rfl rfl (hkU (hkU (hkU (hkU (hkU kp))))) ?_
      exact aw_return (pc := 97) dX1_insert_97 rfl g (by decide) (by decide)
    · replace g := g.2 c8
      refine aw_aload_n (pc := 38) dX1_insert_38 rfl ?_
      refine aw_iload_n (pc := 39) dX1_insert_39 rfl ?_
      refine aw_iconst (pc := 40) dX1_insert_40 ?_
      refine ax_isub (pc := 41) (v := x2 - 1) dX1_insert_41 s6 rfl ?_
      refine aw_iload_n (pc := 42) dX1_insert_42 rfl ?_
      refine aw_invV (pc := 43) (md' := m_X1_moveCard) (ci := 1) (as := [(.inl (x2 - 1)), (.inl x2)]) dX1_insert_43 mo_X1_moveCard im_X1_moveCard se_X1_moveCard ml_X1_55 rfl kp rfl hd (Nat.le_of_ble_eq_true rfl) (Nat.le_of_ble_eq_true rfl) (Nat.le_of_ble_eq_true rfl) ?_
      refine am_mono g (fun _ h11 _ ok_h11 g => ?_)
      obtain ⟨rfl, ss_h11, g⟩ := g
      replace hL := QP.ss hL ss_h11
      obtain ⟨kp, rp_names, kp_names, rp_asksToGo, kp_asksToGo, rp_tellings, kp_tellings, rp_slots, kp_slots, rp_awake, kp_awake, rp_answering, kp_answering⟩ := id hL
      show AW m_X1_insert d none Q 46 [some (.inr (some p)), some (.inl x1), some (.inl x2)] [] h11 (0, 0)
      refine ax_iinc (pc := 46) (v' := x2 - 1) (ls' := [some (.inr (some p)), some (.inl x1), some (.inl (x2 - 1))]) dX1_insert_46 rfl s6 (by omega) rfl ?_
      refine aw_goto (pc := 49) (tgt := 22) dX1_insert_49 (by decide) ?_
      exact g
set_option maxRecDepth 100000 in
set_option maxHeartbeats 4000000 in
theorem vc_X1_removeAt {d : Nat} {Q : Option Int → AH → Prop} {h : AH} {p : Nat} {x1 : Int} (hd : 1 ≤ d) (hL : QP h p)
  (g :
    AM (d - 1) m_X1_isCard [(.inr (some p)), (.inl x1)] h (fun r h1 => 
      ∃ v2, r = some v2 ∧ SS h h1 ∧
      ((¬ v2 = 0 → (
        AW m_X1_removeAt d none Q 11 [some (.inr (some p)), some (.inl x1), some (.inl x1)] [] h1 (0, 0)
      )) ∧
      (¬ (¬ v2 = 0) → (
        Q none h1
      ))))) :
  AM d m_X1_removeAt [(.inr (some p)), (.inl x1)] h Q := by
  refine am_body mo_X1_removeAt (Nat.le_of_ble_eq_true rfl) ?_
  show AW m_X1_removeAt d none Q 0 [some (.inr (some p)), some (.inl x1), none] [] h (0, 0)
  obtain ⟨kp, rp_names, kp_names, rp_asksToGo, kp_asksToGo, rp_tellings, kp_tellings, rp_slots, kp_slots, rp_awake, kp_awake, rp_answering, kp_answering⟩ := id hL
  refine aw_aload_n (pc := 0) dX1_removeAt_0 rfl ?_
  refine aw_iload_n (pc := 1) dX1_removeAt_1 rfl ?_
  refine aw_invV (pc := 2) (md' := m_X1_isCard) (ci := 1) (as := [(.inl x1)]) dX1_removeAt_2 mo_X1_isCard im_X1_isCard se_X1_isCard ml_X1_35 rfl kp rfl hd (Nat.le_of_ble_eq_true rfl) (Nat.le_of_ble_eq_true rfl) (Nat.le_of_ble_eq_true rfl) ?_
  refine am_mono g (fun _ h1 _ ok_h1 g => ?_)
  obtain ⟨v2, rfl, ss_h1, g⟩ := g
  replace hL := QP.ss hL ss_h1
  obtain ⟨kp, rp_names, kp_names, rp_asksToGo, kp_asksToGo, rp_tellings, kp_tellings, rp_slots, kp_slots, rp_awake, kp_awake, rp_answering, kp_answering⟩ := id hL
  show AW m_X1_removeAt d none Q 5 [some (.inr (some p)), some (.inl x1), none] [(.inl v2)] h1 (0, 0)
  refine aw_if_ne (pc := 5) (tgt := 9) dX1_removeAt_5 (by decide) (fun c3 => ?_) (fun c3 => ?_)
  · replace g := g.1 c3
    refine aw_iload_n (pc := 9) dX1_removeAt_9 rfl ?_
    refine ax_istore_n (pc := 10) (ls' := [some (.inr (some p)), some (.inl x1), some (.inl x1)]) dX1_removeAt_10 (Nat.le_of_ble_eq_true rfl) rfl ?_
    exact g
  · replace g := g.2 c3
    exact aw_return (pc := 8) dX1_removeAt_8 rfl g (by decide) (by decide)
set_option maxRecDepth 100000 in
set_option maxHeartbeats 4000000 in
theorem vc_X1_removeAt_11 {d : Nat} {Q : Option Int → AH → Prop} {h : AH} {p : Nat} {x1 x2 : Int} (hd : 1 ≤ d) (hL : QP h p)
  (g :
    (rg (x2 + 1)) ∧
    ((hi h p 6 ≤ x2 + 1 → (
      (rg ((hi h p 6) - 1)) ∧
      Q none (up h p 6 ((hi h p 6) - 1))
    )) ∧
    (¬ (hi h p 6 ≤ x2 + 1) → (
      ((20 ≤ x2 + 1 → (
        (rg ((hi h p 6) - 1)) ∧
        Q none (up h p 6 ((hi h p 6) - 1))
      )) ∧
      (¬ (20 ≤ x2 + 1) → (
        AM (d - 1) m_X1_moveCard [(.inr (some p)), (.inl (x2 + 1)), (.inl x2)] h (fun r h9 => 
          r = none ∧ SS h h9 ∧
          AW m_X1_removeAt d none Q 11 [some (.inr (some p)), some (.inl x1), some (.inl (x2 + 1))] [] h9 (0, 0))
      )))
    )))) :
  AW m_X1_removeAt d none Q 11 [some (.inr (some p)), some (.inl x1), some (.inl x2)] [] h (0, 0) := by
  obtain ⟨kp, rp_names, kp_names, rp_asksToGo, kp_asksToGo, rp_tellings, kp_tellings, rp_slots, kp_slots, rp_awake, kp_awake, rp_answering, kp_answering⟩ := id hL
  refine aw_iload_n (pc := 11) dX1_removeAt_11 rfl ?_
  refine aw_iconst (pc := 12) dX1_removeAt_12 ?_
  obtain ⟨s4, g⟩ := g
  refine ax_iadd (pc := 13) (v := x2 + 1) dX1_removeAt_13 s4 rfl ?_
  refine aw_aload_n (pc := 14) dX1_removeAt_14 rfl ?_
  refine ax_geti (pc := 15) (v := hi h p 6) dX1_removeAt_15 fl_X1_31 (by decide) rfl kp rfl ?_
  refine aw_icmp_ge (pc := 18) (tgt := 43) dX1_removeAt_18 (by decide) (fun c5 => ?_) (fun c5 => ?_)
  · replace g := g.1 c5
    refine aw_aload_n (pc := 43) dX1_removeAt_43 rfl ?_
    refine aw_dup (pc := 44) dX1_removeAt_44 ?_
    refine ax_geti (pc := 45) (v := hi h p 6) dX1_removeAt_45 fl_X1_31 (by decide) rfl kp rfl ?_
    refine aw_iconst (pc := 48) dX1_removeAt_48 ?_
    obtain ⟨s6, g⟩ := g
    refine ax_isub (pc := 49) (v := (hi h p 6) - 1) dX1_removeAt_49 s6 rfl ?_
    refine ax_puti (pc := 50) dX1_removeAt_50 fl_X1_31 (by decide) rfl rfl rfl kp ?_
    exact aw_return (pc := 53) dX1_removeAt_53 rfl g (by decide) (by decide)
  · replace g := g.2 c5
    refine aw_iload_n (pc := 21) dX1_removeAt_21 rfl ?_
    refine aw_iconst (pc := 22) dX1_removeAt_22 ?_
    refine ax_iadd (pc := 23) (v := x2 + 1) dX1_removeAt_23 s4 rfl ?_
    refine aw_bipush (pc := 24) dX1_removeAt_24 ?_
    refine aw_icmp_ge (pc := 26) (tgt := 43) dX1_removeAt_26 (by decide) (fun c7 => ?_) (fun c7 => ?_)
    · replace g := g.1 c7
      refine aw_aload_n (pc := 43) dX1_removeAt_43 rfl ?_
      refine aw_dup (pc := 44) dX1_removeAt_44 ?_
      refine ax_geti (pc := 45) (v := hi h p 6) dX1_removeAt_45 fl_X1_31 (by decide) rfl kp rfl ?_
      refine aw_iconst (pc := 48) dX1_removeAt_48 ?_
      obtain ⟨s8, g⟩ := g
      refine ax_isub (pc := 49) (v := (hi h p 6) - 1) dX1_removeAt_49 s8 rfl ?_
      refine ax_puti (pc := 50) dX1_removeAt_50 fl_X1_31 (by decide) rfl rfl rfl kp ?_
      exact aw_return (pc := 53) dX1_removeAt_53 rfl g (by decide) (by decide)
    · replace g := g.2 c7
      refine aw_aload_n (pc := 29) dX1_removeAt_29 rfl ?_
      refine aw_iload_n (pc := 30) dX1_removeAt_30 rfl ?_
      refine aw_iconst (pc := 31) dX1_removeAt_31 ?_
      refine ax_iadd (pc := 32) (v := x2 + 1) dX1_removeAt_32 s4 rfl ?_
      refine aw_iload_n (pc := 33) dX1_removeAt_33 rfl ?_
      refine aw_invV (pc := 34) (md' := m_X1_moveCard) (ci := 1) (as := [(.inl (x2 + 1)), (.inl x2)]) dX1_removeAt_34 mo_X1_moveCard im_X1_moveCard se_X1_moveCard ml_X1_55 rfl kp rfl hd (Nat.le_of_ble_eq_true rfl) (Nat.le_of_ble_eq_true rfl) (Nat.le_of_ble_eq_true rfl) ?_
      refine am_mono g (fun _ h9 _ ok_h9 g => ?_)
      obtain ⟨rfl, ss_h9, g⟩ := g
      replace hL := QP.ss hL ss_h9
      obtain ⟨kp, rp_names, kp_names, rp_asksToGo, kp_asksToGo, rp_tellings, kp_tellings, rp_slots, kp_slots, rp_awake, kp_awake, rp_answering, kp_answering⟩ := id hL
      show AW m_X1_removeAt d none Q 37 [some (.inr (some p)), some (.inl x1), some (.inl x2)] [] h9 (0, 0)
      refine ax_iinc (pc := 37) (v' := x2 + 1) (ls' := [some (.inr (some p)), some (.inl x1), some (.inl (x2 + 1))]) dX1_removeAt_37 rfl s4 rfl rfl ?_
      refine aw_goto (pc := 40) (tgt := 11) dX1_removeAt_40 (by decide) ?_
      exact g
set_option maxRecDepth 100000 in
set_option maxHeartbeats 4000000 in
theorem vc_X1_moveCard {d : Nat} {Q : Option Int → AH → Prop} {h : AH} {p : Nat} {x1 x2 : Int} (hL : QP h p)
  (g :
    ((x1 < 0 → (
      Q none h
    )) ∧
    (¬ (x1 < 0) → (
      ((20 ≤ x1 → (
        Q none h
      )) ∧
      (¬ (20 ≤ x1) → (
        ((x2 < 0 → (
          Q none h
        )) ∧
        (¬ (x2 < 0) → (
          ((x2 < 20 → (
            (0 ≤ x1 ∧ x1 < 20) ∧
            (0 ≤ x2 ∧ x2 < 20) ∧
            (hi h (p + 5) x1 = 0 ∨ hi h (p + 5) x1 = 1) ∧
            Q none (up (up (up (up (up h (p + 1) x2 (hi h (p + 1) x1)) (p + 2) x2 (hi h (p + 2) x1)) (p + 3) x2 (hi h (p + 3) x1)) (p + 4) x2 (hi h (p + 4) x1)) (p + 5) x2 (hi h (p + 5) x1))
          )) ∧
          (¬ (x2 < 20) → (
            Q none h
          )))
        )))
      )))
    )))) :
  AM d m_X1_moveCard [(.inr (some p)), (.inl x1), (.inl x2)] h Q := by
  refine am_body mo_X1_moveCard (Nat.le_of_ble_eq_true rfl) ?_
  show AW m_X1_moveCard d none Q 0 [some (.inr (some p)), some (.inl x1), some (.inl x2)] [] h (0, 0)
  obtain ⟨kp, rp_names, kp_names, rp_asksToGo, kp_asksToGo, rp_tellings, kp_tellings, rp_slots, kp_slots, rp_awake, kp_awake, rp_answering, kp_answering⟩ := id hL
  refine aw_iload_n (pc := 0) dX1_moveCard_0 rfl ?_
  refine aw_if_lt (pc := 1) (tgt := 20) dX1_moveCard_1 (by decide) (fun c1 => ?_) (fun c1 => ?_)
  · replace g := g.1 c1
    exact aw_return (pc := 20) dX1_moveCard_20 rfl g (by decide) (by decide)
  · replace g := g.2 c1
    refine aw_iload_n (pc := 4) dX1_moveCard_4 rfl ?_
    refine aw_bipush (pc := 5) dX1_moveCard_5 ?_
    refine aw_icmp_ge (pc := 7) (tgt := 20) dX1_moveCard_7 (by decide) (fun c2 => ?_) (fun c2 => ?_)
    · replace g := g.1 c2
      exact aw_return (pc := 20) dX1_moveCard_20 rfl g (by decide) (by decide)
    · replace g := g.2 c2
      refine aw_iload_n (pc := 10) dX1_moveCard_10 rfl ?_
      refine aw_if_lt (pc := 11) (tgt := 20) dX1_moveCard_11 (by decide) (fun c3 => ?_) (fun c3 => ?_)
      · replace g := g.1 c3
        exact aw_return (pc := 20) dX1_moveCard_20 rfl g (by decide) (by decide)
      · replace g := g.2 c3
        refine aw_iload_n (pc := 14) dX1_moveCard_14 rfl ?_
        refine aw_bipush (pc := 15) dX1_moveCard_15 ?_
        refine aw_icmp_lt (pc := 17) (tgt := 21) dX1_moveCard_17 (by decide) (fun c4 => ?_) (fun c4 => ?_)
        · replace g := g.1 c4
          refine aw_aload_n (pc := 21) dX1_moveCard_21 rfl ?_
          refine aw_getr (pc := 22) (r := some (p + 1)) dX1_moveCard_22 fl_X1_9 (by decide) rfl kp rp_names ?_
          refine aw_iload_n (pc := 25) dX1_moveCard_25 rfl ?_
          refine aw_aload_n (pc := 26) dX1_moveCard_26 rfl ?_
          refine aw_getr (pc := 27) (r := some (p + 1)) dX1_moveCard_27 fl_X1_9 (by decide) rfl kp rp_names ?_
          refine aw_iload_n (pc := 30) dX1_moveCard_30 rfl ?_
          obtain ⟨s5, g⟩ := g
          refine ax_iaload (pc := 31) (n := 20) (v := hi h (p + 1) x1) dX1_moveCard_31 kp_names s5 rfl ?_
          obtain ⟨s6, g⟩ := g
          refine ax_iastore (pc := 32) (n := 20) dX1_moveCard_32 kp_names s6 ?_
          refine aw_aload_n (pc := 33) dX1_moveCard_33 rfl ?_
          refine aw_getr (pc := 34) (r := some (p + 2)) dX1_moveCard_34 fl_X1_15 (by decide) rfl (hkU kp) (hrU rp_asksToGo) ?_
          refine aw_iload_n (pc := 37) dX1_moveCard_37 rfl ?_
          refine aw_aload_n (pc := 38) dX1_moveCard_38 rfl ?_
          refine aw_getr (pc := 39) (r := some (p + 2)) dX1_moveCard_39 fl_X1_15 (by decide) rfl (hkU kp) (hrU rp_asksToGo) ?_
          refine aw_iload_n (pc := 42) dX1_moveCard_42 rfl ?_
          refine ax_iaload (pc := 43) (n := 20) (v := hi h (p + 2) x1) dX1_moveCard_43 (hkU kp_asksToGo) s5 (hiN (Or.inl (by omega)) rfl) ?_
          refine ax_iastore (pc := 44) (n := 20) dX1_moveCard_44 (hkU kp_asksToGo) s6 ?_
          refine aw_aload_n (pc := 45) dX1_moveCard_45 rfl ?_
          refine aw_getr (pc := 46) (r := some (p + 3)) dX1_moveCard_46 fl_X1_18 (by decide) rfl (hkU (hkU kp)) (hrU (hrU rp_tellings)) ?_
          refine aw_iload_n (pc := 49) dX1_moveCard_49 rfl ?_
          refine aw_aload_n (pc := 50) dX1_moveCard_50 rfl ?_
          refine aw_getr (pc := 51) (r := some (p + 3)) dX1_moveCard_51 fl_X1_18 (by decide) rfl (hkU (hkU kp)) (hrU (hrU rp_tellings)) ?_
          refine aw_iload_n (pc := 54) dX1_moveCard_54 rfl ?_
          refine ax_iaload (pc := 55) (n := 20) (v := hi h (p + 3) x1) dX1_moveCard_55 (hkU (hkU kp_tellings)) s5 (hiN (Or.inl (by omega)) (hiN (Or.inl (by omega)) rfl)) ?_
          refine ax_iastore (pc := 56) (n := 20) dX1_moveCard_56 (hkU (hkU kp_tellings)) s6 ?_
          refine aw_aload_n (pc := 57) dX1_moveCard_57 rfl ?_
          refine aw_getr (pc := 58) (r := some (p + 4)) dX1_moveCard_58 fl_X1_21 (by decide) rfl (hkU (hkU (hkU kp))) (hrU (hrU (hrU rp_slots))) ?_
          refine aw_iload_n (pc := 61) dX1_moveCard_61 rfl ?_
          refine aw_aload_n (pc := 62) dX1_moveCard_62 rfl ?_
          refine aw_getr (pc := 63) (r := some (p + 4)) dX1_moveCard_63 fl_X1_21 (by decide) rfl (hkU (hkU (hkU kp))) (hrU (hrU (hrU rp_slots))) ?_
          refine aw_iload_n (pc := 66) dX1_moveCard_66 rfl ?_
          refine ax_iaload (pc := 67) (n := 20) (v := hi h (p + 4) x1) dX1_moveCard_67 (hkU (hkU (hkU kp_slots))) s5 (hiN (Or.inl (by omega)) (hiN (Or.inl (by omega)) (hiN (Or.inl (by omega)) rfl))) ?_
          refine ax_iastore (pc := 68) (n := 20) dX1_moveCard_68 (hkU (hkU (hkU kp_slots))) s6 ?_
          refine aw_aload_n (pc := 69) dX1_moveCard_69 rfl ?_
          refine aw_getr (pc := 70) (r := some (p + 5)) dX1_moveCard_70 fl_X1_24 (by decide) rfl (hkU (hkU (hkU (hkU kp)))) (hrU (hrU (hrU (hrU rp_awake)))) ?_
          refine aw_iload_n (pc := 73) dX1_moveCard_73 rfl ?_
          refine aw_aload_n (pc := 74) dX1_moveCard_74 rfl ?_
          refine aw_getr (pc := 75) (r := some (p + 5)) dX1_moveCard_75 fl_X1_24 (by decide) rfl (hkU (hkU (hkU (hkU kp)))) (hrU (hrU (hrU (hrU rp_awake)))) ?_
          refine aw_iload_n (pc := 78) dX1_moveCard_78 rfl ?_
          refine ax_baload (pc := 79) (n := 20) (v := hi h (p + 5) x1) dX1_moveCard_79 (hkU (hkU (hkU (hkU kp_awake)))) s5 (hiN (Or.inl (by omega)) (hiN (Or.inl (by omega)) (hiN (Or.inl (by omega)) (hiN (Or.inl (by omega)) rfl)))) ?_
          obtain ⟨s7, g⟩ := g
          refine ax_bastore (pc := 80) (n := 20) dX1_moveCard_80 (hkU (hkU (hkU (hkU kp_awake)))) s6 s7 ?_
          exact aw_return (pc := 81) dX1_moveCard_81 rfl g (by decide) (by decide)
        · replace g := g.2 c4
          exact aw_return (pc := 20) dX1_moveCard_20 rfl g (by decide) (by decide)
set_option maxRecDepth 100000 in
set_option maxHeartbeats 4000000 in
theorem vc_X1_sleepAt {d : Nat} {Q : Option Int → AH → Prop} {h : AH} {p : Nat} {x1 : Int} (hd : 1 ≤ d) (hL : QP h p)
  (g :
    AM (d - 1) m_X1_isCard [(.inr (some p)), (.inl x1)] h (fun r h1 => 
      ∃ v2, r = some v2 ∧ SS h h1 ∧
      ((v2 = 0 → (
        Q none h1
      )) ∧
      (¬ (v2 = 0) → (
        (0 ≤ x1 ∧ x1 < 20) ∧
        Q none (up h1 (p + 5) x1 0)
      ))))) :
  AM d m_X1_sleepAt [(.inr (some p)), (.inl x1)] h Q := by
  refine am_body mo_X1_sleepAt (Nat.le_of_ble_eq_true rfl) ?_
  show AW m_X1_sleepAt d none Q 0 [some (.inr (some p)), some (.inl x1)] [] h (0, 0)
  obtain ⟨kp, rp_names, kp_names, rp_asksToGo, kp_asksToGo, rp_tellings, kp_tellings, rp_slots, kp_slots, rp_awake, kp_awake, rp_answering, kp_answering⟩ := id hL
  refine aw_aload_n (pc := 0) dX1_sleepAt_0 rfl ?_
  refine aw_iload_n (pc := 1) dX1_sleepAt_1 rfl ?_
  refine aw_invV (pc := 2) (md' := m_X1_isCard) (ci := 1) (as := [(.inl x1)]) dX1_sleepAt_2 mo_X1_isCard im_X1_isCard se_X1_isCard ml_X1_35 rfl kp rfl hd (Nat.le_of_ble_eq_true rfl) (Nat.le_of_ble_eq_true rfl) (Nat.le_of_ble_eq_true rfl) ?_
  refine am_mono g (fun _ h1 _ ok_h1 g => ?_)
  obtain ⟨v2, rfl, ss_h1, g⟩ := g
  replace hL := QP.ss hL ss_h1
  obtain ⟨kp, rp_names, kp_names, rp_asksToGo, kp_asksToGo, rp_tellings, kp_tellings, rp_slots, kp_slots, rp_awake, kp_awake, rp_answering, kp_answering⟩ := id hL
  show AW m_X1_sleepAt d none Q 5 [some (.inr (some p)), some (.inl x1)] [(.inl v2)] h1 (0, 0)
  refine aw_if_eq (pc := 5) (tgt := 15) dX1_sleepAt_5 (by decide) (fun c3 => ?_) (fun c3 => ?_)
  · replace g := g.1 c3
    exact aw_return (pc := 15) dX1_sleepAt_15 rfl g (by decide) (by decide)
  · replace g := g.2 c3
    refine aw_aload_n (pc := 8) dX1_sleepAt_8 rfl ?_
    refine aw_getr (pc := 9) (r := some (p + 5)) dX1_sleepAt_9 fl_X1_24 (by decide) rfl kp rp_awake ?_
    refine aw_iload_n (pc := 12) dX1_sleepAt_12 rfl ?_
    refine aw_iconst (pc := 13) dX1_sleepAt_13 ?_
    obtain ⟨s4, g⟩ := g
    refine ax_bastore (pc := 14) (n := 20) dX1_sleepAt_14 kp_awake s4 (by decide) ?_
    exact aw_return (pc := 15) dX1_sleepAt_15 rfl g (by decide) (by decide)
set_option maxRecDepth 100000 in
set_option maxHeartbeats 4000000 in
theorem vc_X1_wakeEach {d : Nat} {Q : Option Int → AH → Prop} {h : AH} {p : Nat} (hL : QP h p)
  (g :
    AW m_X1_wakeEach d none Q 2 [some (.inr (some p)), some (.inl 0)] [] h (0, 0)) :
  AM d m_X1_wakeEach [(.inr (some p))] h Q := by
  refine am_body mo_X1_wakeEach (Nat.le_of_ble_eq_true rfl) ?_
  show AW m_X1_wakeEach d none Q 0 [some (.inr (some p)), none] [] h (0, 0)
  obtain ⟨kp, rp_names, kp_names, rp_asksToGo, kp_asksToGo, rp_tellings, kp_tellings, rp_slots, kp_slots, rp_awake, kp_awake, rp_answering, kp_answering⟩ := id hL
  refine aw_iconst (pc := 0) dX1_wakeEach_0 ?_
  refine ax_istore_n (pc := 1) (ls' := [some (.inr (some p)), some (.inl 0)]) dX1_wakeEach_1 (Nat.le_of_ble_eq_true rfl) rfl ?_
  exact g
set_option maxRecDepth 100000 in
set_option maxHeartbeats 4000000 in
theorem vc_X1_wakeEach_2 {d : Nat} {Q : Option Int → AH → Prop} {h : AH} {p : Nat} {x1 : Int} (hL : QP h p)
  (g :
    ((hi h p 6 ≤ x1 → (
      Q none h
    )) ∧
    (¬ (hi h p 6 ≤ x1) → (
      ((20 ≤ x1 → (
        Q none h
      )) ∧
      (¬ (20 ≤ x1) → (
        (0 ≤ x1 ∧ x1 < 20) ∧
        (rg (x1 + 1)) ∧
        AW m_X1_wakeEach d none Q 2 [some (.inr (some p)), some (.inl (x1 + 1))] [] (up h (p + 5) x1 1) (0, 0)
      )))
    )))) :
  AW m_X1_wakeEach d none Q 2 [some (.inr (some p)), some (.inl x1)] [] h (0, 0) := by
  obtain ⟨kp, rp_names, kp_names, rp_asksToGo, kp_asksToGo, rp_tellings, kp_tellings, rp_slots, kp_slots, rp_awake, kp_awake, rp_answering, kp_answering⟩ := id hL
  refine aw_iload_n (pc := 2) dX1_wakeEach_2 rfl ?_
  refine aw_aload_n (pc := 3) dX1_wakeEach_3 rfl ?_
  refine ax_geti (pc := 4) (v := hi h p 6) dX1_wakeEach_4 fl_X1_31 (by decide) rfl kp rfl ?_
  refine aw_icmp_ge (pc := 7) (tgt := 29) dX1_wakeEach_7 (by decide) (fun c1 => ?_) (fun c1 => ?_)
  · replace g := g.1 c1
    exact aw_return (pc := 29) dX1_wakeEach_29 rfl g (by decide) (by decide)
  · replace g := g.2 c1
    refine aw_iload_n (pc := 10) dX1_wakeEach_10 rfl ?_
    refine aw_bipush (pc := 11) dX1_wakeEach_11 ?_
    refine aw_icmp_ge (pc := 13) (tgt := 29) dX1_wakeEach_13 (by decide) (fun c2 => ?_) (fun c2 => ?_)
    · replace g := g.1 c2
      exact aw_return (pc := 29) dX1_wakeEach_29 rfl g (by decide) (by decide)
    · replace g := g.2 c2
      refine aw_aload_n (pc := 16) dX1_wakeEach_16 rfl ?_
      refine aw_getr (pc := 17) (r := some (p + 5)) dX1_wakeEach_17 fl_X1_24 (by decide) rfl kp rp_awake ?_
      refine aw_iload_n (pc := 20) dX1_wakeEach_20 rfl ?_
      refine aw_iconst (pc := 21) dX1_wakeEach_21 ?_
      obtain ⟨s3, g⟩ := g
      refine ax_bastore (pc := 22) (n := 20) dX1_wakeEach_22 kp_awake s3 (by decide) ?_
      obtain ⟨s4, g⟩ := g
      refine ax_iinc (pc := 23) (v' := x1 + 1) (ls' := [some (.inr (some p)), some (.inl (x1 + 1))]) dX1_wakeEach_23 rfl s4 rfl rfl ?_
      refine aw_goto (pc := 26) (tgt := 2) dX1_wakeEach_26 (by decide) ?_
      exact g
set_option maxRecDepth 100000 in
set_option maxHeartbeats 4000000 in
theorem vc_X1_leaveAt {d : Nat} {Q : Option Int → AH → Prop} {h : AH} {p : Nat} {x1 x2 : Int} (hd : 1 ≤ d) (hL : QP h p)
  (g :
    AM (d - 1) m_X1_isCard [(.inr (some p)), (.inl x1)] h (fun r h1 => 
      ∃ v2, r = some v2 ∧ SS h h1 ∧
      ((v2 = 0 → (
        Q none h1
      )) ∧
      (¬ (v2 = 0) → (
        (0 ≤ x1 ∧ x1 < 20) ∧
        Q none (up h1 (p + 2) x1 x2)
      ))))) :
  AM d m_X1_leaveAt [(.inr (some p)), (.inl x1), (.inl x2)] h Q := by
  refine am_body mo_X1_leaveAt (Nat.le_of_ble_eq_true rfl) ?_
  show AW m_X1_leaveAt d none Q 0 [some (.inr (some p)), some (.inl x1), some (.inl x2)] [] h (0, 0)
  obtain ⟨kp, rp_names, kp_names, rp_asksToGo, kp_asksToGo, rp_tellings, kp_tellings, rp_slots, kp_slots, rp_awake, kp_awake, rp_answering, kp_answering⟩ := id hL
  refine aw_aload_n (pc := 0) dX1_leaveAt_0 rfl ?_
  refine aw_iload_n (pc := 1) dX1_leaveAt_1 rfl ?_
  refine aw_invV (pc := 2) (md' := m_X1_isCard) (ci := 1) (as := [(.inl x1)]) dX1_leaveAt_2 mo_X1_isCard im_X1_isCard se_X1_isCard ml_X1_35 rfl kp rfl hd (Nat.le_of_ble_eq_true rfl) (Nat.le_of_ble_eq_true rfl) (Nat.le_of_ble_eq_true rfl) ?_
  refine am_mono g (fun _ h1 _ ok_h1 g => ?_)
  obtain ⟨v2, rfl, ss_h1, g⟩ := g
  replace hL := QP.ss hL ss_h1
  obtain ⟨kp, rp_names, kp_names, rp_asksToGo, kp_asksToGo, rp_tellings, kp_tellings, rp_slots, kp_slots, rp_awake, kp_awake, rp_answering, kp_answering⟩ := id hL
  show AW m_X1_leaveAt d none Q 5 [some (.inr (some p)), some (.inl x1), some (.inl x2)] [(.inl v2)] h1 (0, 0)
  refine aw_if_eq (pc := 5) (tgt := 15) dX1_leaveAt_5 (by decide) (fun c3 => ?_) (fun c3 => ?_)
  · replace g := g.1 c3
    exact aw_return (pc := 15) dX1_leaveAt_15 rfl g (by decide) (by decide)
  · replace g := g.2 c3
    refine aw_aload_n (pc := 8) dX1_leaveAt_8 rfl ?_
    refine aw_getr (pc := 9) (r := some (p + 2)) dX1_leaveAt_9 fl_X1_15 (by decide) rfl kp rp_asksToGo ?_
    refine aw_iload_n (pc := 12) dX1_leaveAt_12 rfl ?_
    refine aw_iload_n (pc := 13) dX1_leaveAt_13 rfl ?_
    obtain ⟨s4, g⟩ := g
    refine ax_iastore (pc := 14) (n := 20) dX1_leaveAt_14 kp_asksToGo s4 ?_
    exact aw_return (pc := 15) dX1_leaveAt_15 rfl g (by decide) (by decide)
set_option maxRecDepth 100000 in
set_option maxHeartbeats 4000000 in
theorem vc_X1_tellAt {d : Nat} {Q : Option Int → AH → Prop} {h : AH} {p : Nat} {x1 : Int} (hd : 1 ≤ d) (hL : QP h p)
  (g :
    AM (d - 1) m_X1_isCard [(.inr (some p)), (.inl x1)] h (fun r h1 => 
      ∃ v2, r = some v2 ∧ SS h h1 ∧
      ((v2 = 0 → (
        Q none h1
      )) ∧
      (¬ (v2 = 0) → (
        (0 ≤ x1 ∧ x1 < 20) ∧
        Q none (up h1 (p + 3) x1 (w ((hi h1 (p + 3) x1) + 1)))
      ))))) :
  AM d m_X1_tellAt [(.inr (some p)), (.inl x1)] h Q := by
  refine am_body mo_X1_tellAt (Nat.le_of_ble_eq_true rfl) ?_
  show AW m_X1_tellAt d none Q 0 [some (.inr (some p)), some (.inl x1)] [] h (0, 0)
  obtain ⟨kp, rp_names, kp_names, rp_asksToGo, kp_asksToGo, rp_tellings, kp_tellings, rp_slots, kp_slots, rp_awake, kp_awake, rp_answering, kp_answering⟩ := id hL
  refine aw_aload_n (pc := 0) dX1_tellAt_0 rfl ?_
  refine aw_iload_n (pc := 1) dX1_tellAt_1 rfl ?_
  refine aw_invV (pc := 2) (md' := m_X1_isCard) (ci := 1) (as := [(.inl x1)]) dX1_tellAt_2 mo_X1_isCard im_X1_isCard se_X1_isCard ml_X1_35 rfl kp rfl hd (Nat.le_of_ble_eq_true rfl) (Nat.le_of_ble_eq_true rfl) (Nat.le_of_ble_eq_true rfl) ?_
  refine am_mono g (fun _ h1 _ ok_h1 g => ?_)
  obtain ⟨v2, rfl, ss_h1, g⟩ := g
  replace hL := QP.ss hL ss_h1
  obtain ⟨kp, rp_names, kp_names, rp_asksToGo, kp_asksToGo, rp_tellings, kp_tellings, rp_slots, kp_slots, rp_awake, kp_awake, rp_answering, kp_answering⟩ := id hL
  show AW m_X1_tellAt d none Q 5 [some (.inr (some p)), some (.inl x1)] [(.inl v2)] h1 (0, 0)
  refine aw_if_eq (pc := 5) (tgt := 18) dX1_tellAt_5 (by decide) (fun c3 => ?_) (fun c3 => ?_)
  · replace g := g.1 c3
    exact aw_return (pc := 18) dX1_tellAt_18 rfl g (by decide) (by decide)
  · replace g := g.2 c3
    refine aw_aload_n (pc := 8) dX1_tellAt_8 rfl ?_
    refine aw_getr (pc := 9) (r := some (p + 3)) dX1_tellAt_9 fl_X1_18 (by decide) rfl kp rp_tellings ?_
    refine aw_iload_n (pc := 12) dX1_tellAt_12 rfl ?_
    refine aw_dup2 (pc := 13) dX1_tellAt_13 ?_
    obtain ⟨s4, g⟩ := g
    refine ax_iaload (pc := 14) (n := 20) (v := hi h1 (p + 3) x1) dX1_tellAt_14 kp_tellings s4 rfl ?_
    refine aw_iconst (pc := 15) dX1_tellAt_15 ?_
    refine aw_iadd_w (pc := 16) dX1_tellAt_16 ?_
    refine ax_iastore (pc := 17) (n := 20) dX1_tellAt_17 kp_tellings s4 ?_
    exact aw_return (pc := 18) dX1_tellAt_18 rfl g (by decide) (by decide)
set_option maxRecDepth 100000 in
set_option maxHeartbeats 4000000 in
theorem vc_X1_slotAt {d : Nat} {Q : Option Int → AH → Prop} {h : AH} {p : Nat} {x1 x2 : Int} (hd : 1 ≤ d) (hL : QP h p)
  (g :
    AM (d - 1) m_X1_isCard [(.inr (some p)), (.inl x1)] h (fun r h1 => 
      ∃ v2, r = some v2 ∧ SS h h1 ∧
      ((v2 = 0 → (
        Q none h1
      )) ∧
      (¬ (v2 = 0) → (
        (0 ≤ x1 ∧ x1 < 20) ∧
        Q none (up h1 (p + 4) x1 x2)
      ))))) :
  AM d m_X1_slotAt [(.inr (some p)), (.inl x1), (.inl x2)] h Q := by
  refine am_body mo_X1_slotAt (Nat.le_of_ble_eq_true rfl) ?_
  show AW m_X1_slotAt d none Q 0 [some (.inr (some p)), some (.inl x1), some (.inl x2)] [] h (0, 0)
  obtain ⟨kp, rp_names, kp_names, rp_asksToGo, kp_asksToGo, rp_tellings, kp_tellings, rp_slots, kp_slots, rp_awake, kp_awake, rp_answering, kp_answering⟩ := id hL
  refine aw_aload_n (pc := 0) dX1_slotAt_0 rfl ?_
  refine aw_iload_n (pc := 1) dX1_slotAt_1 rfl ?_
  refine aw_invV (pc := 2) (md' := m_X1_isCard) (ci := 1) (as := [(.inl x1)]) dX1_slotAt_2 mo_X1_isCard im_X1_isCard se_X1_isCard ml_X1_35 rfl kp rfl hd (Nat.le_of_ble_eq_true rfl) (Nat.le_of_ble_eq_true rfl) (Nat.le_of_ble_eq_true rfl) ?_
  refine am_mono g (fun _ h1 _ ok_h1 g => ?_)
  obtain ⟨v2, rfl, ss_h1, g⟩ := g
  replace hL := QP.ss hL ss_h1
  obtain ⟨kp, rp_names, kp_names, rp_asksToGo, kp_asksToGo, rp_tellings, kp_tellings, rp_slots, kp_slots, rp_awake, kp_awake, rp_answering, kp_answering⟩ := id hL
  show AW m_X1_slotAt d none Q 5 [some (.inr (some p)), some (.inl x1), some (.inl x2)] [(.inl v2)] h1 (0, 0)
  refine aw_if_eq (pc := 5) (tgt := 15) dX1_slotAt_5 (by decide) (fun c3 => ?_) (fun c3 => ?_)
  · replace g := g.1 c3
    exact aw_return (pc := 15) dX1_slotAt_15 rfl g (by decide) (by decide)
  · replace g := g.2 c3
    refine aw_aload_n (pc := 8) dX1_slotAt_8 rfl ?_
    refine aw_getr (pc := 9) (r := some (p + 4)) dX1_slotAt_9 fl_X1_21 (by decide) rfl kp rp_slots ?_
    refine aw_iload_n (pc := 12) dX1_slotAt_12 rfl ?_
    refine aw_iload_n (pc := 13) dX1_slotAt_13 rfl ?_
    obtain ⟨s4, g⟩ := g
    refine ax_iastore (pc := 14) (n := 20) dX1_slotAt_14 kp_slots s4 ?_
    exact aw_return (pc := 15) dX1_slotAt_15 rfl g (by decide) (by decide)
set_option maxRecDepth 100000 in
set_option maxHeartbeats 4000000 in
theorem vc_X1_letAnswer {d : Nat} {Q : Option Int → AH → Prop} {h : AH} {p : Nat} {x1 x2 : Int} (hd : 1 ≤ d) (hL : QP h p)
  (g :
    AW m_X1_letAnswer d none Q 2 [some (.inr (some p)), some (.inl x1), some (.inl x2), some (.inl 0)] [] h (0, 0)) :
  AM d m_X1_letAnswer [(.inr (some p)), (.inl x1), (.inl x2)] h Q := by
  refine am_body mo_X1_letAnswer (Nat.le_of_ble_eq_true rfl) ?_
  show AW m_X1_letAnswer d none Q 0 [some (.inr (some p)), some (.inl x1), some (.inl x2), none] [] h (0, 0)
  obtain ⟨kp, rp_names, kp_names, rp_asksToGo, kp_asksToGo, rp_tellings, kp_tellings, rp_slots, kp_slots, rp_awake, kp_awake, rp_answering, kp_answering⟩ := id hL
  refine aw_iconst (pc := 0) dX1_letAnswer_0 ?_
  refine ax_istore_n (pc := 1) (ls' := [some (.inr (some p)), some (.inl x1), some (.inl x2), some (.inl 0)]) dX1_letAnswer_1 (Nat.le_of_ble_eq_true rfl) rfl ?_
  exact g
set_option maxRecDepth 100000 in
set_option maxHeartbeats 4000000 in
theorem vc_X1_letAnswer_2 {d : Nat} {Q : Option Int → AH → Prop} {h : AH} {p : Nat} {x1 x2 x3 : Int} (hd : 1 ≤ d) (hL : QP h p)
  (g :
    ((hi h p 6 ≤ x3 → (
      Q none h
    )) ∧
    (¬ (hi h p 6 ≤ x3) → (
      ((20 ≤ x3 → (
        Q none h
      )) ∧
      (¬ (20 ≤ x3) → (
        (0 ≤ x3 ∧ x3 < 20) ∧
        ((hi h (p + 5) x3 = 0 → (
          (rg (x3 + 1)) ∧
          AW m_X1_letAnswer d none Q 2 [some (.inr (some p)), some (.inl x1), some (.inl x2), some (.inl (x3 + 1))] [] (up h (p + 6) x3 0) (0, 0)
        )) ∧
        (¬ (hi h (p + 5) x3 = 0) → (
          AM (d - 1) m_X6_firstBits [(.inl (hi h (p + 1) x3)), (.inl x1)] h (fun r h6 => 
            ∃ v7, r = some v7 ∧ SS h h6 ∧
            ((¬ v7 = x2 → (
              (rg (x3 + 1)) ∧
              AW m_X1_letAnswer d none Q 2 [some (.inr (some p)), some (.inl x1), some (.inl x2), some (.inl (x3 + 1))] [] (up h6 (p + 6) x3 0) (0, 0)
            )) ∧
            (¬ (¬ v7 = x2) → (
              (rg (x3 + 1)) ∧
              AW m_X1_letAnswer d none Q 2 [some (.inr (some p)), some (.inl x1), some (.inl x2), some (.inl (x3 + 1))] [] (up h6 (p + 6) x3 1) (0, 0)
            ))))
        )))
      )))
    )))) :
  AW m_X1_letAnswer d none Q 2 [some (.inr (some p)), some (.inl x1), some (.inl x2), some (.inl x3)] [] h (0, 0) := by
  obtain ⟨kp, rp_names, kp_names, rp_asksToGo, kp_asksToGo, rp_tellings, kp_tellings, rp_slots, kp_slots, rp_awake, kp_awake, rp_answering, kp_answering⟩ := id hL
  refine aw_iload_n (pc := 2) dX1_letAnswer_2 rfl ?_
  refine aw_aload_n (pc := 3) dX1_letAnswer_3 rfl ?_
  refine ax_geti (pc := 4) (v := hi h p 6) dX1_letAnswer_4 fl_X1_31 (by decide) rfl kp rfl ?_
  refine aw_icmp_ge (pc := 7) (tgt := 56) dX1_letAnswer_7 (by decide) (fun c1 => ?_) (fun c1 => ?_)
  · replace g := g.1 c1
    exact aw_return (pc := 56) dX1_letAnswer_56 rfl g (by decide) (by decide)
  · replace g := g.2 c1
    refine aw_iload_n (pc := 10) dX1_letAnswer_10 rfl ?_
    refine aw_bipush (pc := 11) dX1_letAnswer_11 ?_
    refine aw_icmp_ge (pc := 13) (tgt := 56) dX1_letAnswer_13 (by decide) (fun c2 => ?_) (fun c2 => ?_)
    · replace g := g.1 c2
      exact aw_return (pc := 56) dX1_letAnswer_56 rfl g (by decide) (by decide)
    · replace g := g.2 c2
      refine aw_aload_n (pc := 16) dX1_letAnswer_16 rfl ?_
      refine aw_getr (pc := 17) (r := some (p + 6)) dX1_letAnswer_17 fl_X1_28 (by decide) rfl kp rp_answering ?_
      refine aw_iload_n (pc := 20) dX1_letAnswer_20 rfl ?_
      refine aw_aload_n (pc := 21) dX1_letAnswer_21 rfl ?_
      refine aw_getr (pc := 22) (r := some (p + 5)) dX1_letAnswer_22 fl_X1_24 (by decide) rfl kp rp_awake ?_
      refine aw_iload_n (pc := 25) dX1_letAnswer_25 rfl ?_
      obtain ⟨s3, g⟩ := g
      refine ax_baload (pc := 26) (n := 20) (v := hi h (p + 5) x3) dX1_letAnswer_26 kp_awake s3 rfl ?_
      refine aw_if_eq (pc := 27) (tgt := 48) dX1_letAnswer_27 (by decide) (fun c4 => ?_) (fun c4 => ?_)
      · replace g := g.1 c4
        refine aw_iconst (pc := 48) dX1_letAnswer_48 ?_
        refine ax_bastore (pc := 49) (n := 20) dX1_letAnswer_49 kp_answering s3 (by decide) ?_
        obtain ⟨s5, g⟩ := g
        refine ax_iinc (pc := 50) (v' := x3 + 1) (ls' := [some (.inr (some p)), some (.inl x1), some (.inl x2), some (.inl (x3 + 1))]) dX1_letAnswer_50 rfl s5 rfl rfl ?_
        refine aw_goto (pc := 53) (tgt := 2) dX1_letAnswer_53 (by decide) ?_
        exact g
      · replace g := g.2 c4
        refine aw_aload_n (pc := 30) dX1_letAnswer_30 rfl ?_
        refine aw_getr (pc := 31) (r := some (p + 1)) dX1_letAnswer_31 fl_X1_9 (by decide) rfl kp rp_names ?_
        refine aw_iload_n (pc := 34) dX1_letAnswer_34 rfl ?_
        refine ax_iaload (pc := 35) (n := 20) (v := hi h (p + 1) x3) dX1_letAnswer_35 kp_names s3 rfl ?_
        refine aw_iload_n (pc := 36) dX1_letAnswer_36 rfl ?_
        refine aw_invSN (pc := 37) (md' := m_X6_firstBits) (as := [(.inl (hi h (p + 1) x3)), (.inl x1)]) dX1_letAnswer_37 mo_X6_firstBits sm_X6_firstBits nl_X1_52 rfl hd (Nat.le_of_ble_eq_true rfl) (Nat.le_of_ble_eq_true rfl) (Nat.le_of_ble_eq_true rfl) ?_
        refine am_mono g (fun _ h6 _ ok_h6 g => ?_)
        obtain ⟨v7, rfl, ss_h6, g⟩ := g
        replace hL := QP.ss hL ss_h6
        obtain ⟨kp, rp_names, kp_names, rp_asksToGo, kp_asksToGo, rp_tellings, kp_tellings, rp_slots, kp_slots, rp_awake, kp_awake, rp_answering, kp_answering⟩ := id hL
        show AW m_X1_letAnswer d none Q 40 [some (.inr (some p)), some (.inl x1), some (.inl x2), some (.inl x3)] [(.inl v7), (.inl x3), (.inr (some (p + 6)))] h6 (0, 0)
        refine aw_iload_n (pc := 40) dX1_letAnswer_40 rfl ?_
        refine aw_icmp_ne (pc := 41) (tgt := 48) dX1_letAnswer_41 (by decide) (fun c8 => ?_) (fun c8 => ?_)
        · replace g := g.1 c8
          refine aw_iconst (pc := 48) dX1_letAnswer_48 ?_
          refine ax_bastore (pc := 49) (n := 20) dX1_letAnswer_49 kp_answering s3 (by decide) ?_
          obtain ⟨s9, g⟩ := g
          refine ax_iinc (pc := 50) (v' := x3 + 1) (ls' := [some (.inr (some p)), some (.inl x1), some (.inl x2), some (.inl (x3 + 1))]) dX1_letAnswer_50 rfl s9 rfl rfl ?_
          refine aw_goto (pc := 53) (tgt := 2) dX1_letAnswer_53 (by decide) ?_
          exact g
        · replace g := g.2 c8
          refine aw_iconst (pc := 44) dX1_letAnswer_44 ?_
          refine aw_goto (pc := 45) (tgt := 49) dX1_letAnswer_45 (by decide) ?_
          refine ax_bastore (pc := 49) (n := 20) dX1_letAnswer_49 kp_answering s3 (by decide) ?_
          obtain ⟨s10, g⟩ := g
          refine ax_iinc (pc := 50) (v' := x3 + 1) (ls' := [some (.inr (some p)), some (.inl x1), some (.inl x2), some (.inl (x3 + 1))]) dX1_letAnswer_50 rfl s10 rfl rfl ?_
          refine aw_goto (pc := 53) (tgt := 2) dX1_letAnswer_53 (by decide) ?_
          exact g
set_option maxRecDepth 100000 in
set_option maxHeartbeats 4000000 in
theorem vc_X1_letAnswerIn {d : Nat} {Q : Option Int → AH → Prop} {h : AH} {p : Nat} {x1 : Int} (hL : QP h p)
  (g :
    AW m_X1_letAnswerIn d none Q 2 [some (.inr (some p)), some (.inl x1), some (.inl 0)] [] h (0, 0)) :
  AM d m_X1_letAnswerIn [(.inr (some p)), (.inl x1)] h Q := by
  refine am_body mo_X1_letAnswerIn (Nat.le_of_ble_eq_true rfl) ?_
  show AW m_X1_letAnswerIn d none Q 0 [some (.inr (some p)), some (.inl x1), none] [] h (0, 0)
  obtain ⟨kp, rp_names, kp_names, rp_asksToGo, kp_asksToGo, rp_tellings, kp_tellings, rp_slots, kp_slots, rp_awake, kp_awake, rp_answering, kp_answering⟩ := id hL
  refine aw_iconst (pc := 0) dX1_letAnswerIn_0 ?_
  refine ax_istore_n (pc := 1) (ls' := [some (.inr (some p)), some (.inl x1), some (.inl 0)]) dX1_letAnswerIn_1 (Nat.le_of_ble_eq_true rfl) rfl ?_
  exact g
set_option maxRecDepth 100000 in
set_option maxHeartbeats 4000000 in
theorem vc_X1_letAnswerIn_2 {d : Nat} {Q : Option Int → AH → Prop} {h : AH} {p : Nat} {x1 x2 : Int} (hL : QP h p)
  (g :
    ((hi h p 6 ≤ x2 → (
      Q none h
    )) ∧
    (¬ (hi h p 6 ≤ x2) → (
      ((20 ≤ x2 → (
        Q none h
      )) ∧
      (¬ (20 ≤ x2) → (
        (0 ≤ x2 ∧ x2 < 20) ∧
        ((¬ hi h (p + 4) x2 = x1 → (
          (rg (x2 + 1)) ∧
          AW m_X1_letAnswerIn d none Q 2 [some (.inr (some p)), some (.inl x1), some (.inl (x2 + 1))] [] (up h (p + 6) x2 0) (0, 0)
        )) ∧
        (¬ (¬ hi h (p + 4) x2 = x1) → (
          (rg (x2 + 1)) ∧
          AW m_X1_letAnswerIn d none Q 2 [some (.inr (some p)), some (.inl x1), some (.inl (x2 + 1))] [] (up h (p + 6) x2 1) (0, 0)
        )))
      )))
    )))) :
  AW m_X1_letAnswerIn d none Q 2 [some (.inr (some p)), some (.inl x1), some (.inl x2)] [] h (0, 0) := by
  obtain ⟨kp, rp_names, kp_names, rp_asksToGo, kp_asksToGo, rp_tellings, kp_tellings, rp_slots, kp_slots, rp_awake, kp_awake, rp_answering, kp_answering⟩ := id hL
  refine aw_iload_n (pc := 2) dX1_letAnswerIn_2 rfl ?_
  refine aw_aload_n (pc := 3) dX1_letAnswerIn_3 rfl ?_
  refine ax_geti (pc := 4) (v := hi h p 6) dX1_letAnswerIn_4 fl_X1_31 (by decide) rfl kp rfl ?_
  refine aw_icmp_ge (pc := 7) (tgt := 43) dX1_letAnswerIn_7 (by decide) (fun c1 => ?_) (fun c1 => ?_)
  · replace g := g.1 c1
    exact aw_return (pc := 43) dX1_letAnswerIn_43 rfl g (by decide) (by decide)
  · replace g := g.2 c1
    refine aw_iload_n (pc := 10) dX1_letAnswerIn_10 rfl ?_
    refine aw_bipush (pc := 11) dX1_letAnswerIn_11 ?_
    refine aw_icmp_ge (pc := 13) (tgt := 43) dX1_letAnswerIn_13 (by decide) (fun c2 => ?_) (fun c2 => ?_)
    · replace g := g.1 c2
      exact aw_return (pc := 43) dX1_letAnswerIn_43 rfl g (by decide) (by decide)
    · replace g := g.2 c2
      refine aw_aload_n (pc := 16) dX1_letAnswerIn_16 rfl ?_
      refine aw_getr (pc := 17) (r := some (p + 6)) dX1_letAnswerIn_17 fl_X1_28 (by decide) rfl kp rp_answering ?_
      refine aw_iload_n (pc := 20) dX1_letAnswerIn_20 rfl ?_
      refine aw_aload_n (pc := 21) dX1_letAnswerIn_21 rfl ?_
      refine aw_getr (pc := 22) (r := some (p + 4)) dX1_letAnswerIn_22 fl_X1_21 (by decide) rfl kp rp_slots ?_
      refine aw_iload_n (pc := 25) dX1_letAnswerIn_25 rfl ?_
      obtain ⟨s3, g⟩ := g
      refine ax_iaload (pc := 26) (n := 20) (v := hi h (p + 4) x2) dX1_letAnswerIn_26 kp_slots s3 rfl ?_
      refine aw_iload_n (pc := 27) dX1_letAnswerIn_27 rfl ?_
      refine aw_icmp_ne (pc := 28) (tgt := 35) dX1_letAnswerIn_28 (by decide) (fun c4 => ?_) (fun c4 => ?_)
      · replace g := g.1 c4
        refine aw_iconst (pc := 35) dX1_letAnswerIn_35 ?_
        refine ax_bastore (pc := 36) (n := 20) dX1_letAnswerIn_36 kp_answering s3 (by decide) ?_
        obtain ⟨s5, g⟩ := g
        refine ax_iinc (pc := 37) (v' := x2 + 1) (ls' := [some (.inr (some p)), some (.inl x1), some (.inl (x2 + 1))]) dX1_letAnswerIn_37 rfl s5 rfl rfl ?_
        refine aw_goto (pc := 40) (tgt := 2) dX1_letAnswerIn_40 (by decide) ?_
        exact g
      · replace g := g.2 c4
        refine aw_iconst (pc := 31) dX1_letAnswerIn_31 ?_
        refine aw_goto (pc := 32) (tgt := 36) dX1_letAnswerIn_32 (by decide) ?_
        refine ax_bastore (pc := 36) (n := 20) dX1_letAnswerIn_36 kp_answering s3 (by decide) ?_
        obtain ⟨s6, g⟩ := g
        refine ax_iinc (pc := 37) (v' := x2 + 1) (ls' := [some (.inr (some p)), some (.inl x1), some (.inl (x2 + 1))]) dX1_letAnswerIn_37 rfl s6 rfl rfl ?_
        refine aw_goto (pc := 40) (tgt := 2) dX1_letAnswerIn_40 (by decide) ?_
        exact g
set_option maxRecDepth 100000 in
set_option maxHeartbeats 4000000 in
theorem vc_X1_firstAnswering {d : Nat} {Q : Option Int → AH → Prop} {h : AH} {p : Nat} (hL : QP h p)
  (g :
    AW m_X1_firstAnswering d none Q 2 [some (.inr (some p)), some (.inl 0)] [] h (0, 0)) :
  AM d m_X1_firstAnswering [(.inr (some p))] h Q := by
  refine am_body mo_X1_firstAnswering (Nat.le_of_ble_eq_true rfl) ?_
  show AW m_X1_firstAnswering d none Q 0 [some (.inr (some p)), none] [] h (0, 0)
  obtain ⟨kp, rp_names, kp_names, rp_asksToGo, kp_asksToGo, rp_tellings, kp_tellings, rp_slots, kp_slots, rp_awake, kp_awake, rp_answering, kp_answering⟩ := id hL
  refine aw_iconst (pc := 0) dX1_firstAnswering_0 ?_
  refine ax_istore_n (pc := 1) (ls' := [some (.inr (some p)), some (.inl 0)]) dX1_firstAnswering_1 (Nat.le_of_ble_eq_true rfl) rfl ?_
  exact g
set_option maxRecDepth 100000 in
set_option maxHeartbeats 4000000 in
theorem vc_X1_firstAnswering_2 {d : Nat} {Q : Option Int → AH → Prop} {h : AH} {p : Nat} {x1 : Int} (hL : QP h p)
  (g :
    ((hi h p 6 ≤ x1 → (
      Q (some (-1)) h
    )) ∧
    (¬ (hi h p 6 ≤ x1) → (
      ((20 ≤ x1 → (
        Q (some (-1)) h
      )) ∧
      (¬ (20 ≤ x1) → (
        (0 ≤ x1 ∧ x1 < 20) ∧
        ((hi h (p + 6) x1 = 0 → (
          (rg (x1 + 1)) ∧
          AW m_X1_firstAnswering d none Q 2 [some (.inr (some p)), some (.inl (x1 + 1))] [] h (0, 0)
        )) ∧
        (¬ (hi h (p + 6) x1 = 0) → (
          Q (some x1) h
        )))
      )))
    )))) :
  AW m_X1_firstAnswering d none Q 2 [some (.inr (some p)), some (.inl x1)] [] h (0, 0) := by
  obtain ⟨kp, rp_names, kp_names, rp_asksToGo, kp_asksToGo, rp_tellings, kp_tellings, rp_slots, kp_slots, rp_awake, kp_awake, rp_answering, kp_answering⟩ := id hL
  refine aw_iload_n (pc := 2) dX1_firstAnswering_2 rfl ?_
  refine aw_aload_n (pc := 3) dX1_firstAnswering_3 rfl ?_
  refine ax_geti (pc := 4) (v := hi h p 6) dX1_firstAnswering_4 fl_X1_31 (by decide) rfl kp rfl ?_
  refine aw_icmp_ge (pc := 7) (tgt := 33) dX1_firstAnswering_7 (by decide) (fun c1 => ?_) (fun c1 => ?_)
  · replace g := g.1 c1
    refine aw_iconst (pc := 33) dX1_firstAnswering_33 ?_
    exact ax_ireturn (pc := 34) dX1_firstAnswering_34 rfl g (by decide) (by decide)
  · replace g := g.2 c1
    refine aw_iload_n (pc := 10) dX1_firstAnswering_10 rfl ?_
    refine aw_bipush (pc := 11) dX1_firstAnswering_11 ?_
    refine aw_icmp_ge (pc := 13) (tgt := 33) dX1_firstAnswering_13 (by decide) (fun c2 => ?_) (fun c2 => ?_)
    · replace g := g.1 c2
      refine aw_iconst (pc := 33) dX1_firstAnswering_33 ?_
      exact ax_ireturn (pc := 34) dX1_firstAnswering_34 rfl g (by decide) (by decide)
    · replace g := g.2 c2
      refine aw_aload_n (pc := 16) dX1_firstAnswering_16 rfl ?_
      refine aw_getr (pc := 17) (r := some (p + 6)) dX1_firstAnswering_17 fl_X1_28 (by decide) rfl kp rp_answering ?_
      refine aw_iload_n (pc := 20) dX1_firstAnswering_20 rfl ?_
      obtain ⟨s3, g⟩ := g
      refine ax_baload (pc := 21) (n := 20) (v := hi h (p + 6) x1) dX1_firstAnswering_21 kp_answering s3 rfl ?_
      refine aw_if_eq (pc := 22) (tgt := 27) dX1_firstAnswering_22 (by decide) (fun c4 => ?_) (fun c4 => ?_)
      · replace g := g.1 c4
        obtain ⟨s5, g⟩ := g
        refine ax_iinc (pc := 27) (v' := x1 + 1) (ls' := [some (.inr (some p)), some (.inl (x1 + 1))]) dX1_firstAnswering_27 rfl s5 rfl rfl ?_
        refine aw_goto (pc := 30) (tgt := 2) dX1_firstAnswering_30 (by decide) ?_
        exact g
      · replace g := g.2 c4
        refine aw_iload_n (pc := 25) dX1_firstAnswering_25 rfl ?_
        exact ax_ireturn (pc := 26) dX1_firstAnswering_26 rfl g (by decide) (by decide)
set_option maxRecDepth 100000 in
set_option maxHeartbeats 4000000 in
theorem vc_X1_differencesFrom {d : Nat} {Q : Option Int → AH → Prop} {h : AH} {p : Nat} {x1 : Int} (hL : QP h p)
  (g :
    AW m_X1_differencesFrom d none Q 4 [some (.inr (some p)), some (.inl x1), some (.inl 0), some (.inl 0)] [] h (0, 0)) :
  AM d m_X1_differencesFrom [(.inr (some p)), (.inl x1)] h Q := by
  refine am_body mo_X1_differencesFrom (Nat.le_of_ble_eq_true rfl) ?_
  show AW m_X1_differencesFrom d none Q 0 [some (.inr (some p)), some (.inl x1), none, none] [] h (0, 0)
  obtain ⟨kp, rp_names, kp_names, rp_asksToGo, kp_asksToGo, rp_tellings, kp_tellings, rp_slots, kp_slots, rp_awake, kp_awake, rp_answering, kp_answering⟩ := id hL
  refine aw_iconst (pc := 0) dX1_differencesFrom_0 ?_
  refine ax_istore_n (pc := 1) (ls' := [some (.inr (some p)), some (.inl x1), some (.inl 0), none]) dX1_differencesFrom_1 (Nat.le_of_ble_eq_true rfl) rfl ?_
  refine aw_iconst (pc := 2) dX1_differencesFrom_2 ?_
  refine ax_istore_n (pc := 3) (ls' := [some (.inr (some p)), some (.inl x1), some (.inl 0), some (.inl 0)]) dX1_differencesFrom_3 (Nat.le_of_ble_eq_true rfl) rfl ?_
  exact g
set_option maxRecDepth 100000 in
set_option maxHeartbeats 4000000 in
theorem vc_X1_differencesFrom_4 {d : Nat} {Q : Option Int → AH → Prop} {h : AH} {p : Nat} {x1 x2 x3 : Int} (hL : QP h p)
  (g :
    ((hi h p 6 ≤ x3 → (
      Q (some x2) h
    )) ∧
    (¬ (hi h p 6 ≤ x3) → (
      ((20 ≤ x3 → (
        Q (some x2) h
      )) ∧
      (¬ (20 ≤ x3) → (
        (0 ≤ x3 ∧ x3 < 20) ∧
        ((hi h (p + 6) x3 = 0 → (
          (rg (x3 + 1)) ∧
          AW m_X1_differencesFrom d none Q 4 [some (.inr (some p)), some (.inl x1), some (.inl x2), some (.inl (x3 + 1))] [] h (0, 0)
        )) ∧
        (¬ (hi h (p + 6) x3 = 0) → (
          (rg (x3 + 1)) ∧
          AW m_X1_differencesFrom d none Q 4 [some (.inr (some p)), some (.inl x1), some (.inl (orr x2 (xr (hi h (p + 1) x3) x1))), some (.inl (x3 + 1))] [] h (0, 0)
        )))
      )))
    )))) :
  AW m_X1_differencesFrom d none Q 4 [some (.inr (some p)), some (.inl x1), some (.inl x2), some (.inl x3)] [] h (0, 0) := by
  obtain ⟨kp, rp_names, kp_names, rp_asksToGo, kp_asksToGo, rp_tellings, kp_tellings, rp_slots, kp_slots, rp_awake, kp_awake, rp_answering, kp_answering⟩ := id hL
  refine aw_iload_n (pc := 4) dX1_differencesFrom_4 rfl ?_
  refine aw_aload_n (pc := 5) dX1_differencesFrom_5 rfl ?_
  refine ax_geti (pc := 6) (v := hi h p 6) dX1_differencesFrom_6 fl_X1_31 (by decide) rfl kp rfl ?_
  refine aw_icmp_ge (pc := 9) (tgt := 44) dX1_differencesFrom_9 (by decide) (fun c1 => ?_) (fun c1 => ?_)
  · replace g := g.1 c1
    refine aw_iload_n (pc := 44) dX1_differencesFrom_44 rfl ?_
    exact ax_ireturn (pc := 45) dX1_differencesFrom_45 rfl g (by decide) (by decide)
  · replace g := g.2 c1
    refine aw_iload_n (pc := 12) dX1_differencesFrom_12 rfl ?_
    refine aw_bipush (pc := 13) dX1_differencesFrom_13 ?_
    refine aw_icmp_ge (pc := 15) (tgt := 44) dX1_differencesFrom_15 (by decide) (fun c2 => ?_) (fun c2 => ?_)
    · replace g := g.1 c2
      refine aw_iload_n (pc := 44) dX1_differencesFrom_44 rfl ?_
      exact ax_ireturn (pc := 45) dX1_differencesFrom_45 rfl g (by decide) (by decide)
    · replace g := g.2 c2
      refine aw_aload_n (pc := 18) dX1_differencesFrom_18 rfl ?_
      refine aw_getr (pc := 19) (r := some (p + 6)) dX1_differencesFrom_19 fl_X1_28 (by decide) rfl kp rp_answering ?_
      refine aw_iload_n (pc := 22) dX1_differencesFrom_22 rfl ?_
      obtain ⟨s3, g⟩ := g
      refine ax_baload (pc := 23) (n := 20) (v := hi h (p + 6) x3) dX1_differencesFrom_23 kp_answering s3 rfl ?_
      refine aw_if_eq (pc := 24) (tgt := 38) dX1_differencesFrom_24 (by decide) (fun c4 => ?_) (fun c4 => ?_)
      · replace g := g.1 c4
        obtain ⟨s5, g⟩ := g
        refine ax_iinc (pc := 38) (v' := x3 + 1) (ls' := [some (.inr (some p)), some (.inl x1), some (.inl x2), some (.inl (x3 + 1))]) dX1_differencesFrom_38 rfl s5 rfl rfl ?_
        refine aw_goto (pc := 41) (tgt := 4) dX1_differencesFrom_41 (by decide) ?_
        exact g
      · replace g := g.2 c4
        refine aw_iload_n (pc := 27) dX1_differencesFrom_27 rfl ?_
        refine aw_aload_n (pc := 28) dX1_differencesFrom_28 rfl ?_
        refine aw_getr (pc := 29) (r := some (p + 1)) dX1_differencesFrom_29 fl_X1_9 (by decide) rfl kp rp_names ?_
        refine aw_iload_n (pc := 32) dX1_differencesFrom_32 rfl ?_
        refine ax_iaload (pc := 33) (n := 20) (v := hi h (p + 1) x3) dX1_differencesFrom_33 kp_names s3 rfl ?_
        refine aw_iload_n (pc := 34) dX1_differencesFrom_34 rfl ?_
        refine aw_ixor (pc := 35) dX1_differencesFrom_35 ?_
        refine aw_ior (pc := 36) dX1_differencesFrom_36 ?_
        refine ax_istore_n (pc := 37) (ls' := [some (.inr (some p)), some (.inl x1), some (.inl (orr x2 (xr (hi h (p + 1) x3) x1))), some (.inl x3)]) dX1_differencesFrom_37 (Nat.le_of_ble_eq_true rfl) rfl ?_
        obtain ⟨s6, g⟩ := g
        refine ax_iinc (pc := 38) (v' := x3 + 1) (ls' := [some (.inr (some p)), some (.inl x1), some (.inl (orr x2 (xr (hi h (p + 1) x3) x1))), some (.inl (x3 + 1))]) dX1_differencesFrom_38 rfl s6 rfl rfl ?_
        refine aw_goto (pc := 41) (tgt := 4) dX1_differencesFrom_41 (by decide) ?_
        exact g
set_option maxRecDepth 100000 in
set_option maxHeartbeats 4000000 in
theorem vc_X1_passAsk {d : Nat} {Q : Option Int → AH → Prop} {h : AH} {p : Nat} (hd : 1 ≤ d) (hL : QP h p)
  (g :
    AW m_X1_passAsk d none Q 4 [some (.inr (some p)), some (.inl 0), some (.inl 0), none] [] h (0, 0)) :
  AM d m_X1_passAsk [(.inr (some p))] h Q := by
  refine am_body mo_X1_passAsk (Nat.le_of_ble_eq_true rfl) ?_
  show AW m_X1_passAsk d none Q 0 [some (.inr (some p)), none, none, none] [] h (0, 0)
  obtain ⟨kp, rp_names, kp_names, rp_asksToGo, kp_asksToGo, rp_tellings, kp_tellings, rp_slots, kp_slots, rp_awake, kp_awake, rp_answering, kp_answering⟩ := id hL
  refine aw_iconst (pc := 0) dX1_passAsk_0 ?_
  refine ax_istore_n (pc := 1) (ls' := [some (.inr (some p)), some (.inl 0), none, none]) dX1_passAsk_1 (Nat.le_of_ble_eq_true rfl) rfl ?_
  refine aw_iconst (pc := 2) dX1_passAsk_2 ?_
  refine ax_istore_n (pc := 3) (ls' := [some (.inr (some p)), some (.inl 0), some (.inl 0), none]) dX1_passAsk_3 (Nat.le_of_ble_eq_true rfl) rfl ?_
  exact g
set_option maxRecDepth 100000 in
set_option maxHeartbeats 4000000 in
theorem vc_X1_passAsk_4 {d : Nat} {Q : Option Int → AH → Prop} {h : AH} {p : Nat} {x1 x2 : Int} (hd : 1 ≤ d) (hL : QP h p)
  (g :
    ((hi h p 6 ≤ x2 → (
      (rg (x2 - x1)) ∧
      Q (some (x2 - x1)) (up h p 6 x1)
    )) ∧
    (¬ (hi h p 6 ≤ x2) → (
      ((20 ≤ x2 → (
        (rg (x2 - x1)) ∧
        Q (some (x2 - x1)) (up h p 6 x1)
      )) ∧
      (¬ (20 ≤ x2) → (
        (0 ≤ x2 ∧ x2 < 20) ∧
        ((hi h (p + 2) x2 ≤ 0 → (
          ((x2 ≤ x1 → (
            (rg (x1 + 1)) ∧
            (rg (x2 + 1)) ∧
            AW m_X1_passAsk d none Q 4 [some (.inr (some p)), some (.inl (x1 + 1)), some (.inl (x2 + 1)), none] [] h (0, 0)
          )) ∧
          (¬ (x2 ≤ x1) → (
            AM (d - 1) m_X1_moveCard [(.inr (some p)), (.inl x2), (.inl x1)] h (fun r h11 => 
              r = none ∧ SS h h11 ∧
              (rg (x1 + 1)) ∧
              (rg (x2 + 1)) ∧
              AW m_X1_passAsk d none Q 4 [some (.inr (some p)), some (.inl (x1 + 1)), some (.inl (x2 + 1)), none] [] h11 (0, 0))
          )))
        )) ∧
        (¬ (hi h (p + 2) x2 ≤ 0) → (
          (rg ((hi h (p + 2) x2) - 1)) ∧
          ((hi h (p + 2) x2 = 1 → (
            (rg (x2 + 1)) ∧
            AW m_X1_passAsk d none Q 4 [some (.inr (some p)), some (.inl x1), some (.inl (x2 + 1)), none] [] (up h (p + 2) x2 ((hi h (p + 2) x2) - 1)) (0, 0)
          )) ∧
          (¬ (hi h (p + 2) x2 = 1) → (
            ((x2 ≤ x1 → (
              (rg (x1 + 1)) ∧
              (rg (x2 + 1)) ∧
              AW m_X1_passAsk d none Q 4 [some (.inr (some p)), some (.inl (x1 + 1)), some (.inl (x2 + 1)), none] [] (up h (p + 2) x2 ((hi h (p + 2) x2) - 1)) (0, 0)
            )) ∧
            (¬ (x2 ≤ x1) → (
              AM (d - 1) m_X1_moveCard [(.inr (some p)), (.inl x2), (.inl x1)] (up h (p + 2) x2 ((hi h (p + 2) x2) - 1)) (fun r h20 => 
                r = none ∧ SS (up h (p + 2) x2 ((hi h (p + 2) x2) - 1)) h20 ∧
                (rg (x1 + 1)) ∧
                (rg (x2 + 1)) ∧
                AW m_X1_passAsk d none Q 4 [some (.inr (some p)), some (.inl (x1 + 1)), some (.inl (x2 + 1)), none] [] h20 (0, 0))
            )))
          )))
        )))
      )))
    )))) :
  AW m_X1_passAsk d none Q 4 [some (.inr (some p)), some (.inl x1), some (.inl x2), none] [] h (0, 0) := by
  obtain ⟨kp, rp_names, kp_names, rp_asksToGo, kp_asksToGo, rp_tellings, kp_tellings, rp_slots, kp_slots, rp_awake, kp_awake, rp_answering, kp_answering⟩ := id hL
  refine aw_iload_n (pc := 4) dX1_passAsk_4 rfl ?_
  refine aw_aload_n (pc := 5) dX1_passAsk_5 rfl ?_
  refine ax_geti (pc := 6) (v := hi h p 6) dX1_passAsk_6 fl_X1_31 (by decide) rfl kp rfl ?_
  refine aw_icmp_ge (pc := 9) (tgt := 63) dX1_passAsk_9 (by decide) (fun c1 => ?_) (fun c1 => ?_)
  · replace g := g.1 c1
    refine aw_aload_n (pc := 63) dX1_passAsk_63 rfl ?_
    refine aw_iload_n (pc := 64) dX1_passAsk_64 rfl ?_
    refine ax_puti (pc := 65) dX1_passAsk_65 fl_X1_31 (by decide) rfl rfl rfl kp ?_
    refine aw_iload_n (pc := 68) dX1_passAsk_68 rfl ?_
    refine aw_iload_n (pc := 69) dX1_passAsk_69 rfl ?_
    obtain ⟨s2, g⟩ := g
    refine ax_isub (pc := 70) (v := x2 - x1) dX1_passAsk_70 s2 rfl ?_
    exact ax_ireturn (pc := 71) dX1_passAsk_71 rfl g (by decide) (by decide)
  · replace g := g.2 c1
    refine aw_iload_n (pc := 12) dX1_passAsk_12 rfl ?_
    refine aw_bipush (pc := 13) dX1_passAsk_13 ?_
    refine aw_icmp_ge (pc := 15) (tgt := 63) dX1_passAsk_15 (by decide) (fun c3 => ?_) (fun c3 => ?_)
    · replace g := g.1 c3
      refine aw_aload_n (pc := 63) dX1_passAsk_63 rfl ?_
      refine aw_iload_n (pc := 64) dX1_passAsk_64 rfl ?_
      refine ax_puti (pc := 65) dX1_passAsk_65 fl_X1_31 (by decide) rfl rfl rfl kp ?_
      refine aw_iload_n (pc := 68) dX1_passAsk_68 rfl ?_
      refine aw_iload_n (pc := 69) dX1_passAsk_69 rfl ?_
      obtain ⟨s4, g⟩ := g
      refine ax_isub (pc := 70) (v := x2 - x1) dX1_passAsk_70 s4 rfl ?_
      exact ax_ireturn (pc := 71) dX1_passAsk_71 rfl g (by decide) (by decide)
    · replace g := g.2 c3
      refine aw_aload_n (pc := 18) dX1_passAsk_18 rfl ?_
      refine aw_getr (pc := 19) (r := some (p + 2)) dX1_passAsk_19 fl_X1_15 (by decide) rfl kp rp_asksToGo ?_
      refine aw_iload_n (pc := 22) dX1_passAsk_22 rfl ?_
      obtain ⟨s5, g⟩ := g
      refine ax_iaload (pc := 23) (n := 20) (v := hi h (p + 2) x2) dX1_passAsk_23 kp_asksToGo s5 rfl ?_
      refine ax_istore_n (pc := 24) (ls' := [some (.inr (some p)), some (.inl x1), some (.inl x2), some (.inl (hi h (p + 2) x2))]) dX1_passAsk_24 (Nat.le_of_ble_eq_true rfl) rfl ?_
      refine aw_iload_n (pc := 25) dX1_passAsk_25 rfl ?_
      refine aw_if_le (pc := 26) (tgt := 38) dX1_passAsk_26 (by decide) (fun c6 => ?_) (fun c6 => ?_)
      · replace g := g.1 c6
        refine aw_iload_n (pc := 38) dX1_passAsk_38 rfl ?_
        refine aw_iconst (pc := 39) dX1_passAsk_39 ?_
        refine aw_icmp_eq (pc := 40) (tgt := 57) dX1_passAsk_40 (by decide) (fun c7 => False.elim (by omega)) (fun c7 => ?_)
        refine aw_iload_n (pc := 43) dX1_passAsk_43 rfl ?_
        refine aw_iload_n (pc := 44) dX1_passAsk_44 rfl ?_
        refine aw_icmp_ge (pc := 45) (tgt := 54) dX1_passAsk_45 (by decide) (fun c8 => ?_) (fun c8 => ?_)
        · replace g := g.1 c8
          obtain ⟨s9, g⟩ := g
          refine ax_iinc (pc := 54) (v' := x1 + 1) (ls' := [some (.inr (some p)), some (.inl (x1 + 1)), some (.inl x2), some (.inl (hi h (p + 2) x2))]) dX1_passAsk_54 rfl s9 rfl rfl ?_
          obtain ⟨s10, g⟩ := g
          refine ax_iinc (pc := 57) (v' := x2 + 1) (ls' := [some (.inr (some p)), some (.inl (x1 + 1)), some (.inl (x2 + 1)), some (.inl (hi h (p + 2) x2))]) dX1_passAsk_57 rfl s10 rfl rfl ?_
          refine aw_goto (pc := 60) (tgt := 4) dX1_passAsk_60 (by decide) ?_
          exact aw_fewer (show subl [some (.inr (some p)), some (.inl (x1 + 1)), some (.inl (x2 + 1)), none] [some (.inr (some p)), some (.inl (x1 + 1)), some (.inl (x2 + 1)), some (.inl (hi h (p + 2) x2))] from (And.intro rfl (And.intro rfl (And.intro rfl trivial)))) g
        · replace g := g.2 c8
          refine aw_aload_n (pc := 48) dX1_passAsk_48 rfl ?_
          refine aw_iload_n (pc := 49) dX1_passAsk_49 rfl ?_
          refine aw_iload_n (pc := 50) dX1_passAsk_50 rfl ?_
          refine aw_invV (pc := 51) (md' := m_X1_moveCard) (ci := 1) (as := [(.inl x2), (.inl x1)]) dX1_passAsk_51 mo_X1_moveCard im_X1_moveCard se_X1_moveCard ml_X1_55 rfl kp rfl hd (Nat.le_of_ble_eq_true rfl) (Nat.le_of_ble_eq_true rfl) (Nat.le_of_ble_eq_true rfl) ?_
          refine am_mono g (fun _ h11 _ ok_h11 g => ?_)
          obtain ⟨rfl, ss_h11, g⟩ := g
          replace hL := QP.ss hL ss_h11
          obtain ⟨kp, rp_names, kp_names, rp_asksToGo, kp_asksToGo, rp_tellings, kp_tellings, rp_slots, kp_slots, rp_awake, kp_awake, rp_answering, kp_answering⟩ := id hL
          show AW m_X1_passAsk d none Q 54 [some (.inr (some p)), some (.inl x1), some (.inl x2), some (.inl (hi h (p + 2) x2))] [] h11 (0, 0)
          obtain ⟨s12, g⟩ := g
          refine ax_iinc (pc := 54) (v' := x1 + 1) (ls' := [some (.inr (some p)), some (.inl (x1 + 1)), some (.inl x2), some (.inl (hi h (p + 2) x2))]) dX1_passAsk_54 rfl s12 rfl rfl ?_
          obtain ⟨s13, g⟩ := g
          refine ax_iinc (pc := 57) (v' := x2 + 1) (ls' := [some (.inr (some p)), some (.inl (x1 + 1)), some (.inl (x2 + 1)), some (.inl (hi h (p + 2) x2))]) dX1_passAsk_57 rfl s13 rfl rfl ?_
          refine aw_goto (pc := 60) (tgt := 4) dX1_passAsk_60 (by decide) ?_
          exact aw_fewer (show subl [some (.inr (some p)), some (.inl (x1 + 1)), some (.inl (x2 + 1)), none] [some (.inr (some p)), some (.inl (x1 + 1)), some (.inl (x2 + 1)), some (.inl (hi h (p + 2) x2))] from (And.intro rfl (And.intro rfl (And.intro rfl trivial)))) g
      · replace g := g.2 c6
        refine aw_aload_n (pc := 29) dX1_passAsk_29 rfl ?_
        refine aw_getr (pc := 30) (r := some (p + 2)) dX1_passAsk_30 fl_X1_15 (by decide) rfl kp rp_asksToGo ?_
        refine aw_iload_n (pc := 33) dX1_passAsk_33 rfl ?_
        refine aw_iload_n (pc := 34) dX1_passAsk_34 rfl ?_
        refine aw_iconst (pc := 35) dX1_passAsk_35 ?_
        obtain ⟨s14, g⟩ := g
        refine ax_isub (pc := 36) (v := (hi h (p + 2) x2) - 1) dX1_passAsk_36 s14 rfl ?_
        refine ax_iastore (pc := 37) (n := 20) dX1_passAsk_37 kp_asksToGo s5 ?_
        refine aw_iload_n (pc := 38) dX1_passAsk_38 rfl ?_
        refine aw_iconst (pc := 39) dX1_passAsk_39 ?_
        refine aw_icmp_eq (pc := 40) (tgt := 57) dX1_passAsk_40 (by decide) (fun c15 => ?_) (fun c15 => ?_)
        · replace g := g.1 c15
          obtain ⟨s16, g⟩ := g
          refine ax_iinc (pc := 57) (v' := x2 + 1) (ls' := [some (.inr (some p)), some (.inl x1), some (.inl (x2 + 1)), some (.inl (hi h (p + 2) x2))]) dX1_passAsk_57 rfl s16 rfl rfl ?_
          refine aw_goto (pc := 60) (tgt := 4) dX1_passAsk_60 (by decide) ?_
          exact aw_fewer (show subl [some (.inr (some p)), some (.inl x1), some (.inl (x2 + 1)), none] [some (.inr (some p)), some (.inl x1), some (.inl (x2 + 1)), some (.inl (hi h (p + 2) x2))] from (And.intro rfl (And.intro rfl (And.intro rfl trivial)))) g
        · replace g := g.2 c15
          refine aw_iload_n (pc := 43) dX1_passAsk_43 rfl ?_
          refine aw_iload_n (pc := 44) dX1_passAsk_44 rfl ?_
          refine aw_icmp_ge (pc := 45) (tgt := 54) dX1_passAsk_45 (by decide) (fun c17 => ?_) (fun c17 => ?_)
          · replace g := g.1 c17
            obtain ⟨s18, g⟩ := g
            refine ax_iinc (pc := 54) (v' := x1 + 1) (ls' := [some (.inr (some p)), some (.inl (x1 + 1)), some (.inl x2), some (.inl (hi h (p + 2) x2))]) dX1_passAsk_54 rfl s18 rfl rfl ?_
            obtain ⟨s19, g⟩ := g
            refine ax_iinc (pc := 57) (v' := x2 + 1) (ls' := [some (.inr (some p)), some (.inl (x1 + 1)), some (.inl (x2 + 1)), some (.inl (hi h (p + 2) x2))]) dX1_passAsk_57 rfl s19 rfl rfl ?_
            refine aw_goto (pc := 60) (tgt := 4) dX1_passAsk_60 (by decide) ?_
            exact aw_fewer (show subl [some (.inr (some p)), some (.inl (x1 + 1)), some (.inl (x2 + 1)), none] [some (.inr (some p)), some (.inl (x1 + 1)), some (.inl (x2 + 1)), some (.inl (hi h (p + 2) x2))] from (And.intro rfl (And.intro rfl (And.intro rfl trivial)))) g
          · replace g := g.2 c17
            refine aw_aload_n (pc := 48) dX1_passAsk_48 rfl ?_
            refine aw_iload_n (pc := 49) dX1_passAsk_49 rfl ?_
            refine aw_iload_n (pc := 50) dX1_passAsk_50 rfl ?_
            refine aw_invV (pc := 51) (md' := m_X1_moveCard) (ci := 1) (as := [(.inl x2), (.inl x1)]) dX1_passAsk_51 mo_X1_moveCard im_X1_moveCard se_X1_moveCard ml_X1_55 rfl (hkU kp) rfl hd (Nat.le_of_ble_eq_true rfl) (Nat.le_of_ble_eq_true rfl) (Nat.le_of_ble_eq_true rfl) ?_
            refine am_mono g (fun _ h20 _ ok_h20 g => ?_)
            obtain ⟨rfl, ss_h20, g⟩ := g
            replace hL := QP.ss hL (SS.tr (SS.up SS.rf) ss_h20)
            obtain ⟨kp, rp_names, kp_names, rp_asksToGo, kp_asksToGo, rp_tellings, kp_tellings, rp_slots, kp_slots, rp_awake, kp_awake, rp_answering, kp_answering⟩ := id hL
            show AW m_X1_passAsk d none Q 54 [some (.inr (some p)), some (.inl x1), some (.inl x2), some (.inl (hi h (p + 2) x2))] [] h20 (0, 0)
            obtain ⟨s21, g⟩ := g
            refine ax_iinc (pc := 54) (v' := x1 + 1) (ls' := [some (.inr (some p)), some (.inl (x1 + 1)), some (.inl x2), some (.inl (hi h (p + 2) x2))]) dX1_passAsk_54 rfl s21 rfl rfl ?_
            obtain ⟨s22, g⟩ := g
            refine ax_iinc (pc := 57) (v' := x2 + 1) (ls' := [some (.inr (some p)), some (.inl (x1 + 1)), some (.inl (x2 + 1)), some (.inl (hi h (p + 2) x2))]) dX1_passAsk_57 rfl s22 rfl rfl ?_
            refine aw_goto (pc := 60) (tgt := 4) dX1_passAsk_60 (by decide) ?_
            exact aw_fewer (show subl [some (.inr (some p)), some (.inl (x1 + 1)), some (.inl (x2 + 1)), none] [some (.inr (some p)), some (.inl (x1 + 1)), some (.inl (x2 + 1)), some (.inl (hi h (p + 2) x2))] from (And.intro rfl (And.intro rfl (And.intro rfl trivial)))) g
set_option maxRecDepth 100000 in
set_option maxHeartbeats 4000000 in
theorem vc_X3_copyFrom {d : Nat} {Q : Option Int → AH → Prop} {h : AH} {y : Nat} {q1 : Nat} (hL : QY h y) (hL1 : QY h q1) (hdj : y + 1 ≤ q1 ∨ q1 + 1 ≤ y)
  (g :
    Q none (up (up (up (up (up (up (up (up h y 0 (hi h q1 0)) y 1 (hi h q1 1)) y 2 (hi h q1 2)) y 3 (hi h q1 3)) y 4 (hi h q1 4)) y 5 (hi h q1 5)) y 6 (hi h q1 6)) y 7 (hi h q1 7))) :
  AM d m_X3_copyFrom [(.inr (some y)), (.inr (some q1))] h Q := by
  refine am_body mo_X3_copyFrom (Nat.le_of_ble_eq_true rfl) ?_
  show AW m_X3_copyFrom d none Q 0 [some (.inr (some y)), some (.inr (some q1))] [] h (0, 0)
  have ky := id hL
  have kq1 := id hL1
  refine aw_aload_n (pc := 0) dX3_copyFrom_0 rfl ?_
  refine aw_ifnonnull (pc := 1) (tgt := 5) dX3_copyFrom_1 (by decide) (fun _ => ?_) (fun q => by cases q)
  refine aw_aload_n (pc := 5) dX3_copyFrom_5 rfl ?_
  refine aw_aload_n (pc := 6) dX3_copyFrom_6 rfl ?_
  refine ax_geti (pc := 7) (v := hi h q1 0) dX3_copyFrom_7 fl_X3_9 (by decide) rfl kq1 rfl ?_
  refine ax_puti (pc := 10) dX3_copyFrom_10 fl_X3_9 (by decide) rfl rfl rfl ky ?_
  refine aw_aload_n (pc := 13) dX3_copyFrom_13 rfl ?_
  refine aw_aload_n (pc := 14) dX3_copyFrom_14 rfl ?_
  refine ax_geti (pc := 15) (v := hi h q1 1) dX3_copyFrom_15 fl_X3_15 (by decide) rfl (hkU kq1) (hiN (Or.inl (by omega)) rfl) ?_
  refine ax_puti (pc := 18) dX3_copyFrom_18 fl_X3_15 (by decide) rfl rfl rfl (hkU ky) ?_
  refine aw_aload_n (pc := 21) dX3_copyFrom_21 rfl ?_
  refine aw_aload_n (pc := 22) dX3_copyFrom_22 rfl ?_
  refine ax_geti (pc := 23) (v := hi h q1 2) dX3_copyFrom_23 fl_X3_18 (by decide) rfl (hkU (hkU kq1)) (hiN (Or.inl (by omega)) (hiN (Or.inl (by omega)) rfl)) ?_
  refine ax_puti (pc := 26) dX3_copyFrom_26 fl_X3_18 (by decide) rfl rfl rfl (hkU (hkU ky)) ?_
  refine aw_aload_n (pc := 29) dX3_copyFrom_29 rfl ?_
  refine aw_aload_n (pc := 30) dX3_copyFrom_30 rfl ?_
  refine ax_geti (pc := 31) (v := hi h q1 3) dX3_copyFrom_31 fl_X3_21 (by decide) rfl (hkU (hkU (hkU kq1))) (hiN (Or.inl (by omega)) (hiN (Or.inl (by omega)) (hiN (Or.inl (by omega)) rfl))) ?_
  refine ax_puti (pc := 34) dX3_copyFrom_34 fl_X3_21 (by decide) rfl rfl rfl (hkU (hkU (hkU ky))) ?_
  refine aw_aload_n (pc := 37) dX3_copyFrom_37 rfl ?_
  refine aw_aload_n (pc := 38) dX3_copyFrom_38 rfl ?_
  refine ax_geti (pc := 39) (v := hi h q1 4) dX3_copyFrom_39 fl_X3_24 (by decide) rfl (hkU (hkU (hkU (hkU kq1)))) (hiN (Or.inl (by omega)) (hiN (Or.inl (by omega)) (hiN (Or.inl (by omega)) (hiN (Or.inl (by omega)) rfl)))) ?_
  refine ax_puti (pc := 42) dX3_copyFrom_42 fl_X3_24 (by decide) rfl rfl rfl (hkU (hkU (hkU (hkU ky)))) ?_
  refine aw_aload_n (pc := 45) dX3_copyFrom_45 rfl ?_
  refine aw_aload_n (pc := 46) dX3_copyFrom_46 rfl ?_
  refine ax_geti (pc := 47) (v := hi h q1 5) dX3_copyFrom_47 fl_X3_27 (by decide) rfl (hkU (hkU (hkU (hkU (hkU kq1))))) (hiN (Or.inl (by omega)) (hiN (Or.inl (by omega)) (hiN (Or.inl (by omega)) (hiN (Or.inl (by omega)) (hiN (Or.inl (by omega)) rfl))))) ?_
  refine ax_puti (pc := 50) dX3_copyFrom_50 fl_X3_27 (by decide) rfl rfl rfl (hkU (hkU (hkU (hkU (hkU ky))))) ?_
  refine aw_aload_n (pc := 53) dX3_copyFrom_53 rfl ?_
  refine aw_aload_n (pc := 54) dX3_copyFrom_54 rfl ?_
  refine ax_geti (pc := 55) (v := hi h q1 6) dX3_copyFrom_55 fl_X3_30 (by decide) rfl (hkU (hkU (hkU (hkU (hkU (hkU kq1)))))) (hiN (Or.inl (by omega)) (hiN (Or.inl (by omega)) (hiN (Or.inl (by omega)) (hiN (Or.inl (by omega)) (hiN (Or.inl (by omega)) (hiN (Or.inl (by omega)) rfl)))))) ?_
  refine ax_puti (pc := 58) dX3_copyFrom_58 fl_X3_30 (by decide) rfl rfl rfl (hkU (hkU (hkU (hkU (hkU (hkU ky)))))) ?_
  refine aw_aload_n (pc := 61) dX3_copyFrom_61 rfl ?_
  refine aw_aload_n (pc := 62) dX3_copyFrom_62 rfl ?_
  refine ax_geti (pc := 63) (v := hi h q1 7) dX3_copyFrom_63 fl_X3_33 (by decide) rfl (hkU (hkU (hkU (hkU (hkU (hkU (hkU kq1))))))) (hiN (Or.inl (by omega)) (hiN (Or.inl (by omega)) (hiN (Or.inl (by omega)) (hiN (Or.inl (by omega)) (hiN (Or.inl (by omega)) (hiN (Or.inl (by omega)) (hiN (Or.inl (by omega)) rfl))))))) ?_
  refine ax_puti (pc := 66) dX3_copyFrom_66 fl_X3_33 (by decide) rfl rfl rfl (hkU (hkU (hkU (hkU (hkU (hkU (hkU ky))))))) ?_
  exact aw_return (pc := 69) dX3_copyFrom_69 rfl g (by decide) (by decide)
set_option maxRecDepth 100000 in
set_option maxHeartbeats 4000000 in
theorem vc_X3_numberOf {d : Nat} {Q : Option Int → AH → Prop} {h : AH} {y : Nat} {x1 : Int} (hL : QY h y)
  (g :
    (((x1 < 4 ∨ 14 < x1 ∨ x1 = 11 ∨ x1 = 12 ∨ x1 = 13) → (
      Q (some (-2)) h
    )) ∧
    (((x1 = 4) → (
      Q (some (hi h y 0)) h
    )) ∧
    (((x1 = 5) → (
      Q (some (hi h y 1)) h
    )) ∧
    (((x1 = 6) → (
      Q (some (hi h y 2)) h
    )) ∧
    (((x1 = 7) → (
      Q (some (hi h y 3)) h
    )) ∧
    (((x1 = 8) → (
      Q (some (hi h y 4)) h
    )) ∧
    (((x1 = 9) → (
      Q (some (hi h y 5)) h
    )) ∧
    (((x1 = 10) → (
      Q (some (hi h y 6)) h
    )) ∧
    (((x1 = 14) → (
      Q (some (hi h y 7)) h
    )))))))))))) :
  AM d m_X3_numberOf [(.inr (some y)), (.inl x1)] h Q := by
  refine am_body mo_X3_numberOf (Nat.le_of_ble_eq_true rfl) ?_
  show AW m_X3_numberOf d none Q 0 [some (.inr (some y)), some (.inl x1)] [] h (0, 0)
  have ky := id hL
  refine aw_iload_n (pc := 0) dX3_numberOf_0 rfl ?_
  by_cases c1 : x1 < 4 ∨ 14 < x1
  · replace g := g.1 (by omega)
    refine aw_tblOut (pc := 1) (tgt := 100) dX3_numberOf_1 c1 (by decide) ?_
    refine aw_bipush (pc := 100) dX3_numberOf_100 ?_
    exact ax_ireturn (pc := 102) dX3_numberOf_102 rfl g (by decide) (by decide)
  · have g0 := g.1
    replace g := g.2
    by_cases c2 : x1 = 11
    · replace g := g0 (by omega)
      refine aw_tblIn (pc := 1) (tgt := 100) dX3_numberOf_1 (by omega) (by omega) (by rw [c2]; rfl) (by decide) ?_
      refine aw_bipush (pc := 100) dX3_numberOf_100 ?_
      exact ax_ireturn (pc := 102) dX3_numberOf_102 rfl g (by decide) (by decide)
    by_cases c3 : x1 = 12
    · replace g := g0 (by omega)
      refine aw_tblIn (pc := 1) (tgt := 100) dX3_numberOf_1 (by omega) (by omega) (by rw [c3]; rfl) (by decide) ?_
      refine aw_bipush (pc := 100) dX3_numberOf_100 ?_
      exact ax_ireturn (pc := 102) dX3_numberOf_102 rfl g (by decide) (by decide)
    by_cases c4 : x1 = 13
    · replace g := g0 (by omega)
      refine aw_tblIn (pc := 1) (tgt := 100) dX3_numberOf_1 (by omega) (by omega) (by rw [c4]; rfl) (by decide) ?_
      refine aw_bipush (pc := 100) dX3_numberOf_100 ?_
      exact ax_ireturn (pc := 102) dX3_numberOf_102 rfl g (by decide) (by decide)
    by_cases c5 : x1 = 4
    · replace g := g.1 c5
      refine aw_tblIn (pc := 1) (tgt := 60) (off := 59) dX3_numberOf_1 (by omega) (by omega) (by rw [c5]; rfl) (by decide) ?_
      refine aw_aload_n (pc := 60) dX3_numberOf_60 rfl ?_
      refine ax_geti (pc := 61) (v := hi h y 0) dX3_numberOf_61 fl_X3_9 (by decide) rfl ky rfl ?_
      exact ax_ireturn (pc := 64) dX3_numberOf_64 rfl g (by decide) (by decide)
    replace g := g.2
    by_cases c6 : x1 = 5
    · replace g := g.1 c6
      refine aw_tblIn (pc := 1) (tgt := 65) (off := 64) dX3_numberOf_1 (by omega) (by omega) (by rw [c6]; rfl) (by decide) ?_
      refine aw_aload_n (pc := 65) dX3_numberOf_65 rfl ?_
      refine ax_geti (pc := 66) (v := hi h y 1) dX3_numberOf_66 fl_X3_15 (by decide) rfl ky rfl ?_
      exact ax_ireturn (pc := 69) dX3_numberOf_69 rfl g (by decide) (by decide)
    replace g := g.2
    by_cases c7 : x1 = 6
    · replace g := g.1 c7
      refine aw_tblIn (pc := 1) (tgt := 70) (off := 69) dX3_numberOf_1 (by omega) (by omega) (by rw [c7]; rfl) (by decide) ?_
      refine aw_aload_n (pc := 70) dX3_numberOf_70 rfl ?_
      refine ax_geti (pc := 71) (v := hi h y 2) dX3_numberOf_71 fl_X3_18 (by decide) rfl ky rfl ?_
      exact ax_ireturn (pc := 74) dX3_numberOf_74 rfl g (by decide) (by decide)
    replace g := g.2
    by_cases c8 : x1 = 7
    · replace g := g.1 c8
      refine aw_tblIn (pc := 1) (tgt := 75) (off := 74) dX3_numberOf_1 (by omega) (by omega) (by rw [c8]; rfl) (by decide) ?_
      refine aw_aload_n (pc := 75) dX3_numberOf_75 rfl ?_
      refine ax_geti (pc := 76) (v := hi h y 3) dX3_numberOf_76 fl_X3_21 (by decide) rfl ky rfl ?_
      exact ax_ireturn (pc := 79) dX3_numberOf_79 rfl g (by decide) (by decide)
    replace g := g.2
    by_cases c9 : x1 = 8
    · replace g := g.1 c9
      refine aw_tblIn (pc := 1) (tgt := 80) (off := 79) dX3_numberOf_1 (by omega) (by omega) (by rw [c9]; rfl) (by decide) ?_
      refine aw_aload_n (pc := 80) dX3_numberOf_80 rfl ?_
      refine ax_geti (pc := 81) (v := hi h y 4) dX3_numberOf_81 fl_X3_24 (by decide) rfl ky rfl ?_
      exact ax_ireturn (pc := 84) dX3_numberOf_84 rfl g (by decide) (by decide)
    replace g := g.2
    by_cases c10 : x1 = 9
    · replace g := g.1 c10
      refine aw_tblIn (pc := 1) (tgt := 85) (off := 84) dX3_numberOf_1 (by omega) (by omega) (by rw [c10]; rfl) (by decide) ?_
      refine aw_aload_n (pc := 85) dX3_numberOf_85 rfl ?_
      refine ax_geti (pc := 86) (v := hi h y 5) dX3_numberOf_86 fl_X3_27 (by decide) rfl ky rfl ?_
      exact ax_ireturn (pc := 89) dX3_numberOf_89 rfl g (by decide) (by decide)
    replace g := g.2
    by_cases c11 : x1 = 10
    · replace g := g.1 c11
      refine aw_tblIn (pc := 1) (tgt := 90) (off := 89) dX3_numberOf_1 (by omega) (by omega) (by rw [c11]; rfl) (by decide) ?_
      refine aw_aload_n (pc := 90) dX3_numberOf_90 rfl ?_
      refine ax_geti (pc := 91) (v := hi h y 6) dX3_numberOf_91 fl_X3_30 (by decide) rfl ky rfl ?_
      exact ax_ireturn (pc := 94) dX3_numberOf_94 rfl g (by decide) (by decide)
    replace g := g.2
    have c12 : x1 = 14 := by omega
    replace g := g c12
    refine aw_tblIn (pc := 1) (tgt := 95) (off := 94) dX3_numberOf_1 (by omega) (by omega) (by rw [c12]; rfl) (by decide) ?_
    refine aw_aload_n (pc := 95) dX3_numberOf_95 rfl ?_
    refine ax_geti (pc := 96) (v := hi h y 7) dX3_numberOf_96 fl_X3_33 (by decide) rfl ky rfl ?_
    exact ax_ireturn (pc := 99) dX3_numberOf_99 rfl g (by decide) (by decide)
set_option maxRecDepth 100000 in
set_option maxHeartbeats 4000000 in
theorem vc_X5_copyFrom {d : Nat} {Q : Option Int → AH → Prop} {h : AH} {t : Nat} {q1 : Nat} (hd : 1 ≤ d) (hL : QT h t) (hL1 : QT h q1) (hdj : t + 2 ≤ q1 ∨ q1 + 2 ≤ t)
  (g :
    Q none (up (cpy h (q1 + 1) (t + 1) 0 0 200) t 1 (hi h q1 1))) :
  AM d m_X5_copyFrom [(.inr (some t)), (.inr (some q1))] h Q := by
  refine am_body mo_X5_copyFrom (Nat.le_of_ble_eq_true rfl) ?_
  show AW m_X5_copyFrom d none Q 0 [some (.inr (some t)), some (.inr (some q1))] [] h (0, 0)
  obtain ⟨kt, rt_row, kt_row⟩ := id hL
  obtain ⟨kq1, rq1_row, kq1_row⟩ := id hL1
  refine aw_aload_n (pc := 0) dX5_copyFrom_0 rfl ?_
  refine aw_ifnonnull (pc := 1) (tgt := 5) dX5_copyFrom_1 (by decide) (fun _ => ?_) (fun q => by cases q)
  refine aw_aload_n (pc := 5) dX5_copyFrom_5 rfl ?_
  refine aw_getr (pc := 6) (r := some (q1 + 1)) dX5_copyFrom_6 fl_X5_9 (by decide) rfl kq1 rq1_row ?_
  refine aw_iconst (pc := 9) dX5_copyFrom_9 ?_
  refine aw_aload_n (pc := 10) dX5_copyFrom_10 rfl ?_
  refine aw_getr (pc := 11) (r := some (t + 1)) dX5_copyFrom_11 fl_X5_9 (by decide) rfl kt rt_row ?_
  refine aw_iconst (pc := 14) dX5_copyFrom_14 ?_
  refine aw_sipush (pc := 15) dX5_copyFrom_15 ?_
  refine aw_copy (pc := 18) (n0 := 200) (n1 := 200) dX5_copyFrom_18 ml_X5_19 nt_copy sm_copy ii_System kq1_row kt_row (by decide) (by decide) (by decide) (by decide) (by decide) hd (Nat.le_of_ble_eq_true rfl) ?_
  refine aw_aload_n (pc := 21) dX5_copyFrom_21 rfl ?_
  refine aw_aload_n (pc := 22) dX5_copyFrom_22 rfl ?_
  refine ax_geti (pc := 23) (v := hi h q1 1) dX5_copyFrom_23 fl_X5_15 (by decide) rfl (hkC kq1) (hiC (by omega) rfl) ?_
  refine ax_puti (pc := 26) dX5_copyFrom_26 fl_X5_15 (by decide) rfl rfl rfl (hkC kt) ?_
  exact aw_return (pc := 29) dX5_copyFrom_29 rfl g (by decide) (by decide)
set_option maxRecDepth 100000 in
set_option maxHeartbeats 4000000 in
theorem vc_X5_names {d : Nat} {Q : Option Int → AH → Prop} {h : AH} {t : Nat} (hL : QT h t)
  (g :
    Q (some (hi h t 1)) h) :
  AM d m_X5_names [(.inr (some t))] h Q := by
  refine am_body mo_X5_names (Nat.le_of_ble_eq_true rfl) ?_
  show AW m_X5_names d none Q 0 [some (.inr (some t))] [] h (0, 0)
  obtain ⟨kt, rt_row, kt_row⟩ := id hL
  refine aw_aload_n (pc := 0) dX5_names_0 rfl ?_
  refine ax_geti (pc := 1) (v := hi h t 1) dX5_names_1 fl_X5_15 (by decide) rfl kt rfl ?_
  exact ax_ireturn (pc := 4) dX5_names_4 rfl g (by decide) (by decide)
set_option maxRecDepth 100000 in
set_option maxHeartbeats 4000000 in
theorem vc_X5_nameAt {d : Nat} {Q : Option Int → AH → Prop} {h : AH} {t : Nat} {x1 : Int} (hL : QT h t)
  (g :
    ((x1 < 0 → (
      Q (some (-5)) h
    )) ∧
    (¬ (x1 < 0) → (
      ((hi h t 1 ≤ x1 → (
        Q (some (-5)) h
      )) ∧
      (¬ (hi h t 1 ≤ x1) → (
        ((200 ≤ x1 → (
          Q (some (-5)) h
        )) ∧
        (¬ (200 ≤ x1) → (
          (0 ≤ x1 ∧ x1 < 200) ∧
          Q (some (hi h (t + 1) x1)) h
        )))
      )))
    )))) :
  AM d m_X5_nameAt [(.inr (some t)), (.inl x1)] h Q := by
  refine am_body mo_X5_nameAt (Nat.le_of_ble_eq_true rfl) ?_
  show AW m_X5_nameAt d none Q 0 [some (.inr (some t)), some (.inl x1)] [] h (0, 0)
  obtain ⟨kt, rt_row, kt_row⟩ := id hL
  refine aw_iload_n (pc := 0) dX5_nameAt_0 rfl ?_
  refine aw_if_lt (pc := 1) (tgt := 28) dX5_nameAt_1 (by decide) (fun c1 => ?_) (fun c1 => ?_)
  · replace g := g.1 c1
    refine aw_bipush (pc := 28) dX5_nameAt_28 ?_
    exact ax_ireturn (pc := 30) dX5_nameAt_30 rfl g (by decide) (by decide)
  · replace g := g.2 c1
    refine aw_iload_n (pc := 4) dX5_nameAt_4 rfl ?_
    refine aw_aload_n (pc := 5) dX5_nameAt_5 rfl ?_
    refine ax_geti (pc := 6) (v := hi h t 1) dX5_nameAt_6 fl_X5_15 (by decide) rfl kt rfl ?_
    refine aw_icmp_ge (pc := 9) (tgt := 28) dX5_nameAt_9 (by decide) (fun c2 => ?_) (fun c2 => ?_)
    · replace g := g.1 c2
      refine aw_bipush (pc := 28) dX5_nameAt_28 ?_
      exact ax_ireturn (pc := 30) dX5_nameAt_30 rfl g (by decide) (by decide)
    · replace g := g.2 c2
      refine aw_iload_n (pc := 12) dX5_nameAt_12 rfl ?_
      refine aw_sipush (pc := 13) dX5_nameAt_13 ?_
      refine aw_icmp_ge (pc := 16) (tgt := 28) dX5_nameAt_16 (by decide) (fun c3 => ?_) (fun c3 => ?_)
      · replace g := g.1 c3
        refine aw_bipush (pc := 28) dX5_nameAt_28 ?_
        exact ax_ireturn (pc := 30) dX5_nameAt_30 rfl g (by decide) (by decide)
      · replace g := g.2 c3
        refine aw_aload_n (pc := 19) dX5_nameAt_19 rfl ?_
        refine aw_getr (pc := 20) (r := some (t + 1)) dX5_nameAt_20 fl_X5_9 (by decide) rfl kt rt_row ?_
        refine aw_iload_n (pc := 23) dX5_nameAt_23 rfl ?_
        obtain ⟨s4, g⟩ := g
        refine ax_iaload (pc := 24) (n := 200) (v := hi h (t + 1) x1) dX5_nameAt_24 kt_row s4 rfl ?_
        refine aw_goto (pc := 25) (tgt := 30) dX5_nameAt_25 (by decide) ?_
        exact ax_ireturn (pc := 30) dX5_nameAt_30 rfl g (by decide) (by decide)
set_option maxRecDepth 100000 in
set_option maxHeartbeats 4000000 in
theorem vc_X5_add {d : Nat} {Q : Option Int → AH → Prop} {h : AH} {t : Nat} {x1 : Int} (hd : 1 ≤ d) (hL : QT h t)
  (g :
    ((hi h t 1 < 200 → (
      ((hi h t 1 < 0 → (
        Q none h
      )) ∧
      (¬ (hi h t 1 < 0) → (
        (0 ≤ hi h t 1 ∧ hi h t 1 < 200) ∧
        (rg ((hi h t 1) + 1)) ∧
        Q none (up (up h (t + 1) (hi h t 1) x1) t 1 ((hi h t 1) + 1))
      )))
    )) ∧
    (¬ (hi h t 1 < 200) → (
      Q none (up (up (up (cpy h (t + 1) (t + 1) 1 0 199) t 1 199) (t + 1) 199 x1) t 1 200)
    )))) :
  AM d m_X5_add [(.inr (some t)), (.inl x1)] h Q := by
  refine am_body mo_X5_add (Nat.le_of_ble_eq_true rfl) ?_
  show AW m_X5_add d none Q 0 [some (.inr (some t)), some (.inl x1)] [] h (0, 0)
  obtain ⟨kt, rt_row, kt_row⟩ := id hL
  refine aw_aload_n (pc := 0) dX5_add_0 rfl ?_
  refine ax_geti (pc := 1) (v := hi h t 1) dX5_add_1 fl_X5_15 (by decide) rfl kt rfl ?_
  refine aw_sipush (pc := 4) dX5_add_4 ?_
  refine aw_icmp_lt (pc := 7) (tgt := 33) dX5_add_7 (by decide) (fun c1 => ?_) (fun c1 => ?_)
  · replace g := g.1 c1
    refine aw_aload_n (pc := 33) dX5_add_33 rfl ?_
    refine ax_geti (pc := 34) (v := hi h t 1) dX5_add_34 fl_X5_15 (by decide) rfl kt rfl ?_
    refine aw_if_lt (pc := 37) (tgt := 60) dX5_add_37 (by decide) (fun c2 => ?_) (fun c2 => ?_)
    · replace g := g.1 c2
      exact aw_return (pc := 60) dX5_add_60 rfl g (by decide) (by decide)
    · replace g := g.2 c2
      refine aw_aload_n (pc := 40) dX5_add_40 rfl ?_
      refine aw_getr (pc := 41) (r := some (t + 1)) dX5_add_41 fl_X5_9 (by decide) rfl kt rt_row ?_
      refine aw_aload_n (pc := 44) dX5_add_44 rfl ?_
      refine ax_geti (pc := 45) (v := hi h t 1) dX5_add_45 fl_X5_15 (by decide) rfl kt rfl ?_
      refine aw_iload_n (pc := 48) dX5_add_48 rfl ?_
      obtain ⟨s3, g⟩ := g
      refine ax_iastore (pc := 49) (n := 200) dX5_add_49 kt_row s3 ?_
      refine aw_aload_n (pc := 50) dX5_add_50 rfl ?_
      refine aw_dup (pc := 51) dX5_add_51 ?_
      refine ax_geti (pc := 52) (v := hi h t 1) dX5_add_52 fl_X5_15 (by decide) rfl (hkU kt) (hiN (Or.inl (by omega)) rfl) ?_
      refine aw_iconst (pc := 55) dX5_add_55 ?_
      obtain ⟨s4, g⟩ := g
      refine ax_iadd (pc := 56) (v := (hi h t 1) + 1) dX5_add_56 s4 rfl ?_
      refine ax_puti (pc := 57) dX5_add_57 fl_X5_15 (by decide) rfl rfl rfl (hkU kt) ?_
      exact aw_return (pc := 60) dX5_add_60 rfl g (by decide) (by decide)
  · replace g := g.2 c1
    refine aw_aload_n (pc := 10) dX5_add_10 rfl ?_
    refine aw_getr (pc := 11) (r := some (t + 1)) dX5_add_11 fl_X5_9 (by decide) rfl kt rt_row ?_
    refine aw_iconst (pc := 14) dX5_add_14 ?_
    refine aw_aload_n (pc := 15) dX5_add_15 rfl ?_
    refine aw_getr (pc := 16) (r := some (t + 1)) dX5_add_16 fl_X5_9 (by decide) rfl kt rt_row ?_
    refine aw_iconst (pc := 19) dX5_add_19 ?_
    refine aw_sipush (pc := 20) dX5_add_20 ?_
    refine aw_copy (pc := 23) (n0 := 200) (n1 := 200) dX5_add_23 ml_X5_19 nt_copy sm_copy ii_System kt_row kt_row (by decide) (by decide) (by decide) (by decide) (by decide) hd (Nat.le_of_ble_eq_true rfl) ?_
    refine aw_aload_n (pc := 26) dX5_add_26 rfl ?_
    refine aw_sipush (pc := 27) dX5_add_27 ?_
    refine ax_puti (pc := 30) dX5_add_30 fl_X5_15 (by decide) rfl rfl rfl (hkC kt) ?_
    refine aw_aload_n (pc := 33) dX5_add_33 rfl ?_
    refine ax_geti (pc := 34) (v := 199) dX5_add_34 fl_X5_15 (by decide) rfl (hkU (hkC kt)) hiE ?_
    refine aw_if_lt (pc := 37) (tgt := 60) dX5_add_37 (by decide) (fun c5 => False.elim (by omega)) (fun c5 => ?_)
    refine aw_aload_n (pc := 40) dX5_add_40 rfl ?_
    refine aw_getr (pc := 41) (r := some (t + 1)) dX5_add_41 fl_X5_9 (by decide) rfl (hkU (hkC kt)) (hrU (hrC rt_row)) ?_
    refine aw_aload_n (pc := 44) dX5_add_44 rfl ?_
    refine ax_geti (pc := 45) (v := 199) dX5_add_45 fl_X5_15 (by decide) rfl (hkU (hkC kt)) hiE ?_
    refine aw_iload_n (pc := 48) dX5_add_48 rfl ?_
    refine ax_iastore (pc := 49) (n := 200) dX5_add_49 (hkU (hkC kt_row)) (by decide) ?_
    refine aw_aload_n (pc := 50) dX5_add_50 rfl ?_
    refine aw_dup (pc := 51) dX5_add_51 ?_
    refine ax_geti (pc := 52) (v := 199) dX5_add_52 fl_X5_15 (by decide) rfl (hkU (hkU (hkC kt))) (hiN (Or.inl (by omega)) hiE) ?_
    refine aw_iconst (pc := 55) dX5_add_55 ?_
    refine ax_iadd (pc := 56) (v := 200) dX5_add_56 (by decide) (by decide) ?_
    refine ax_puti (pc := 57) dX5_add_57 fl_X5_15 (by decide) rfl rfl rfl (hkU (hkU (hkC kt))) ?_
    exact aw_return (pc := 60) dX5_add_60 rfl g (by decide) (by decide)
set_option maxRecDepth 100000 in
set_option maxHeartbeats 4000000 in
theorem vc_X5_empty {d : Nat} {Q : Option Int → AH → Prop} {h : AH} {t : Nat} (hL : QT h t)
  (g :
    Q none (up h t 1 0)) :
  AM d m_X5_empty [(.inr (some t))] h Q := by
  refine am_body mo_X5_empty (Nat.le_of_ble_eq_true rfl) ?_
  show AW m_X5_empty d none Q 0 [some (.inr (some t))] [] h (0, 0)
  obtain ⟨kt, rt_row, kt_row⟩ := id hL
  refine aw_aload_n (pc := 0) dX5_empty_0 rfl ?_
  refine aw_iconst (pc := 1) dX5_empty_1 ?_
  refine ax_puti (pc := 2) dX5_empty_2 fl_X5_15 (by decide) rfl rfl rfl kt ?_
  exact aw_return (pc := 5) dX5_empty_5 rfl g (by decide) (by decide)
