set_option maxRecDepth 100000 in
set_option maxHeartbeats 4000000 in
theorem vc_X7_in {d : Nat} {Q : Option Int → AH → Prop} {h : AH} {x0 x1 x2 : Int} 
  (g :
    ((x0 < x1 → (
      Q (some 0) h
    )) ∧
    (¬ (x0 < x1) → (
      ((x2 < x0 → (
        Q (some 0) h
      )) ∧
      (¬ (x2 < x0) → (
        Q (some 1) h
      )))
    )))) :
  AM d m_X7_in [(.inl x0), (.inl x1), (.inl x2)] h Q := by
  refine am_body mo_X7_in (Nat.le_of_ble_eq_true rfl) ?_
  show AW m_X7_in d none Q 0 [some (.inl x0), some (.inl x1), some (.inl x2)] [] h (0, 0)
  refine aw_iload_n (pc := 0) dX7_in_0 rfl ?_
  refine aw_iload_n (pc := 1) dX7_in_1 rfl ?_
  refine aw_icmp_lt (pc := 2) (tgt := 14) dX7_in_2 (by decide) (fun c1 => ?_) (fun c1 => ?_)
  · replace g := g.1 c1
    refine aw_iconst (pc := 14) dX7_in_14 ?_
    exact aw_ireturn (pc := 15) dX7_in_15 (by simp [okr]) g (by decide) (by decide)
  · replace g := g.2 c1
    refine aw_iload_n (pc := 5) dX7_in_5 rfl ?_
    refine aw_iload_n (pc := 6) dX7_in_6 rfl ?_
    refine aw_icmp_gt (pc := 7) (tgt := 14) dX7_in_7 (by decide) (fun c2 => ?_) (fun c2 => ?_)
    · replace g := g.1 c2
      refine aw_iconst (pc := 14) dX7_in_14 ?_
      exact aw_ireturn (pc := 15) dX7_in_15 (by simp [okr]) g (by decide) (by decide)
    · replace g := g.2 c2
      refine aw_iconst (pc := 10) dX7_in_10 ?_
      refine aw_goto (pc := 11) (tgt := 15) dX7_in_11 (by decide) ?_
      exact aw_ireturn (pc := 15) dX7_in_15 (by simp [okr]) g (by decide) (by decide)
set_option maxRecDepth 100000 in
set_option maxHeartbeats 4000000 in
theorem vc_X7_of {d : Nat} {Q : Option Int → AH → Prop} {h : AH} {x1 x2 : Int} (hL : QZ h)
  (g :
    (rg (4 * x1)) ∧
    (rg (13 + (4 * x1))) ∧
    (rg ((13 + (4 * x1)) + x2)) ∧
    (0 ≤ (13 + (4 * x1)) + x2 ∧ (13 + (4 * x1)) + x2 < 293) ∧
    Q (some (hi h 105 ((13 + (4 * x1)) + x2))) h) :
  AM d m_X7_of [(.inr (some 104)), (.inl x1), (.inl x2)] h Q := by
  refine am_body mo_X7_of (Nat.le_of_ble_eq_true rfl) ?_
  show AW m_X7_of d none Q 0 [some (.inr (some 104)), some (.inl x1), some (.inl x2)] [] h (0, 0)
  obtain ⟨ko104, ro104_z, ko104_z, ro104_spare, ko104_spare, ro104_past, ko104_past, ro104_kept, ko104_kept, ro104_text, ko104_text, ro104_stack, ko104_stack, ro104_drew, ko104_drew, ro104_drawn, ko104_drawn, ro104_signs, ko104_signs, ro104_numbers, ko104_numbers⟩ := id hL
  refine aw_aload_n (pc := 0) dX7_of_0 rfl ?_
  refine aw_getr (pc := 1) (r := some 105) dX7_of_1 fl_X7_7 (by decide) rfl ko104 ro104_z ?_
  refine aw_bipush (pc := 4) dX7_of_4 ?_
  refine aw_iconst (pc := 6) dX7_of_6 ?_
  refine aw_iload_n (pc := 7) dX7_of_7 rfl ?_
  obtain ⟨s1, g⟩ := g
  refine ax_imul (pc := 8) (v := 4 * x1) dX7_of_8 s1 rfl ?_
  obtain ⟨s2, g⟩ := g
  refine ax_iadd (pc := 9) (v := 13 + (4 * x1)) dX7_of_9 s2 rfl ?_
  refine aw_iload_n (pc := 10) dX7_of_10 rfl ?_
  obtain ⟨s3, g⟩ := g
  refine ax_iadd (pc := 11) (v := (13 + (4 * x1)) + x2) dX7_of_11 s3 rfl ?_
  obtain ⟨s4, g⟩ := g
  refine ax_iaload (pc := 12) (n := 293) (v := hi h 105 ((13 + (4 * x1)) + x2)) dX7_of_12 ko104_z s4 rfl ?_
  exact ax_ireturn (pc := 13) dX7_of_13 rfl g (by decide) (by decide)
set_option maxRecDepth 100000 in
set_option maxHeartbeats 4000000 in
theorem vc_X7_lay {d : Nat} {Q : Option Int → AH → Prop} {h : AH} {x1 x2 x3 : Int} (hL : QZ h)
  (g :
    (rg (4 * x1)) ∧
    (rg (13 + (4 * x1))) ∧
    (rg ((13 + (4 * x1)) + x2)) ∧
    (0 ≤ (13 + (4 * x1)) + x2 ∧ (13 + (4 * x1)) + x2 < 293) ∧
    Q none (up h 105 ((13 + (4 * x1)) + x2) x3)) :
  AM d m_X7_lay [(.inr (some 104)), (.inl x1), (.inl x2), (.inl x3)] h Q := by
  refine am_body mo_X7_lay (Nat.le_of_ble_eq_true rfl) ?_
  show AW m_X7_lay d none Q 0 [some (.inr (some 104)), some (.inl x1), some (.inl x2), some (.inl x3)] [] h (0, 0)
  obtain ⟨ko104, ro104_z, ko104_z, ro104_spare, ko104_spare, ro104_past, ko104_past, ro104_kept, ko104_kept, ro104_text, ko104_text, ro104_stack, ko104_stack, ro104_drew, ko104_drew, ro104_drawn, ko104_drawn, ro104_signs, ko104_signs, ro104_numbers, ko104_numbers⟩ := id hL
  refine aw_aload_n (pc := 0) dX7_lay_0 rfl ?_
  refine aw_getr (pc := 1) (r := some 105) dX7_lay_1 fl_X7_7 (by decide) rfl ko104 ro104_z ?_
  refine aw_bipush (pc := 4) dX7_lay_4 ?_
  refine aw_iconst (pc := 6) dX7_lay_6 ?_
  refine aw_iload_n (pc := 7) dX7_lay_7 rfl ?_
  obtain ⟨s1, g⟩ := g
  refine ax_imul (pc := 8) (v := 4 * x1) dX7_lay_8 s1 rfl ?_
  obtain ⟨s2, g⟩ := g
  refine ax_iadd (pc := 9) (v := 13 + (4 * x1)) dX7_lay_9 s2 rfl ?_
  refine aw_iload_n (pc := 10) dX7_lay_10 rfl ?_
  obtain ⟨s3, g⟩ := g
  refine ax_iadd (pc := 11) (v := (13 + (4 * x1)) + x2) dX7_lay_11 s3 rfl ?_
  refine aw_iload_n (pc := 12) dX7_lay_12 rfl ?_
  obtain ⟨s4, g⟩ := g
  refine ax_iastore (pc := 13) (n := 293) dX7_lay_13 ko104_z s4 ?_
  exact aw_return (pc := 14) dX7_lay_14 rfl g (by decide) (by decide)
set_option maxRecDepth 100000 in
set_option maxHeartbeats 4000000 in
theorem vc_X7_cardWith {d : Nat} {Q : Option Int → AH → Prop} {h : AH} {x1 : Int} (hd : 1 ≤ d) (hL : QZ h)
  (g :
    AW m_X7_cardWith d none Q 5 [some (.inr (some 104)), some (.inl x1), some (.inl (-5)), some (.inl 0)] [] h (0, 0)) :
  AM d m_X7_cardWith [(.inr (some 104)), (.inl x1)] h Q := by
  refine am_body mo_X7_cardWith (Nat.le_of_ble_eq_true rfl) ?_
  show AW m_X7_cardWith d none Q 0 [some (.inr (some 104)), some (.inl x1), none, none] [] h (0, 0)
  obtain ⟨ko104, ro104_z, ko104_z, ro104_spare, ko104_spare, ro104_past, ko104_past, ro104_kept, ko104_kept, ro104_text, ko104_text, ro104_stack, ko104_stack, ro104_drew, ko104_drew, ro104_drawn, ko104_drawn, ro104_signs, ko104_signs, ro104_numbers, ko104_numbers⟩ := id hL
  refine aw_bipush (pc := 0) dX7_cardWith_0 ?_
  refine ax_istore_n (pc := 2) (ls' := [some (.inr (some 104)), some (.inl x1), some (.inl (-5)), none]) dX7_cardWith_2 (Nat.le_of_ble_eq_true rfl) rfl ?_
  refine aw_iconst (pc := 3) dX7_cardWith_3 ?_
  refine ax_istore_n (pc := 4) (ls' := [some (.inr (some 104)), some (.inl x1), some (.inl (-5)), some (.inl 0)]) dX7_cardWith_4 (Nat.le_of_ble_eq_true rfl) rfl ?_
  exact g
set_option maxRecDepth 100000 in
set_option maxHeartbeats 4000000 in
theorem vc_X7_cardWith_5 {d : Nat} {Q : Option Int → AH → Prop} {h : AH} {x1 x2 x3 : Int} (hd : 1 ≤ d) (hL : QZ h)
  (g :
    ((hi h 105 0 ≤ x3 → (
      Q (some x2) h
    )) ∧
    (¬ (hi h 105 0 ≤ x3) → (
      AM (d - 1) m_X7_of [(.inr (some 104)), (.inl x3), (.inl 0)] h (fun r h2 => 
        ∃ v3, r = some v3 ∧ SS h h2 ∧
        ((¬ v3 = x1 → (
          (rg (x3 + 1)) ∧
          AW m_X7_cardWith d none Q 5 [some (.inr (some 104)), some (.inl x1), some (.inl x2), some (.inl (x3 + 1))] [] h2 (0, 0)
        )) ∧
        (¬ (¬ v3 = x1) → (
          (rg (x3 + 1)) ∧
          AW m_X7_cardWith d none Q 5 [some (.inr (some 104)), some (.inl x1), some (.inl x3), some (.inl (x3 + 1))] [] h2 (0, 0)
        ))))
    )))) :
  AW m_X7_cardWith d none Q 5 [some (.inr (some 104)), some (.inl x1), some (.inl x2), some (.inl x3)] [] h (0, 0) := by
  obtain ⟨ko104, ro104_z, ko104_z, ro104_spare, ko104_spare, ro104_past, ko104_past, ro104_kept, ko104_kept, ro104_text, ko104_text, ro104_stack, ko104_stack, ro104_drew, ko104_drew, ro104_drawn, ko104_drawn, ro104_signs, ko104_signs, ro104_numbers, ko104_numbers⟩ := id hL
  refine aw_iload_n (pc := 5) dX7_cardWith_5 rfl ?_
  refine aw_aload_n (pc := 6) dX7_cardWith_6 rfl ?_
  refine aw_getr (pc := 7) (r := some 105) dX7_cardWith_7 fl_X7_7 (by decide) rfl ko104 ro104_z ?_
  refine aw_iconst (pc := 10) dX7_cardWith_10 ?_
  refine ax_iaload (pc := 11) (n := 293) (v := hi h 105 0) dX7_cardWith_11 ko104_z (by decide) rfl ?_
  refine aw_icmp_ge (pc := 12) (tgt := 37) dX7_cardWith_12 (by decide) (fun c1 => ?_) (fun c1 => ?_)
  · replace g := g.1 c1
    refine aw_iload_n (pc := 37) dX7_cardWith_37 rfl ?_
    exact ax_ireturn (pc := 38) dX7_cardWith_38 rfl g (by decide) (by decide)
  · replace g := g.2 c1
    refine aw_aload_n (pc := 15) dX7_cardWith_15 rfl ?_
    refine aw_iload_n (pc := 16) dX7_cardWith_16 rfl ?_
    refine aw_iconst (pc := 17) dX7_cardWith_17 ?_
    refine aw_invV (pc := 18) (md' := m_X7_of) (ci := 7) (as := [(.inl x3), (.inl 0)]) dX7_cardWith_18 mo_X7_of im_X7_of se_X7_of ml_X7_40 rfl ko104 rfl hd (Nat.le_of_ble_eq_true rfl) (Nat.le_of_ble_eq_true rfl) (Nat.le_of_ble_eq_true rfl) ?_
    refine am_mono g (fun _ h2 _ ok_h2 g => ?_)
    obtain ⟨v3, rfl, ss_h2, g⟩ := g
    replace hL := QZ.ss hL ss_h2
    obtain ⟨ko104, ro104_z, ko104_z, ro104_spare, ko104_spare, ro104_past, ko104_past, ro104_kept, ko104_kept, ro104_text, ko104_text, ro104_stack, ko104_stack, ro104_drew, ko104_drew, ro104_drawn, ko104_drawn, ro104_signs, ko104_signs, ro104_numbers, ko104_numbers⟩ := id hL
    show AW m_X7_cardWith d none Q 21 [some (.inr (some 104)), some (.inl x1), some (.inl x2), some (.inl x3)] [(.inl v3)] h2 (0, 0)
    refine aw_iload_n (pc := 21) dX7_cardWith_21 rfl ?_
    refine aw_icmp_ne (pc := 22) (tgt := 29) dX7_cardWith_22 (by decide) (fun c4 => ?_) (fun c4 => ?_)
    · replace g := g.1 c4
      refine aw_iload_n (pc := 29) dX7_cardWith_29 rfl ?_
      refine ax_istore_n (pc := 30) (ls' := [some (.inr (some 104)), some (.inl x1), some (.inl x2), some (.inl x3)]) dX7_cardWith_30 (Nat.le_of_ble_eq_true rfl) rfl ?_
      obtain ⟨s5, g⟩ := g
      refine ax_iinc (pc := 31) (v' := x3 + 1) (ls' := [some (.inr (some 104)), some (.inl x1), some (.inl x2), some (.inl (x3 + 1))]) dX7_cardWith_31 rfl s5 rfl rfl ?_
      refine aw_goto (pc := 34) (tgt := 5) dX7_cardWith_34 (by decide) ?_
      exact g
    · replace g := g.2 c4
      refine aw_iload_n (pc := 25) dX7_cardWith_25 rfl ?_
      refine aw_goto (pc := 26) (tgt := 30) dX7_cardWith_26 (by decide) ?_
      refine ax_istore_n (pc := 30) (ls' := [some (.inr (some 104)), some (.inl x1), some (.inl x3), some (.inl x3)]) dX7_cardWith_30 (Nat.le_of_ble_eq_true rfl) rfl ?_
      obtain ⟨s6, g⟩ := g
      refine ax_iinc (pc := 31) (v' := x3 + 1) (ls' := [some (.inr (some 104)), some (.inl x1), some (.inl x3), some (.inl (x3 + 1))]) dX7_cardWith_31 rfl s6 rfl rfl ?_
      refine aw_goto (pc := 34) (tgt := 5) dX7_cardWith_34 (by decide) ?_
      exact g
set_option maxRecDepth 100000 in
set_option maxHeartbeats 4000000 in
theorem vc_X7_copyState {d : Nat} {Q : Option Int → AH → Prop} {h : AH} {q0 n0 : Nat} {q2 n2 : Nat} {x1 x3 : Int} (hk0 : hk h q0 = (1, n0)) (hk2 : hk h q2 = (1, n2))
  (g :
    AW m_X7_copyState d none Q 3 [some (.inr (some q0)), some (.inl x1), some (.inr (some q2)), some (.inl x3), some (.inl 0)] [] h (0, 0)) :
  AM d m_X7_copyState [(.inr (some q0)), (.inl x1), (.inr (some q2)), (.inl x3)] h Q := by
  refine am_body mo_X7_copyState (Nat.le_of_ble_eq_true rfl) ?_
  show AW m_X7_copyState d none Q 0 [some (.inr (some q0)), some (.inl x1), some (.inr (some q2)), some (.inl x3), none] [] h (0, 0)
  refine aw_iconst (pc := 0) dX7_copyState_0 ?_
  refine ax_istore (pc := 1) (ls' := [some (.inr (some q0)), some (.inl x1), some (.inr (some q2)), some (.inl x3), some (.inl 0)]) dX7_copyState_1 (Nat.le_of_ble_eq_true rfl) rfl ?_
  exact g
set_option maxRecDepth 100000 in
set_option maxHeartbeats 4000000 in
theorem vc_X7_copyState_3 {d : Nat} {Q : Option Int → AH → Prop} {h : AH} {q0 n0 : Nat} {q2 n2 : Nat} {x1 x3 x4 : Int} (hk0 : hk h q0 = (1, n0)) (hk2 : hk h q2 = (1, n2))
  (g :
    ((293 ≤ x4 → (
      Q none h
    )) ∧
    (¬ (293 ≤ x4) → (
      (rg (x3 + x4)) ∧
      (rg (x1 + x4)) ∧
      (0 ≤ x1 + x4 ∧ x1 + x4 < n0) ∧
      (0 ≤ x3 + x4 ∧ x3 + x4 < n2) ∧
      (rg (x4 + 1)) ∧
      AW m_X7_copyState d none Q 3 [some (.inr (some q0)), some (.inl x1), some (.inr (some q2)), some (.inl x3), some (.inl (x4 + 1))] [] (up h q2 (x3 + x4) (hi h q0 (x1 + x4))) (0, 0)
    )))) :
  AW m_X7_copyState d none Q 3 [some (.inr (some q0)), some (.inl x1), some (.inr (some q2)), some (.inl x3), some (.inl x4)] [] h (0, 0) := by
  refine aw_iload (pc := 3) dX7_copyState_3 rfl ?_
  refine aw_sipush (pc := 5) dX7_copyState_5 ?_
  refine aw_icmp_ge (pc := 8) (tgt := 29) dX7_copyState_8 (by decide) (fun c1 => ?_) (fun c1 => ?_)
  · replace g := g.1 c1
    exact aw_return (pc := 29) dX7_copyState_29 rfl g (by decide) (by decide)
  · replace g := g.2 c1
    refine aw_aload_n (pc := 11) dX7_copyState_11 rfl ?_
    refine aw_iload_n (pc := 12) dX7_copyState_12 rfl ?_
    refine aw_iload (pc := 13) dX7_copyState_13 rfl ?_
    obtain ⟨s2, g⟩ := g
    refine ax_iadd (pc := 15) (v := x3 + x4) dX7_copyState_15 s2 rfl ?_
    refine aw_aload_n (pc := 16) dX7_copyState_16 rfl ?_
    refine aw_iload_n (pc := 17) dX7_copyState_17 rfl ?_
    refine aw_iload (pc := 18) dX7_copyState_18 rfl ?_
    obtain ⟨s3, g⟩ := g
    refine ax_iadd (pc := 20) (v := x1 + x4) dX7_copyState_20 s3 rfl ?_
    obtain ⟨s4, g⟩ := g
    refine ax_iaload (pc := 21) (n := n0) (v := hi h q0 (x1 + x4)) dX7_copyState_21 hk0 s4 rfl ?_
    obtain ⟨s5, g⟩ := g
    refine ax_iastore (pc := 22) (n := n2) dX7_copyState_22 hk2 s5 ?_
    obtain ⟨s6, g⟩ := g
    refine ax_iinc (pc := 23) (v' := x4 + 1) (ls' := [some (.inr (some q0)), some (.inl x1), some (.inr (some q2)), some (.inl x3), some (.inl (x4 + 1))]) dX7_copyState_23 rfl s6 rfl rfl ?_
    refine aw_goto (pc := 26) (tgt := 3) dX7_copyState_26 (by decide) ?_
    exact g
set_option maxRecDepth 100000 in
set_option maxHeartbeats 4000000 in
theorem vc_X7_recordRow {d : Nat} {Q : Option Int → AH → Prop} {h : AH} {q1 : Nat} (hd : 1 ≤ d) (hL : QZ h) (hk1 : hk h q1 = (1, 293))
  (g :
    ((¬ hi h 104 3 = 4 → (
      (rg (293 * (hi h 104 3))) ∧
      AM (d - 1) m_X7_copyState [(.inr (some q1)), (.inl 0), (.inr (some 107)), (.inl (293 * (hi h 104 3)))] h (fun r h3 => 
        r = none ∧ SS h h3 ∧
        (rg ((hi h3 104 3) + 1)) ∧
        Q none (up h3 104 3 ((hi h3 104 3) + 1)))
    )) ∧
    (¬ (¬ hi h 104 3 = 4) → (
      AW m_X7_recordRow d none Q 10 [some (.inr (some 104)), some (.inr (some q1)), some (.inl 0)] [] h (0, 0)
    )))) :
  AM d m_X7_recordRow [(.inr (some 104)), (.inr (some q1))] h Q := by
  refine am_body mo_X7_recordRow (Nat.le_of_ble_eq_true rfl) ?_
  show AW m_X7_recordRow d none Q 0 [some (.inr (some 104)), some (.inr (some q1)), none] [] h (0, 0)
  obtain ⟨ko104, ro104_z, ko104_z, ro104_spare, ko104_spare, ro104_past, ko104_past, ro104_kept, ko104_kept, ro104_text, ko104_text, ro104_stack, ko104_stack, ro104_drew, ko104_drew, ro104_drawn, ko104_drawn, ro104_signs, ko104_signs, ro104_numbers, ko104_numbers⟩ := id hL
  refine aw_aload_n (pc := 0) dX7_recordRow_0 rfl ?_
  refine ax_geti (pc := 1) (v := hi h 104 3) dX7_recordRow_1 fl_X7_44 (by decide) rfl ko104 rfl ?_
  refine aw_iconst (pc := 4) dX7_recordRow_4 ?_
  refine aw_icmp_ne (pc := 5) (tgt := 49) dX7_recordRow_5 (by decide) (fun c1 => ?_) (fun c1 => ?_)
  · replace g := g.1 c1
    refine aw_aload_n (pc := 49) dX7_recordRow_49 rfl ?_
    refine aw_iconst (pc := 50) dX7_recordRow_50 ?_
    refine aw_aload_n (pc := 51) dX7_recordRow_51 rfl ?_
    refine aw_getr (pc := 52) (r := some 107) dX7_recordRow_52 fl_X7_16 (by decide) rfl ko104 ro104_past ?_
    refine aw_sipush (pc := 55) dX7_recordRow_55 ?_
    refine aw_aload_n (pc := 58) dX7_recordRow_58 rfl ?_
    refine ax_geti (pc := 59) (v := hi h 104 3) dX7_recordRow_59 fl_X7_44 (by decide) rfl ko104 rfl ?_
    obtain ⟨s2, g⟩ := g
    refine ax_imul (pc := 62) (v := 293 * (hi h 104 3)) dX7_recordRow_62 s2 rfl ?_
    refine aw_invS (pc := 63) (md' := m_X7_copyState) (as := [(.inr (some q1)), (.inl 0), (.inr (some 107)), (.inl (293 * (hi h 104 3)))]) dX7_recordRow_63 mo_X7_copyState sm_X7_copyState ml_X7_48 rfl rfl hd (Nat.le_of_ble_eq_true rfl) (Nat.le_of_ble_eq_true rfl) (Nat.le_of_ble_eq_true rfl) ?_
    refine am_mono g (fun _ h3 _ ok_h3 g => ?_)
    obtain ⟨rfl, ss_h3, g⟩ := g
    replace hL := QZ.ss hL ss_h3
    obtain ⟨ko104, ro104_z, ko104_z, ro104_spare, ko104_spare, ro104_past, ko104_past, ro104_kept, ko104_kept, ro104_text, ko104_text, ro104_stack, ko104_stack, ro104_drew, ko104_drew, ro104_drawn, ko104_drawn, ro104_signs, ko104_signs, ro104_numbers, ko104_numbers⟩ := id hL
    show AW m_X7_recordRow d none Q 66 [some (.inr (some 104)), some (.inr (some q1)), none] [] h3 (0, 0)
    refine aw_aload_n (pc := 66) dX7_recordRow_66 rfl ?_
    refine aw_dup (pc := 67) dX7_recordRow_67 ?_
    refine ax_geti (pc := 68) (v := hi h3 104 3) dX7_recordRow_68 fl_X7_44 (by decide) rfl ko104 rfl ?_
    refine aw_iconst (pc := 71) dX7_recordRow_71 ?_
    obtain ⟨s4, g⟩ := g
    refine ax_iadd (pc := 72) (v := (hi h3 104 3) + 1) dX7_recordRow_72 s4 rfl ?_
    refine ax_puti (pc := 73) dX7_recordRow_73 fl_X7_44 (by decide) rfl rfl rfl ko104 ?_
    exact aw_return (pc := 76) dX7_recordRow_76 rfl g (by decide) (by decide)
  · replace g := g.2 c1
    refine aw_iconst (pc := 8) dX7_recordRow_8 ?_
    refine ax_istore_n (pc := 9) (ls' := [some (.inr (some 104)), some (.inr (some q1)), some (.inl 0)]) dX7_recordRow_9 (Nat.le_of_ble_eq_true rfl) rfl ?_
    exact g
set_option maxRecDepth 100000 in
set_option maxHeartbeats 4000000 in
theorem vc_X7_recordRow_10 {d : Nat} {Q : Option Int → AH → Prop} {h : AH} {q1 : Nat} {x2 : Int} (hd : 1 ≤ d) (hL : QZ h) (hk1 : hk h q1 = (1, 293))
  (g :
    ((879 ≤ x2 → (
      (rg ((hi h 104 3) - 1)) ∧
      (rg (293 * ((hi h 104 3) - 1))) ∧
      AM (d - 1) m_X7_copyState [(.inr (some q1)), (.inl 0), (.inr (some 107)), (.inl (293 * ((hi h 104 3) - 1)))] (up h 104 3 ((hi h 104 3) - 1)) (fun r h8 => 
        r = none ∧ SS (up h 104 3 ((hi h 104 3) - 1)) h8 ∧
        (rg ((hi h8 104 3) + 1)) ∧
        Q none (up h8 104 3 ((hi h8 104 3) + 1)))
    )) ∧
    (¬ (879 ≤ x2) → (
      (rg (x2 + 293)) ∧
      (0 ≤ x2 + 293 ∧ x2 + 293 < 1172) ∧
      (0 ≤ x2 ∧ x2 < 1172) ∧
      (rg (x2 + 1)) ∧
      AW m_X7_recordRow d none Q 10 [some (.inr (some 104)), some (.inr (some q1)), some (.inl (x2 + 1))] [] (up h 107 x2 (hi h 107 (x2 + 293))) (0, 0)
    )))) :
  AW m_X7_recordRow d none Q 10 [some (.inr (some 104)), some (.inr (some q1)), some (.inl x2)] [] h (0, 0) := by
  obtain ⟨ko104, ro104_z, ko104_z, ro104_spare, ko104_spare, ro104_past, ko104_past, ro104_kept, ko104_kept, ro104_text, ko104_text, ro104_stack, ko104_stack, ro104_drew, ko104_drew, ro104_drawn, ko104_drawn, ro104_signs, ko104_signs, ro104_numbers, ko104_numbers⟩ := id hL
  refine aw_iload_n (pc := 10) dX7_recordRow_10 rfl ?_
  refine aw_sipush (pc := 11) dX7_recordRow_11 ?_
  refine aw_icmp_ge (pc := 14) (tgt := 39) dX7_recordRow_14 (by decide) (fun c5 => ?_) (fun c5 => ?_)
  · replace g := g.1 c5
    refine aw_aload_n (pc := 39) dX7_recordRow_39 rfl ?_
    refine aw_dup (pc := 40) dX7_recordRow_40 ?_
    refine ax_geti (pc := 41) (v := hi h 104 3) dX7_recordRow_41 fl_X7_44 (by decide) rfl ko104 rfl ?_
    refine aw_iconst (pc := 44) dX7_recordRow_44 ?_
    obtain ⟨s6, g⟩ := g
    refine ax_isub (pc := 45) (v := (hi h 104 3) - 1) dX7_recordRow_45 s6 rfl ?_
    refine ax_puti (pc := 46) dX7_recordRow_46 fl_X7_44 (by decide) rfl rfl rfl ko104 ?_
    refine aw_aload_n (pc := 49) dX7_recordRow_49 rfl ?_
    refine aw_iconst (pc := 50) dX7_recordRow_50 ?_
    refine aw_aload_n (pc := 51) dX7_recordRow_51 rfl ?_
    refine aw_getr (pc := 52) (r := some 107) dX7_recordRow_52 fl_X7_16 (by decide) rfl (hkU ko104) (hrU ro104_past) ?_
    refine aw_sipush (pc := 55) dX7_recordRow_55 ?_
    refine aw_aload_n (pc := 58) dX7_recordRow_58 rfl ?_
    refine ax_geti (pc := 59) (v := (hi h 104 3) - 1) dX7_recordRow_59 fl_X7_44 (by decide) rfl (hkU ko104) hiE ?_
    obtain ⟨s7, g⟩ := g
    refine ax_imul (pc := 62) (v := 293 * ((hi h 104 3) - 1)) dX7_recordRow_62 s7 rfl ?_
    refine aw_invS (pc := 63) (md' := m_X7_copyState) (as := [(.inr (some q1)), (.inl 0), (.inr (some 107)), (.inl (293 * ((hi h 104 3) - 1)))]) dX7_recordRow_63 mo_X7_copyState sm_X7_copyState ml_X7_48 rfl rfl hd (Nat.le_of_ble_eq_true rfl) (Nat.le_of_ble_eq_true rfl) (Nat.le_of_ble_eq_true rfl) ?_
    refine am_mono g (fun _ h8 _ ok_h8 g => ?_)
    obtain ⟨rfl, ss_h8, g⟩ := g
    replace hL := QZ.ss hL (SS.tr (SS.up SS.rf) ss_h8)
    obtain ⟨ko104, ro104_z, ko104_z, ro104_spare, ko104_spare, ro104_past, ko104_past, ro104_kept, ko104_kept, ro104_text, ko104_text, ro104_stack, ko104_stack, ro104_drew, ko104_drew, ro104_drawn, ko104_drawn, ro104_signs, ko104_signs, ro104_numbers, ko104_numbers⟩ := id hL
    show AW m_X7_recordRow d none Q 66 [some (.inr (some 104)), some (.inr (some q1)), some (.inl x2)] [] h8 (0, 0)
    refine aw_aload_n (pc := 66) dX7_recordRow_66 rfl ?_
    refine aw_dup (pc := 67) dX7_recordRow_67 ?_
    refine ax_geti (pc := 68) (v := hi h8 104 3) dX7_recordRow_68 fl_X7_44 (by decide) rfl ko104 rfl ?_
    refine aw_iconst (pc := 71) dX7_recordRow_71 ?_
    obtain ⟨s9, g⟩ := g
    refine ax_iadd (pc := 72) (v := (hi h8 104 3) + 1) dX7_recordRow_72 s9 rfl ?_
    refine ax_puti (pc := 73) dX7_recordRow_73 fl_X7_44 (by decide) rfl rfl rfl ko104 ?_
    exact aw_return (pc := 76) dX7_recordRow_76 rfl g (by decide) (by decide)
  · replace g := g.2 c5
    refine aw_aload_n (pc := 17) dX7_recordRow_17 rfl ?_
    refine aw_getr (pc := 18) (r := some 107) dX7_recordRow_18 fl_X7_16 (by decide) rfl ko104 ro104_past ?_
    refine aw_iload_n (pc := 21) dX7_recordRow_21 rfl ?_
    refine aw_aload_n (pc := 22) dX7_recordRow_22 rfl ?_
    refine aw_getr (pc := 23) (r := some 107) dX7_recordRow_23 fl_X7_16 (by decide) rfl ko104 ro104_past ?_
    refine aw_iload_n (pc := 26) dX7_recordRow_26 rfl ?_
    refine aw_sipush (pc := 27) dX7_recordRow_27 ?_
    obtain ⟨s10, g⟩ := g
    refine ax_iadd (pc := 30) (v := x2 + 293) dX7_recordRow_30 s10 rfl ?_
    obtain ⟨s11, g⟩ := g
    refine ax_iaload (pc := 31) (n := 1172) (v := hi h 107 (x2 + 293)) dX7_recordRow_31 ko104_past s11 rfl ?_
    obtain ⟨s12, g⟩ := g
    refine ax_iastore (pc := 32) (n := 1172) dX7_recordRow_32 ko104_past s12 ?_
    obtain ⟨s13, g⟩ := g
    refine ax_iinc (pc := 33) (v' := x2 + 1) (ls' := [some (.inr (some 104)), some (.inr (some q1)), some (.inl (x2 + 1))]) dX7_recordRow_33 rfl s13 rfl rfl ?_
    refine aw_goto (pc := 36) (tgt := 10) dX7_recordRow_36 (by decide) ?_
    exact g
set_option maxRecDepth 100000 in
set_option maxHeartbeats 4000000 in
theorem vc_X7_record {d : Nat} {Q : Option Int → AH → Prop} {h : AH}  (hd : 1 ≤ d) (hL : QZ h)
  (g :
    AM (d - 1) m_X7_recordRow [(.inr (some 104)), (.inr (some 105))] h (fun r h1 => 
      r = none ∧ SS h h1 ∧
      Q none h1)) :
  AM d m_X7_record [(.inr (some 104))] h Q := by
  refine am_body mo_X7_record (Nat.le_of_ble_eq_true rfl) ?_
  show AW m_X7_record d none Q 0 [some (.inr (some 104))] [] h (0, 0)
  obtain ⟨ko104, ro104_z, ko104_z, ro104_spare, ko104_spare, ro104_past, ko104_past, ro104_kept, ko104_kept, ro104_text, ko104_text, ro104_stack, ko104_stack, ro104_drew, ko104_drew, ro104_drawn, ko104_drawn, ro104_signs, ko104_signs, ro104_numbers, ko104_numbers⟩ := id hL
  refine aw_aload_n (pc := 0) dX7_record_0 rfl ?_
  refine aw_aload_n (pc := 1) dX7_record_1 rfl ?_
  refine aw_getr (pc := 2) (r := some 105) dX7_record_2 fl_X7_7 (by decide) rfl ko104 ro104_z ?_
  refine aw_invV (pc := 5) (md' := m_X7_recordRow) (ci := 7) (as := [(.inr (some 105))]) dX7_record_5 mo_X7_recordRow im_X7_recordRow se_X7_recordRow ml_X7_52 rfl ko104 rfl hd (Nat.le_of_ble_eq_true rfl) (Nat.le_of_ble_eq_true rfl) (Nat.le_of_ble_eq_true rfl) ?_
  refine am_mono g (fun _ h1 _ ok_h1 g => ?_)
  obtain ⟨rfl, ss_h1, g⟩ := g
  replace hL := QZ.ss hL ss_h1
  obtain ⟨ko104, ro104_z, ko104_z, ro104_spare, ko104_spare, ro104_past, ko104_past, ro104_kept, ko104_kept, ro104_text, ko104_text, ro104_stack, ko104_stack, ro104_drew, ko104_drew, ro104_drawn, ko104_drawn, ro104_signs, ko104_signs, ro104_numbers, ko104_numbers⟩ := id hL
  show AW m_X7_record d none Q 8 [some (.inr (some 104))] [] h1 (0, 0)
  exact aw_return (pc := 8) dX7_record_8 rfl g (by decide) (by decide)
set_option maxRecDepth 100000 in
set_option maxHeartbeats 4000000 in
theorem vc_X7_undo {d : Nat} {Q : Option Int → AH → Prop} {h : AH}  (hd : 1 ≤ d) (hL : QZ h)
  (g :
    ((¬ hi h 104 3 = 0 → (
      (rg ((hi h 104 3) - 1)) ∧
      (rg (293 * ((hi h 104 3) - 1))) ∧
      AM (d - 1) m_X7_copyState [(.inr (some 107)), (.inl (293 * ((hi h 104 3) - 1))), (.inr (some 105)), (.inl 0)] (up h 104 3 ((hi h 104 3) - 1)) (fun r h4 => 
        r = none ∧ SS (up h 104 3 ((hi h 104 3) - 1)) h4 ∧
        Q (some (hi h4 104 3)) h4)
    )) ∧
    (¬ (¬ hi h 104 3 = 0) → (
      Q (some (-5)) h
    )))) :
  AM d m_X7_undo [(.inr (some 104))] h Q := by
  refine am_body mo_X7_undo (Nat.le_of_ble_eq_true rfl) ?_
  show AW m_X7_undo d none Q 0 [some (.inr (some 104))] [] h (0, 0)
  obtain ⟨ko104, ro104_z, ko104_z, ro104_spare, ko104_spare, ro104_past, ko104_past, ro104_kept, ko104_kept, ro104_text, ko104_text, ro104_stack, ko104_stack, ro104_drew, ko104_drew, ro104_drawn, ko104_drawn, ro104_signs, ko104_signs, ro104_numbers, ko104_numbers⟩ := id hL
  refine aw_aload_n (pc := 0) dX7_undo_0 rfl ?_
  refine ax_geti (pc := 1) (v := hi h 104 3) dX7_undo_1 fl_X7_44 (by decide) rfl ko104 rfl ?_
  refine aw_if_ne (pc := 4) (tgt := 10) dX7_undo_4 (by decide) (fun c1 => ?_) (fun c1 => ?_)
  · replace g := g.1 c1
    refine aw_aload_n (pc := 10) dX7_undo_10 rfl ?_
    refine aw_dup (pc := 11) dX7_undo_11 ?_
    refine ax_geti (pc := 12) (v := hi h 104 3) dX7_undo_12 fl_X7_44 (by decide) rfl ko104 rfl ?_
    refine aw_iconst (pc := 15) dX7_undo_15 ?_
    obtain ⟨s2, g⟩ := g
    refine ax_isub (pc := 16) (v := (hi h 104 3) - 1) dX7_undo_16 s2 rfl ?_
    refine ax_puti (pc := 17) dX7_undo_17 fl_X7_44 (by decide) rfl rfl rfl ko104 ?_
    refine aw_aload_n (pc := 20) dX7_undo_20 rfl ?_
    refine aw_getr (pc := 21) (r := some 107) dX7_undo_21 fl_X7_16 (by decide) rfl (hkU ko104) (hrU ro104_past) ?_
    refine aw_sipush (pc := 24) dX7_undo_24 ?_
    refine aw_aload_n (pc := 27) dX7_undo_27 rfl ?_
    refine ax_geti (pc := 28) (v := (hi h 104 3) - 1) dX7_undo_28 fl_X7_44 (by decide) rfl (hkU ko104) hiE ?_
    obtain ⟨s3, g⟩ := g
    refine ax_imul (pc := 31) (v := 293 * ((hi h 104 3) - 1)) dX7_undo_31 s3 rfl ?_
    refine aw_aload_n (pc := 32) dX7_undo_32 rfl ?_
    refine aw_getr (pc := 33) (r := some 105) dX7_undo_33 fl_X7_7 (by decide) rfl (hkU ko104) (hrU ro104_z) ?_
    refine aw_iconst (pc := 36) dX7_undo_36 ?_
    refine aw_invS (pc := 37) (md' := m_X7_copyState) (as := [(.inr (some 107)), (.inl (293 * ((hi h 104 3) - 1))), (.inr (some 105)), (.inl 0)]) dX7_undo_37 mo_X7_copyState sm_X7_copyState ml_X7_48 rfl rfl hd (Nat.le_of_ble_eq_true rfl) (Nat.le_of_ble_eq_true rfl) (Nat.le_of_ble_eq_true rfl) ?_
    refine am_mono g (fun _ h4 _ ok_h4 g => ?_)
    obtain ⟨rfl, ss_h4, g⟩ := g
    replace hL := QZ.ss hL (SS.tr (SS.up SS.rf) ss_h4)
    obtain ⟨ko104, ro104_z, ko104_z, ro104_spare, ko104_spare, ro104_past, ko104_past, ro104_kept, ko104_kept, ro104_text, ko104_text, ro104_stack, ko104_stack, ro104_drew, ko104_drew, ro104_drawn, ko104_drawn, ro104_signs, ko104_signs, ro104_numbers, ko104_numbers⟩ := id hL
    show AW m_X7_undo d none Q 40 [some (.inr (some 104))] [] h4 (0, 0)
    refine aw_aload_n (pc := 40) dX7_undo_40 rfl ?_
    refine ax_geti (pc := 41) (v := hi h4 104 3) dX7_undo_41 fl_X7_44 (by decide) rfl ko104 rfl ?_
    exact ax_ireturn (pc := 44) dX7_undo_44 rfl g (by decide) (by decide)
  · replace g := g.2 c1
    refine aw_bipush (pc := 7) dX7_undo_7 ?_
    exact ax_ireturn (pc := 9) dX7_undo_9 rfl g (by decide) (by decide)
set_option maxRecDepth 100000 in
set_option maxHeartbeats 4000000 in
theorem vc_X7_keep {d : Nat} {Q : Option Int → AH → Prop} {h : AH}  (hd : 1 ≤ d) (hL : QZ h)
  (g :
    AM (d - 1) m_X7_copyState [(.inr (some 105)), (.inl 0), (.inr (some 108)), (.inl 0)] h (fun r h1 => 
      r = none ∧ SS h h1 ∧
      Q (some (hi h1 105 0)) (up h1 104 5 1))) :
  AM d m_X7_keep [(.inr (some 104))] h Q := by
  refine am_body mo_X7_keep (Nat.le_of_ble_eq_true rfl) ?_
  show AW m_X7_keep d none Q 0 [some (.inr (some 104))] [] h (0, 0)
  obtain ⟨ko104, ro104_z, ko104_z, ro104_spare, ko104_spare, ro104_past, ko104_past, ro104_kept, ko104_kept, ro104_text, ko104_text, ro104_stack, ko104_stack, ro104_drew, ko104_drew, ro104_drawn, ko104_drawn, ro104_signs, ko104_signs, ro104_numbers, ko104_numbers⟩ := id hL
  refine aw_aload_n (pc := 0) dX7_keep_0 rfl ?_
  refine aw_getr (pc := 1) (r := some 105) dX7_keep_1 fl_X7_7 (by decide) rfl ko104 ro104_z ?_
  refine aw_iconst (pc := 4) dX7_keep_4 ?_
  refine aw_aload_n (pc := 5) dX7_keep_5 rfl ?_
  refine aw_getr (pc := 6) (r := some 108) dX7_keep_6 fl_X7_19 (by decide) rfl ko104 ro104_kept ?_
  refine aw_iconst (pc := 9) dX7_keep_9 ?_
  refine aw_invS (pc := 10) (md' := m_X7_copyState) (as := [(.inr (some 105)), (.inl 0), (.inr (some 108)), (.inl 0)]) dX7_keep_10 mo_X7_copyState sm_X7_copyState ml_X7_48 rfl rfl hd (Nat.le_of_ble_eq_true rfl) (Nat.le_of_ble_eq_true rfl) (Nat.le_of_ble_eq_true rfl) ?_
  refine am_mono g (fun _ h1 _ ok_h1 g => ?_)
  obtain ⟨rfl, ss_h1, g⟩ := g
  replace hL := QZ.ss hL ss_h1
  obtain ⟨ko104, ro104_z, ko104_z, ro104_spare, ko104_spare, ro104_past, ko104_past, ro104_kept, ko104_kept, ro104_text, ko104_text, ro104_stack, ko104_stack, ro104_drew, ko104_drew, ro104_drawn, ko104_drawn, ro104_signs, ko104_signs, ro104_numbers, ko104_numbers⟩ := id hL
  show AW m_X7_keep d none Q 13 [some (.inr (some 104))] [] h1 (0, 0)
  refine aw_aload_n (pc := 13) dX7_keep_13 rfl ?_
  refine aw_iconst (pc := 14) dX7_keep_14 ?_
  refine aw_puti (pc := 15) dX7_keep_15 fl_X7_56 (by decide) rfl rfl ko104 (show okr (some .boolean) 1 from by simp [okr]) ?_
  refine aw_aload_n (pc := 18) dX7_keep_18 rfl ?_
  refine aw_getr (pc := 19) (r := some 105) dX7_keep_19 fl_X7_7 (by decide) rfl (hkU ko104) (hrU ro104_z) ?_
  refine aw_iconst (pc := 22) dX7_keep_22 ?_
  refine ax_iaload (pc := 23) (n := 293) (v := hi h1 105 0) dX7_keep_23 (hkU ko104_z) (by decide) (hiN (Or.inl (by omega)) rfl) ?_
  exact ax_ireturn (pc := 24) dX7_keep_24 rfl g (by decide) (by decide)
set_option maxRecDepth 100000 in
set_option maxHeartbeats 4000000 in
theorem vc_X7_restore {d : Nat} {Q : Option Int → AH → Prop} {h : AH}  (hd : 1 ≤ d) (hL : QZ h)
  (g :
    ((¬ hi h 104 5 = 0 → (
      AM (d - 1) m_X7_record [(.inr (some 104))] h (fun r h2 => 
        r = none ∧ SS h h2 ∧
        AM (d - 1) m_X7_copyState [(.inr (some 108)), (.inl 0), (.inr (some 105)), (.inl 0)] h2 (fun r h3 => 
          r = none ∧ SS h2 h3 ∧
          Q (some (hi h3 105 0)) h3))
    )) ∧
    (¬ (¬ hi h 104 5 = 0) → (
      Q (some (-5)) h
    )))) :
  AM d m_X7_restore [(.inr (some 104))] h Q := by
  refine am_body mo_X7_restore (Nat.le_of_ble_eq_true rfl) ?_
  show AW m_X7_restore d none Q 0 [some (.inr (some 104))] [] h (0, 0)
  obtain ⟨ko104, ro104_z, ko104_z, ro104_spare, ko104_spare, ro104_past, ko104_past, ro104_kept, ko104_kept, ro104_text, ko104_text, ro104_stack, ko104_stack, ro104_drew, ko104_drew, ro104_drawn, ko104_drawn, ro104_signs, ko104_signs, ro104_numbers, ko104_numbers⟩ := id hL
  refine aw_aload_n (pc := 0) dX7_restore_0 rfl ?_
  refine ax_geti (pc := 1) (v := hi h 104 5) dX7_restore_1 fl_X7_56 (by decide) rfl ko104 rfl ?_
  refine aw_if_ne (pc := 4) (tgt := 10) dX7_restore_4 (by decide) (fun c1 => ?_) (fun c1 => ?_)
  · replace g := g.1 c1
    refine aw_aload_n (pc := 10) dX7_restore_10 rfl ?_
    refine aw_invV (pc := 11) (md' := m_X7_record) (ci := 7) (as := []) dX7_restore_11 mo_X7_record im_X7_record se_X7_record ml_X7_60 rfl ko104 rfl hd (Nat.le_of_ble_eq_true rfl) (Nat.le_of_ble_eq_true rfl) (Nat.le_of_ble_eq_true rfl) ?_
    refine am_mono g (fun _ h2 _ ok_h2 g => ?_)
    obtain ⟨rfl, ss_h2, g⟩ := g
    replace hL := QZ.ss hL ss_h2
    obtain ⟨ko104, ro104_z, ko104_z, ro104_spare, ko104_spare, ro104_past, ko104_past, ro104_kept, ko104_kept, ro104_text, ko104_text, ro104_stack, ko104_stack, ro104_drew, ko104_drew, ro104_drawn, ko104_drawn, ro104_signs, ko104_signs, ro104_numbers, ko104_numbers⟩ := id hL
    show AW m_X7_restore d none Q 14 [some (.inr (some 104))] [] h2 (0, 0)
    refine aw_aload_n (pc := 14) dX7_restore_14 rfl ?_
    refine aw_getr (pc := 15) (r := some 108) dX7_restore_15 fl_X7_19 (by decide) rfl ko104 ro104_kept ?_
    refine aw_iconst (pc := 18) dX7_restore_18 ?_
    refine aw_aload_n (pc := 19) dX7_restore_19 rfl ?_
    refine aw_getr (pc := 20) (r := some 105) dX7_restore_20 fl_X7_7 (by decide) rfl ko104 ro104_z ?_
    refine aw_iconst (pc := 23) dX7_restore_23 ?_
    refine aw_invS (pc := 24) (md' := m_X7_copyState) (as := [(.inr (some 108)), (.inl 0), (.inr (some 105)), (.inl 0)]) dX7_restore_24 mo_X7_copyState sm_X7_copyState ml_X7_48 rfl rfl hd (Nat.le_of_ble_eq_true rfl) (Nat.le_of_ble_eq_true rfl) (Nat.le_of_ble_eq_true rfl) ?_
    refine am_mono g (fun _ h3 _ ok_h3 g => ?_)
    obtain ⟨rfl, ss_h3, g⟩ := g
    replace hL := QZ.ss hL ss_h3
    obtain ⟨ko104, ro104_z, ko104_z, ro104_spare, ko104_spare, ro104_past, ko104_past, ro104_kept, ko104_kept, ro104_text, ko104_text, ro104_stack, ko104_stack, ro104_drew, ko104_drew, ro104_drawn, ko104_drawn, ro104_signs, ko104_signs, ro104_numbers, ko104_numbers⟩ := id hL
    show AW m_X7_restore d none Q 27 [some (.inr (some 104))] [] h3 (0, 0)
    refine aw_aload_n (pc := 27) dX7_restore_27 rfl ?_
    refine aw_getr (pc := 28) (r := some 105) dX7_restore_28 fl_X7_7 (by decide) rfl ko104 ro104_z ?_
    refine aw_iconst (pc := 31) dX7_restore_31 ?_
    refine ax_iaload (pc := 32) (n := 293) (v := hi h3 105 0) dX7_restore_32 ko104_z (by decide) rfl ?_
    exact ax_ireturn (pc := 33) dX7_restore_33 rfl g (by decide) (by decide)
  · replace g := g.2 c1
    refine aw_bipush (pc := 7) dX7_restore_7 ?_
    exact ax_ireturn (pc := 9) dX7_restore_9 rfl g (by decide) (by decide)
set_option maxRecDepth 100000 in
set_option maxHeartbeats 4000000 in
theorem vc_X7_whyNotPut {d : Nat} {Q : Option Int → AH → Prop} {h : AH} {x1 : Int} (hd : 1 ≤ d) (hL : QZ h)
  (g :
    AM (d - 1) m_X7_in [(.inl x1), (.inl 0), (.inl 255)] h (fun r h1 => 
      ∃ v2, r = some v2 ∧ SS h h1 ∧
      ((¬ v2 = 0 → (
        AM (d - 1) m_X7_cardWith [(.inr (some 104)), (.inl x1)] h1 (fun r h4 => 
          ∃ v5, r = some v5 ∧ SS h1 h4 ∧
          ((v5 = -5 → (
            ((¬ hi h4 105 0 = 20 → (
              Q (some 0) h4
            )) ∧
            (¬ (¬ hi h4 105 0 = 20) → (
              Q (some (-3)) h4
            )))
          )) ∧
          (¬ (v5 = -5) → (
            Q (some (-4)) h4
          ))))
      )) ∧
      (¬ (¬ v2 = 0) → (
        Q (some (-2)) h1
      ))))) :
  AM d m_X7_whyNotPut [(.inr (some 104)), (.inl x1)] h Q := by
  refine am_body mo_X7_whyNotPut (Nat.le_of_ble_eq_true rfl) ?_
  show AW m_X7_whyNotPut d none Q 0 [some (.inr (some 104)), some (.inl x1)] [] h (0, 0)
  obtain ⟨ko104, ro104_z, ko104_z, ro104_spare, ko104_spare, ro104_past, ko104_past, ro104_kept, ko104_kept, ro104_text, ko104_text, ro104_stack, ko104_stack, ro104_drew, ko104_drew, ro104_drawn, ko104_drawn, ro104_signs, ko104_signs, ro104_numbers, ko104_numbers⟩ := id hL
  refine aw_iload_n (pc := 0) dX7_whyNotPut_0 rfl ?_
  refine aw_iconst (pc := 1) dX7_whyNotPut_1 ?_
  refine aw_sipush (pc := 2) dX7_whyNotPut_2 ?_
  refine aw_invS (pc := 5) (md' := m_X7_in) (as := [(.inl x1), (.inl 0), (.inl 255)]) dX7_whyNotPut_5 mo_X7_in sm_X7_in ml_X7_63 rfl rfl hd (Nat.le_of_ble_eq_true rfl) (Nat.le_of_ble_eq_true rfl) (Nat.le_of_ble_eq_true rfl) ?_
  refine am_mono g (fun _ h1 _ ok_h1 g => ?_)
  obtain ⟨v2, rfl, ss_h1, g⟩ := g
  replace hL := QZ.ss hL ss_h1
  obtain ⟨ko104, ro104_z, ko104_z, ro104_spare, ko104_spare, ro104_past, ko104_past, ro104_kept, ko104_kept, ro104_text, ko104_text, ro104_stack, ko104_stack, ro104_drew, ko104_drew, ro104_drawn, ko104_drawn, ro104_signs, ko104_signs, ro104_numbers, ko104_numbers⟩ := id hL
  show AW m_X7_whyNotPut d none Q 8 [some (.inr (some 104)), some (.inl x1)] [(.inl v2)] h1 (0, 0)
  refine aw_if_ne (pc := 8) (tgt := 16) dX7_whyNotPut_8 (by decide) (fun c3 => ?_) (fun c3 => ?_)
  · replace g := g.1 c3
    refine aw_aload_n (pc := 16) dX7_whyNotPut_16 rfl ?_
    refine aw_iload_n (pc := 17) dX7_whyNotPut_17 rfl ?_
    refine aw_invV (pc := 18) (md' := m_X7_cardWith) (ci := 7) (as := [(.inl x1)]) dX7_whyNotPut_18 mo_X7_cardWith im_X7_cardWith se_X7_cardWith ml_X7_67 rfl ko104 rfl hd (Nat.le_of_ble_eq_true rfl) (Nat.le_of_ble_eq_true rfl) (Nat.le_of_ble_eq_true rfl) ?_
    refine am_mono g (fun _ h4 _ ok_h4 g => ?_)
    obtain ⟨v5, rfl, ss_h4, g⟩ := g
    replace hL := QZ.ss hL ss_h4
    obtain ⟨ko104, ro104_z, ko104_z, ro104_spare, ko104_spare, ro104_past, ko104_past, ro104_kept, ko104_kept, ro104_text, ko104_text, ro104_stack, ko104_stack, ro104_drew, ko104_drew, ro104_drawn, ko104_drawn, ro104_signs, ko104_signs, ro104_numbers, ko104_numbers⟩ := id hL
    show AW m_X7_whyNotPut d none Q 21 [some (.inr (some 104)), some (.inl x1)] [(.inl v5)] h4 (0, 0)
    refine aw_bipush (pc := 21) dX7_whyNotPut_21 ?_
    refine aw_icmp_eq (pc := 23) (tgt := 31) dX7_whyNotPut_23 (by decide) (fun c6 => ?_) (fun c6 => ?_)
    · replace g := g.1 c6
      refine aw_aload_n (pc := 31) dX7_whyNotPut_31 rfl ?_
      refine aw_getr (pc := 32) (r := some 105) dX7_whyNotPut_32 fl_X7_7 (by decide) rfl ko104 ro104_z ?_
      refine aw_iconst (pc := 35) dX7_whyNotPut_35 ?_
      refine ax_iaload (pc := 36) (n := 293) (v := hi h4 105 0) dX7_whyNotPut_36 ko104_z (by decide) rfl ?_
      refine aw_bipush (pc := 37) dX7_whyNotPut_37 ?_
      refine aw_icmp_ne (pc := 39) (tgt := 47) dX7_whyNotPut_39 (by decide) (fun c7 => ?_) (fun c7 => ?_)
      · replace g := g.1 c7
        refine aw_iconst (pc := 47) dX7_whyNotPut_47 ?_
        exact ax_ireturn (pc := 48) dX7_whyNotPut_48 rfl g (by decide) (by decide)
      · replace g := g.2 c7
        refine aw_bipush (pc := 42) dX7_whyNotPut_42 ?_
        refine aw_goto (pc := 44) (tgt := 48) dX7_whyNotPut_44 (by decide) ?_
        exact ax_ireturn (pc := 48) dX7_whyNotPut_48 rfl g (by decide) (by decide)
    · replace g := g.2 c6
      refine aw_bipush (pc := 26) dX7_whyNotPut_26 ?_
      refine aw_goto (pc := 28) (tgt := 48) dX7_whyNotPut_28 (by decide) ?_
      exact ax_ireturn (pc := 48) dX7_whyNotPut_48 rfl g (by decide) (by decide)
  · replace g := g.2 c3
    refine aw_bipush (pc := 11) dX7_whyNotPut_11 ?_
    refine aw_goto (pc := 13) (tgt := 48) dX7_whyNotPut_13 (by decide) ?_
    exact ax_ireturn (pc := 48) dX7_whyNotPut_48 rfl g (by decide) (by decide)
set_option maxRecDepth 100000 in
set_option maxHeartbeats 4000000 in
theorem vc_X7_putNow {d : Nat} {Q : Option Int → AH → Prop} {h : AH} {x1 : Int} (hd : 1 ≤ d) (hL : QZ h)
  (g :
    AW m_X7_putNow d none Q 7 [some (.inr (some 104)), some (.inl x1), some (.inl (hi h 105 0)), none] [] h (0, 0)) :
  AM d m_X7_putNow [(.inr (some 104)), (.inl x1)] h Q := by
  refine am_body mo_X7_putNow (Nat.le_of_ble_eq_true rfl) ?_
  show AW m_X7_putNow d none Q 0 [some (.inr (some 104)), some (.inl x1), none, none] [] h (0, 0)
  obtain ⟨ko104, ro104_z, ko104_z, ro104_spare, ko104_spare, ro104_past, ko104_past, ro104_kept, ko104_kept, ro104_text, ko104_text, ro104_stack, ko104_stack, ro104_drew, ko104_drew, ro104_drawn, ko104_drawn, ro104_signs, ko104_signs, ro104_numbers, ko104_numbers⟩ := id hL
  refine aw_aload_n (pc := 0) dX7_putNow_0 rfl ?_
  refine aw_getr (pc := 1) (r := some 105) dX7_putNow_1 fl_X7_7 (by decide) rfl ko104 ro104_z ?_
  refine aw_iconst (pc := 4) dX7_putNow_4 ?_
  refine ax_iaload (pc := 5) (n := 293) (v := hi h 105 0) dX7_putNow_5 ko104_z (by decide) rfl ?_
  refine ax_istore_n (pc := 6) (ls' := [some (.inr (some 104)), some (.inl x1), some (.inl (hi h 105 0)), none]) dX7_putNow_6 (Nat.le_of_ble_eq_true rfl) rfl ?_
  exact g
set_option maxRecDepth 100000 in
set_option maxHeartbeats 4000000 in
theorem vc_X7_putNow_7 {d : Nat} {Q : Option Int → AH → Prop} {h : AH} {x1 x2 : Int} (hd : 1 ≤ d) (hL : QZ h)
  (g :
    ((x2 ≤ 0 → (
      AM (d - 1) m_X7_lay [(.inr (some 104)), (.inl x2), (.inl 0), (.inl x1)] h (fun r h2 => 
        r = none ∧ SS h h2 ∧
        AM (d - 1) m_X7_lay [(.inr (some 104)), (.inl x2), (.inl 1), (.inl 1)] h2 (fun r h3 => 
          r = none ∧ SS h2 h3 ∧
          AM (d - 1) m_X7_lay [(.inr (some 104)), (.inl x2), (.inl 2), (.inl 0)] h3 (fun r h4 => 
            r = none ∧ SS h3 h4 ∧
            AM (d - 1) m_X7_lay [(.inr (some 104)), (.inl x2), (.inl 3), (.inl 0)] h4 (fun r h5 => 
              r = none ∧ SS h4 h5 ∧
              (rg ((hi h5 105 0) + 1)) ∧
              Q none (up h5 105 0 ((hi h5 105 0) + 1))))))
    )) ∧
    (¬ (x2 ≤ 0) → (
      (rg (x2 - 1)) ∧
      AM (d - 1) m_X7_of [(.inr (some 104)), (.inl (x2 - 1)), (.inl 0)] h (fun r h8 => 
        ∃ v9, r = some v9 ∧ SS h h8 ∧
        ((v9 ≤ x1 → (
          AM (d - 1) m_X7_lay [(.inr (some 104)), (.inl x2), (.inl 0), (.inl x1)] h8 (fun r h11 => 
            r = none ∧ SS h8 h11 ∧
            AM (d - 1) m_X7_lay [(.inr (some 104)), (.inl x2), (.inl 1), (.inl 1)] h11 (fun r h12 => 
              r = none ∧ SS h11 h12 ∧
              AM (d - 1) m_X7_lay [(.inr (some 104)), (.inl x2), (.inl 2), (.inl 0)] h12 (fun r h13 => 
                r = none ∧ SS h12 h13 ∧
                AM (d - 1) m_X7_lay [(.inr (some 104)), (.inl x2), (.inl 3), (.inl 0)] h13 (fun r h14 => 
                  r = none ∧ SS h13 h14 ∧
                  (rg ((hi h14 105 0) + 1)) ∧
                  Q none (up h14 105 0 ((hi h14 105 0) + 1))))))
        )) ∧
        (¬ (v9 ≤ x1) → (
          AW m_X7_putNow d none Q 25 [some (.inr (some 104)), some (.inl x1), some (.inl x2), some (.inl 0)] [] h8 (0, 0)
        ))))
    )))) :
  AW m_X7_putNow d none Q 7 [some (.inr (some 104)), some (.inl x1), some (.inl x2), none] [] h (0, 0) := by
  obtain ⟨ko104, ro104_z, ko104_z, ro104_spare, ko104_spare, ro104_past, ko104_past, ro104_kept, ko104_kept, ro104_text, ko104_text, ro104_stack, ko104_stack, ro104_drew, ko104_drew, ro104_drawn, ko104_drawn, ro104_signs, ko104_signs, ro104_numbers, ko104_numbers⟩ := id hL
  refine aw_iload_n (pc := 7) dX7_putNow_7 rfl ?_
  refine aw_if_le (pc := 8) (tgt := 56) dX7_putNow_8 (by decide) (fun c1 => ?_) (fun c1 => ?_)
  · replace g := g.1 c1
    refine aw_aload_n (pc := 56) dX7_putNow_56 rfl ?_
    refine aw_iload_n (pc := 57) dX7_putNow_57 rfl ?_
    refine aw_iconst (pc := 58) dX7_putNow_58 ?_
    refine aw_iload_n (pc := 59) dX7_putNow_59 rfl ?_
    refine aw_invV (pc := 60) (md' := m_X7_lay) (ci := 7) (as := [(.inl x2), (.inl 0), (.inl x1)]) dX7_putNow_60 mo_X7_lay im_X7_lay se_X7_lay ml_X7_71 rfl ko104 rfl hd (Nat.le_of_ble_eq_true rfl) (Nat.le_of_ble_eq_true rfl) (Nat.le_of_ble_eq_true rfl) ?_
    refine am_mono g (fun _ h2 _ ok_h2 g => ?_)
    obtain ⟨rfl, ss_h2, g⟩ := g
    replace hL := QZ.ss hL ss_h2
    obtain ⟨ko104, ro104_z, ko104_z, ro104_spare, ko104_spare, ro104_past, ko104_past, ro104_kept, ko104_kept, ro104_text, ko104_text, ro104_stack, ko104_stack, ro104_drew, ko104_drew, ro104_drawn, ko104_drawn, ro104_signs, ko104_signs, ro104_numbers, ko104_numbers⟩ := id hL
    show AW m_X7_putNow d none Q 63 [some (.inr (some 104)), some (.inl x1), some (.inl x2), none] [] h2 (0, 0)
    refine aw_aload_n (pc := 63) dX7_putNow_63 rfl ?_
    refine aw_iload_n (pc := 64) dX7_putNow_64 rfl ?_
    refine aw_iconst (pc := 65) dX7_putNow_65 ?_
    refine aw_iconst (pc := 66) dX7_putNow_66 ?_
    refine aw_invV (pc := 67) (md' := m_X7_lay) (ci := 7) (as := [(.inl x2), (.inl 1), (.inl 1)]) dX7_putNow_67 mo_X7_lay im_X7_lay se_X7_lay ml_X7_71 rfl ko104 rfl hd (Nat.le_of_ble_eq_true rfl) (Nat.le_of_ble_eq_true rfl) (Nat.le_of_ble_eq_true rfl) ?_
    refine am_mono g (fun _ h3 _ ok_h3 g => ?_)
    obtain ⟨rfl, ss_h3, g⟩ := g
    replace hL := QZ.ss hL ss_h3
    obtain ⟨ko104, ro104_z, ko104_z, ro104_spare, ko104_spare, ro104_past, ko104_past, ro104_kept, ko104_kept, ro104_text, ko104_text, ro104_stack, ko104_stack, ro104_drew, ko104_drew, ro104_drawn, ko104_drawn, ro104_signs, ko104_signs, ro104_numbers, ko104_numbers⟩ := id hL
    show AW m_X7_putNow d none Q 70 [some (.inr (some 104)), some (.inl x1), some (.inl x2), none] [] h3 (0, 0)
    refine aw_aload_n (pc := 70) dX7_putNow_70 rfl ?_
    refine aw_iload_n (pc := 71) dX7_putNow_71 rfl ?_
    refine aw_iconst (pc := 72) dX7_putNow_72 ?_
    refine aw_iconst (pc := 73) dX7_putNow_73 ?_
    refine aw_invV (pc := 74) (md' := m_X7_lay) (ci := 7) (as := [(.inl x2), (.inl 2), (.inl 0)]) dX7_putNow_74 mo_X7_lay im_X7_lay se_X7_lay ml_X7_71 rfl ko104 rfl hd (Nat.le_of_ble_eq_true rfl) (Nat.le_of_ble_eq_true rfl) (Nat.le_of_ble_eq_true rfl) ?_
    refine am_mono g (fun _ h4 _ ok_h4 g => ?_)
    obtain ⟨rfl, ss_h4, g⟩ := g
    replace hL := QZ.ss hL ss_h4
    obtain ⟨ko104, ro104_z, ko104_z, ro104_spare, ko104_spare, ro104_past, ko104_past, ro104_kept, ko104_kept, ro104_text, ko104_text, ro104_stack, ko104_stack, ro104_drew, ko104_drew, ro104_drawn, ko104_drawn, ro104_signs, ko104_signs, ro104_numbers, ko104_numbers⟩ := id hL
    show AW m_X7_putNow d none Q 77 [some (.inr (some 104)), some (.inl x1), some (.inl x2), none] [] h4 (0, 0)
    refine aw_aload_n (pc := 77) dX7_putNow_77 rfl ?_
    refine aw_iload_n (pc := 78) dX7_putNow_78 rfl ?_
    refine aw_iconst (pc := 79) dX7_putNow_79 ?_
    refine aw_iconst (pc := 80) dX7_putNow_80 ?_
    refine aw_invV (pc := 81) (md' := m_X7_lay) (ci := 7) (as := [(.inl x2), (.inl 3), (.inl 0)]) dX7_putNow_81 mo_X7_lay im_X7_lay se_X7_lay ml_X7_71 rfl ko104 rfl hd (Nat.le_of_ble_eq_true rfl) (Nat.le_of_ble_eq_true rfl) (Nat.le_of_ble_eq_true rfl) ?_
    refine am_mono g (fun _ h5 _ ok_h5 g => ?_)
    obtain ⟨rfl, ss_h5, g⟩ := g
    replace hL := QZ.ss hL ss_h5
    obtain ⟨ko104, ro104_z, ko104_z, ro104_spare, ko104_spare, ro104_past, ko104_past, ro104_kept, ko104_kept, ro104_text, ko104_text, ro104_stack, ko104_stack, ro104_drew, ko104_drew, ro104_drawn, ko104_drawn, ro104_signs, ko104_signs, ro104_numbers, ko104_numbers⟩ := id hL
    show AW m_X7_putNow d none Q 84 [some (.inr (some 104)), some (.inl x1), some (.inl x2), none] [] h5 (0, 0)
    refine aw_aload_n (pc := 84) dX7_putNow_84 rfl ?_
    refine aw_getr (pc := 85) (r := some 105) dX7_putNow_85 fl_X7_7 (by decide) rfl ko104 ro104_z ?_
    refine aw_iconst (pc := 88) dX7_putNow_88 ?_
    refine aw_dup2 (pc := 89) dX7_putNow_89 ?_
    refine ax_iaload (pc := 90) (n := 293) (v := hi h5 105 0) dX7_putNow_90 ko104_z (by decide) rfl ?_
    refine aw_iconst (pc := 91) dX7_putNow_91 ?_
    obtain ⟨s6, g⟩ := g
    refine ax_iadd (pc := 92) (v := (hi h5 105 0) + 1) dX7_putNow_92 s6 rfl ?_
    refine ax_iastore (pc := 93) (n := 293) dX7_putNow_93 ko104_z (by decide) ?_
    exact aw_return (pc := 94) dX7_putNow_94 rfl g (by decide) (by decide)
  · replace g := g.2 c1
    refine aw_aload_n (pc := 11) dX7_putNow_11 rfl ?_
    refine aw_iload_n (pc := 12) dX7_putNow_12 rfl ?_
    refine aw_iconst (pc := 13) dX7_putNow_13 ?_
    obtain ⟨s7, g⟩ := g
    refine ax_isub (pc := 14) (v := x2 - 1) dX7_putNow_14 s7 rfl ?_
    refine aw_iconst (pc := 15) dX7_putNow_15 ?_
    refine aw_invV (pc := 16) (md' := m_X7_of) (ci := 7) (as := [(.inl (x2 - 1)), (.inl 0)]) dX7_putNow_16 mo_X7_of im_X7_of se_X7_of ml_X7_40 rfl ko104 rfl hd (Nat.le_of_ble_eq_true rfl) (Nat.le_of_ble_eq_true rfl) (Nat.le_of_ble_eq_true rfl) ?_
    refine am_mono g (fun _ h8 _ ok_h8 g => ?_)
    obtain ⟨v9, rfl, ss_h8, g⟩ := g
    replace hL := QZ.ss hL ss_h8
    obtain ⟨ko104, ro104_z, ko104_z, ro104_spare, ko104_spare, ro104_past, ko104_past, ro104_kept, ko104_kept, ro104_text, ko104_text, ro104_stack, ko104_stack, ro104_drew, ko104_drew, ro104_drawn, ko104_drawn, ro104_signs, ko104_signs, ro104_numbers, ko104_numbers⟩ := id hL
    show AW m_X7_putNow d none Q 19 [some (.inr (some 104)), some (.inl x1), some (.inl x2), none] [(.inl v9)] h8 (0, 0)
    refine aw_iload_n (pc := 19) dX7_putNow_19 rfl ?_
    refine aw_icmp_le (pc := 20) (tgt := 56) dX7_putNow_20 (by decide) (fun c10 => ?_) (fun c10 => ?_)
    · replace g := g.1 c10
      refine aw_aload_n (pc := 56) dX7_putNow_56 rfl ?_
      refine aw_iload_n (pc := 57) dX7_putNow_57 rfl ?_
      refine aw_iconst (pc := 58) dX7_putNow_58 ?_
      refine aw_iload_n (pc := 59) dX7_putNow_59 rfl ?_
      refine aw_invV (pc := 60) (md' := m_X7_lay) (ci := 7) (as := [(.inl x2), (.inl 0), (.inl x1)]) dX7_putNow_60 mo_X7_lay im_X7_lay se_X7_lay ml_X7_71 rfl ko104 rfl hd (Nat.le_of_ble_eq_true rfl) (Nat.le_of_ble_eq_true rfl) (Nat.le_of_ble_eq_true rfl) ?_
      refine am_mono g (fun _ h11 _ ok_h11 g => ?_)
      obtain ⟨rfl, ss_h11, g⟩ := g
      replace hL := QZ.ss hL ss_h11
      obtain ⟨ko104, ro104_z, ko104_z, ro104_spare, ko104_spare, ro104_past, ko104_past, ro104_kept, ko104_kept, ro104_text, ko104_text, ro104_stack, ko104_stack, ro104_drew, ko104_drew, ro104_drawn, ko104_drawn, ro104_signs, ko104_signs, ro104_numbers, ko104_numbers⟩ := id hL
      show AW m_X7_putNow d none Q 63 [some (.inr (some 104)), some (.inl x1), some (.inl x2), none] [] h11 (0, 0)
      refine aw_aload_n (pc := 63) dX7_putNow_63 rfl ?_
      refine aw_iload_n (pc := 64) dX7_putNow_64 rfl ?_
      refine aw_iconst (pc := 65) dX7_putNow_65 ?_
      refine aw_iconst (pc := 66) dX7_putNow_66 ?_
      refine aw_invV (pc := 67) (md' := m_X7_lay) (ci := 7) (as := [(.inl x2), (.inl 1), (.inl 1)]) dX7_putNow_67 mo_X7_lay im_X7_lay se_X7_lay ml_X7_71 rfl ko104 rfl hd (Nat.le_of_ble_eq_true rfl) (Nat.le_of_ble_eq_true rfl) (Nat.le_of_ble_eq_true rfl) ?_
      refine am_mono g (fun _ h12 _ ok_h12 g => ?_)
      obtain ⟨rfl, ss_h12, g⟩ := g
      replace hL := QZ.ss hL ss_h12
      obtain ⟨ko104, ro104_z, ko104_z, ro104_spare, ko104_spare, ro104_past, ko104_past, ro104_kept, ko104_kept, ro104_text, ko104_text, ro104_stack, ko104_stack, ro104_drew, ko104_drew, ro104_drawn, ko104_drawn, ro104_signs, ko104_signs, ro104_numbers, ko104_numbers⟩ := id hL
      show AW m_X7_putNow d none Q 70 [some (.inr (some 104)), some (.inl x1), some (.inl x2), none] [] h12 (0, 0)
      refine aw_aload_n (pc := 70) dX7_putNow_70 rfl ?_
      refine aw_iload_n (pc := 71) dX7_putNow_71 rfl ?_
      refine aw_iconst (pc := 72) dX7_putNow_72 ?_
      refine aw_iconst (pc := 73) dX7_putNow_73 ?_
      refine aw_invV (pc := 74) (md' := m_X7_lay) (ci := 7) (as := [(.inl x2), (.inl 2), (.inl 0)]) dX7_putNow_74 mo_X7_lay im_X7_lay se_X7_lay ml_X7_71 rfl ko104 rfl hd (Nat.le_of_ble_eq_true rfl) (Nat.le_of_ble_eq_true rfl) (Nat.le_of_ble_eq_true rfl) ?_
      refine am_mono g (fun _ h13 _ ok_h13 g => ?_)
      obtain ⟨rfl, ss_h13, g⟩ := g
      replace hL := QZ.ss hL ss_h13
      obtain ⟨ko104, ro104_z, ko104_z, ro104_spare, ko104_spare, ro104_past, ko104_past, ro104_kept, ko104_kept, ro104_text, ko104_text, ro104_stack, ko104_stack, ro104_drew, ko104_drew, ro104_drawn, ko104_drawn, ro104_signs, ko104_signs, ro104_numbers, ko104_numbers⟩ := id hL
      show AW m_X7_putNow d none Q 77 [some (.inr (some 104)), some (.inl x1), some (.inl x2), none] [] h13 (0, 0)
      refine aw_aload_n (pc := 77) dX7_putNow_77 rfl ?_
      refine aw_iload_n (pc := 78) dX7_putNow_78 rfl ?_
      refine aw_iconst (pc := 79) dX7_putNow_79 ?_
      refine aw_iconst (pc := 80) dX7_putNow_80 ?_
      refine aw_invV (pc := 81) (md' := m_X7_lay) (ci := 7) (as := [(.inl x2), (.inl 3), (.inl 0)]) dX7_putNow_81 mo_X7_lay im_X7_lay se_X7_lay ml_X7_71 rfl ko104 rfl hd (Nat.le_of_ble_eq_true rfl) (Nat.le_of_ble_eq_true rfl) (Nat.le_of_ble_eq_true rfl) ?_
      refine am_mono g (fun _ h14 _ ok_h14 g => ?_)
      obtain ⟨rfl, ss_h14, g⟩ := g
      replace hL := QZ.ss hL ss_h14
      obtain ⟨ko104, ro104_z, ko104_z, ro104_spare, ko104_spare, ro104_past, ko104_past, ro104_kept, ko104_kept, ro104_text, ko104_text, ro104_stack, ko104_stack, ro104_drew, ko104_drew, ro104_drawn, ko104_drawn, ro104_signs, ko104_signs, ro104_numbers, ko104_numbers⟩ := id hL
      show AW m_X7_putNow d none Q 84 [some (.inr (some 104)), some (.inl x1), some (.inl x2), none] [] h14 (0, 0)
      refine aw_aload_n (pc := 84) dX7_putNow_84 rfl ?_
      refine aw_getr (pc := 85) (r := some 105) dX7_putNow_85 fl_X7_7 (by decide) rfl ko104 ro104_z ?_
      refine aw_iconst (pc := 88) dX7_putNow_88 ?_
      refine aw_dup2 (pc := 89) dX7_putNow_89 ?_
      refine ax_iaload (pc := 90) (n := 293) (v := hi h14 105 0) dX7_putNow_90 ko104_z (by decide) rfl ?_
      refine aw_iconst (pc := 91) dX7_putNow_91 ?_
      obtain ⟨s15, g⟩ := g
      refine ax_iadd (pc := 92) (v := (hi h14 105 0) + 1) dX7_putNow_92 s15 rfl ?_
      refine ax_iastore (pc := 93) (n := 293) dX7_putNow_93 ko104_z (by decide) ?_
      exact aw_return (pc := 94) dX7_putNow_94 rfl g (by decide) (by decide)
    · replace g := g.2 c10
      refine aw_iconst (pc := 23) dX7_putNow_23 ?_
      refine ax_istore_n (pc := 24) (ls' := [some (.inr (some 104)), some (.inl x1), some (.inl x2), some (.inl 0)]) dX7_putNow_24 (Nat.le_of_ble_eq_true rfl) rfl ?_
      exact g
set_option maxRecDepth 100000 in
set_option maxHeartbeats 4000000 in
theorem vc_X7_putNow_25 {d : Nat} {Q : Option Int → AH → Prop} {h : AH} {x1 x2 x3 : Int} (hd : 1 ≤ d) (hL : QZ h)
  (g :
    ((4 ≤ x3 → (
      (rg (x2 - 1)) ∧
      AW m_X7_putNow d none Q 7 [some (.inr (some 104)), some (.inl x1), some (.inl (x2 - 1)), none] [] h (0, 0)
    )) ∧
    (¬ (4 ≤ x3) → (
      (rg (x2 - 1)) ∧
      AM (d - 1) m_X7_of [(.inr (some 104)), (.inl (x2 - 1)), (.inl x3)] h (fun r h19 => 
        ∃ v20, r = some v20 ∧ SS h h19 ∧
        AM (d - 1) m_X7_lay [(.inr (some 104)), (.inl x2), (.inl x3), (.inl v20)] h19 (fun r h21 => 
          r = none ∧ SS h19 h21 ∧
          (rg (x3 + 1)) ∧
          AW m_X7_putNow d none Q 25 [some (.inr (some 104)), some (.inl x1), some (.inl x2), some (.inl (x3 + 1))] [] h21 (0, 0)))
    )))) :
  AW m_X7_putNow d none Q 25 [some (.inr (some 104)), some (.inl x1), some (.inl x2), some (.inl x3)] [] h (0, 0) := by
  obtain ⟨ko104, ro104_z, ko104_z, ro104_spare, ko104_spare, ro104_past, ko104_past, ro104_kept, ko104_kept, ro104_text, ko104_text, ro104_stack, ko104_stack, ro104_drew, ko104_drew, ro104_drawn, ko104_drawn, ro104_signs, ko104_signs, ro104_numbers, ko104_numbers⟩ := id hL
  refine aw_iload_n (pc := 25) dX7_putNow_25 rfl ?_
  refine aw_iconst (pc := 26) dX7_putNow_26 ?_
  refine aw_icmp_ge (pc := 27) (tgt := 50) dX7_putNow_27 (by decide) (fun c16 => ?_) (fun c16 => ?_)
  · replace g := g.1 c16
    obtain ⟨s17, g⟩ := g
    refine ax_iinc (pc := 50) (v' := x2 - 1) (ls' := [some (.inr (some 104)), some (.inl x1), some (.inl (x2 - 1)), some (.inl x3)]) dX7_putNow_50 rfl s17 (by omega) rfl ?_
    refine aw_goto (pc := 53) (tgt := 7) dX7_putNow_53 (by decide) ?_
    exact aw_fewer (show subl [some (.inr (some 104)), some (.inl x1), some (.inl (x2 - 1)), none] [some (.inr (some 104)), some (.inl x1), some (.inl (x2 - 1)), some (.inl x3)] from (And.intro rfl (And.intro rfl (And.intro rfl trivial)))) g
  · replace g := g.2 c16
    refine aw_aload_n (pc := 30) dX7_putNow_30 rfl ?_
    refine aw_iload_n (pc := 31) dX7_putNow_31 rfl ?_
    refine aw_iload_n (pc := 32) dX7_putNow_32 rfl ?_
    refine aw_aload_n (pc := 33) dX7_putNow_33 rfl ?_
    refine aw_iload_n (pc := 34) dX7_putNow_34 rfl ?_
    refine aw_iconst (pc := 35) dX7_putNow_35 ?_
    obtain ⟨s18, g⟩ := g
    refine ax_isub (pc := 36) (v := x2 - 1) dX7_putNow_36 s18 rfl ?_
    refine aw_iload_n (pc := 37) dX7_putNow_37 rfl ?_
    refine aw_invV (pc := 38) (md' := m_X7_of) (ci := 7) (as := [(.inl (x2 - 1)), (.inl x3)]) dX7_putNow_38 mo_X7_of im_X7_of se_X7_of ml_X7_40 rfl ko104 rfl hd (Nat.le_of_ble_eq_true rfl) (Nat.le_of_ble_eq_true rfl) (Nat.le_of_ble_eq_true rfl) ?_
    refine am_mono g (fun _ h19 _ ok_h19 g => ?_)
    obtain ⟨v20, rfl, ss_h19, g⟩ := g
    replace hL := QZ.ss hL ss_h19
    obtain ⟨ko104, ro104_z, ko104_z, ro104_spare, ko104_spare, ro104_past, ko104_past, ro104_kept, ko104_kept, ro104_text, ko104_text, ro104_stack, ko104_stack, ro104_drew, ko104_drew, ro104_drawn, ko104_drawn, ro104_signs, ko104_signs, ro104_numbers, ko104_numbers⟩ := id hL
    show AW m_X7_putNow d none Q 41 [some (.inr (some 104)), some (.inl x1), some (.inl x2), some (.inl x3)] [(.inl v20), (.inl x3), (.inl x2), (.inr (some 104))] h19 (0, 0)
    refine aw_invV (pc := 41) (md' := m_X7_lay) (ci := 7) (as := [(.inl x2), (.inl x3), (.inl v20)]) dX7_putNow_41 mo_X7_lay im_X7_lay se_X7_lay ml_X7_71 rfl ko104 rfl hd (Nat.le_of_ble_eq_true rfl) (Nat.le_of_ble_eq_true rfl) (Nat.le_of_ble_eq_true rfl) ?_
    refine am_mono g (fun _ h21 _ ok_h21 g => ?_)
    obtain ⟨rfl, ss_h21, g⟩ := g
    replace hL := QZ.ss hL ss_h21
    obtain ⟨ko104, ro104_z, ko104_z, ro104_spare, ko104_spare, ro104_past, ko104_past, ro104_kept, ko104_kept, ro104_text, ko104_text, ro104_stack, ko104_stack, ro104_drew, ko104_drew, ro104_drawn, ko104_drawn, ro104_signs, ko104_signs, ro104_numbers, ko104_numbers⟩ := id hL
    show AW m_X7_putNow d none Q 44 [some (.inr (some 104)), some (.inl x1), some (.inl x2), some (.inl x3)] [] h21 (0, 0)
    obtain ⟨s22, g⟩ := g
    refine ax_iinc (pc := 44) (v' := x3 + 1) (ls' := [some (.inr (some 104)), some (.inl x1), some (.inl x2), some (.inl (x3 + 1))]) dX7_putNow_44 rfl s22 rfl rfl ?_
    refine aw_goto (pc := 47) (tgt := 25) dX7_putNow_47 (by decide) ?_
    exact g
set_option maxRecDepth 100000 in
set_option maxHeartbeats 4000000 in
theorem vc_X7_takeNow {d : Nat} {Q : Option Int → AH → Prop} {h : AH} {x1 : Int} (hL : QZ h)
  (g :
    (rg ((hi h 105 0) - 1)) ∧
    (rg (4 * x1)) ∧
    AW m_X7_takeNow d none Q 14 [some (.inr (some 104)), some (.inl x1), some (.inl (4 * x1))] [] (up h 105 0 ((hi h 105 0) - 1)) (0, 0)) :
  AM d m_X7_takeNow [(.inr (some 104)), (.inl x1)] h Q := by
  refine am_body mo_X7_takeNow (Nat.le_of_ble_eq_true rfl) ?_
  show AW m_X7_takeNow d none Q 0 [some (.inr (some 104)), some (.inl x1), none] [] h (0, 0)
  obtain ⟨ko104, ro104_z, ko104_z, ro104_spare, ko104_spare, ro104_past, ko104_past, ro104_kept, ko104_kept, ro104_text, ko104_text, ro104_stack, ko104_stack, ro104_drew, ko104_drew, ro104_drawn, ko104_drawn, ro104_signs, ko104_signs, ro104_numbers, ko104_numbers⟩ := id hL
  refine aw_aload_n (pc := 0) dX7_takeNow_0 rfl ?_
  refine aw_getr (pc := 1) (r := some 105) dX7_takeNow_1 fl_X7_7 (by decide) rfl ko104 ro104_z ?_
  refine aw_iconst (pc := 4) dX7_takeNow_4 ?_
  refine aw_dup2 (pc := 5) dX7_takeNow_5 ?_
  refine ax_iaload (pc := 6) (n := 293) (v := hi h 105 0) dX7_takeNow_6 ko104_z (by decide) rfl ?_
  refine aw_iconst (pc := 7) dX7_takeNow_7 ?_
  obtain ⟨s1, g⟩ := g
  refine ax_isub (pc := 8) (v := (hi h 105 0) - 1) dX7_takeNow_8 s1 rfl ?_
  refine ax_iastore (pc := 9) (n := 293) dX7_takeNow_9 ko104_z (by decide) ?_
  refine aw_iconst (pc := 10) dX7_takeNow_10 ?_
  refine aw_iload_n (pc := 11) dX7_takeNow_11 rfl ?_
  obtain ⟨s2, g⟩ := g
  refine ax_imul (pc := 12) (v := 4 * x1) dX7_takeNow_12 s2 rfl ?_
  refine ax_istore_n (pc := 13) (ls' := [some (.inr (some 104)), some (.inl x1), some (.inl (4 * x1))]) dX7_takeNow_13 (Nat.le_of_ble_eq_true rfl) rfl ?_
  exact g
set_option maxRecDepth 100000 in
set_option maxHeartbeats 4000000 in
theorem vc_X7_takeNow_14 {d : Nat} {Q : Option Int → AH → Prop} {h : AH} {x1 x2 : Int} (hL : QZ h)
  (g :
    (rg (4 * (hi h 105 0))) ∧
    ((4 * (hi h 105 0) ≤ x2 → (
      Q none h
    )) ∧
    (¬ (4 * (hi h 105 0) ≤ x2) → (
      (rg (13 + x2)) ∧
      (rg ((13 + x2) + 4)) ∧
      (0 ≤ (13 + x2) + 4 ∧ (13 + x2) + 4 < 293) ∧
      (0 ≤ 13 + x2 ∧ 13 + x2 < 293) ∧
      (rg (x2 + 1)) ∧
      AW m_X7_takeNow d none Q 14 [some (.inr (some 104)), some (.inl x1), some (.inl (x2 + 1))] [] (up h 105 (13 + x2) (hi h 105 ((13 + x2) + 4))) (0, 0)
    )))) :
  AW m_X7_takeNow d none Q 14 [some (.inr (some 104)), some (.inl x1), some (.inl x2)] [] h (0, 0) := by
  obtain ⟨ko104, ro104_z, ko104_z, ro104_spare, ko104_spare, ro104_past, ko104_past, ro104_kept, ko104_kept, ro104_text, ko104_text, ro104_stack, ko104_stack, ro104_drew, ko104_drew, ro104_drawn, ko104_drawn, ro104_signs, ko104_signs, ro104_numbers, ko104_numbers⟩ := id hL
  refine aw_iload_n (pc := 14) dX7_takeNow_14 rfl ?_
  refine aw_iconst (pc := 15) dX7_takeNow_15 ?_
  refine aw_aload_n (pc := 16) dX7_takeNow_16 rfl ?_
  refine aw_getr (pc := 17) (r := some 105) dX7_takeNow_17 fl_X7_7 (by decide) rfl ko104 ro104_z ?_
  refine aw_iconst (pc := 20) dX7_takeNow_20 ?_
  refine ax_iaload (pc := 21) (n := 293) (v := hi h 105 0) dX7_takeNow_21 ko104_z (by decide) rfl ?_
  obtain ⟨s3, g⟩ := g
  refine ax_imul (pc := 22) (v := 4 * (hi h 105 0)) dX7_takeNow_22 s3 rfl ?_
  refine aw_icmp_ge (pc := 23) (tgt := 52) dX7_takeNow_23 (by decide) (fun c4 => ?_) (fun c4 => ?_)
  · replace g := g.1 c4
    exact aw_return (pc := 52) dX7_takeNow_52 rfl g (by decide) (by decide)
  · replace g := g.2 c4
    refine aw_aload_n (pc := 26) dX7_takeNow_26 rfl ?_
    refine aw_getr (pc := 27) (r := some 105) dX7_takeNow_27 fl_X7_7 (by decide) rfl ko104 ro104_z ?_
    refine aw_bipush (pc := 30) dX7_takeNow_30 ?_
    refine aw_iload_n (pc := 32) dX7_takeNow_32 rfl ?_
    obtain ⟨s5, g⟩ := g
    refine ax_iadd (pc := 33) (v := 13 + x2) dX7_takeNow_33 s5 rfl ?_
    refine aw_aload_n (pc := 34) dX7_takeNow_34 rfl ?_
    refine aw_getr (pc := 35) (r := some 105) dX7_takeNow_35 fl_X7_7 (by decide) rfl ko104 ro104_z ?_
    refine aw_bipush (pc := 38) dX7_takeNow_38 ?_
    refine aw_iload_n (pc := 40) dX7_takeNow_40 rfl ?_
    refine ax_iadd (pc := 41) (v := 13 + x2) dX7_takeNow_41 s5 rfl ?_
    refine aw_iconst (pc := 42) dX7_takeNow_42 ?_
    obtain ⟨s6, g⟩ := g
    refine ax_iadd (pc := 43) (v := (13 + x2) + 4) dX7_takeNow_43 s6 rfl ?_
    obtain ⟨s7, g⟩ := g
    refine ax_iaload (pc := 44) (n := 293) (v := hi h 105 ((13 + x2) + 4)) dX7_takeNow_44 ko104_z s7 rfl ?_
    obtain ⟨s8, g⟩ := g
    refine ax_iastore (pc := 45) (n := 293) dX7_takeNow_45 ko104_z s8 ?_
    obtain ⟨s9, g⟩ := g
    refine ax_iinc (pc := 46) (v' := x2 + 1) (ls' := [some (.inr (some 104)), some (.inl x1), some (.inl (x2 + 1))]) dX7_takeNow_46 rfl s9 rfl rfl ?_
    refine aw_goto (pc := 49) (tgt := 14) dX7_takeNow_49 (by decide) ?_
    exact g
set_option maxRecDepth 100000 in
set_option maxHeartbeats 4000000 in
theorem vc_X7_put {d : Nat} {Q : Option Int → AH → Prop} {h : AH} {x1 : Int} (hd : 1 ≤ d) (hL : QZ h)
  (g :
    AM (d - 1) m_X7_whyNotPut [(.inr (some 104)), (.inl x1)] h (fun r h1 => 
      ∃ v2, r = some v2 ∧ SS h h1 ∧
      ((0 ≤ v2 → (
        AM (d - 1) m_X7_record [(.inr (some 104))] h1 (fun r h4 => 
          r = none ∧ SS h1 h4 ∧
          AM (d - 1) m_X7_putNow [(.inr (some 104)), (.inl x1)] h4 (fun r h5 => 
            r = none ∧ SS h4 h5 ∧
            Q (some (hi h5 105 0)) h5))
      )) ∧
      (¬ (0 ≤ v2) → (
        Q (some v2) h1
      ))))) :
  AM d m_X7_put [(.inr (some 104)), (.inl x1)] h Q := by
  refine am_body mo_X7_put (Nat.le_of_ble_eq_true rfl) ?_
  show AW m_X7_put d none Q 0 [some (.inr (some 104)), some (.inl x1), none] [] h (0, 0)
  obtain ⟨ko104, ro104_z, ko104_z, ro104_spare, ko104_spare, ro104_past, ko104_past, ro104_kept, ko104_kept, ro104_text, ko104_text, ro104_stack, ko104_stack, ro104_drew, ko104_drew, ro104_drawn, ko104_drawn, ro104_signs, ko104_signs, ro104_numbers, ko104_numbers⟩ := id hL
  refine aw_aload_n (pc := 0) dX7_put_0 rfl ?_
  refine aw_iload_n (pc := 1) dX7_put_1 rfl ?_
  refine aw_invV (pc := 2) (md' := m_X7_whyNotPut) (ci := 7) (as := [(.inl x1)]) dX7_put_2 mo_X7_whyNotPut im_X7_whyNotPut se_X7_whyNotPut ml_X7_75 rfl ko104 rfl hd (Nat.le_of_ble_eq_true rfl) (Nat.le_of_ble_eq_true rfl) (Nat.le_of_ble_eq_true rfl) ?_
  refine am_mono g (fun _ h1 _ ok_h1 g => ?_)
  obtain ⟨v2, rfl, ss_h1, g⟩ := g
  replace hL := QZ.ss hL ss_h1
  obtain ⟨ko104, ro104_z, ko104_z, ro104_spare, ko104_spare, ro104_past, ko104_past, ro104_kept, ko104_kept, ro104_text, ko104_text, ro104_stack, ko104_stack, ro104_drew, ko104_drew, ro104_drawn, ko104_drawn, ro104_signs, ko104_signs, ro104_numbers, ko104_numbers⟩ := id hL
  show AW m_X7_put d none Q 5 [some (.inr (some 104)), some (.inl x1), none] [(.inl v2)] h1 (0, 0)
  refine ax_istore_n (pc := 5) (ls' := [some (.inr (some 104)), some (.inl x1), some (.inl v2)]) dX7_put_5 (Nat.le_of_ble_eq_true rfl) rfl ?_
  refine aw_iload_n (pc := 6) dX7_put_6 rfl ?_
  refine aw_if_ge (pc := 7) (tgt := 12) dX7_put_7 (by decide) (fun c3 => ?_) (fun c3 => ?_)
  · replace g := g.1 c3
    refine aw_aload_n (pc := 12) dX7_put_12 rfl ?_
    refine aw_invV (pc := 13) (md' := m_X7_record) (ci := 7) (as := []) dX7_put_13 mo_X7_record im_X7_record se_X7_record ml_X7_60 rfl ko104 rfl hd (Nat.le_of_ble_eq_true rfl) (Nat.le_of_ble_eq_true rfl) (Nat.le_of_ble_eq_true rfl) ?_
    refine am_mono g (fun _ h4 _ ok_h4 g => ?_)
    obtain ⟨rfl, ss_h4, g⟩ := g
    replace hL := QZ.ss hL ss_h4
    obtain ⟨ko104, ro104_z, ko104_z, ro104_spare, ko104_spare, ro104_past, ko104_past, ro104_kept, ko104_kept, ro104_text, ko104_text, ro104_stack, ko104_stack, ro104_drew, ko104_drew, ro104_drawn, ko104_drawn, ro104_signs, ko104_signs, ro104_numbers, ko104_numbers⟩ := id hL
    show AW m_X7_put d none Q 16 [some (.inr (some 104)), some (.inl x1), some (.inl v2)] [] h4 (0, 0)
    refine aw_aload_n (pc := 16) dX7_put_16 rfl ?_
    refine aw_iload_n (pc := 17) dX7_put_17 rfl ?_
    refine aw_invV (pc := 18) (md' := m_X7_putNow) (ci := 7) (as := [(.inl x1)]) dX7_put_18 mo_X7_putNow im_X7_putNow se_X7_putNow ml_X7_78 rfl ko104 rfl hd (Nat.le_of_ble_eq_true rfl) (Nat.le_of_ble_eq_true rfl) (Nat.le_of_ble_eq_true rfl) ?_
    refine am_mono g (fun _ h5 _ ok_h5 g => ?_)
    obtain ⟨rfl, ss_h5, g⟩ := g
    replace hL := QZ.ss hL ss_h5
    obtain ⟨ko104, ro104_z, ko104_z, ro104_spare, ko104_spare, ro104_past, ko104_past, ro104_kept, ko104_kept, ro104_text, ko104_text, ro104_stack, ko104_stack, ro104_drew, ko104_drew, ro104_drawn, ko104_drawn, ro104_signs, ko104_signs, ro104_numbers, ko104_numbers⟩ := id hL
    show AW m_X7_put d none Q 21 [some (.inr (some 104)), some (.inl x1), some (.inl v2)] [] h5 (0, 0)
    refine aw_aload_n (pc := 21) dX7_put_21 rfl ?_
    refine aw_getr (pc := 22) (r := some 105) dX7_put_22 fl_X7_7 (by decide) rfl ko104 ro104_z ?_
    refine aw_iconst (pc := 25) dX7_put_25 ?_
    refine ax_iaload (pc := 26) (n := 293) (v := hi h5 105 0) dX7_put_26 ko104_z (by decide) rfl ?_
    exact ax_ireturn (pc := 27) dX7_put_27 rfl g (by decide) (by decide)
  · replace g := g.2 c3
    refine aw_iload_n (pc := 10) dX7_put_10 rfl ?_
    exact ax_ireturn (pc := 11) dX7_put_11 rfl g (by decide) (by decide)
set_option maxRecDepth 100000 in
set_option maxHeartbeats 4000000 in
theorem vc_X7_take {d : Nat} {Q : Option Int → AH → Prop} {h : AH} {x1 : Int} (hd : 1 ≤ d) (hL : QZ h)
  (g :
    AM (d - 1) m_X7_cardWith [(.inr (some 104)), (.inl x1)] h (fun r h1 => 
      ∃ v2, r = some v2 ∧ SS h h1 ∧
      ((¬ v2 = -5 → (
        AM (d - 1) m_X7_record [(.inr (some 104))] h1 (fun r h4 => 
          r = none ∧ SS h1 h4 ∧
          AM (d - 1) m_X7_takeNow [(.inr (some 104)), (.inl v2)] h4 (fun r h5 => 
            r = none ∧ SS h4 h5 ∧
            Q (some (hi h5 105 0)) h5))
      )) ∧
      (¬ (¬ v2 = -5) → (
        Q (some (-1)) h1
      ))))) :
  AM d m_X7_take [(.inr (some 104)), (.inl x1)] h Q := by
  refine am_body mo_X7_take (Nat.le_of_ble_eq_true rfl) ?_
  show AW m_X7_take d none Q 0 [some (.inr (some 104)), some (.inl x1), none] [] h (0, 0)
  obtain ⟨ko104, ro104_z, ko104_z, ro104_spare, ko104_spare, ro104_past, ko104_past, ro104_kept, ko104_kept, ro104_text, ko104_text, ro104_stack, ko104_stack, ro104_drew, ko104_drew, ro104_drawn, ko104_drawn, ro104_signs, ko104_signs, ro104_numbers, ko104_numbers⟩ := id hL
  refine aw_aload_n (pc := 0) dX7_take_0 rfl ?_
  refine aw_iload_n (pc := 1) dX7_take_1 rfl ?_
  refine aw_invV (pc := 2) (md' := m_X7_cardWith) (ci := 7) (as := [(.inl x1)]) dX7_take_2 mo_X7_cardWith im_X7_cardWith se_X7_cardWith ml_X7_67 rfl ko104 rfl hd (Nat.le_of_ble_eq_true rfl) (Nat.le_of_ble_eq_true rfl) (Nat.le_of_ble_eq_true rfl) ?_
  refine am_mono g (fun _ h1 _ ok_h1 g => ?_)
  obtain ⟨v2, rfl, ss_h1, g⟩ := g
  replace hL := QZ.ss hL ss_h1
  obtain ⟨ko104, ro104_z, ko104_z, ro104_spare, ko104_spare, ro104_past, ko104_past, ro104_kept, ko104_kept, ro104_text, ko104_text, ro104_stack, ko104_stack, ro104_drew, ko104_drew, ro104_drawn, ko104_drawn, ro104_signs, ko104_signs, ro104_numbers, ko104_numbers⟩ := id hL
  show AW m_X7_take d none Q 5 [some (.inr (some 104)), some (.inl x1), none] [(.inl v2)] h1 (0, 0)
  refine ax_istore_n (pc := 5) (ls' := [some (.inr (some 104)), some (.inl x1), some (.inl v2)]) dX7_take_5 (Nat.le_of_ble_eq_true rfl) rfl ?_
  refine aw_iload_n (pc := 6) dX7_take_6 rfl ?_
  refine aw_bipush (pc := 7) dX7_take_7 ?_
  refine aw_icmp_ne (pc := 9) (tgt := 14) dX7_take_9 (by decide) (fun c3 => ?_) (fun c3 => ?_)
  · replace g := g.1 c3
    refine aw_aload_n (pc := 14) dX7_take_14 rfl ?_
    refine aw_invV (pc := 15) (md' := m_X7_record) (ci := 7) (as := []) dX7_take_15 mo_X7_record im_X7_record se_X7_record ml_X7_60 rfl ko104 rfl hd (Nat.le_of_ble_eq_true rfl) (Nat.le_of_ble_eq_true rfl) (Nat.le_of_ble_eq_true rfl) ?_
    refine am_mono g (fun _ h4 _ ok_h4 g => ?_)
    obtain ⟨rfl, ss_h4, g⟩ := g
    replace hL := QZ.ss hL ss_h4
    obtain ⟨ko104, ro104_z, ko104_z, ro104_spare, ko104_spare, ro104_past, ko104_past, ro104_kept, ko104_kept, ro104_text, ko104_text, ro104_stack, ko104_stack, ro104_drew, ko104_drew, ro104_drawn, ko104_drawn, ro104_signs, ko104_signs, ro104_numbers, ko104_numbers⟩ := id hL
    show AW m_X7_take d none Q 18 [some (.inr (some 104)), some (.inl x1), some (.inl v2)] [] h4 (0, 0)
    refine aw_aload_n (pc := 18) dX7_take_18 rfl ?_
    refine aw_iload_n (pc := 19) dX7_take_19 rfl ?_
    refine aw_invV (pc := 20) (md' := m_X7_takeNow) (ci := 7) (as := [(.inl v2)]) dX7_take_20 mo_X7_takeNow im_X7_takeNow se_X7_takeNow ml_X7_82 rfl ko104 rfl hd (Nat.le_of_ble_eq_true rfl) (Nat.le_of_ble_eq_true rfl) (Nat.le_of_ble_eq_true rfl) ?_
    refine am_mono g (fun _ h5 _ ok_h5 g => ?_)
    obtain ⟨rfl, ss_h5, g⟩ := g
    replace hL := QZ.ss hL ss_h5
    obtain ⟨ko104, ro104_z, ko104_z, ro104_spare, ko104_spare, ro104_past, ko104_past, ro104_kept, ko104_kept, ro104_text, ko104_text, ro104_stack, ko104_stack, ro104_drew, ko104_drew, ro104_drawn, ko104_drawn, ro104_signs, ko104_signs, ro104_numbers, ko104_numbers⟩ := id hL
    show AW m_X7_take d none Q 23 [some (.inr (some 104)), some (.inl x1), some (.inl v2)] [] h5 (0, 0)
    refine aw_aload_n (pc := 23) dX7_take_23 rfl ?_
    refine aw_getr (pc := 24) (r := some 105) dX7_take_24 fl_X7_7 (by decide) rfl ko104 ro104_z ?_
    refine aw_iconst (pc := 27) dX7_take_27 ?_
    refine ax_iaload (pc := 28) (n := 293) (v := hi h5 105 0) dX7_take_28 ko104_z (by decide) rfl ?_
    exact ax_ireturn (pc := 29) dX7_take_29 rfl g (by decide) (by decide)
  · replace g := g.2 c3
    refine aw_iconst (pc := 12) dX7_take_12 ?_
    exact ax_ireturn (pc := 13) dX7_take_13 rfl g (by decide) (by decide)
set_option maxRecDepth 100000 in
set_option maxHeartbeats 4000000 in
theorem vc_X7_awake {d : Nat} {Q : Option Int → AH → Prop} {h : AH}  (hd : 1 ≤ d) (hL : QZ h)
  (g :
    AW m_X7_awake d none Q 4 [some (.inr (some 104)), some (.inl 0), some (.inl 0)] [] h (0, 0)) :
  AM d m_X7_awake [(.inr (some 104))] h Q := by
  refine am_body mo_X7_awake (Nat.le_of_ble_eq_true rfl) ?_
  show AW m_X7_awake d none Q 0 [some (.inr (some 104)), none, none] [] h (0, 0)
  obtain ⟨ko104, ro104_z, ko104_z, ro104_spare, ko104_spare, ro104_past, ko104_past, ro104_kept, ko104_kept, ro104_text, ko104_text, ro104_stack, ko104_stack, ro104_drew, ko104_drew, ro104_drawn, ko104_drawn, ro104_signs, ko104_signs, ro104_numbers, ko104_numbers⟩ := id hL
  refine aw_iconst (pc := 0) dX7_awake_0 ?_
  refine ax_istore_n (pc := 1) (ls' := [some (.inr (some 104)), some (.inl 0), none]) dX7_awake_1 (Nat.le_of_ble_eq_true rfl) rfl ?_
  refine aw_iconst (pc := 2) dX7_awake_2 ?_
  refine ax_istore_n (pc := 3) (ls' := [some (.inr (some 104)), some (.inl 0), some (.inl 0)]) dX7_awake_3 (Nat.le_of_ble_eq_true rfl) rfl ?_
  exact g
set_option maxRecDepth 100000 in
set_option maxHeartbeats 4000000 in
theorem vc_X7_awake_4 {d : Nat} {Q : Option Int → AH → Prop} {h : AH} {x1 x2 : Int} (hd : 1 ≤ d) (hL : QZ h)
  (g :
    ((hi h 105 0 ≤ x2 → (
      Q (some x1) h
    )) ∧
    (¬ (hi h 105 0 ≤ x2) → (
      AM (d - 1) m_X7_of [(.inr (some 104)), (.inl x2), (.inl 1)] h (fun r h2 => 
        ∃ v3, r = some v3 ∧ SS h h2 ∧
        (rg (x1 + v3)) ∧
        (rg (x2 + 1)) ∧
        AW m_X7_awake d none Q 4 [some (.inr (some 104)), some (.inl (x1 + v3)), some (.inl (x2 + 1))] [] h2 (0, 0))
    )))) :
  AW m_X7_awake d none Q 4 [some (.inr (some 104)), some (.inl x1), some (.inl x2)] [] h (0, 0) := by
  obtain ⟨ko104, ro104_z, ko104_z, ro104_spare, ko104_spare, ro104_past, ko104_past, ro104_kept, ko104_kept, ro104_text, ko104_text, ro104_stack, ko104_stack, ro104_drew, ko104_drew, ro104_drawn, ko104_drawn, ro104_signs, ko104_signs, ro104_numbers, ko104_numbers⟩ := id hL
  refine aw_iload_n (pc := 4) dX7_awake_4 rfl ?_
  refine aw_aload_n (pc := 5) dX7_awake_5 rfl ?_
  refine aw_getr (pc := 6) (r := some 105) dX7_awake_6 fl_X7_7 (by decide) rfl ko104 ro104_z ?_
  refine aw_iconst (pc := 9) dX7_awake_9 ?_
  refine ax_iaload (pc := 10) (n := 293) (v := hi h 105 0) dX7_awake_10 ko104_z (by decide) rfl ?_
  refine aw_icmp_ge (pc := 11) (tgt := 29) dX7_awake_11 (by decide) (fun c1 => ?_) (fun c1 => ?_)
  · replace g := g.1 c1
    refine aw_iload_n (pc := 29) dX7_awake_29 rfl ?_
    exact ax_ireturn (pc := 30) dX7_awake_30 rfl g (by decide) (by decide)
  · replace g := g.2 c1
    refine aw_iload_n (pc := 14) dX7_awake_14 rfl ?_
    refine aw_aload_n (pc := 15) dX7_awake_15 rfl ?_
    refine aw_iload_n (pc := 16) dX7_awake_16 rfl ?_
    refine aw_iconst (pc := 17) dX7_awake_17 ?_
    refine aw_invV (pc := 18) (md' := m_X7_of) (ci := 7) (as := [(.inl x2), (.inl 1)]) dX7_awake_18 mo_X7_of im_X7_of se_X7_of ml_X7_40 rfl ko104 rfl hd (Nat.le_of_ble_eq_true rfl) (Nat.le_of_ble_eq_true rfl) (Nat.le_of_ble_eq_true rfl) ?_
    refine am_mono g (fun _ h2 _ ok_h2 g => ?_)
    obtain ⟨v3, rfl, ss_h2, g⟩ := g
    replace hL := QZ.ss hL ss_h2
    obtain ⟨ko104, ro104_z, ko104_z, ro104_spare, ko104_spare, ro104_past, ko104_past, ro104_kept, ko104_kept, ro104_text, ko104_text, ro104_stack, ko104_stack, ro104_drew, ko104_drew, ro104_drawn, ko104_drawn, ro104_signs, ko104_signs, ro104_numbers, ko104_numbers⟩ := id hL
    show AW m_X7_awake d none Q 21 [some (.inr (some 104)), some (.inl x1), some (.inl x2)] [(.inl v3), (.inl x1)] h2 (0, 0)
    obtain ⟨s4, g⟩ := g
    refine ax_iadd (pc := 21) (v := x1 + v3) dX7_awake_21 s4 rfl ?_
    refine ax_istore_n (pc := 22) (ls' := [some (.inr (some 104)), some (.inl (x1 + v3)), some (.inl x2)]) dX7_awake_22 (Nat.le_of_ble_eq_true rfl) rfl ?_
    obtain ⟨s5, g⟩ := g
    refine ax_iinc (pc := 23) (v' := x2 + 1) (ls' := [some (.inr (some 104)), some (.inl (x1 + v3)), some (.inl (x2 + 1))]) dX7_awake_23 rfl s5 rfl rfl ?_
    refine aw_goto (pc := 26) (tgt := 4) dX7_awake_26 (by decide) ?_
    exact g
set_option maxRecDepth 100000 in
set_option maxHeartbeats 4000000 in
theorem vc_X7_sleep {d : Nat} {Q : Option Int → AH → Prop} {h : AH} {x1 : Int} (hd : 1 ≤ d) (hL : QZ h)
  (g :
    AM (d - 1) m_X7_cardWith [(.inr (some 104)), (.inl x1)] h (fun r h1 => 
      ∃ v2, r = some v2 ∧ SS h h1 ∧
      ((v2 = -5 → (
        Q (some (-1)) h1
      )) ∧
      (¬ (v2 = -5) → (
        AM (d - 1) m_X7_of [(.inr (some 104)), (.inl v2), (.inl 1)] h1 (fun r h5 => 
          ∃ v6, r = some v6 ∧ SS h1 h5 ∧
          ((¬ v6 = 0 → (
            AM (d - 1) m_X7_record [(.inr (some 104))] h5 (fun r h8 => 
              r = none ∧ SS h5 h8 ∧
              AM (d - 1) m_X7_lay [(.inr (some 104)), (.inl v2), (.inl 1), (.inl 0)] h8 (fun r h9 => 
                r = none ∧ SS h8 h9 ∧
                AM (d - 1) m_X7_awake [(.inr (some 104))] h9 (fun r h10 => 
                  ∃ v11, r = some v11 ∧ SS h9 h10 ∧
                  Q (some v11) h10)))
          )) ∧
          (¬ (¬ v6 = 0) → (
            Q (some (-5)) h5
          ))))
      ))))) :
  AM d m_X7_sleep [(.inr (some 104)), (.inl x1)] h Q := by
  refine am_body mo_X7_sleep (Nat.le_of_ble_eq_true rfl) ?_
  show AW m_X7_sleep d none Q 0 [some (.inr (some 104)), some (.inl x1), none] [] h (0, 0)
  obtain ⟨ko104, ro104_z, ko104_z, ro104_spare, ko104_spare, ro104_past, ko104_past, ro104_kept, ko104_kept, ro104_text, ko104_text, ro104_stack, ko104_stack, ro104_drew, ko104_drew, ro104_drawn, ko104_drawn, ro104_signs, ko104_signs, ro104_numbers, ko104_numbers⟩ := id hL
  refine aw_aload_n (pc := 0) dX7_sleep_0 rfl ?_
  refine aw_iload_n (pc := 1) dX7_sleep_1 rfl ?_
  refine aw_invV (pc := 2) (md' := m_X7_cardWith) (ci := 7) (as := [(.inl x1)]) dX7_sleep_2 mo_X7_cardWith im_X7_cardWith se_X7_cardWith ml_X7_67 rfl ko104 rfl hd (Nat.le_of_ble_eq_true rfl) (Nat.le_of_ble_eq_true rfl) (Nat.le_of_ble_eq_true rfl) ?_
  refine am_mono g (fun _ h1 _ ok_h1 g => ?_)
  obtain ⟨v2, rfl, ss_h1, g⟩ := g
  replace hL := QZ.ss hL ss_h1
  obtain ⟨ko104, ro104_z, ko104_z, ro104_spare, ko104_spare, ro104_past, ko104_past, ro104_kept, ko104_kept, ro104_text, ko104_text, ro104_stack, ko104_stack, ro104_drew, ko104_drew, ro104_drawn, ko104_drawn, ro104_signs, ko104_signs, ro104_numbers, ko104_numbers⟩ := id hL
  show AW m_X7_sleep d none Q 5 [some (.inr (some 104)), some (.inl x1), none] [(.inl v2)] h1 (0, 0)
  refine ax_istore_n (pc := 5) (ls' := [some (.inr (some 104)), some (.inl x1), some (.inl v2)]) dX7_sleep_5 (Nat.le_of_ble_eq_true rfl) rfl ?_
  refine aw_iload_n (pc := 6) dX7_sleep_6 rfl ?_
  refine aw_bipush (pc := 7) dX7_sleep_7 ?_
  refine aw_icmp_eq (pc := 9) (tgt := 21) dX7_sleep_9 (by decide) (fun c3 => ?_) (fun c3 => ?_)
  · replace g := g.1 c3
    refine aw_iload_n (pc := 21) dX7_sleep_21 rfl ?_
    refine aw_bipush (pc := 22) dX7_sleep_22 ?_
    refine aw_icmp_ne (pc := 24) (tgt := 31) dX7_sleep_24 (by decide) (fun c4 => False.elim (by omega)) (fun c4 => ?_)
    refine aw_iconst (pc := 27) dX7_sleep_27 ?_
    refine aw_goto (pc := 28) (tgt := 33) dX7_sleep_28 (by decide) ?_
    exact ax_ireturn (pc := 33) dX7_sleep_33 rfl g (by decide) (by decide)
  · replace g := g.2 c3
    refine aw_aload_n (pc := 12) dX7_sleep_12 rfl ?_
    refine aw_iload_n (pc := 13) dX7_sleep_13 rfl ?_
    refine aw_iconst (pc := 14) dX7_sleep_14 ?_
    refine aw_invV (pc := 15) (md' := m_X7_of) (ci := 7) (as := [(.inl v2), (.inl 1)]) dX7_sleep_15 mo_X7_of im_X7_of se_X7_of ml_X7_40 rfl ko104 rfl hd (Nat.le_of_ble_eq_true rfl) (Nat.le_of_ble_eq_true rfl) (Nat.le_of_ble_eq_true rfl) ?_
    refine am_mono g (fun _ h5 _ ok_h5 g => ?_)
    obtain ⟨v6, rfl, ss_h5, g⟩ := g
    replace hL := QZ.ss hL ss_h5
    obtain ⟨ko104, ro104_z, ko104_z, ro104_spare, ko104_spare, ro104_past, ko104_past, ro104_kept, ko104_kept, ro104_text, ko104_text, ro104_stack, ko104_stack, ro104_drew, ko104_drew, ro104_drawn, ko104_drawn, ro104_signs, ko104_signs, ro104_numbers, ko104_numbers⟩ := id hL
    show AW m_X7_sleep d none Q 18 [some (.inr (some 104)), some (.inl x1), some (.inl v2)] [(.inl v6)] h5 (0, 0)
    refine aw_if_ne (pc := 18) (tgt := 34) dX7_sleep_18 (by decide) (fun c7 => ?_) (fun c7 => ?_)
    · replace g := g.1 c7
      refine aw_aload_n (pc := 34) dX7_sleep_34 rfl ?_
      refine aw_invV (pc := 35) (md' := m_X7_record) (ci := 7) (as := []) dX7_sleep_35 mo_X7_record im_X7_record se_X7_record ml_X7_60 rfl ko104 rfl hd (Nat.le_of_ble_eq_true rfl) (Nat.le_of_ble_eq_true rfl) (Nat.le_of_ble_eq_true rfl) ?_
      refine am_mono g (fun _ h8 _ ok_h8 g => ?_)
      obtain ⟨rfl, ss_h8, g⟩ := g
      replace hL := QZ.ss hL ss_h8
      obtain ⟨ko104, ro104_z, ko104_z, ro104_spare, ko104_spare, ro104_past, ko104_past, ro104_kept, ko104_kept, ro104_text, ko104_text, ro104_stack, ko104_stack, ro104_drew, ko104_drew, ro104_drawn, ko104_drawn, ro104_signs, ko104_signs, ro104_numbers, ko104_numbers⟩ := id hL
      show AW m_X7_sleep d none Q 38 [some (.inr (some 104)), some (.inl x1), some (.inl v2)] [] h8 (0, 0)
      refine aw_aload_n (pc := 38) dX7_sleep_38 rfl ?_
      refine aw_iload_n (pc := 39) dX7_sleep_39 rfl ?_
      refine aw_iconst (pc := 40) dX7_sleep_40 ?_
      refine aw_iconst (pc := 41) dX7_sleep_41 ?_
      refine aw_invV (pc := 42) (md' := m_X7_lay) (ci := 7) (as := [(.inl v2), (.inl 1), (.inl 0)]) dX7_sleep_42 mo_X7_lay im_X7_lay se_X7_lay ml_X7_71 rfl ko104 rfl hd (Nat.le_of_ble_eq_true rfl) (Nat.le_of_ble_eq_true rfl) (Nat.le_of_ble_eq_true rfl) ?_
      refine am_mono g (fun _ h9 _ ok_h9 g => ?_)
      obtain ⟨rfl, ss_h9, g⟩ := g
      replace hL := QZ.ss hL ss_h9
      obtain ⟨ko104, ro104_z, ko104_z, ro104_spare, ko104_spare, ro104_past, ko104_past, ro104_kept, ko104_kept, ro104_text, ko104_text, ro104_stack, ko104_stack, ro104_drew, ko104_drew, ro104_drawn, ko104_drawn, ro104_signs, ko104_signs, ro104_numbers, ko104_numbers⟩ := id hL
      show AW m_X7_sleep d none Q 45 [some (.inr (some 104)), some (.inl x1), some (.inl v2)] [] h9 (0, 0)
      refine aw_aload_n (pc := 45) dX7_sleep_45 rfl ?_
      refine aw_invV (pc := 46) (md' := m_X7_awake) (ci := 7) (as := []) dX7_sleep_46 mo_X7_awake im_X7_awake se_X7_awake ml_X7_85 rfl ko104 rfl hd (Nat.le_of_ble_eq_true rfl) (Nat.le_of_ble_eq_true rfl) (Nat.le_of_ble_eq_true rfl) ?_
      refine am_mono g (fun _ h10 _ ok_h10 g => ?_)
      obtain ⟨v11, rfl, ss_h10, g⟩ := g
      replace hL := QZ.ss hL ss_h10
      obtain ⟨ko104, ro104_z, ko104_z, ro104_spare, ko104_spare, ro104_past, ko104_past, ro104_kept, ko104_kept, ro104_text, ko104_text, ro104_stack, ko104_stack, ro104_drew, ko104_drew, ro104_drawn, ko104_drawn, ro104_signs, ko104_signs, ro104_numbers, ko104_numbers⟩ := id hL
      show AW m_X7_sleep d none Q 49 [some (.inr (some 104)), some (.inl x1), some (.inl v2)] [(.inl v11)] h10 (0, 0)
      exact ax_ireturn (pc := 49) dX7_sleep_49 rfl g (by decide) (by decide)
    · replace g := g.2 c7
      refine aw_iload_n (pc := 21) dX7_sleep_21 rfl ?_
      refine aw_bipush (pc := 22) dX7_sleep_22 ?_
      refine aw_icmp_ne (pc := 24) (tgt := 31) dX7_sleep_24 (by decide) (fun c12 => ?_) (fun c12 => False.elim (by omega))
      refine aw_bipush (pc := 31) dX7_sleep_31 ?_
      exact ax_ireturn (pc := 33) dX7_sleep_33 rfl g (by decide) (by decide)
set_option maxRecDepth 100000 in
set_option maxHeartbeats 4000000 in
theorem vc_X7_wakeNow {d : Nat} {Q : Option Int → AH → Prop} {h : AH}  (hd : 1 ≤ d) (hL : QZ h)
  (g :
    AW m_X7_wakeNow d none Q 2 [some (.inr (some 104)), some (.inl 0)] [] h (0, 0)) :
  AM d m_X7_wakeNow [(.inr (some 104))] h Q := by
  refine am_body mo_X7_wakeNow (Nat.le_of_ble_eq_true rfl) ?_
  show AW m_X7_wakeNow d none Q 0 [some (.inr (some 104)), none] [] h (0, 0)
  obtain ⟨ko104, ro104_z, ko104_z, ro104_spare, ko104_spare, ro104_past, ko104_past, ro104_kept, ko104_kept, ro104_text, ko104_text, ro104_stack, ko104_stack, ro104_drew, ko104_drew, ro104_drawn, ko104_drawn, ro104_signs, ko104_signs, ro104_numbers, ko104_numbers⟩ := id hL
  refine aw_iconst (pc := 0) dX7_wakeNow_0 ?_
  refine ax_istore_n (pc := 1) (ls' := [some (.inr (some 104)), some (.inl 0)]) dX7_wakeNow_1 (Nat.le_of_ble_eq_true rfl) rfl ?_
  exact g
set_option maxRecDepth 100000 in
set_option maxHeartbeats 4000000 in
theorem vc_X7_wakeNow_2 {d : Nat} {Q : Option Int → AH → Prop} {h : AH} {x1 : Int} (hd : 1 ≤ d) (hL : QZ h)
  (g :
    ((hi h 105 0 ≤ x1 → (
      Q none h
    )) ∧
    (¬ (hi h 105 0 ≤ x1) → (
      AM (d - 1) m_X7_lay [(.inr (some 104)), (.inl x1), (.inl 1), (.inl 1)] h (fun r h2 => 
        r = none ∧ SS h h2 ∧
        (rg (x1 + 1)) ∧
        AW m_X7_wakeNow d none Q 2 [some (.inr (some 104)), some (.inl (x1 + 1))] [] h2 (0, 0))
    )))) :
  AW m_X7_wakeNow d none Q 2 [some (.inr (some 104)), some (.inl x1)] [] h (0, 0) := by
  obtain ⟨ko104, ro104_z, ko104_z, ro104_spare, ko104_spare, ro104_past, ko104_past, ro104_kept, ko104_kept, ro104_text, ko104_text, ro104_stack, ko104_stack, ro104_drew, ko104_drew, ro104_drawn, ko104_drawn, ro104_signs, ko104_signs, ro104_numbers, ko104_numbers⟩ := id hL
  refine aw_iload_n (pc := 2) dX7_wakeNow_2 rfl ?_
  refine aw_aload_n (pc := 3) dX7_wakeNow_3 rfl ?_
  refine aw_getr (pc := 4) (r := some 105) dX7_wakeNow_4 fl_X7_7 (by decide) rfl ko104 ro104_z ?_
  refine aw_iconst (pc := 7) dX7_wakeNow_7 ?_
  refine ax_iaload (pc := 8) (n := 293) (v := hi h 105 0) dX7_wakeNow_8 ko104_z (by decide) rfl ?_
  refine aw_icmp_ge (pc := 9) (tgt := 25) dX7_wakeNow_9 (by decide) (fun c1 => ?_) (fun c1 => ?_)
  · replace g := g.1 c1
    exact aw_return (pc := 25) dX7_wakeNow_25 rfl g (by decide) (by decide)
  · replace g := g.2 c1
    refine aw_aload_n (pc := 12) dX7_wakeNow_12 rfl ?_
    refine aw_iload_n (pc := 13) dX7_wakeNow_13 rfl ?_
    refine aw_iconst (pc := 14) dX7_wakeNow_14 ?_
    refine aw_iconst (pc := 15) dX7_wakeNow_15 ?_
    refine aw_invV (pc := 16) (md' := m_X7_lay) (ci := 7) (as := [(.inl x1), (.inl 1), (.inl 1)]) dX7_wakeNow_16 mo_X7_lay im_X7_lay se_X7_lay ml_X7_71 rfl ko104 rfl hd (Nat.le_of_ble_eq_true rfl) (Nat.le_of_ble_eq_true rfl) (Nat.le_of_ble_eq_true rfl) ?_
    refine am_mono g (fun _ h2 _ ok_h2 g => ?_)
    obtain ⟨rfl, ss_h2, g⟩ := g
    replace hL := QZ.ss hL ss_h2
    obtain ⟨ko104, ro104_z, ko104_z, ro104_spare, ko104_spare, ro104_past, ko104_past, ro104_kept, ko104_kept, ro104_text, ko104_text, ro104_stack, ko104_stack, ro104_drew, ko104_drew, ro104_drawn, ko104_drawn, ro104_signs, ko104_signs, ro104_numbers, ko104_numbers⟩ := id hL
    show AW m_X7_wakeNow d none Q 19 [some (.inr (some 104)), some (.inl x1)] [] h2 (0, 0)
    obtain ⟨s3, g⟩ := g
    refine ax_iinc (pc := 19) (v' := x1 + 1) (ls' := [some (.inr (some 104)), some (.inl (x1 + 1))]) dX7_wakeNow_19 rfl s3 rfl rfl ?_
    refine aw_goto (pc := 22) (tgt := 2) dX7_wakeNow_22 (by decide) ?_
    exact g
set_option maxRecDepth 100000 in
set_option maxHeartbeats 4000000 in
theorem vc_X7_wakeAll {d : Nat} {Q : Option Int → AH → Prop} {h : AH}  (hd : 1 ≤ d) (hL : QZ h)
  (g :
    AM (d - 1) m_X7_awake [(.inr (some 104))] h (fun r h1 => 
      ∃ v2, r = some v2 ∧ SS h h1 ∧
      (rg ((hi h 105 0) - v2)) ∧
      ((¬ (hi h 105 0) - v2 = 0 → (
        AM (d - 1) m_X7_record [(.inr (some 104))] h1 (fun r h5 => 
          r = none ∧ SS h1 h5 ∧
          AM (d - 1) m_X7_wakeNow [(.inr (some 104))] h5 (fun r h6 => 
            r = none ∧ SS h5 h6 ∧
            Q (some ((hi h 105 0) - v2)) h6))
      )) ∧
      (¬ (¬ (hi h 105 0) - v2 = 0) → (
        Q (some (-5)) h1
      ))))) :
  AM d m_X7_wakeAll [(.inr (some 104))] h Q := by
  refine am_body mo_X7_wakeAll (Nat.le_of_ble_eq_true rfl) ?_
  show AW m_X7_wakeAll d none Q 0 [some (.inr (some 104)), none] [] h (0, 0)
  obtain ⟨ko104, ro104_z, ko104_z, ro104_spare, ko104_spare, ro104_past, ko104_past, ro104_kept, ko104_kept, ro104_text, ko104_text, ro104_stack, ko104_stack, ro104_drew, ko104_drew, ro104_drawn, ko104_drawn, ro104_signs, ko104_signs, ro104_numbers, ko104_numbers⟩ := id hL
  refine aw_aload_n (pc := 0) dX7_wakeAll_0 rfl ?_
  refine aw_getr (pc := 1) (r := some 105) dX7_wakeAll_1 fl_X7_7 (by decide) rfl ko104 ro104_z ?_
  refine aw_iconst (pc := 4) dX7_wakeAll_4 ?_
  refine ax_iaload (pc := 5) (n := 293) (v := hi h 105 0) dX7_wakeAll_5 ko104_z (by decide) rfl ?_
  refine aw_aload_n (pc := 6) dX7_wakeAll_6 rfl ?_
  refine aw_invV (pc := 7) (md' := m_X7_awake) (ci := 7) (as := []) dX7_wakeAll_7 mo_X7_awake im_X7_awake se_X7_awake ml_X7_85 rfl ko104 rfl hd (Nat.le_of_ble_eq_true rfl) (Nat.le_of_ble_eq_true rfl) (Nat.le_of_ble_eq_true rfl) ?_
  refine am_mono g (fun _ h1 _ ok_h1 g => ?_)
  obtain ⟨v2, rfl, ss_h1, g⟩ := g
  replace hL := QZ.ss hL ss_h1
  obtain ⟨ko104, ro104_z, ko104_z, ro104_spare, ko104_spare, ro104_past, ko104_past, ro104_kept, ko104_kept, ro104_text, ko104_text, ro104_stack, ko104_stack, ro104_drew, ko104_drew, ro104_drawn, ko104_drawn, ro104_signs, ko104_signs, ro104_numbers, ko104_numbers⟩ := id hL
  show AW m_X7_wakeAll d none Q 10 [some (.inr (some 104)), none] [(.inl v2), (.inl (hi h 105 0))] h1 (0, 0)
  obtain ⟨s3, g⟩ := g
  refine ax_isub (pc := 10) (v := (hi h 105 0) - v2) dX7_wakeAll_10 s3 rfl ?_
  refine ax_istore_n (pc := 11) (ls' := [some (.inr (some 104)), some (.inl ((hi h 105 0) - v2))]) dX7_wakeAll_11 (Nat.le_of_ble_eq_true rfl) rfl ?_
  refine aw_iload_n (pc := 12) dX7_wakeAll_12 rfl ?_
  refine aw_if_ne (pc := 13) (tgt := 19) dX7_wakeAll_13 (by decide) (fun c4 => ?_) (fun c4 => ?_)
  · replace g := g.1 c4
    refine aw_aload_n (pc := 19) dX7_wakeAll_19 rfl ?_
    refine aw_invV (pc := 20) (md' := m_X7_record) (ci := 7) (as := []) dX7_wakeAll_20 mo_X7_record im_X7_record se_X7_record ml_X7_60 rfl ko104 rfl hd (Nat.le_of_ble_eq_true rfl) (Nat.le_of_ble_eq_true rfl) (Nat.le_of_ble_eq_true rfl) ?_
    refine am_mono g (fun _ h5 _ ok_h5 g => ?_)
    obtain ⟨rfl, ss_h5, g⟩ := g
    replace hL := QZ.ss hL ss_h5
    obtain ⟨ko104, ro104_z, ko104_z, ro104_spare, ko104_spare, ro104_past, ko104_past, ro104_kept, ko104_kept, ro104_text, ko104_text, ro104_stack, ko104_stack, ro104_drew, ko104_drew, ro104_drawn, ko104_drawn, ro104_signs, ko104_signs, ro104_numbers, ko104_numbers⟩ := id hL
    show AW m_X7_wakeAll d none Q 23 [some (.inr (some 104)), some (.inl ((hi h 105 0) - v2))] [] h5 (0, 0)
    refine aw_aload_n (pc := 23) dX7_wakeAll_23 rfl ?_
    refine aw_invV (pc := 24) (md' := m_X7_wakeNow) (ci := 7) (as := []) dX7_wakeAll_24 mo_X7_wakeNow im_X7_wakeNow se_X7_wakeNow ml_X7_89 rfl ko104 rfl hd (Nat.le_of_ble_eq_true rfl) (Nat.le_of_ble_eq_true rfl) (Nat.le_of_ble_eq_true rfl) ?_
    refine am_mono g (fun _ h6 _ ok_h6 g => ?_)
    obtain ⟨rfl, ss_h6, g⟩ := g
    replace hL := QZ.ss hL ss_h6
    obtain ⟨ko104, ro104_z, ko104_z, ro104_spare, ko104_spare, ro104_past, ko104_past, ro104_kept, ko104_kept, ro104_text, ko104_text, ro104_stack, ko104_stack, ro104_drew, ko104_drew, ro104_drawn, ko104_drawn, ro104_signs, ko104_signs, ro104_numbers, ko104_numbers⟩ := id hL
    show AW m_X7_wakeAll d none Q 27 [some (.inr (some 104)), some (.inl ((hi h 105 0) - v2))] [] h6 (0, 0)
    refine aw_iload_n (pc := 27) dX7_wakeAll_27 rfl ?_
    exact ax_ireturn (pc := 28) dX7_wakeAll_28 rfl g (by decide) (by decide)
  · replace g := g.2 c4
    refine aw_bipush (pc := 16) dX7_wakeAll_16 ?_
    exact ax_ireturn (pc := 18) dX7_wakeAll_18 rfl g (by decide) (by decide)
set_option maxRecDepth 100000 in
set_option maxHeartbeats 4000000 in
theorem vc_X7_leave {d : Nat} {Q : Option Int → AH → Prop} {h : AH} {x1 x2 : Int} (hd : 1 ≤ d) (hL : QZ h)
  (g :
    AM (d - 1) m_X7_cardWith [(.inr (some 104)), (.inl x1)] h (fun r h1 => 
      ∃ v2, r = some v2 ∧ SS h h1 ∧
      ((¬ v2 = -5 → (
        AM (d - 1) m_X7_in [(.inl x2), (.inl 0), (.inl 200)] h1 (fun r h4 => 
          ∃ v5, r = some v5 ∧ SS h1 h4 ∧
          ((¬ v5 = 0 → (
            AM (d - 1) m_X7_of [(.inr (some 104)), (.inl v2), (.inl 2)] h4 (fun r h7 => 
              ∃ v8, r = some v8 ∧ SS h4 h7 ∧
              ((¬ v8 = x2 → (
                AM (d - 1) m_X7_record [(.inr (some 104))] h7 (fun r h10 => 
                  r = none ∧ SS h7 h10 ∧
                  AM (d - 1) m_X7_lay [(.inr (some 104)), (.inl v2), (.inl 2), (.inl x2)] h10 (fun r h11 => 
                    r = none ∧ SS h10 h11 ∧
                    Q (some v8) h11))
              )) ∧
              (¬ (¬ v8 = x2) → (
                Q (some (-5)) h7
              ))))
          )) ∧
          (¬ (¬ v5 = 0) → (
            Q (some (-2)) h4
          ))))
      )) ∧
      (¬ (¬ v2 = -5) → (
        Q (some (-1)) h1
      ))))) :
  AM d m_X7_leave [(.inr (some 104)), (.inl x1), (.inl x2)] h Q := by
  refine am_body mo_X7_leave (Nat.le_of_ble_eq_true rfl) ?_
  show AW m_X7_leave d none Q 0 [some (.inr (some 104)), some (.inl x1), some (.inl x2), none, none] [] h (0, 0)
  obtain ⟨ko104, ro104_z, ko104_z, ro104_spare, ko104_spare, ro104_past, ko104_past, ro104_kept, ko104_kept, ro104_text, ko104_text, ro104_stack, ko104_stack, ro104_drew, ko104_drew, ro104_drawn, ko104_drawn, ro104_signs, ko104_signs, ro104_numbers, ko104_numbers⟩ := id hL
  refine aw_aload_n (pc := 0) dX7_leave_0 rfl ?_
  refine aw_iload_n (pc := 1) dX7_leave_1 rfl ?_
  refine aw_invV (pc := 2) (md' := m_X7_cardWith) (ci := 7) (as := [(.inl x1)]) dX7_leave_2 mo_X7_cardWith im_X7_cardWith se_X7_cardWith ml_X7_67 rfl ko104 rfl hd (Nat.le_of_ble_eq_true rfl) (Nat.le_of_ble_eq_true rfl) (Nat.le_of_ble_eq_true rfl) ?_
  refine am_mono g (fun _ h1 _ ok_h1 g => ?_)
  obtain ⟨v2, rfl, ss_h1, g⟩ := g
  replace hL := QZ.ss hL ss_h1
  obtain ⟨ko104, ro104_z, ko104_z, ro104_spare, ko104_spare, ro104_past, ko104_past, ro104_kept, ko104_kept, ro104_text, ko104_text, ro104_stack, ko104_stack, ro104_drew, ko104_drew, ro104_drawn, ko104_drawn, ro104_signs, ko104_signs, ro104_numbers, ko104_numbers⟩ := id hL
  show AW m_X7_leave d none Q 5 [some (.inr (some 104)), some (.inl x1), some (.inl x2), none, none] [(.inl v2)] h1 (0, 0)
  refine ax_istore_n (pc := 5) (ls' := [some (.inr (some 104)), some (.inl x1), some (.inl x2), some (.inl v2), none]) dX7_leave_5 (Nat.le_of_ble_eq_true rfl) rfl ?_
  refine aw_iload_n (pc := 6) dX7_leave_6 rfl ?_
  refine aw_bipush (pc := 7) dX7_leave_7 ?_
  refine aw_icmp_ne (pc := 9) (tgt := 14) dX7_leave_9 (by decide) (fun c3 => ?_) (fun c3 => ?_)
  · replace g := g.1 c3
    refine aw_iload_n (pc := 14) dX7_leave_14 rfl ?_
    refine aw_iconst (pc := 15) dX7_leave_15 ?_
    refine aw_sipush (pc := 16) dX7_leave_16 ?_
    refine aw_invS (pc := 19) (md' := m_X7_in) (as := [(.inl x2), (.inl 0), (.inl 200)]) dX7_leave_19 mo_X7_in sm_X7_in ml_X7_63 rfl rfl hd (Nat.le_of_ble_eq_true rfl) (Nat.le_of_ble_eq_true rfl) (Nat.le_of_ble_eq_true rfl) ?_
    refine am_mono g (fun _ h4 _ ok_h4 g => ?_)
    obtain ⟨v5, rfl, ss_h4, g⟩ := g
    replace hL := QZ.ss hL ss_h4
    obtain ⟨ko104, ro104_z, ko104_z, ro104_spare, ko104_spare, ro104_past, ko104_past, ro104_kept, ko104_kept, ro104_text, ko104_text, ro104_stack, ko104_stack, ro104_drew, ko104_drew, ro104_drawn, ko104_drawn, ro104_signs, ko104_signs, ro104_numbers, ko104_numbers⟩ := id hL
    show AW m_X7_leave d none Q 22 [some (.inr (some 104)), some (.inl x1), some (.inl x2), some (.inl v2), none] [(.inl v5)] h4 (0, 0)
    refine aw_if_ne (pc := 22) (tgt := 28) dX7_leave_22 (by decide) (fun c6 => ?_) (fun c6 => ?_)
    · replace g := g.1 c6
      refine aw_aload_n (pc := 28) dX7_leave_28 rfl ?_
      refine aw_iload_n (pc := 29) dX7_leave_29 rfl ?_
      refine aw_iconst (pc := 30) dX7_leave_30 ?_
      refine aw_invV (pc := 31) (md' := m_X7_of) (ci := 7) (as := [(.inl v2), (.inl 2)]) dX7_leave_31 mo_X7_of im_X7_of se_X7_of ml_X7_40 rfl ko104 rfl hd (Nat.le_of_ble_eq_true rfl) (Nat.le_of_ble_eq_true rfl) (Nat.le_of_ble_eq_true rfl) ?_
      refine am_mono g (fun _ h7 _ ok_h7 g => ?_)
      obtain ⟨v8, rfl, ss_h7, g⟩ := g
      replace hL := QZ.ss hL ss_h7
      obtain ⟨ko104, ro104_z, ko104_z, ro104_spare, ko104_spare, ro104_past, ko104_past, ro104_kept, ko104_kept, ro104_text, ko104_text, ro104_stack, ko104_stack, ro104_drew, ko104_drew, ro104_drawn, ko104_drawn, ro104_signs, ko104_signs, ro104_numbers, ko104_numbers⟩ := id hL
      show AW m_X7_leave d none Q 34 [some (.inr (some 104)), some (.inl x1), some (.inl x2), some (.inl v2), none] [(.inl v8)] h7 (0, 0)
      refine ax_istore (pc := 34) (ls' := [some (.inr (some 104)), some (.inl x1), some (.inl x2), some (.inl v2), some (.inl v8)]) dX7_leave_34 (Nat.le_of_ble_eq_true rfl) rfl ?_
      refine aw_iload (pc := 36) dX7_leave_36 rfl ?_
      refine aw_iload_n (pc := 38) dX7_leave_38 rfl ?_
      refine aw_icmp_ne (pc := 39) (tgt := 45) dX7_leave_39 (by decide) (fun c9 => ?_) (fun c9 => ?_)
      · replace g := g.1 c9
        refine aw_aload_n (pc := 45) dX7_leave_45 rfl ?_
        refine aw_invV (pc := 46) (md' := m_X7_record) (ci := 7) (as := []) dX7_leave_46 mo_X7_record im_X7_record se_X7_record ml_X7_60 rfl ko104 rfl hd (Nat.le_of_ble_eq_true rfl) (Nat.le_of_ble_eq_true rfl) (Nat.le_of_ble_eq_true rfl) ?_
        refine am_mono g (fun _ h10 _ ok_h10 g => ?_)
        obtain ⟨rfl, ss_h10, g⟩ := g
        replace hL := QZ.ss hL ss_h10
        obtain ⟨ko104, ro104_z, ko104_z, ro104_spare, ko104_spare, ro104_past, ko104_past, ro104_kept, ko104_kept, ro104_text, ko104_text, ro104_stack, ko104_stack, ro104_drew, ko104_drew, ro104_drawn, ko104_drawn, ro104_signs, ko104_signs, ro104_numbers, ko104_numbers⟩ := id hL
        show AW m_X7_leave d none Q 49 [some (.inr (some 104)), some (.inl x1), some (.inl x2), some (.inl v2), some (.inl v8)] [] h10 (0, 0)
        refine aw_aload_n (pc := 49) dX7_leave_49 rfl ?_
        refine aw_iload_n (pc := 50) dX7_leave_50 rfl ?_
        refine aw_iconst (pc := 51) dX7_leave_51 ?_
        refine aw_iload_n (pc := 52) dX7_leave_52 rfl ?_
        refine aw_invV (pc := 53) (md' := m_X7_lay) (ci := 7) (as := [(.inl v2), (.inl 2), (.inl x2)]) dX7_leave_53 mo_X7_lay im_X7_lay se_X7_lay ml_X7_71 rfl ko104 rfl hd (Nat.le_of_ble_eq_true rfl) (Nat.le_of_ble_eq_true rfl) (Nat.le_of_ble_eq_true rfl) ?_
        refine am_mono g (fun _ h11 _ ok_h11 g => ?_)
        obtain ⟨rfl, ss_h11, g⟩ := g
        replace hL := QZ.ss hL ss_h11
        obtain ⟨ko104, ro104_z, ko104_z, ro104_spare, ko104_spare, ro104_past, ko104_past, ro104_kept, ko104_kept, ro104_text, ko104_text, ro104_stack, ko104_stack, ro104_drew, ko104_drew, ro104_drawn, ko104_drawn, ro104_signs, ko104_signs, ro104_numbers, ko104_numbers⟩ := id hL
        show AW m_X7_leave d none Q 56 [some (.inr (some 104)), some (.inl x1), some (.inl x2), some (.inl v2), some (.inl v8)] [] h11 (0, 0)
        refine aw_iload (pc := 56) dX7_leave_56 rfl ?_
        exact ax_ireturn (pc := 58) dX7_leave_58 rfl g (by decide) (by decide)
      · replace g := g.2 c9
        refine aw_bipush (pc := 42) dX7_leave_42 ?_
        exact ax_ireturn (pc := 44) dX7_leave_44 rfl g (by decide) (by decide)
    · replace g := g.2 c6
      refine aw_bipush (pc := 25) dX7_leave_25 ?_
      exact ax_ireturn (pc := 27) dX7_leave_27 rfl g (by decide) (by decide)
  · replace g := g.2 c3
    refine aw_iconst (pc := 12) dX7_leave_12 ?_
    exact ax_ireturn (pc := 13) dX7_leave_13 rfl g (by decide) (by decide)
set_option maxRecDepth 100000 in
set_option maxHeartbeats 4000000 in
theorem vc_X7_set {d : Nat} {Q : Option Int → AH → Prop} {h : AH} {x1 x2 : Int} (hd : 1 ≤ d) (hL : QZ h)
  (g :
    AM (d - 1) m_X7_in [(.inl x1), (.inl 0), (.inl 1)] h (fun r h1 => 
      ∃ v2, r = some v2 ∧ SS h h1 ∧
      ((¬ v2 = 0 → (
        (rg (1 + x1)) ∧
        AM (d - 1) m_X7_in [(.inl x2), (.inl 0), (.inl (1 + x1))] h1 (fun r h5 => 
          ∃ v6, r = some v6 ∧ SS h1 h5 ∧
          ((¬ v6 = 0 → (
            (rg (2 + x1)) ∧
            (0 ≤ 2 + x1 ∧ 2 + x1 < 293) ∧
            ((¬ hi h5 105 (2 + x1) = x2 → (
              AM (d - 1) m_X7_record [(.inr (some 104))] h5 (fun r h11 => 
                r = none ∧ SS h5 h11 ∧
                Q (some (hi h5 105 (2 + x1))) (up h11 105 (2 + x1) x2))
            )) ∧
            (¬ (¬ hi h5 105 (2 + x1) = x2) → (
              Q (some (-5)) h5
            )))
          )) ∧
          (¬ (¬ v6 = 0) → (
            Q (some (-2)) h5
          ))))
      )) ∧
      (¬ (¬ v2 = 0) → (
        Q (some (-1)) h1
      ))))) :
  AM d m_X7_set [(.inr (some 104)), (.inl x1), (.inl x2)] h Q := by
  refine am_body mo_X7_set (Nat.le_of_ble_eq_true rfl) ?_
  show AW m_X7_set d none Q 0 [some (.inr (some 104)), some (.inl x1), some (.inl x2), none] [] h (0, 0)
  obtain ⟨ko104, ro104_z, ko104_z, ro104_spare, ko104_spare, ro104_past, ko104_past, ro104_kept, ko104_kept, ro104_text, ko104_text, ro104_stack, ko104_stack, ro104_drew, ko104_drew, ro104_drawn, ko104_drawn, ro104_signs, ko104_signs, ro104_numbers, ko104_numbers⟩ := id hL
  refine aw_iload_n (pc := 0) dX7_set_0 rfl ?_
  refine aw_iconst (pc := 1) dX7_set_1 ?_
  refine aw_iconst (pc := 2) dX7_set_2 ?_
  refine aw_invS (pc := 3) (md' := m_X7_in) (as := [(.inl x1), (.inl 0), (.inl 1)]) dX7_set_3 mo_X7_in sm_X7_in ml_X7_63 rfl rfl hd (Nat.le_of_ble_eq_true rfl) (Nat.le_of_ble_eq_true rfl) (Nat.le_of_ble_eq_true rfl) ?_
  refine am_mono g (fun _ h1 _ ok_h1 g => ?_)
  obtain ⟨v2, rfl, ss_h1, g⟩ := g
  replace hL := QZ.ss hL ss_h1
  obtain ⟨ko104, ro104_z, ko104_z, ro104_spare, ko104_spare, ro104_past, ko104_past, ro104_kept, ko104_kept, ro104_text, ko104_text, ro104_stack, ko104_stack, ro104_drew, ko104_drew, ro104_drawn, ko104_drawn, ro104_signs, ko104_signs, ro104_numbers, ko104_numbers⟩ := id hL
  show AW m_X7_set d none Q 6 [some (.inr (some 104)), some (.inl x1), some (.inl x2), none] [(.inl v2)] h1 (0, 0)
  refine aw_if_ne (pc := 6) (tgt := 11) dX7_set_6 (by decide) (fun c3 => ?_) (fun c3 => ?_)
  · replace g := g.1 c3
    refine aw_iload_n (pc := 11) dX7_set_11 rfl ?_
    refine aw_iconst (pc := 12) dX7_set_12 ?_
    refine aw_iconst (pc := 13) dX7_set_13 ?_
    refine aw_iload_n (pc := 14) dX7_set_14 rfl ?_
    obtain ⟨s4, g⟩ := g
    refine ax_iadd (pc := 15) (v := 1 + x1) dX7_set_15 s4 rfl ?_
    refine aw_invS (pc := 16) (md' := m_X7_in) (as := [(.inl x2), (.inl 0), (.inl (1 + x1))]) dX7_set_16 mo_X7_in sm_X7_in ml_X7_63 rfl rfl hd (Nat.le_of_ble_eq_true rfl) (Nat.le_of_ble_eq_true rfl) (Nat.le_of_ble_eq_true rfl) ?_
    refine am_mono g (fun _ h5 _ ok_h5 g => ?_)
    obtain ⟨v6, rfl, ss_h5, g⟩ := g
    replace hL := QZ.ss hL ss_h5
    obtain ⟨ko104, ro104_z, ko104_z, ro104_spare, ko104_spare, ro104_past, ko104_past, ro104_kept, ko104_kept, ro104_text, ko104_text, ro104_stack, ko104_stack, ro104_drew, ko104_drew, ro104_drawn, ko104_drawn, ro104_signs, ko104_signs, ro104_numbers, ko104_numbers⟩ := id hL
    show AW m_X7_set d none Q 19 [some (.inr (some 104)), some (.inl x1), some (.inl x2), none] [(.inl v6)] h5 (0, 0)
    refine aw_if_ne (pc := 19) (tgt := 25) dX7_set_19 (by decide) (fun c7 => ?_) (fun c7 => ?_)
    · replace g := g.1 c7
      refine aw_aload_n (pc := 25) dX7_set_25 rfl ?_
      refine aw_getr (pc := 26) (r := some 105) dX7_set_26 fl_X7_7 (by decide) rfl ko104 ro104_z ?_
      refine aw_iconst (pc := 29) dX7_set_29 ?_
      refine aw_iload_n (pc := 30) dX7_set_30 rfl ?_
      obtain ⟨s8, g⟩ := g
      refine ax_iadd (pc := 31) (v := 2 + x1) dX7_set_31 s8 rfl ?_
      obtain ⟨s9, g⟩ := g
      refine ax_iaload (pc := 32) (n := 293) (v := hi h5 105 (2 + x1)) dX7_set_32 ko104_z s9 rfl ?_
      refine ax_istore_n (pc := 33) (ls' := [some (.inr (some 104)), some (.inl x1), some (.inl x2), some (.inl (hi h5 105 (2 + x1)))]) dX7_set_33 (Nat.le_of_ble_eq_true rfl) rfl ?_
      refine aw_iload_n (pc := 34) dX7_set_34 rfl ?_
      refine aw_iload_n (pc := 35) dX7_set_35 rfl ?_
      refine aw_icmp_ne (pc := 36) (tgt := 42) dX7_set_36 (by decide) (fun c10 => ?_) (fun c10 => ?_)
      · replace g := g.1 c10
        refine aw_aload_n (pc := 42) dX7_set_42 rfl ?_
        refine aw_invV (pc := 43) (md' := m_X7_record) (ci := 7) (as := []) dX7_set_43 mo_X7_record im_X7_record se_X7_record ml_X7_60 rfl ko104 rfl hd (Nat.le_of_ble_eq_true rfl) (Nat.le_of_ble_eq_true rfl) (Nat.le_of_ble_eq_true rfl) ?_
        refine am_mono g (fun _ h11 _ ok_h11 g => ?_)
        obtain ⟨rfl, ss_h11, g⟩ := g
        replace hL := QZ.ss hL ss_h11
        obtain ⟨ko104, ro104_z, ko104_z, ro104_spare, ko104_spare, ro104_past, ko104_past, ro104_kept, ko104_kept, ro104_text, ko104_text, ro104_stack, ko104_stack, ro104_drew, ko104_drew, ro104_drawn, ko104_drawn, ro104_signs, ko104_signs, ro104_numbers, ko104_numbers⟩ := id hL
        show AW m_X7_set d none Q 46 [some (.inr (some 104)), some (.inl x1), some (.inl x2), some (.inl (hi h5 105 (2 + x1)))] [] h11 (0, 0)
        refine aw_aload_n (pc := 46) dX7_set_46 rfl ?_
        refine aw_getr (pc := 47) (r := some 105) dX7_set_47 fl_X7_7 (by decide) rfl ko104 ro104_z ?_
        refine aw_iconst (pc := 50) dX7_set_50 ?_
        refine aw_iload_n (pc := 51) dX7_set_51 rfl ?_
        refine ax_iadd (pc := 52) (v := 2 + x1) dX7_set_52 s8 rfl ?_
        refine aw_iload_n (pc := 53) dX7_set_53 rfl ?_
        refine ax_iastore (pc := 54) (n := 293) dX7_set_54 ko104_z s9 ?_
        refine aw_iload_n (pc := 55) dX7_set_55 rfl ?_
        exact ax_ireturn (pc := 56) dX7_set_56 rfl g (by decide) (by decide)
      · replace g := g.2 c10
        refine aw_bipush (pc := 39) dX7_set_39 ?_
        exact ax_ireturn (pc := 41) dX7_set_41 rfl g (by decide) (by decide)
    · replace g := g.2 c7
      refine aw_bipush (pc := 22) dX7_set_22 ?_
      exact ax_ireturn (pc := 24) dX7_set_24 rfl g (by decide) (by decide)
  · replace g := g.2 c3
    refine aw_iconst (pc := 9) dX7_set_9 ?_
    exact ax_ireturn (pc := 10) dX7_set_10 rfl g (by decide) (by decide)
set_option maxRecDepth 100000 in
set_option maxHeartbeats 4000000 in
theorem vc_X7_shuffle {d : Nat} {Q : Option Int → AH → Prop} {h : AH} {x1 : Int} (hd : 1 ≤ d) (hL : QZ h)
  (g :
    ((0 ≤ x1 → (
      ((¬ hi h 105 4 = x1 → (
        AM (d - 1) m_X7_record [(.inr (some 104))] h (fun r h3 => 
          r = none ∧ SS h h3 ∧
          Q (some (hi h 105 4)) (up h3 105 4 x1))
      )) ∧
      (¬ (¬ hi h 105 4 = x1) → (
        Q (some (-5)) h
      )))
    )) ∧
    (¬ (0 ≤ x1) → (
      Q (some (-2)) h
    )))) :
  AM d m_X7_shuffle [(.inr (some 104)), (.inl x1)] h Q := by
  refine am_body mo_X7_shuffle (Nat.le_of_ble_eq_true rfl) ?_
  show AW m_X7_shuffle d none Q 0 [some (.inr (some 104)), some (.inl x1), none] [] h (0, 0)
  obtain ⟨ko104, ro104_z, ko104_z, ro104_spare, ko104_spare, ro104_past, ko104_past, ro104_kept, ko104_kept, ro104_text, ko104_text, ro104_stack, ko104_stack, ro104_drew, ko104_drew, ro104_drawn, ko104_drawn, ro104_signs, ko104_signs, ro104_numbers, ko104_numbers⟩ := id hL
  refine aw_iload_n (pc := 0) dX7_shuffle_0 rfl ?_
  refine aw_if_ge (pc := 1) (tgt := 7) dX7_shuffle_1 (by decide) (fun c1 => ?_) (fun c1 => ?_)
  · replace g := g.1 c1
    refine aw_aload_n (pc := 7) dX7_shuffle_7 rfl ?_
    refine aw_getr (pc := 8) (r := some 105) dX7_shuffle_8 fl_X7_7 (by decide) rfl ko104 ro104_z ?_
    refine aw_iconst (pc := 11) dX7_shuffle_11 ?_
    refine ax_iaload (pc := 12) (n := 293) (v := hi h 105 4) dX7_shuffle_12 ko104_z (by decide) rfl ?_
    refine ax_istore_n (pc := 13) (ls' := [some (.inr (some 104)), some (.inl x1), some (.inl (hi h 105 4))]) dX7_shuffle_13 (Nat.le_of_ble_eq_true rfl) rfl ?_
    refine aw_iload_n (pc := 14) dX7_shuffle_14 rfl ?_
    refine aw_iload_n (pc := 15) dX7_shuffle_15 rfl ?_
    refine aw_icmp_ne (pc := 16) (tgt := 22) dX7_shuffle_16 (by decide) (fun c2 => ?_) (fun c2 => ?_)
    · replace g := g.1 c2
      refine aw_aload_n (pc := 22) dX7_shuffle_22 rfl ?_
      refine aw_invV (pc := 23) (md' := m_X7_record) (ci := 7) (as := []) dX7_shuffle_23 mo_X7_record im_X7_record se_X7_record ml_X7_60 rfl ko104 rfl hd (Nat.le_of_ble_eq_true rfl) (Nat.le_of_ble_eq_true rfl) (Nat.le_of_ble_eq_true rfl) ?_
      refine am_mono g (fun _ h3 _ ok_h3 g => ?_)
      obtain ⟨rfl, ss_h3, g⟩ := g
      replace hL := QZ.ss hL ss_h3
      obtain ⟨ko104, ro104_z, ko104_z, ro104_spare, ko104_spare, ro104_past, ko104_past, ro104_kept, ko104_kept, ro104_text, ko104_text, ro104_stack, ko104_stack, ro104_drew, ko104_drew, ro104_drawn, ko104_drawn, ro104_signs, ko104_signs, ro104_numbers, ko104_numbers⟩ := id hL
      show AW m_X7_shuffle d none Q 26 [some (.inr (some 104)), some (.inl x1), some (.inl (hi h 105 4))] [] h3 (0, 0)
      refine aw_aload_n (pc := 26) dX7_shuffle_26 rfl ?_
      refine aw_getr (pc := 27) (r := some 105) dX7_shuffle_27 fl_X7_7 (by decide) rfl ko104 ro104_z ?_
      refine aw_iconst (pc := 30) dX7_shuffle_30 ?_
      refine aw_iload_n (pc := 31) dX7_shuffle_31 rfl ?_
      refine ax_iastore (pc := 32) (n := 293) dX7_shuffle_32 ko104_z (by decide) ?_
      refine aw_iload_n (pc := 33) dX7_shuffle_33 rfl ?_
      exact ax_ireturn (pc := 34) dX7_shuffle_34 rfl g (by decide) (by decide)
    · replace g := g.2 c2
      refine aw_bipush (pc := 19) dX7_shuffle_19 ?_
      exact ax_ireturn (pc := 21) dX7_shuffle_21 rfl g (by decide) (by decide)
  · replace g := g.2 c1
    refine aw_bipush (pc := 4) dX7_shuffle_4 ?_
    exact ax_ireturn (pc := 6) dX7_shuffle_6 rfl g (by decide) (by decide)
set_option maxRecDepth 100000 in
set_option maxHeartbeats 4000000 in
theorem vc_X7_forget {d : Nat} {Q : Option Int → AH → Prop} {h : AH}  (hd : 1 ≤ d) (hL : QZ h)
  (g :
    ((¬ hi h 105 1 = 0 → (
      AM (d - 1) m_X7_record [(.inr (some 104))] h (fun r h2 => 
        r = none ∧ SS h h2 ∧
        Q (some (hi h 105 1)) (up h2 105 1 0))
    )) ∧
    (¬ (¬ hi h 105 1 = 0) → (
      Q (some (-5)) h
    )))) :
  AM d m_X7_forget [(.inr (some 104))] h Q := by
  refine am_body mo_X7_forget (Nat.le_of_ble_eq_true rfl) ?_
  show AW m_X7_forget d none Q 0 [some (.inr (some 104)), none] [] h (0, 0)
  obtain ⟨ko104, ro104_z, ko104_z, ro104_spare, ko104_spare, ro104_past, ko104_past, ro104_kept, ko104_kept, ro104_text, ko104_text, ro104_stack, ko104_stack, ro104_drew, ko104_drew, ro104_drawn, ko104_drawn, ro104_signs, ko104_signs, ro104_numbers, ko104_numbers⟩ := id hL
  refine aw_aload_n (pc := 0) dX7_forget_0 rfl ?_
  refine aw_getr (pc := 1) (r := some 105) dX7_forget_1 fl_X7_7 (by decide) rfl ko104 ro104_z ?_
  refine aw_iconst (pc := 4) dX7_forget_4 ?_
  refine ax_iaload (pc := 5) (n := 293) (v := hi h 105 1) dX7_forget_5 ko104_z (by decide) rfl ?_
  refine ax_istore_n (pc := 6) (ls' := [some (.inr (some 104)), some (.inl (hi h 105 1))]) dX7_forget_6 (Nat.le_of_ble_eq_true rfl) rfl ?_
  refine aw_iload_n (pc := 7) dX7_forget_7 rfl ?_
  refine aw_if_ne (pc := 8) (tgt := 14) dX7_forget_8 (by decide) (fun c1 => ?_) (fun c1 => ?_)
  · replace g := g.1 c1
    refine aw_aload_n (pc := 14) dX7_forget_14 rfl ?_
    refine aw_invV (pc := 15) (md' := m_X7_record) (ci := 7) (as := []) dX7_forget_15 mo_X7_record im_X7_record se_X7_record ml_X7_60 rfl ko104 rfl hd (Nat.le_of_ble_eq_true rfl) (Nat.le_of_ble_eq_true rfl) (Nat.le_of_ble_eq_true rfl) ?_
    refine am_mono g (fun _ h2 _ ok_h2 g => ?_)
    obtain ⟨rfl, ss_h2, g⟩ := g
    replace hL := QZ.ss hL ss_h2
    obtain ⟨ko104, ro104_z, ko104_z, ro104_spare, ko104_spare, ro104_past, ko104_past, ro104_kept, ko104_kept, ro104_text, ko104_text, ro104_stack, ko104_stack, ro104_drew, ko104_drew, ro104_drawn, ko104_drawn, ro104_signs, ko104_signs, ro104_numbers, ko104_numbers⟩ := id hL
    show AW m_X7_forget d none Q 18 [some (.inr (some 104)), some (.inl (hi h 105 1))] [] h2 (0, 0)
    refine aw_aload_n (pc := 18) dX7_forget_18 rfl ?_
    refine aw_getr (pc := 19) (r := some 105) dX7_forget_19 fl_X7_7 (by decide) rfl ko104 ro104_z ?_
    refine aw_iconst (pc := 22) dX7_forget_22 ?_
    refine aw_iconst (pc := 23) dX7_forget_23 ?_
    refine ax_iastore (pc := 24) (n := 293) dX7_forget_24 ko104_z (by decide) ?_
    refine aw_iload_n (pc := 25) dX7_forget_25 rfl ?_
    exact ax_ireturn (pc := 26) dX7_forget_26 rfl g (by decide) (by decide)
  · replace g := g.2 c1
    refine aw_bipush (pc := 11) dX7_forget_11 ?_
    exact ax_ireturn (pc := 13) dX7_forget_13 rfl g (by decide) (by decide)
set_option maxRecDepth 100000 in
set_option maxHeartbeats 4000000 in
theorem vc_X7_tell {d : Nat} {Q : Option Int → AH → Prop} {h : AH} {x1 : Int} (hd : 1 ≤ d) (hL : QZ h)
  (g :
    ((¬ hi h 105 1 = 200 → (
      (rg (93 + (hi h 105 1))) ∧
      AM (d - 1) m_X7_of [(.inr (some 104)), (.inl x1), (.inl 0)] h (fun r h3 => 
        ∃ v4, r = some v4 ∧ SS h h3 ∧
        (0 ≤ 93 + (hi h 105 1) ∧ 93 + (hi h 105 1) < 293) ∧
        (rg ((hi (up h3 105 (93 + (hi h 105 1)) v4) 105 1) + 1)) ∧
        AM (d - 1) m_X7_of [(.inr (some 104)), (.inl x1), (.inl 3)] (up (up h3 105 (93 + (hi h 105 1)) v4) 105 1 ((hi (up h3 105 (93 + (hi h 105 1)) v4) 105 1) + 1)) (fun r h7 => 
          ∃ v8, r = some v8 ∧ SS (up (up h3 105 (93 + (hi h 105 1)) v4) 105 1 ((hi (up h3 105 (93 + (hi h 105 1)) v4) 105 1) + 1)) h7 ∧
          AM (d - 1) m_X7_lay [(.inr (some 104)), (.inl x1), (.inl 3), (.inl (w (v8 + 1)))] h7 (fun r h9 => 
            r = none ∧ SS h7 h9 ∧
            ((¬ hi h9 105 2 = 1 → (
              Q none h9
            )) ∧
            (¬ (¬ hi h9 105 2 = 1) → (
              AM (d - 1) m_X7_lay [(.inr (some 104)), (.inl x1), (.inl 1), (.inl 0)] h9 (fun r h11 => 
                r = none ∧ SS h9 h11 ∧
                Q none h11)
            ))))))
    )) ∧
    (¬ (¬ hi h 105 1 = 200) → (
      AW m_X7_tell d none Q 14 [some (.inr (some 104)), some (.inl x1), some (.inl 0)] [] h (0, 0)
    )))) :
  AM d m_X7_tell [(.inr (some 104)), (.inl x1)] h Q := by
  refine am_body mo_X7_tell (Nat.le_of_ble_eq_true rfl) ?_
  show AW m_X7_tell d none Q 0 [some (.inr (some 104)), some (.inl x1), none] [] h (0, 0)
  obtain ⟨ko104, ro104_z, ko104_z, ro104_spare, ko104_spare, ro104_past, ko104_past, ro104_kept, ko104_kept, ro104_text, ko104_text, ro104_stack, ko104_stack, ro104_drew, ko104_drew, ro104_drawn, ko104_drawn, ro104_signs, ko104_signs, ro104_numbers, ko104_numbers⟩ := id hL
  refine aw_aload_n (pc := 0) dX7_tell_0 rfl ?_
  refine aw_getr (pc := 1) (r := some 105) dX7_tell_1 fl_X7_7 (by decide) rfl ko104 ro104_z ?_
  refine aw_iconst (pc := 4) dX7_tell_4 ?_
  refine ax_iaload (pc := 5) (n := 293) (v := hi h 105 1) dX7_tell_5 ko104_z (by decide) rfl ?_
  refine aw_sipush (pc := 6) dX7_tell_6 ?_
  refine aw_icmp_ne (pc := 9) (tgt := 57) dX7_tell_9 (by decide) (fun c1 => ?_) (fun c1 => ?_)
  · replace g := g.1 c1
    refine aw_aload_n (pc := 57) dX7_tell_57 rfl ?_
    refine aw_getr (pc := 58) (r := some 105) dX7_tell_58 fl_X7_7 (by decide) rfl ko104 ro104_z ?_
    refine aw_bipush (pc := 61) dX7_tell_61 ?_
    refine aw_aload_n (pc := 63) dX7_tell_63 rfl ?_
    refine aw_getr (pc := 64) (r := some 105) dX7_tell_64 fl_X7_7 (by decide) rfl ko104 ro104_z ?_
    refine aw_iconst (pc := 67) dX7_tell_67 ?_
    refine ax_iaload (pc := 68) (n := 293) (v := hi h 105 1) dX7_tell_68 ko104_z (by decide) rfl ?_
    obtain ⟨s2, g⟩ := g
    refine ax_iadd (pc := 69) (v := 93 + (hi h 105 1)) dX7_tell_69 s2 rfl ?_
    refine aw_aload_n (pc := 70) dX7_tell_70 rfl ?_
    refine aw_iload_n (pc := 71) dX7_tell_71 rfl ?_
    refine aw_iconst (pc := 72) dX7_tell_72 ?_
    refine aw_invV (pc := 73) (md' := m_X7_of) (ci := 7) (as := [(.inl x1), (.inl 0)]) dX7_tell_73 mo_X7_of im_X7_of se_X7_of ml_X7_40 rfl ko104 rfl hd (Nat.le_of_ble_eq_true rfl) (Nat.le_of_ble_eq_true rfl) (Nat.le_of_ble_eq_true rfl) ?_
    refine am_mono g (fun _ h3 _ ok_h3 g => ?_)
    obtain ⟨v4, rfl, ss_h3, g⟩ := g
    replace hL := QZ.ss hL ss_h3
    obtain ⟨ko104, ro104_z, ko104_z, ro104_spare, ko104_spare, ro104_past, ko104_past, ro104_kept, ko104_kept, ro104_text, ko104_text, ro104_stack, ko104_stack, ro104_drew, ko104_drew, ro104_drawn, ko104_drawn, ro104_signs, ko104_signs, ro104_numbers, ko104_numbers⟩ := id hL
    show AW m_X7_tell d none Q 76 [some (.inr (some 104)), some (.inl x1), none] [(.inl v4), (.inl (93 + (hi h 105 1))), (.inr (some 105))] h3 (0, 0)
    obtain ⟨s5, g⟩ := g
    refine ax_iastore (pc := 76) (n := 293) dX7_tell_76 ko104_z s5 ?_
    refine aw_aload_n (pc := 77) dX7_tell_77 rfl ?_
    refine aw_getr (pc := 78) (r := some 105) dX7_tell_78 fl_X7_7 (by decide) rfl (hkU ko104) (hrU ro104_z) ?_
    refine aw_iconst (pc := 81) dX7_tell_81 ?_
    refine aw_dup2 (pc := 82) dX7_tell_82 ?_
    refine ax_iaload (pc := 83) (n := 293) (v := hi (up h3 105 (93 + (hi h 105 1)) v4) 105 1) dX7_tell_83 (hkU ko104_z) (by decide) rfl ?_
    refine aw_iconst (pc := 84) dX7_tell_84 ?_
    obtain ⟨s6, g⟩ := g
    refine ax_iadd (pc := 85) (v := (hi (up h3 105 (93 + (hi h 105 1)) v4) 105 1) + 1) dX7_tell_85 s6 rfl ?_
    refine ax_iastore (pc := 86) (n := 293) dX7_tell_86 (hkU ko104_z) (by decide) ?_
    refine aw_aload_n (pc := 87) dX7_tell_87 rfl ?_
    refine aw_iload_n (pc := 88) dX7_tell_88 rfl ?_
    refine aw_iconst (pc := 89) dX7_tell_89 ?_
    refine aw_aload_n (pc := 90) dX7_tell_90 rfl ?_
    refine aw_iload_n (pc := 91) dX7_tell_91 rfl ?_
    refine aw_iconst (pc := 92) dX7_tell_92 ?_
    refine aw_invV (pc := 93) (md' := m_X7_of) (ci := 7) (as := [(.inl x1), (.inl 3)]) dX7_tell_93 mo_X7_of im_X7_of se_X7_of ml_X7_40 rfl (hkU (hkU ko104)) rfl hd (Nat.le_of_ble_eq_true rfl) (Nat.le_of_ble_eq_true rfl) (Nat.le_of_ble_eq_true rfl) ?_
    refine am_mono g (fun _ h7 _ ok_h7 g => ?_)
    obtain ⟨v8, rfl, ss_h7, g⟩ := g
    replace hL := QZ.ss hL (SS.tr (SS.up (SS.up SS.rf)) ss_h7)
    obtain ⟨ko104, ro104_z, ko104_z, ro104_spare, ko104_spare, ro104_past, ko104_past, ro104_kept, ko104_kept, ro104_text, ko104_text, ro104_stack, ko104_stack, ro104_drew, ko104_drew, ro104_drawn, ko104_drawn, ro104_signs, ko104_signs, ro104_numbers, ko104_numbers⟩ := id hL
    show AW m_X7_tell d none Q 96 [some (.inr (some 104)), some (.inl x1), none] [(.inl v8), (.inl 3), (.inl x1), (.inr (some 104))] h7 (0, 0)
    refine aw_iconst (pc := 96) dX7_tell_96 ?_
    refine aw_iadd_w (pc := 97) dX7_tell_97 ?_
    refine aw_invV (pc := 98) (md' := m_X7_lay) (ci := 7) (as := [(.inl x1), (.inl 3), (.inl (w (v8 + 1)))]) dX7_tell_98 mo_X7_lay im_X7_lay se_X7_lay ml_X7_71 rfl ko104 rfl hd (Nat.le_of_ble_eq_true rfl) (Nat.le_of_ble_eq_true rfl) (Nat.le_of_ble_eq_true rfl) ?_
    refine am_mono g (fun _ h9 _ ok_h9 g => ?_)
    obtain ⟨rfl, ss_h9, g⟩ := g
    replace hL := QZ.ss hL ss_h9
    obtain ⟨ko104, ro104_z, ko104_z, ro104_spare, ko104_spare, ro104_past, ko104_past, ro104_kept, ko104_kept, ro104_text, ko104_text, ro104_stack, ko104_stack, ro104_drew, ko104_drew, ro104_drawn, ko104_drawn, ro104_signs, ko104_signs, ro104_numbers, ko104_numbers⟩ := id hL
    show AW m_X7_tell d none Q 101 [some (.inr (some 104)), some (.inl x1), none] [] h9 (0, 0)
    refine aw_aload_n (pc := 101) dX7_tell_101 rfl ?_
    refine aw_getr (pc := 102) (r := some 105) dX7_tell_102 fl_X7_7 (by decide) rfl ko104 ro104_z ?_
    refine aw_iconst (pc := 105) dX7_tell_105 ?_
    refine ax_iaload (pc := 106) (n := 293) (v := hi h9 105 2) dX7_tell_106 ko104_z (by decide) rfl ?_
    refine aw_iconst (pc := 107) dX7_tell_107 ?_
    refine aw_icmp_ne (pc := 108) (tgt := 118) dX7_tell_108 (by decide) (fun c10 => ?_) (fun c10 => ?_)
    · replace g := g.1 c10
      exact aw_return (pc := 118) dX7_tell_118 rfl g (by decide) (by decide)
    · replace g := g.2 c10
      refine aw_aload_n (pc := 111) dX7_tell_111 rfl ?_
      refine aw_iload_n (pc := 112) dX7_tell_112 rfl ?_
      refine aw_iconst (pc := 113) dX7_tell_113 ?_
      refine aw_iconst (pc := 114) dX7_tell_114 ?_
      refine aw_invV (pc := 115) (md' := m_X7_lay) (ci := 7) (as := [(.inl x1), (.inl 1), (.inl 0)]) dX7_tell_115 mo_X7_lay im_X7_lay se_X7_lay ml_X7_71 rfl ko104 rfl hd (Nat.le_of_ble_eq_true rfl) (Nat.le_of_ble_eq_true rfl) (Nat.le_of_ble_eq_true rfl) ?_
      refine am_mono g (fun _ h11 _ ok_h11 g => ?_)
      obtain ⟨rfl, ss_h11, g⟩ := g
      replace hL := QZ.ss hL ss_h11
      obtain ⟨ko104, ro104_z, ko104_z, ro104_spare, ko104_spare, ro104_past, ko104_past, ro104_kept, ko104_kept, ro104_text, ko104_text, ro104_stack, ko104_stack, ro104_drew, ko104_drew, ro104_drawn, ko104_drawn, ro104_signs, ko104_signs, ro104_numbers, ko104_numbers⟩ := id hL
      show AW m_X7_tell d none Q 118 [some (.inr (some 104)), some (.inl x1), none] [] h11 (0, 0)
      exact aw_return (pc := 118) dX7_tell_118 rfl g (by decide) (by decide)
  · replace g := g.2 c1
    refine aw_iconst (pc := 12) dX7_tell_12 ?_
    refine ax_istore_n (pc := 13) (ls' := [some (.inr (some 104)), some (.inl x1), some (.inl 0)]) dX7_tell_13 (Nat.le_of_ble_eq_true rfl) rfl ?_
    exact g
set_option maxRecDepth 100000 in
set_option maxHeartbeats 4000000 in
theorem vc_X7_tell_14 {d : Nat} {Q : Option Int → AH → Prop} {h : AH} {x1 x2 : Int} (hd : 1 ≤ d) (hL : QZ h)
  (g :
    ((199 ≤ x2 → (
      (rg ((hi h 105 1) - 1)) ∧
      (rg (93 + ((hi h 105 1) - 1))) ∧
      AM (d - 1) m_X7_of [(.inr (some 104)), (.inl x1), (.inl 0)] (up h 105 1 ((hi h 105 1) - 1)) (fun r h15 => 
        ∃ v16, r = some v16 ∧ SS (up h 105 1 ((hi h 105 1) - 1)) h15 ∧
        (0 ≤ 93 + ((hi h 105 1) - 1) ∧ 93 + ((hi h 105 1) - 1) < 293) ∧
        (rg ((hi (up h15 105 (93 + ((hi h 105 1) - 1)) v16) 105 1) + 1)) ∧
        AM (d - 1) m_X7_of [(.inr (some 104)), (.inl x1), (.inl 3)] (up (up h15 105 (93 + ((hi h 105 1) - 1)) v16) 105 1 ((hi (up h15 105 (93 + ((hi h 105 1) - 1)) v16) 105 1) + 1)) (fun r h19 => 
          ∃ v20, r = some v20 ∧ SS (up (up h15 105 (93 + ((hi h 105 1) - 1)) v16) 105 1 ((hi (up h15 105 (93 + ((hi h 105 1) - 1)) v16) 105 1) + 1)) h19 ∧
          AM (d - 1) m_X7_lay [(.inr (some 104)), (.inl x1), (.inl 3), (.inl (w (v20 + 1)))] h19 (fun r h21 => 
            r = none ∧ SS h19 h21 ∧
            ((¬ hi h21 105 2 = 1 → (
              Q none h21
            )) ∧
            (¬ (¬ hi h21 105 2 = 1) → (
              AM (d - 1) m_X7_lay [(.inr (some 104)), (.inl x1), (.inl 1), (.inl 0)] h21 (fun r h23 => 
                r = none ∧ SS h21 h23 ∧
                Q none h23)
            ))))))
    )) ∧
    (¬ (199 ≤ x2) → (
      (rg (93 + x2)) ∧
      (rg ((93 + x2) + 1)) ∧
      (0 ≤ (93 + x2) + 1 ∧ (93 + x2) + 1 < 293) ∧
      (0 ≤ 93 + x2 ∧ 93 + x2 < 293) ∧
      (rg (x2 + 1)) ∧
      AW m_X7_tell d none Q 14 [some (.inr (some 104)), some (.inl x1), some (.inl (x2 + 1))] [] (up h 105 (93 + x2) (hi h 105 ((93 + x2) + 1))) (0, 0)
    )))) :
  AW m_X7_tell d none Q 14 [some (.inr (some 104)), some (.inl x1), some (.inl x2)] [] h (0, 0) := by
  obtain ⟨ko104, ro104_z, ko104_z, ro104_spare, ko104_spare, ro104_past, ko104_past, ro104_kept, ko104_kept, ro104_text, ko104_text, ro104_stack, ko104_stack, ro104_drew, ko104_drew, ro104_drawn, ko104_drawn, ro104_signs, ko104_signs, ro104_numbers, ko104_numbers⟩ := id hL
  refine aw_iload_n (pc := 14) dX7_tell_14 rfl ?_
  refine aw_sipush (pc := 15) dX7_tell_15 ?_
  refine aw_icmp_ge (pc := 18) (tgt := 47) dX7_tell_18 (by decide) (fun c12 => ?_) (fun c12 => ?_)
  · replace g := g.1 c12
    refine aw_aload_n (pc := 47) dX7_tell_47 rfl ?_
    refine aw_getr (pc := 48) (r := some 105) dX7_tell_48 fl_X7_7 (by decide) rfl ko104 ro104_z ?_
    refine aw_iconst (pc := 51) dX7_tell_51 ?_
    refine aw_dup2 (pc := 52) dX7_tell_52 ?_
    refine ax_iaload (pc := 53) (n := 293) (v := hi h 105 1) dX7_tell_53 ko104_z (by decide) rfl ?_
    refine aw_iconst (pc := 54) dX7_tell_54 ?_
    obtain ⟨s13, g⟩ := g
    refine ax_isub (pc := 55) (v := (hi h 105 1) - 1) dX7_tell_55 s13 rfl ?_
    refine ax_iastore (pc := 56) (n := 293) dX7_tell_56 ko104_z (by decide) ?_
    refine aw_aload_n (pc := 57) dX7_tell_57 rfl ?_
    refine aw_getr (pc := 58) (r := some 105) dX7_tell_58 fl_X7_7 (by decide) rfl (hkU ko104) (hrU ro104_z) ?_
    refine aw_bipush (pc := 61) dX7_tell_61 ?_
    refine aw_aload_n (pc := 63) dX7_tell_63 rfl ?_
    refine aw_getr (pc := 64) (r := some 105) dX7_tell_64 fl_X7_7 (by decide) rfl (hkU ko104) (hrU ro104_z) ?_
    refine aw_iconst (pc := 67) dX7_tell_67 ?_
    refine ax_iaload (pc := 68) (n := 293) (v := (hi h 105 1) - 1) dX7_tell_68 (hkU ko104_z) (by decide) hiE ?_
    obtain ⟨s14, g⟩ := g
    refine ax_iadd (pc := 69) (v := 93 + ((hi h 105 1) - 1)) dX7_tell_69 s14 rfl ?_
    refine aw_aload_n (pc := 70) dX7_tell_70 rfl ?_
    refine aw_iload_n (pc := 71) dX7_tell_71 rfl ?_
    refine aw_iconst (pc := 72) dX7_tell_72 ?_
    refine aw_invV (pc := 73) (md' := m_X7_of) (ci := 7) (as := [(.inl x1), (.inl 0)]) dX7_tell_73 mo_X7_of im_X7_of se_X7_of ml_X7_40 rfl (hkU ko104) rfl hd (Nat.le_of_ble_eq_true rfl) (Nat.le_of_ble_eq_true rfl) (Nat.le_of_ble_eq_true rfl) ?_
    refine am_mono g (fun _ h15 _ ok_h15 g => ?_)
    obtain ⟨v16, rfl, ss_h15, g⟩ := g
    replace hL := QZ.ss hL (SS.tr (SS.up SS.rf) ss_h15)
    obtain ⟨ko104, ro104_z, ko104_z, ro104_spare, ko104_spare, ro104_past, ko104_past, ro104_kept, ko104_kept, ro104_text, ko104_text, ro104_stack, ko104_stack, ro104_drew, ko104_drew, ro104_drawn, ko104_drawn, ro104_signs, ko104_signs, ro104_numbers, ko104_numbers⟩ := id hL
    show AW m_X7_tell d none Q 76 [some (.inr (some 104)), some (.inl x1), some (.inl x2)] [(.inl v16), (.inl (93 + ((hi h 105 1) - 1))), (.inr (some 105))] h15 (0, 0)
    obtain ⟨s17, g⟩ := g
    refine ax_iastore (pc := 76) (n := 293) dX7_tell_76 ko104_z s17 ?_
    refine aw_aload_n (pc := 77) dX7_tell_77 rfl ?_
    refine aw_getr (pc := 78) (r := some 105) dX7_tell_78 fl_X7_7 (by decide) rfl (hkU ko104) (hrU ro104_z) ?_
    refine aw_iconst (pc := 81) dX7_tell_81 ?_
    refine aw_dup2 (pc := 82) dX7_tell_82 ?_
    refine ax_iaload (pc := 83) (n := 293) (v := hi (up h15 105 (93 + ((hi h 105 1) - 1)) v16) 105 1) dX7_tell_83 (hkU ko104_z) (by decide) rfl ?_
    refine aw_iconst (pc := 84) dX7_tell_84 ?_
    obtain ⟨s18, g⟩ := g
    refine ax_iadd (pc := 85) (v := (hi (up h15 105 (93 + ((hi h 105 1) - 1)) v16) 105 1) + 1) dX7_tell_85 s18 rfl ?_
    refine ax_iastore (pc := 86) (n := 293) dX7_tell_86 (hkU ko104_z) (by decide) ?_
    refine aw_aload_n (pc := 87) dX7_tell_87 rfl ?_
    refine aw_iload_n (pc := 88) dX7_tell_88 rfl ?_
    refine aw_iconst (pc := 89) dX7_tell_89 ?_
    refine aw_aload_n (pc := 90) dX7_tell_90 rfl ?_
    refine aw_iload_n (pc := 91) dX7_tell_91 rfl ?_
    refine aw_iconst (pc := 92) dX7_tell_92 ?_
    refine aw_invV (pc := 93) (md' := m_X7_of) (ci := 7) (as := [(.inl x1), (.inl 3)]) dX7_tell_93 mo_X7_of im_X7_of se_X7_of ml_X7_40 rfl (hkU (hkU ko104)) rfl hd (Nat.le_of_ble_eq_true rfl) (Nat.le_of_ble_eq_true rfl) (Nat.le_of_ble_eq_true rfl) ?_
    refine am_mono g (fun _ h19 _ ok_h19 g => ?_)
    obtain ⟨v20, rfl, ss_h19, g⟩ := g
    replace hL := QZ.ss hL (SS.tr (SS.up (SS.up SS.rf)) ss_h19)
    obtain ⟨ko104, ro104_z, ko104_z, ro104_spare, ko104_spare, ro104_past, ko104_past, ro104_kept, ko104_kept, ro104_text, ko104_text, ro104_stack, ko104_stack, ro104_drew, ko104_drew, ro104_drawn, ko104_drawn, ro104_signs, ko104_signs, ro104_numbers, ko104_numbers⟩ := id hL
    show AW m_X7_tell d none Q 96 [some (.inr (some 104)), some (.inl x1), some (.inl x2)] [(.inl v20), (.inl 3), (.inl x1), (.inr (some 104))] h19 (0, 0)
    refine aw_iconst (pc := 96) dX7_tell_96 ?_
    refine aw_iadd_w (pc := 97) dX7_tell_97 ?_
    refine aw_invV (pc := 98) (md' := m_X7_lay) (ci := 7) (as := [(.inl x1), (.inl 3), (.inl (w (v20 + 1)))]) dX7_tell_98 mo_X7_lay im_X7_lay se_X7_lay ml_X7_71 rfl ko104 rfl hd (Nat.le_of_ble_eq_true rfl) (Nat.le_of_ble_eq_true rfl) (Nat.le_of_ble_eq_true rfl) ?_
    refine am_mono g (fun _ h21 _ ok_h21 g => ?_)
    obtain ⟨rfl, ss_h21, g⟩ := g
    replace hL := QZ.ss hL ss_h21
    obtain ⟨ko104, ro104_z, ko104_z, ro104_spare, ko104_spare, ro104_past, ko104_past, ro104_kept, ko104_kept, ro104_text, ko104_text, ro104_stack, ko104_stack, ro104_drew, ko104_drew, ro104_drawn, ko104_drawn, ro104_signs, ko104_signs, ro104_numbers, ko104_numbers⟩ := id hL
    show AW m_X7_tell d none Q 101 [some (.inr (some 104)), some (.inl x1), some (.inl x2)] [] h21 (0, 0)
    refine aw_aload_n (pc := 101) dX7_tell_101 rfl ?_
    refine aw_getr (pc := 102) (r := some 105) dX7_tell_102 fl_X7_7 (by decide) rfl ko104 ro104_z ?_
    refine aw_iconst (pc := 105) dX7_tell_105 ?_
    refine ax_iaload (pc := 106) (n := 293) (v := hi h21 105 2) dX7_tell_106 ko104_z (by decide) rfl ?_
    refine aw_iconst (pc := 107) dX7_tell_107 ?_
    refine aw_icmp_ne (pc := 108) (tgt := 118) dX7_tell_108 (by decide) (fun c22 => ?_) (fun c22 => ?_)
    · replace g := g.1 c22
      exact aw_return (pc := 118) dX7_tell_118 rfl g (by decide) (by decide)
    · replace g := g.2 c22
      refine aw_aload_n (pc := 111) dX7_tell_111 rfl ?_
      refine aw_iload_n (pc := 112) dX7_tell_112 rfl ?_
      refine aw_iconst (pc := 113) dX7_tell_113 ?_
      refine aw_iconst (pc := 114) dX7_tell_114 ?_
      refine aw_invV (pc := 115) (md' := m_X7_lay) (ci := 7) (as := [(.inl x1), (.inl 1), (.inl 0)]) dX7_tell_115 mo_X7_lay im_X7_lay se_X7_lay ml_X7_71 rfl ko104 rfl hd (Nat.le_of_ble_eq_true rfl) (Nat.le_of_ble_eq_true rfl) (Nat.le_of_ble_eq_true rfl) ?_
      refine am_mono g (fun _ h23 _ ok_h23 g => ?_)
      obtain ⟨rfl, ss_h23, g⟩ := g
      replace hL := QZ.ss hL ss_h23
      obtain ⟨ko104, ro104_z, ko104_z, ro104_spare, ko104_spare, ro104_past, ko104_past, ro104_kept, ko104_kept, ro104_text, ko104_text, ro104_stack, ko104_stack, ro104_drew, ko104_drew, ro104_drawn, ko104_drawn, ro104_signs, ko104_signs, ro104_numbers, ko104_numbers⟩ := id hL
      show AW m_X7_tell d none Q 118 [some (.inr (some 104)), some (.inl x1), some (.inl x2)] [] h23 (0, 0)
      exact aw_return (pc := 118) dX7_tell_118 rfl g (by decide) (by decide)
  · replace g := g.2 c12
    refine aw_aload_n (pc := 21) dX7_tell_21 rfl ?_
    refine aw_getr (pc := 22) (r := some 105) dX7_tell_22 fl_X7_7 (by decide) rfl ko104 ro104_z ?_
    refine aw_bipush (pc := 25) dX7_tell_25 ?_
    refine aw_iload_n (pc := 27) dX7_tell_27 rfl ?_
    obtain ⟨s24, g⟩ := g
    refine ax_iadd (pc := 28) (v := 93 + x2) dX7_tell_28 s24 rfl ?_
    refine aw_aload_n (pc := 29) dX7_tell_29 rfl ?_
    refine aw_getr (pc := 30) (r := some 105) dX7_tell_30 fl_X7_7 (by decide) rfl ko104 ro104_z ?_
    refine aw_bipush (pc := 33) dX7_tell_33 ?_
    refine aw_iload_n (pc := 35) dX7_tell_35 rfl ?_
    refine ax_iadd (pc := 36) (v := 93 + x2) dX7_tell_36 s24 rfl ?_
    refine aw_iconst (pc := 37) dX7_tell_37 ?_
    obtain ⟨s25, g⟩ := g
    refine ax_iadd (pc := 38) (v := (93 + x2) + 1) dX7_tell_38 s25 rfl ?_
    obtain ⟨s26, g⟩ := g
    refine ax_iaload (pc := 39) (n := 293) (v := hi h 105 ((93 + x2) + 1)) dX7_tell_39 ko104_z s26 rfl ?_
    obtain ⟨s27, g⟩ := g
    refine ax_iastore (pc := 40) (n := 293) dX7_tell_40 ko104_z s27 ?_
    obtain ⟨s28, g⟩ := g
    refine ax_iinc (pc := 41) (v' := x2 + 1) (ls' := [some (.inr (some 104)), some (.inl x1), some (.inl (x2 + 1))]) dX7_tell_41 rfl s28 rfl rfl ?_
    refine aw_goto (pc := 44) (tgt := 14) dX7_tell_44 (by decide) ?_
    exact g
set_option maxRecDepth 100000 in
set_option maxHeartbeats 4000000 in
theorem vc_X7_letGo {d : Nat} {Q : Option Int → AH → Prop} {h : AH}  (hd : 1 ≤ d) (hL : QZ h)
  (g :
    (rg ((hi h 105 0) - 1)) ∧
    AW m_X7_letGo d none Q 9 [some (.inr (some 104)), some (.inl ((hi h 105 0) - 1))] [] h (0, 0)) :
  AM d m_X7_letGo [(.inr (some 104))] h Q := by
  refine am_body mo_X7_letGo (Nat.le_of_ble_eq_true rfl) ?_
  show AW m_X7_letGo d none Q 0 [some (.inr (some 104)), none] [] h (0, 0)
  obtain ⟨ko104, ro104_z, ko104_z, ro104_spare, ko104_spare, ro104_past, ko104_past, ro104_kept, ko104_kept, ro104_text, ko104_text, ro104_stack, ko104_stack, ro104_drew, ko104_drew, ro104_drawn, ko104_drawn, ro104_signs, ko104_signs, ro104_numbers, ko104_numbers⟩ := id hL
  refine aw_aload_n (pc := 0) dX7_letGo_0 rfl ?_
  refine aw_getr (pc := 1) (r := some 105) dX7_letGo_1 fl_X7_7 (by decide) rfl ko104 ro104_z ?_
  refine aw_iconst (pc := 4) dX7_letGo_4 ?_
  refine ax_iaload (pc := 5) (n := 293) (v := hi h 105 0) dX7_letGo_5 ko104_z (by decide) rfl ?_
  refine aw_iconst (pc := 6) dX7_letGo_6 ?_
  obtain ⟨s1, g⟩ := g
  refine ax_isub (pc := 7) (v := (hi h 105 0) - 1) dX7_letGo_7 s1 rfl ?_
  refine ax_istore_n (pc := 8) (ls' := [some (.inr (some 104)), some (.inl ((hi h 105 0) - 1))]) dX7_letGo_8 (Nat.le_of_ble_eq_true rfl) rfl ?_
  exact g
set_option maxRecDepth 100000 in
set_option maxHeartbeats 4000000 in
theorem vc_X7_letGo_9 {d : Nat} {Q : Option Int → AH → Prop} {h : AH} {x1 : Int} (hd : 1 ≤ d) (hL : QZ h)
  (g :
    ((x1 < 0 → (
      Q none h
    )) ∧
    (¬ (x1 < 0) → (
      AM (d - 1) m_X7_of [(.inr (some 104)), (.inl x1), (.inl 2)] h (fun r h3 => 
        ∃ v4, r = some v4 ∧ SS h h3 ∧
        ((v4 ≤ 0 → (
          (rg (x1 - 1)) ∧
          AW m_X7_letGo d none Q 9 [some (.inr (some 104)), some (.inl (x1 - 1))] [] h3 (0, 0)
        )) ∧
        (¬ (v4 ≤ 0) → (
          AM (d - 1) m_X7_of [(.inr (some 104)), (.inl x1), (.inl 2)] h3 (fun r h7 => 
            ∃ v8, r = some v8 ∧ SS h3 h7 ∧
            (rg (v8 - 1)) ∧
            AM (d - 1) m_X7_lay [(.inr (some 104)), (.inl x1), (.inl 2), (.inl (v8 - 1))] h7 (fun r h10 => 
              r = none ∧ SS h7 h10 ∧
              AM (d - 1) m_X7_of [(.inr (some 104)), (.inl x1), (.inl 2)] h10 (fun r h11 => 
                ∃ v12, r = some v12 ∧ SS h10 h11 ∧
                ((¬ v12 = 0 → (
                  (rg (x1 - 1)) ∧
                  AW m_X7_letGo d none Q 9 [some (.inr (some 104)), some (.inl (x1 - 1))] [] h11 (0, 0)
                )) ∧
                (¬ (¬ v12 = 0) → (
                  AM (d - 1) m_X7_takeNow [(.inr (some 104)), (.inl x1)] h11 (fun r h15 => 
                    r = none ∧ SS h11 h15 ∧
                    (rg (x1 - 1)) ∧
                    AW m_X7_letGo d none Q 9 [some (.inr (some 104)), some (.inl (x1 - 1))] [] (up h15 105 12 (w ((hi h15 105 12) + 1))) (0, 0))
                ))))))
        ))))
    )))) :
  AW m_X7_letGo d none Q 9 [some (.inr (some 104)), some (.inl x1)] [] h (0, 0) := by
  obtain ⟨ko104, ro104_z, ko104_z, ro104_spare, ko104_spare, ro104_past, ko104_past, ro104_kept, ko104_kept, ro104_text, ko104_text, ro104_stack, ko104_stack, ro104_drew, ko104_drew, ro104_drawn, ko104_drawn, ro104_signs, ko104_signs, ro104_numbers, ko104_numbers⟩ := id hL
  refine aw_iload_n (pc := 9) dX7_letGo_9 rfl ?_
  refine aw_if_lt (pc := 10) (tgt := 67) dX7_letGo_10 (by decide) (fun c2 => ?_) (fun c2 => ?_)
  · replace g := g.1 c2
    exact aw_return (pc := 67) dX7_letGo_67 rfl g (by decide) (by decide)
  · replace g := g.2 c2
    refine aw_aload_n (pc := 13) dX7_letGo_13 rfl ?_
    refine aw_iload_n (pc := 14) dX7_letGo_14 rfl ?_
    refine aw_iconst (pc := 15) dX7_letGo_15 ?_
    refine aw_invV (pc := 16) (md' := m_X7_of) (ci := 7) (as := [(.inl x1), (.inl 2)]) dX7_letGo_16 mo_X7_of im_X7_of se_X7_of ml_X7_40 rfl ko104 rfl hd (Nat.le_of_ble_eq_true rfl) (Nat.le_of_ble_eq_true rfl) (Nat.le_of_ble_eq_true rfl) ?_
    refine am_mono g (fun _ h3 _ ok_h3 g => ?_)
    obtain ⟨v4, rfl, ss_h3, g⟩ := g
    replace hL := QZ.ss hL ss_h3
    obtain ⟨ko104, ro104_z, ko104_z, ro104_spare, ko104_spare, ro104_past, ko104_past, ro104_kept, ko104_kept, ro104_text, ko104_text, ro104_stack, ko104_stack, ro104_drew, ko104_drew, ro104_drawn, ko104_drawn, ro104_signs, ko104_signs, ro104_numbers, ko104_numbers⟩ := id hL
    show AW m_X7_letGo d none Q 19 [some (.inr (some 104)), some (.inl x1)] [(.inl v4)] h3 (0, 0)
    refine aw_if_le (pc := 19) (tgt := 61) dX7_letGo_19 (by decide) (fun c5 => ?_) (fun c5 => ?_)
    · replace g := g.1 c5
      obtain ⟨s6, g⟩ := g
      refine ax_iinc (pc := 61) (v' := x1 - 1) (ls' := [some (.inr (some 104)), some (.inl (x1 - 1))]) dX7_letGo_61 rfl s6 (by omega) rfl ?_
      refine aw_goto (pc := 64) (tgt := 9) dX7_letGo_64 (by decide) ?_
      exact g
    · replace g := g.2 c5
      refine aw_aload_n (pc := 22) dX7_letGo_22 rfl ?_
      refine aw_iload_n (pc := 23) dX7_letGo_23 rfl ?_
      refine aw_iconst (pc := 24) dX7_letGo_24 ?_
      refine aw_aload_n (pc := 25) dX7_letGo_25 rfl ?_
      refine aw_iload_n (pc := 26) dX7_letGo_26 rfl ?_
      refine aw_iconst (pc := 27) dX7_letGo_27 ?_
      refine aw_invV (pc := 28) (md' := m_X7_of) (ci := 7) (as := [(.inl x1), (.inl 2)]) dX7_letGo_28 mo_X7_of im_X7_of se_X7_of ml_X7_40 rfl ko104 rfl hd (Nat.le_of_ble_eq_true rfl) (Nat.le_of_ble_eq_true rfl) (Nat.le_of_ble_eq_true rfl) ?_
      refine am_mono g (fun _ h7 _ ok_h7 g => ?_)
      obtain ⟨v8, rfl, ss_h7, g⟩ := g
      replace hL := QZ.ss hL ss_h7
      obtain ⟨ko104, ro104_z, ko104_z, ro104_spare, ko104_spare, ro104_past, ko104_past, ro104_kept, ko104_kept, ro104_text, ko104_text, ro104_stack, ko104_stack, ro104_drew, ko104_drew, ro104_drawn, ko104_drawn, ro104_signs, ko104_signs, ro104_numbers, ko104_numbers⟩ := id hL
      show AW m_X7_letGo d none Q 31 [some (.inr (some 104)), some (.inl x1)] [(.inl v8), (.inl 2), (.inl x1), (.inr (some 104))] h7 (0, 0)
      refine aw_iconst (pc := 31) dX7_letGo_31 ?_
      obtain ⟨s9, g⟩ := g
      refine ax_isub (pc := 32) (v := v8 - 1) dX7_letGo_32 s9 rfl ?_
      refine aw_invV (pc := 33) (md' := m_X7_lay) (ci := 7) (as := [(.inl x1), (.inl 2), (.inl (v8 - 1))]) dX7_letGo_33 mo_X7_lay im_X7_lay se_X7_lay ml_X7_71 rfl ko104 rfl hd (Nat.le_of_ble_eq_true rfl) (Nat.le_of_ble_eq_true rfl) (Nat.le_of_ble_eq_true rfl) ?_
      refine am_mono g (fun _ h10 _ ok_h10 g => ?_)
      obtain ⟨rfl, ss_h10, g⟩ := g
      replace hL := QZ.ss hL ss_h10
      obtain ⟨ko104, ro104_z, ko104_z, ro104_spare, ko104_spare, ro104_past, ko104_past, ro104_kept, ko104_kept, ro104_text, ko104_text, ro104_stack, ko104_stack, ro104_drew, ko104_drew, ro104_drawn, ko104_drawn, ro104_signs, ko104_signs, ro104_numbers, ko104_numbers⟩ := id hL
      show AW m_X7_letGo d none Q 36 [some (.inr (some 104)), some (.inl x1)] [] h10 (0, 0)
      refine aw_aload_n (pc := 36) dX7_letGo_36 rfl ?_
      refine aw_iload_n (pc := 37) dX7_letGo_37 rfl ?_
      refine aw_iconst (pc := 38) dX7_letGo_38 ?_
      refine aw_invV (pc := 39) (md' := m_X7_of) (ci := 7) (as := [(.inl x1), (.inl 2)]) dX7_letGo_39 mo_X7_of im_X7_of se_X7_of ml_X7_40 rfl ko104 rfl hd (Nat.le_of_ble_eq_true rfl) (Nat.le_of_ble_eq_true rfl) (Nat.le_of_ble_eq_true rfl) ?_
      refine am_mono g (fun _ h11 _ ok_h11 g => ?_)
      obtain ⟨v12, rfl, ss_h11, g⟩ := g
      replace hL := QZ.ss hL ss_h11
      obtain ⟨ko104, ro104_z, ko104_z, ro104_spare, ko104_spare, ro104_past, ko104_past, ro104_kept, ko104_kept, ro104_text, ko104_text, ro104_stack, ko104_stack, ro104_drew, ko104_drew, ro104_drawn, ko104_drawn, ro104_signs, ko104_signs, ro104_numbers, ko104_numbers⟩ := id hL
      show AW m_X7_letGo d none Q 42 [some (.inr (some 104)), some (.inl x1)] [(.inl v12)] h11 (0, 0)
      refine aw_if_ne (pc := 42) (tgt := 61) dX7_letGo_42 (by decide) (fun c13 => ?_) (fun c13 => ?_)
      · replace g := g.1 c13
        obtain ⟨s14, g⟩ := g
        refine ax_iinc (pc := 61) (v' := x1 - 1) (ls' := [some (.inr (some 104)), some (.inl (x1 - 1))]) dX7_letGo_61 rfl s14 (by omega) rfl ?_
        refine aw_goto (pc := 64) (tgt := 9) dX7_letGo_64 (by decide) ?_
        exact g
      · replace g := g.2 c13
        refine aw_aload_n (pc := 45) dX7_letGo_45 rfl ?_
        refine aw_iload_n (pc := 46) dX7_letGo_46 rfl ?_
        refine aw_invV (pc := 47) (md' := m_X7_takeNow) (ci := 7) (as := [(.inl x1)]) dX7_letGo_47 mo_X7_takeNow im_X7_takeNow se_X7_takeNow ml_X7_82 rfl ko104 rfl hd (Nat.le_of_ble_eq_true rfl) (Nat.le_of_ble_eq_true rfl) (Nat.le_of_ble_eq_true rfl) ?_
        refine am_mono g (fun _ h15 _ ok_h15 g => ?_)
        obtain ⟨rfl, ss_h15, g⟩ := g
        replace hL := QZ.ss hL ss_h15
        obtain ⟨ko104, ro104_z, ko104_z, ro104_spare, ko104_spare, ro104_past, ko104_past, ro104_kept, ko104_kept, ro104_text, ko104_text, ro104_stack, ko104_stack, ro104_drew, ko104_drew, ro104_drawn, ko104_drawn, ro104_signs, ko104_signs, ro104_numbers, ko104_numbers⟩ := id hL
        show AW m_X7_letGo d none Q 50 [some (.inr (some 104)), some (.inl x1)] [] h15 (0, 0)
        refine aw_aload_n (pc := 50) dX7_letGo_50 rfl ?_
        refine aw_getr (pc := 51) (r := some 105) dX7_letGo_51 fl_X7_7 (by decide) rfl ko104 ro104_z ?_
        refine aw_bipush (pc := 54) dX7_letGo_54 ?_
        refine aw_dup2 (pc := 56) dX7_letGo_56 ?_
        refine ax_iaload (pc := 57) (n := 293) (v := hi h15 105 12) dX7_letGo_57 ko104_z (by decide) rfl ?_
        refine aw_iconst (pc := 58) dX7_letGo_58 ?_
        refine aw_iadd_w (pc := 59) dX7_letGo_59 ?_
        refine ax_iastore (pc := 60) (n := 293) dX7_letGo_60 ko104_z (by decide) ?_
        obtain ⟨s16, g⟩ := g
        refine ax_iinc (pc := 61) (v' := x1 - 1) (ls' := [some (.inr (some 104)), some (.inl (x1 - 1))]) dX7_letGo_61 rfl s16 (by omega) rfl ?_
        refine aw_goto (pc := 64) (tgt := 9) dX7_letGo_64 (by decide) ?_
        exact g
set_option maxRecDepth 100000 in
set_option maxHeartbeats 4000000 in
theorem vc_X7_begins {d : Nat} {Q : Option Int → AH → Prop} {h : AH} {x0 x1 x2 : Int} 
  (g :
    (rg (8 - x1)) ∧
    ((¬ sr x0 (8 - x1) = x2 → (
      Q (some 0) h
    )) ∧
    (¬ (¬ sr x0 (8 - x1) = x2) → (
      Q (some 1) h
    )))) :
  AM d m_X7_begins [(.inl x0), (.inl x1), (.inl x2)] h Q := by
  refine am_body mo_X7_begins (Nat.le_of_ble_eq_true rfl) ?_
  show AW m_X7_begins d none Q 0 [some (.inl x0), some (.inl x1), some (.inl x2)] [] h (0, 0)
  refine aw_iload_n (pc := 0) dX7_begins_0 rfl ?_
  refine aw_bipush (pc := 1) dX7_begins_1 ?_
  refine aw_iload_n (pc := 3) dX7_begins_3 rfl ?_
  obtain ⟨s1, g⟩ := g
  refine ax_isub (pc := 4) (v := 8 - x1) dX7_begins_4 s1 rfl ?_
  refine aw_ishr (pc := 5) dX7_begins_5 ?_
  refine aw_iload_n (pc := 6) dX7_begins_6 rfl ?_
  refine aw_icmp_ne (pc := 7) (tgt := 14) dX7_begins_7 (by decide) (fun c2 => ?_) (fun c2 => ?_)
  · replace g := g.1 c2
    refine aw_iconst (pc := 14) dX7_begins_14 ?_
    exact aw_ireturn (pc := 15) dX7_begins_15 (by simp [okr]) g (by decide) (by decide)
  · replace g := g.2 c2
    refine aw_iconst (pc := 10) dX7_begins_10 ?_
    refine aw_goto (pc := 11) (tgt := 15) dX7_begins_11 (by decide) ?_
    exact aw_ireturn (pc := 15) dX7_begins_15 (by simp [okr]) g (by decide) (by decide)
set_option maxRecDepth 100000 in
set_option maxHeartbeats 4000000 in
theorem vc_X7_noAnswer {d : Nat} {Q : Option Int → AH → Prop} {h : AH}  (hL : QZ h)
  (g :
    Q none (up (up (up (up h 104 8 0) 104 9 (-5)) 104 10 0) 104 11 0)) :
  AM d m_X7_noAnswer [(.inr (some 104))] h Q := by
  refine am_body mo_X7_noAnswer (Nat.le_of_ble_eq_true rfl) ?_
  show AW m_X7_noAnswer d none Q 0 [some (.inr (some 104))] [] h (0, 0)
  obtain ⟨ko104, ro104_z, ko104_z, ro104_spare, ko104_spare, ro104_past, ko104_past, ro104_kept, ko104_kept, ro104_text, ko104_text, ro104_stack, ko104_stack, ro104_drew, ko104_drew, ro104_drawn, ko104_drawn, ro104_signs, ko104_signs, ro104_numbers, ko104_numbers⟩ := id hL
  refine aw_aload_n (pc := 0) dX7_noAnswer_0 rfl ?_
  refine aw_iconst (pc := 1) dX7_noAnswer_1 ?_
  refine ax_puti (pc := 2) dX7_noAnswer_2 fl_X7_92 (by decide) rfl rfl rfl ko104 ?_
  refine aw_aload_n (pc := 5) dX7_noAnswer_5 rfl ?_
  refine aw_bipush (pc := 6) dX7_noAnswer_6 ?_
  refine ax_puti (pc := 8) dX7_noAnswer_8 fl_X7_95 (by decide) rfl rfl rfl (hkU ko104) ?_
  refine aw_aload_n (pc := 11) dX7_noAnswer_11 rfl ?_
  refine aw_iconst (pc := 12) dX7_noAnswer_12 ?_
  refine ax_puti (pc := 13) dX7_noAnswer_13 fl_X7_98 (by decide) rfl rfl rfl (hkU (hkU ko104)) ?_
  refine aw_aload_n (pc := 16) dX7_noAnswer_16 rfl ?_
  refine aw_iconst (pc := 17) dX7_noAnswer_17 ?_
  refine ax_puti (pc := 18) dX7_noAnswer_18 fl_X7_101 (by decide) rfl rfl rfl (hkU (hkU (hkU ko104))) ?_
  exact aw_return (pc := 21) dX7_noAnswer_21 rfl g (by decide) (by decide)
set_option maxRecDepth 100000 in
set_option maxHeartbeats 4000000 in
theorem vc_X7_answers {d : Nat} {Q : Option Int → AH → Prop} {h : AH} {x1 : Int} (hd : 1 ≤ d) (hL : QZ h)
  (g :
    ((¬ hi h 104 8 = 0 → (
      AM (d - 1) m_X7_of [(.inr (some 104)), (.inl x1), (.inl 0)] h (fun r h2 => 
        ∃ v3, r = some v3 ∧ SS h h2 ∧
        (rg ((hi h2 104 8) + 1)) ∧
        AM (d - 1) m_X7_of [(.inr (some 104)), (.inl x1), (.inl 0)] (up (up (up h2 104 11 (orr (hi h 104 11) (xr v3 (hi h2 104 10)))) 104 8 ((hi h2 104 8) + 1)) 104 9 x1) (fun r h5 => 
          ∃ v6, r = some v6 ∧ SS (up (up (up h2 104 11 (orr (hi h 104 11) (xr v3 (hi h2 104 10)))) 104 8 ((hi h2 104 8) + 1)) 104 9 x1) h5 ∧
          Q none (up h5 104 10 v6)))
    )) ∧
    (¬ (¬ hi h 104 8 = 0) → (
      (rg ((hi h 104 8) + 1)) ∧
      AM (d - 1) m_X7_of [(.inr (some 104)), (.inl x1), (.inl 0)] (up (up (up h 104 11 (orr (hi h 104 11) 0)) 104 8 ((hi h 104 8) + 1)) 104 9 x1) (fun r h8 => 
        ∃ v9, r = some v9 ∧ SS (up (up (up h 104 11 (orr (hi h 104 11) 0)) 104 8 ((hi h 104 8) + 1)) 104 9 x1) h8 ∧
        Q none (up h8 104 10 v9))
    )))) :
  AM d m_X7_answers [(.inr (some 104)), (.inl x1)] h Q := by
  refine am_body mo_X7_answers (Nat.le_of_ble_eq_true rfl) ?_
  show AW m_X7_answers d none Q 0 [some (.inr (some 104)), some (.inl x1)] [] h (0, 0)
  obtain ⟨ko104, ro104_z, ko104_z, ro104_spare, ko104_spare, ro104_past, ko104_past, ro104_kept, ko104_kept, ro104_text, ko104_text, ro104_stack, ko104_stack, ro104_drew, ko104_drew, ro104_drawn, ko104_drawn, ro104_signs, ko104_signs, ro104_numbers, ko104_numbers⟩ := id hL
  refine aw_aload_n (pc := 0) dX7_answers_0 rfl ?_
  refine aw_dup (pc := 1) dX7_answers_1 ?_
  refine ax_geti (pc := 2) (v := hi h 104 11) dX7_answers_2 fl_X7_101 (by decide) rfl ko104 rfl ?_
  refine aw_aload_n (pc := 5) dX7_answers_5 rfl ?_
  refine ax_geti (pc := 6) (v := hi h 104 8) dX7_answers_6 fl_X7_92 (by decide) rfl ko104 rfl ?_
  refine aw_if_ne (pc := 9) (tgt := 16) dX7_answers_9 (by decide) (fun c1 => ?_) (fun c1 => ?_)
  · replace g := g.1 c1
    refine aw_aload_n (pc := 16) dX7_answers_16 rfl ?_
    refine aw_iload_n (pc := 17) dX7_answers_17 rfl ?_
    refine aw_iconst (pc := 18) dX7_answers_18 ?_
    refine aw_invV (pc := 19) (md' := m_X7_of) (ci := 7) (as := [(.inl x1), (.inl 0)]) dX7_answers_19 mo_X7_of im_X7_of se_X7_of ml_X7_40 rfl ko104 rfl hd (Nat.le_of_ble_eq_true rfl) (Nat.le_of_ble_eq_true rfl) (Nat.le_of_ble_eq_true rfl) ?_
    refine am_mono g (fun _ h2 _ ok_h2 g => ?_)
    obtain ⟨v3, rfl, ss_h2, g⟩ := g
    replace hL := QZ.ss hL ss_h2
    obtain ⟨ko104, ro104_z, ko104_z, ro104_spare, ko104_spare, ro104_past, ko104_past, ro104_kept, ko104_kept, ro104_text, ko104_text, ro104_stack, ko104_stack, ro104_drew, ko104_drew, ro104_drawn, ko104_drawn, ro104_signs, ko104_signs, ro104_numbers, ko104_numbers⟩ := id hL
    show AW m_X7_answers d none Q 22 [some (.inr (some 104)), some (.inl x1)] [(.inl v3), (.inl (hi h 104 11)), (.inr (some 104))] h2 (0, 0)
    refine aw_aload_n (pc := 22) dX7_answers_22 rfl ?_
    refine ax_geti (pc := 23) (v := hi h2 104 10) dX7_answers_23 fl_X7_98 (by decide) rfl ko104 rfl ?_
    refine aw_ixor (pc := 26) dX7_answers_26 ?_
    refine aw_ior (pc := 27) dX7_answers_27 ?_
    refine ax_puti (pc := 28) dX7_answers_28 fl_X7_101 (by decide) rfl rfl rfl ko104 ?_
    refine aw_aload_n (pc := 31) dX7_answers_31 rfl ?_
    refine aw_dup (pc := 32) dX7_answers_32 ?_
    refine ax_geti (pc := 33) (v := hi h2 104 8) dX7_answers_33 fl_X7_92 (by decide) rfl (hkU ko104) (hiN (Or.inr (by decide)) rfl) ?_
    refine aw_iconst (pc := 36) dX7_answers_36 ?_
    obtain ⟨s4, g⟩ := g
    refine ax_iadd (pc := 37) (v := (hi h2 104 8) + 1) dX7_answers_37 s4 rfl ?_
    refine ax_puti (pc := 38) dX7_answers_38 fl_X7_92 (by decide) rfl rfl rfl (hkU ko104) ?_
    refine aw_aload_n (pc := 41) dX7_answers_41 rfl ?_
    refine aw_iload_n (pc := 42) dX7_answers_42 rfl ?_
    refine ax_puti (pc := 43) dX7_answers_43 fl_X7_95 (by decide) rfl rfl rfl (hkU (hkU ko104)) ?_
    refine aw_aload_n (pc := 46) dX7_answers_46 rfl ?_
    refine aw_aload_n (pc := 47) dX7_answers_47 rfl ?_
    refine aw_iload_n (pc := 48) dX7_answers_48 rfl ?_
    refine aw_iconst (pc := 49) dX7_answers_49 ?_
    refine aw_invV (pc := 50) (md' := m_X7_of) (ci := 7) (as := [(.inl x1), (.inl 0)]) dX7_answers_50 mo_X7_of im_X7_of se_X7_of ml_X7_40 rfl (hkU (hkU (hkU ko104))) rfl hd (Nat.le_of_ble_eq_true rfl) (Nat.le_of_ble_eq_true rfl) (Nat.le_of_ble_eq_true rfl) ?_
    refine am_mono g (fun _ h5 _ ok_h5 g => ?_)
    obtain ⟨v6, rfl, ss_h5, g⟩ := g
    replace hL := QZ.ss hL (SS.tr (SS.up (SS.up (SS.up SS.rf))) ss_h5)
    obtain ⟨ko104, ro104_z, ko104_z, ro104_spare, ko104_spare, ro104_past, ko104_past, ro104_kept, ko104_kept, ro104_text, ko104_text, ro104_stack, ko104_stack, ro104_drew, ko104_drew, ro104_drawn, ko104_drawn, ro104_signs, ko104_signs, ro104_numbers, ko104_numbers⟩ := id hL
    show AW m_X7_answers d none Q 53 [some (.inr (some 104)), some (.inl x1)] [(.inl v6), (.inr (some 104))] h5 (0, 0)
    refine ax_puti (pc := 53) dX7_answers_53 fl_X7_98 (by decide) rfl rfl rfl ko104 ?_
    exact aw_return (pc := 56) dX7_answers_56 rfl g (by decide) (by decide)
  · replace g := g.2 c1
    refine aw_iconst (pc := 12) dX7_answers_12 ?_
    refine aw_goto (pc := 13) (tgt := 27) dX7_answers_13 (by decide) ?_
    refine aw_ior (pc := 27) dX7_answers_27 ?_
    refine ax_puti (pc := 28) dX7_answers_28 fl_X7_101 (by decide) rfl rfl rfl ko104 ?_
    refine aw_aload_n (pc := 31) dX7_answers_31 rfl ?_
    refine aw_dup (pc := 32) dX7_answers_32 ?_
    refine ax_geti (pc := 33) (v := hi h 104 8) dX7_answers_33 fl_X7_92 (by decide) rfl (hkU ko104) (hiN (Or.inr (by decide)) rfl) ?_
    refine aw_iconst (pc := 36) dX7_answers_36 ?_
    obtain ⟨s7, g⟩ := g
    refine ax_iadd (pc := 37) (v := (hi h 104 8) + 1) dX7_answers_37 s7 rfl ?_
    refine ax_puti (pc := 38) dX7_answers_38 fl_X7_92 (by decide) rfl rfl rfl (hkU ko104) ?_
    refine aw_aload_n (pc := 41) dX7_answers_41 rfl ?_
    refine aw_iload_n (pc := 42) dX7_answers_42 rfl ?_
    refine ax_puti (pc := 43) dX7_answers_43 fl_X7_95 (by decide) rfl rfl rfl (hkU (hkU ko104)) ?_
    refine aw_aload_n (pc := 46) dX7_answers_46 rfl ?_
    refine aw_aload_n (pc := 47) dX7_answers_47 rfl ?_
    refine aw_iload_n (pc := 48) dX7_answers_48 rfl ?_
    refine aw_iconst (pc := 49) dX7_answers_49 ?_
    refine aw_invV (pc := 50) (md' := m_X7_of) (ci := 7) (as := [(.inl x1), (.inl 0)]) dX7_answers_50 mo_X7_of im_X7_of se_X7_of ml_X7_40 rfl (hkU (hkU (hkU ko104))) rfl hd (Nat.le_of_ble_eq_true rfl) (Nat.le_of_ble_eq_true rfl) (Nat.le_of_ble_eq_true rfl) ?_
    refine am_mono g (fun _ h8 _ ok_h8 g => ?_)
    obtain ⟨v9, rfl, ss_h8, g⟩ := g
    replace hL := QZ.ss hL (SS.tr (SS.up (SS.up (SS.up SS.rf))) ss_h8)
    obtain ⟨ko104, ro104_z, ko104_z, ro104_spare, ko104_spare, ro104_past, ko104_past, ro104_kept, ko104_kept, ro104_text, ko104_text, ro104_stack, ko104_stack, ro104_drew, ko104_drew, ro104_drawn, ko104_drawn, ro104_signs, ko104_signs, ro104_numbers, ko104_numbers⟩ := id hL
    show AW m_X7_answers d none Q 53 [some (.inr (some 104)), some (.inl x1)] [(.inl v9), (.inr (some 104))] h8 (0, 0)
    refine ax_puti (pc := 53) dX7_answers_53 fl_X7_98 (by decide) rfl rfl rfl ko104 ?_
    exact aw_return (pc := 56) dX7_answers_56 rfl g (by decide) (by decide)
set_option maxRecDepth 100000 in
set_option maxHeartbeats 4000000 in
theorem vc_X7_clashBit {d : Nat} {Q : Option Int → AH → Prop} {h : AH}  (hL : QZ h)
  (g :
    AW m_X7_clashBit d none Q 2 [some (.inr (some 104)), some (.inl 0)] [] h (0, 0)) :
  AM d m_X7_clashBit [(.inr (some 104))] h Q := by
  refine am_body mo_X7_clashBit (Nat.le_of_ble_eq_true rfl) ?_
  show AW m_X7_clashBit d none Q 0 [some (.inr (some 104)), none] [] h (0, 0)
  obtain ⟨ko104, ro104_z, ko104_z, ro104_spare, ko104_spare, ro104_past, ko104_past, ro104_kept, ko104_kept, ro104_text, ko104_text, ro104_stack, ko104_stack, ro104_drew, ko104_drew, ro104_drawn, ko104_drawn, ro104_signs, ko104_signs, ro104_numbers, ko104_numbers⟩ := id hL
  refine aw_iconst (pc := 0) dX7_clashBit_0 ?_
  refine ax_istore_n (pc := 1) (ls' := [some (.inr (some 104)), some (.inl 0)]) dX7_clashBit_1 (Nat.le_of_ble_eq_true rfl) rfl ?_
  exact g
set_option maxRecDepth 100000 in
set_option maxHeartbeats 4000000 in
theorem vc_X7_clashBit_2 {d : Nat} {Q : Option Int → AH → Prop} {h : AH} {x1 : Int} (hL : QZ h)
  (g :
    (rg (7 - x1)) ∧
    ((¬ an (sr (hi h 104 11) (7 - x1)) 1 = 0 → (
      Q (some x1) h
    )) ∧
    (¬ (¬ an (sr (hi h 104 11) (7 - x1)) 1 = 0) → (
      (rg (x1 + 1)) ∧
      AW m_X7_clashBit d none Q 2 [some (.inr (some 104)), some (.inl (x1 + 1))] [] h (0, 0)
    )))) :
  AW m_X7_clashBit d none Q 2 [some (.inr (some 104)), some (.inl x1)] [] h (0, 0) := by
  obtain ⟨ko104, ro104_z, ko104_z, ro104_spare, ko104_spare, ro104_past, ko104_past, ro104_kept, ko104_kept, ro104_text, ko104_text, ro104_stack, ko104_stack, ro104_drew, ko104_drew, ro104_drawn, ko104_drawn, ro104_signs, ko104_signs, ro104_numbers, ko104_numbers⟩ := id hL
  refine aw_aload_n (pc := 2) dX7_clashBit_2 rfl ?_
  refine ax_geti (pc := 3) (v := hi h 104 11) dX7_clashBit_3 fl_X7_101 (by decide) rfl ko104 rfl ?_
  refine aw_bipush (pc := 6) dX7_clashBit_6 ?_
  refine aw_iload_n (pc := 8) dX7_clashBit_8 rfl ?_
  obtain ⟨s1, g⟩ := g
  refine ax_isub (pc := 9) (v := 7 - x1) dX7_clashBit_9 s1 rfl ?_
  refine aw_ishr (pc := 10) dX7_clashBit_10 ?_
  refine aw_iconst (pc := 11) dX7_clashBit_11 ?_
  refine aw_iand (pc := 12) dX7_clashBit_12 ?_
  refine aw_if_ne (pc := 13) (tgt := 22) dX7_clashBit_13 (by decide) (fun c2 => ?_) (fun c2 => ?_)
  · replace g := g.1 c2
    refine aw_iload_n (pc := 22) dX7_clashBit_22 rfl ?_
    exact ax_ireturn (pc := 23) dX7_clashBit_23 rfl g (by decide) (by decide)
  · replace g := g.2 c2
    obtain ⟨s3, g⟩ := g
    refine ax_iinc (pc := 16) (v' := x1 + 1) (ls' := [some (.inr (some 104)), some (.inl (x1 + 1))]) dX7_clashBit_16 rfl s3 rfl rfl ?_
    refine aw_goto (pc := 19) (tgt := 2) dX7_clashBit_19 (by decide) ?_
    exact g
set_option maxRecDepth 100000 in
set_option maxHeartbeats 4000000 in
theorem vc_X7_answer {d : Nat} {Q : Option Int → AH → Prop} {h : AH}  (hd : 1 ≤ d) (hL : QZ h)
  (g :
    ((¬ hi h 104 8 = 0 → (
      ((¬ hi h 104 8 = 1 → (
        AM (d - 1) m_X7_clashBit [(.inr (some 104))] h (fun r h3 => 
          ∃ v4, r = some v4 ∧ SS h h3 ∧
          (rg (400 + v4)) ∧
          ((¬ hi h3 104 8 = 0 → (
            ((¬ hi h3 104 8 = 1 → (
              ((hi h3 104 8 ≤ 1 → (
                AM (d - 1) m_X7_letGo [(.inr (some 104))] (up (up (up h3 105 7 (w ((hi h3 105 7) + 0))) 105 8 (w ((hi h3 105 8) + 0))) 105 9 (w ((hi h3 105 9) + 0))) (fun r h10 => 
                  r = none ∧ SS (up (up (up h3 105 7 (w ((hi h3 105 7) + 0))) 105 8 (w ((hi h3 105 8) + 0))) 105 9 (w ((hi h3 105 9) + 0))) h10 ∧
                  Q (some (400 + v4)) h10)
              )) ∧
              (¬ (hi h3 104 8 ≤ 1) → (
                AM (d - 1) m_X7_letGo [(.inr (some 104))] (up (up (up h3 105 7 (w ((hi h3 105 7) + 0))) 105 8 (w ((hi h3 105 8) + 0))) 105 9 (w ((hi h3 105 9) + 1))) (fun r h12 => 
                  r = none ∧ SS (up (up (up h3 105 7 (w ((hi h3 105 7) + 0))) 105 8 (w ((hi h3 105 8) + 0))) 105 9 (w ((hi h3 105 9) + 1))) h12 ∧
                  Q (some (400 + v4)) h12)
              )))
            )) ∧
            (¬ (¬ hi h3 104 8 = 1) → (
              AM (d - 1) m_X7_tell [(.inr (some 104)), (.inl (hi h3 104 9))] (up (up (up h3 105 7 (w ((hi h3 105 7) + 0))) 105 8 (w ((hi h3 105 8) + 1))) 105 9 (w ((hi h3 105 9) + 0))) (fun r h15 => 
                r = none ∧ SS (up (up (up h3 105 7 (w ((hi h3 105 7) + 0))) 105 8 (w ((hi h3 105 8) + 1))) 105 9 (w ((hi h3 105 9) + 0))) h15 ∧
                AM (d - 1) m_X7_letGo [(.inr (some 104))] h15 (fun r h16 => 
                  r = none ∧ SS h15 h16 ∧
                  Q (some (400 + v4)) h16))
            )))
          )) ∧
          (¬ (¬ hi h3 104 8 = 0) → (
            AM (d - 1) m_X7_letGo [(.inr (some 104))] (up (up (up h3 105 7 (w ((hi h3 105 7) + 1))) 105 8 (w ((hi h3 105 8) + 0))) 105 9 (w ((hi h3 105 9) + 0))) (fun r h20 => 
              r = none ∧ SS (up (up (up h3 105 7 (w ((hi h3 105 7) + 1))) 105 8 (w ((hi h3 105 8) + 0))) 105 9 (w ((hi h3 105 9) + 0))) h20 ∧
              Q (some (400 + v4)) h20)
          ))))
      )) ∧
      (¬ (¬ hi h 104 8 = 1) → (
        AM (d - 1) m_X7_tell [(.inr (some 104)), (.inl (hi h 104 9))] (up (up (up h 105 7 (w ((hi h 105 7) + 0))) 105 8 (w ((hi h 105 8) + 1))) 105 9 (w ((hi h 105 9) + 0))) (fun r h25 => 
          r = none ∧ SS (up (up (up h 105 7 (w ((hi h 105 7) + 0))) 105 8 (w ((hi h 105 8) + 1))) 105 9 (w ((hi h 105 9) + 0))) h25 ∧
          AM (d - 1) m_X7_letGo [(.inr (some 104))] h25 (fun r h26 => 
            r = none ∧ SS h25 h26 ∧
            Q (some (hi h 104 10)) h26))
      )))
    )) ∧
    (¬ (¬ hi h 104 8 = 0) → (
      AM (d - 1) m_X7_letGo [(.inr (some 104))] (up (up (up h 105 7 (w ((hi h 105 7) + 1))) 105 8 (w ((hi h 105 8) + 0))) 105 9 (w ((hi h 105 9) + 0))) (fun r h31 => 
        r = none ∧ SS (up (up (up h 105 7 (w ((hi h 105 7) + 1))) 105 8 (w ((hi h 105 8) + 0))) 105 9 (w ((hi h 105 9) + 0))) h31 ∧
        Q (some 300) h31)
    )))) :
  AM d m_X7_answer [(.inr (some 104))] h Q := by
  refine am_body mo_X7_answer (Nat.le_of_ble_eq_true rfl) ?_
  show AW m_X7_answer d none Q 0 [some (.inr (some 104)), none] [] h (0, 0)
  obtain ⟨ko104, ro104_z, ko104_z, ro104_spare, ko104_spare, ro104_past, ko104_past, ro104_kept, ko104_kept, ro104_text, ko104_text, ro104_stack, ko104_stack, ro104_drew, ko104_drew, ro104_drawn, ko104_drawn, ro104_signs, ko104_signs, ro104_numbers, ko104_numbers⟩ := id hL
  refine aw_aload_n (pc := 0) dX7_answer_0 rfl ?_
  refine ax_geti (pc := 1) (v := hi h 104 8) dX7_answer_1 fl_X7_92 (by decide) rfl ko104 rfl ?_
  refine aw_if_ne (pc := 4) (tgt := 13) dX7_answer_4 (by decide) (fun c1 => ?_) (fun c1 => ?_)
  · replace g := g.1 c1
    refine aw_aload_n (pc := 13) dX7_answer_13 rfl ?_
    refine ax_geti (pc := 14) (v := hi h 104 8) dX7_answer_14 fl_X7_92 (by decide) rfl ko104 rfl ?_
    refine aw_iconst (pc := 17) dX7_answer_17 ?_
    refine aw_icmp_ne (pc := 18) (tgt := 28) dX7_answer_18 (by decide) (fun c2 => ?_) (fun c2 => ?_)
    · replace g := g.1 c2
      refine aw_sipush (pc := 28) dX7_answer_28 ?_
      refine aw_aload_n (pc := 31) dX7_answer_31 rfl ?_
      refine aw_invV (pc := 32) (md' := m_X7_clashBit) (ci := 7) (as := []) dX7_answer_32 mo_X7_clashBit im_X7_clashBit se_X7_clashBit ml_X7_104 rfl ko104 rfl hd (Nat.le_of_ble_eq_true rfl) (Nat.le_of_ble_eq_true rfl) (Nat.le_of_ble_eq_true rfl) ?_
      refine am_mono g (fun _ h3 _ ok_h3 g => ?_)
      obtain ⟨v4, rfl, ss_h3, g⟩ := g
      replace hL := QZ.ss hL ss_h3
      obtain ⟨ko104, ro104_z, ko104_z, ro104_spare, ko104_spare, ro104_past, ko104_past, ro104_kept, ko104_kept, ro104_text, ko104_text, ro104_stack, ko104_stack, ro104_drew, ko104_drew, ro104_drawn, ko104_drawn, ro104_signs, ko104_signs, ro104_numbers, ko104_numbers⟩ := id hL
      show AW m_X7_answer d none Q 35 [some (.inr (some 104)), none] [(.inl v4), (.inl 400)] h3 (0, 0)
      obtain ⟨s5, g⟩ := g
      refine ax_iadd (pc := 35) (v := 400 + v4) dX7_answer_35 s5 rfl ?_
      refine ax_istore_n (pc := 36) (ls' := [some (.inr (some 104)), some (.inl (400 + v4))]) dX7_answer_36 (Nat.le_of_ble_eq_true rfl) rfl ?_
      refine aw_aload_n (pc := 37) dX7_answer_37 rfl ?_
      refine aw_getr (pc := 38) (r := some 105) dX7_answer_38 fl_X7_7 (by decide) rfl ko104 ro104_z ?_
      refine aw_bipush (pc := 41) dX7_answer_41 ?_
      refine aw_dup2 (pc := 43) dX7_answer_43 ?_
      refine ax_iaload (pc := 44) (n := 293) (v := hi h3 105 7) dX7_answer_44 ko104_z (by decide) rfl ?_
      refine aw_aload_n (pc := 45) dX7_answer_45 rfl ?_
      refine ax_geti (pc := 46) (v := hi h3 104 8) dX7_answer_46 fl_X7_92 (by decide) rfl ko104 rfl ?_
      refine aw_if_ne (pc := 49) (tgt := 56) dX7_answer_49 (by decide) (fun c6 => ?_) (fun c6 => ?_)
      · replace g := g.1 c6
        refine aw_iconst (pc := 56) dX7_answer_56 ?_
        refine aw_iadd_w (pc := 57) dX7_answer_57 ?_
        refine ax_iastore (pc := 58) (n := 293) dX7_answer_58 ko104_z (by decide) ?_
        refine aw_aload_n (pc := 59) dX7_answer_59 rfl ?_
        refine aw_getr (pc := 60) (r := some 105) dX7_answer_60 fl_X7_7 (by decide) rfl (hkU ko104) (hrU ro104_z) ?_
        refine aw_bipush (pc := 63) dX7_answer_63 ?_
        refine aw_dup2 (pc := 65) dX7_answer_65 ?_
        refine ax_iaload (pc := 66) (n := 293) (v := hi h3 105 8) dX7_answer_66 (hkU ko104_z) (by decide) (hiN (Or.inr (by decide)) rfl) ?_
        refine aw_aload_n (pc := 67) dX7_answer_67 rfl ?_
        refine ax_geti (pc := 68) (v := hi h3 104 8) dX7_answer_68 fl_X7_92 (by decide) rfl (hkU ko104) (hiN (Or.inl (by omega)) rfl) ?_
        refine aw_iconst (pc := 71) dX7_answer_71 ?_
        refine aw_icmp_ne (pc := 72) (tgt := 79) dX7_answer_72 (by decide) (fun c7 => ?_) (fun c7 => ?_)
        · replace g := g.1 c7
          refine aw_iconst (pc := 79) dX7_answer_79 ?_
          refine aw_iadd_w (pc := 80) dX7_answer_80 ?_
          refine ax_iastore (pc := 81) (n := 293) dX7_answer_81 (hkU ko104_z) (by decide) ?_
          refine aw_aload_n (pc := 82) dX7_answer_82 rfl ?_
          refine aw_getr (pc := 83) (r := some 105) dX7_answer_83 fl_X7_7 (by decide) rfl (hkU (hkU ko104)) (hrU (hrU ro104_z)) ?_
          refine aw_bipush (pc := 86) dX7_answer_86 ?_
          refine aw_dup2 (pc := 88) dX7_answer_88 ?_
          refine ax_iaload (pc := 89) (n := 293) (v := hi h3 105 9) dX7_answer_89 (hkU (hkU ko104_z)) (by decide) (hiN (Or.inr (by decide)) (hiN (Or.inr (by decide)) rfl)) ?_
          refine aw_aload_n (pc := 90) dX7_answer_90 rfl ?_
          refine ax_geti (pc := 91) (v := hi h3 104 8) dX7_answer_91 fl_X7_92 (by decide) rfl (hkU (hkU ko104)) (hiN (Or.inl (by omega)) (hiN (Or.inl (by omega)) rfl)) ?_
          refine aw_iconst (pc := 94) dX7_answer_94 ?_
          refine aw_icmp_le (pc := 95) (tgt := 102) dX7_answer_95 (by decide) (fun c8 => ?_) (fun c8 => ?_)
          · replace g := g.1 c8
            refine aw_iconst (pc := 102) dX7_answer_102 ?_
            refine aw_iadd_w (pc := 103) dX7_answer_103 ?_
            refine ax_iastore (pc := 104) (n := 293) dX7_answer_104 (hkU (hkU ko104_z)) (by decide) ?_
            refine aw_aload_n (pc := 105) dX7_answer_105 rfl ?_
            refine ax_geti (pc := 106) (v := hi h3 104 8) dX7_answer_106 fl_X7_92 (by decide) rfl (hkU (hkU (hkU ko104))) (hiN (Or.inl (by omega)) (hiN (Or.inl (by omega)) (hiN (Or.inl (by omega)) rfl))) ?_
            refine aw_iconst (pc := 109) dX7_answer_109 ?_
            refine aw_icmp_ne (pc := 110) (tgt := 121) dX7_answer_110 (by decide) (fun c9 => ?_) (fun c9 => False.elim (by omega))
            refine aw_aload_n (pc := 121) dX7_answer_121 rfl ?_
            refine aw_invV (pc := 122) (md' := m_X7_letGo) (ci := 7) (as := []) dX7_answer_122 mo_X7_letGo im_X7_letGo se_X7_letGo ml_X7_110 rfl (hkU (hkU (hkU ko104))) rfl hd (Nat.le_of_ble_eq_true rfl) (Nat.le_of_ble_eq_true rfl) (Nat.le_of_ble_eq_true rfl) ?_
            refine am_mono g (fun _ h10 _ ok_h10 g => ?_)
            obtain ⟨rfl, ss_h10, g⟩ := g
            replace hL := QZ.ss hL (SS.tr (SS.up (SS.up (SS.up SS.rf))) ss_h10)
            obtain ⟨ko104, ro104_z, ko104_z, ro104_spare, ko104_spare, ro104_past, ko104_past, ro104_kept, ko104_kept, ro104_text, ko104_text, ro104_stack, ko104_stack, ro104_drew, ko104_drew, ro104_drawn, ko104_drawn, ro104_signs, ko104_signs, ro104_numbers, ko104_numbers⟩ := id hL
            show AW m_X7_answer d none Q 125 [some (.inr (some 104)), some (.inl (400 + v4))] [] h10 (0, 0)
            refine aw_iload_n (pc := 125) dX7_answer_125 rfl ?_
            exact ax_ireturn (pc := 126) dX7_answer_126 rfl g (by decide) (by decide)
          · replace g := g.2 c8
            refine aw_iconst (pc := 98) dX7_answer_98 ?_
            refine aw_goto (pc := 99) (tgt := 103) dX7_answer_99 (by decide) ?_
            refine aw_iadd_w (pc := 103) dX7_answer_103 ?_
            refine ax_iastore (pc := 104) (n := 293) dX7_answer_104 (hkU (hkU ko104_z)) (by decide) ?_
            refine aw_aload_n (pc := 105) dX7_answer_105 rfl ?_
            refine ax_geti (pc := 106) (v := hi h3 104 8) dX7_answer_106 fl_X7_92 (by decide) rfl (hkU (hkU (hkU ko104))) (hiN (Or.inl (by omega)) (hiN (Or.inl (by omega)) (hiN (Or.inl (by omega)) rfl))) ?_
            refine aw_iconst (pc := 109) dX7_answer_109 ?_
            refine aw_icmp_ne (pc := 110) (tgt := 121) dX7_answer_110 (by decide) (fun c11 => ?_) (fun c11 => False.elim (by omega))
            refine aw_aload_n (pc := 121) dX7_answer_121 rfl ?_
            refine aw_invV (pc := 122) (md' := m_X7_letGo) (ci := 7) (as := []) dX7_answer_122 mo_X7_letGo im_X7_letGo se_X7_letGo ml_X7_110 rfl (hkU (hkU (hkU ko104))) rfl hd (Nat.le_of_ble_eq_true rfl) (Nat.le_of_ble_eq_true rfl) (Nat.le_of_ble_eq_true rfl) ?_
            refine am_mono g (fun _ h12 _ ok_h12 g => ?_)
            obtain ⟨rfl, ss_h12, g⟩ := g
            replace hL := QZ.ss hL (SS.tr (SS.up (SS.up (SS.up SS.rf))) ss_h12)
            obtain ⟨ko104, ro104_z, ko104_z, ro104_spare, ko104_spare, ro104_past, ko104_past, ro104_kept, ko104_kept, ro104_text, ko104_text, ro104_stack, ko104_stack, ro104_drew, ko104_drew, ro104_drawn, ko104_drawn, ro104_signs, ko104_signs, ro104_numbers, ko104_numbers⟩ := id hL
            show AW m_X7_answer d none Q 125 [some (.inr (some 104)), some (.inl (400 + v4))] [] h12 (0, 0)
            refine aw_iload_n (pc := 125) dX7_answer_125 rfl ?_
            exact ax_ireturn (pc := 126) dX7_answer_126 rfl g (by decide) (by decide)
        · replace g := g.2 c7
          refine aw_iconst (pc := 75) dX7_answer_75 ?_
          refine aw_goto (pc := 76) (tgt := 80) dX7_answer_76 (by decide) ?_
          refine aw_iadd_w (pc := 80) dX7_answer_80 ?_
          refine ax_iastore (pc := 81) (n := 293) dX7_answer_81 (hkU ko104_z) (by decide) ?_
          refine aw_aload_n (pc := 82) dX7_answer_82 rfl ?_
          refine aw_getr (pc := 83) (r := some 105) dX7_answer_83 fl_X7_7 (by decide) rfl (hkU (hkU ko104)) (hrU (hrU ro104_z)) ?_
          refine aw_bipush (pc := 86) dX7_answer_86 ?_
          refine aw_dup2 (pc := 88) dX7_answer_88 ?_
          refine ax_iaload (pc := 89) (n := 293) (v := hi h3 105 9) dX7_answer_89 (hkU (hkU ko104_z)) (by decide) (hiN (Or.inr (by decide)) (hiN (Or.inr (by decide)) rfl)) ?_
          refine aw_aload_n (pc := 90) dX7_answer_90 rfl ?_
          refine ax_geti (pc := 91) (v := hi h3 104 8) dX7_answer_91 fl_X7_92 (by decide) rfl (hkU (hkU ko104)) (hiN (Or.inl (by omega)) (hiN (Or.inl (by omega)) rfl)) ?_
          refine aw_iconst (pc := 94) dX7_answer_94 ?_
          refine aw_icmp_le (pc := 95) (tgt := 102) dX7_answer_95 (by decide) (fun c13 => ?_) (fun c13 => False.elim (by omega))
          refine aw_iconst (pc := 102) dX7_answer_102 ?_
          refine aw_iadd_w (pc := 103) dX7_answer_103 ?_
          refine ax_iastore (pc := 104) (n := 293) dX7_answer_104 (hkU (hkU ko104_z)) (by decide) ?_
          refine aw_aload_n (pc := 105) dX7_answer_105 rfl ?_
          refine ax_geti (pc := 106) (v := hi h3 104 8) dX7_answer_106 fl_X7_92 (by decide) rfl (hkU (hkU (hkU ko104))) (hiN (Or.inl (by omega)) (hiN (Or.inl (by omega)) (hiN (Or.inl (by omega)) rfl))) ?_
          refine aw_iconst (pc := 109) dX7_answer_109 ?_
          refine aw_icmp_ne (pc := 110) (tgt := 121) dX7_answer_110 (by decide) (fun c14 => False.elim (by omega)) (fun c14 => ?_)
          refine aw_aload_n (pc := 113) dX7_answer_113 rfl ?_
          refine aw_aload_n (pc := 114) dX7_answer_114 rfl ?_
          refine ax_geti (pc := 115) (v := hi h3 104 9) dX7_answer_115 fl_X7_95 (by decide) rfl (hkU (hkU (hkU ko104))) (hiN (Or.inl (by omega)) (hiN (Or.inl (by omega)) (hiN (Or.inl (by omega)) rfl))) ?_
          refine aw_invV (pc := 118) (md' := m_X7_tell) (ci := 7) (as := [(.inl (hi h3 104 9))]) dX7_answer_118 mo_X7_tell im_X7_tell se_X7_tell ml_X7_107 rfl (hkU (hkU (hkU ko104))) rfl hd (Nat.le_of_ble_eq_true rfl) (Nat.le_of_ble_eq_true rfl) (Nat.le_of_ble_eq_true rfl) ?_
          refine am_mono g (fun _ h15 _ ok_h15 g => ?_)
          obtain ⟨rfl, ss_h15, g⟩ := g
          replace hL := QZ.ss hL (SS.tr (SS.up (SS.up (SS.up SS.rf))) ss_h15)
          obtain ⟨ko104, ro104_z, ko104_z, ro104_spare, ko104_spare, ro104_past, ko104_past, ro104_kept, ko104_kept, ro104_text, ko104_text, ro104_stack, ko104_stack, ro104_drew, ko104_drew, ro104_drawn, ko104_drawn, ro104_signs, ko104_signs, ro104_numbers, ko104_numbers⟩ := id hL
          show AW m_X7_answer d none Q 121 [some (.inr (some 104)), some (.inl (400 + v4))] [] h15 (0, 0)
          refine aw_aload_n (pc := 121) dX7_answer_121 rfl ?_
          refine aw_invV (pc := 122) (md' := m_X7_letGo) (ci := 7) (as := []) dX7_answer_122 mo_X7_letGo im_X7_letGo se_X7_letGo ml_X7_110 rfl ko104 rfl hd (Nat.le_of_ble_eq_true rfl) (Nat.le_of_ble_eq_true rfl) (Nat.le_of_ble_eq_true rfl) ?_
          refine am_mono g (fun _ h16 _ ok_h16 g => ?_)
          obtain ⟨rfl, ss_h16, g⟩ := g
          replace hL := QZ.ss hL ss_h16
          obtain ⟨ko104, ro104_z, ko104_z, ro104_spare, ko104_spare, ro104_past, ko104_past, ro104_kept, ko104_kept, ro104_text, ko104_text, ro104_stack, ko104_stack, ro104_drew, ko104_drew, ro104_drawn, ko104_drawn, ro104_signs, ko104_signs, ro104_numbers, ko104_numbers⟩ := id hL
          show AW m_X7_answer d none Q 125 [some (.inr (some 104)), some (.inl (400 + v4))] [] h16 (0, 0)
          refine aw_iload_n (pc := 125) dX7_answer_125 rfl ?_
          exact ax_ireturn (pc := 126) dX7_answer_126 rfl g (by decide) (by decide)
      · replace g := g.2 c6
        refine aw_iconst (pc := 52) dX7_answer_52 ?_
        refine aw_goto (pc := 53) (tgt := 57) dX7_answer_53 (by decide) ?_
        refine aw_iadd_w (pc := 57) dX7_answer_57 ?_
        refine ax_iastore (pc := 58) (n := 293) dX7_answer_58 ko104_z (by decide) ?_
        refine aw_aload_n (pc := 59) dX7_answer_59 rfl ?_
        refine aw_getr (pc := 60) (r := some 105) dX7_answer_60 fl_X7_7 (by decide) rfl (hkU ko104) (hrU ro104_z) ?_
        refine aw_bipush (pc := 63) dX7_answer_63 ?_
        refine aw_dup2 (pc := 65) dX7_answer_65 ?_
        refine ax_iaload (pc := 66) (n := 293) (v := hi h3 105 8) dX7_answer_66 (hkU ko104_z) (by decide) (hiN (Or.inr (by decide)) rfl) ?_
        refine aw_aload_n (pc := 67) dX7_answer_67 rfl ?_
        refine ax_geti (pc := 68) (v := hi h3 104 8) dX7_answer_68 fl_X7_92 (by decide) rfl (hkU ko104) (hiN (Or.inl (by omega)) rfl) ?_
        refine aw_iconst (pc := 71) dX7_answer_71 ?_
        refine aw_icmp_ne (pc := 72) (tgt := 79) dX7_answer_72 (by decide) (fun c17 => ?_) (fun c17 => False.elim (by omega))
        refine aw_iconst (pc := 79) dX7_answer_79 ?_
        refine aw_iadd_w (pc := 80) dX7_answer_80 ?_
        refine ax_iastore (pc := 81) (n := 293) dX7_answer_81 (hkU ko104_z) (by decide) ?_
        refine aw_aload_n (pc := 82) dX7_answer_82 rfl ?_
        refine aw_getr (pc := 83) (r := some 105) dX7_answer_83 fl_X7_7 (by decide) rfl (hkU (hkU ko104)) (hrU (hrU ro104_z)) ?_
        refine aw_bipush (pc := 86) dX7_answer_86 ?_
        refine aw_dup2 (pc := 88) dX7_answer_88 ?_
        refine ax_iaload (pc := 89) (n := 293) (v := hi h3 105 9) dX7_answer_89 (hkU (hkU ko104_z)) (by decide) (hiN (Or.inr (by decide)) (hiN (Or.inr (by decide)) rfl)) ?_
        refine aw_aload_n (pc := 90) dX7_answer_90 rfl ?_
        refine ax_geti (pc := 91) (v := hi h3 104 8) dX7_answer_91 fl_X7_92 (by decide) rfl (hkU (hkU ko104)) (hiN (Or.inl (by omega)) (hiN (Or.inl (by omega)) rfl)) ?_
        refine aw_iconst (pc := 94) dX7_answer_94 ?_
        refine aw_icmp_le (pc := 95) (tgt := 102) dX7_answer_95 (by decide) (fun c18 => ?_) (fun c18 => False.elim (by omega))
        refine aw_iconst (pc := 102) dX7_answer_102 ?_
        refine aw_iadd_w (pc := 103) dX7_answer_103 ?_
        refine ax_iastore (pc := 104) (n := 293) dX7_answer_104 (hkU (hkU ko104_z)) (by decide) ?_
        refine aw_aload_n (pc := 105) dX7_answer_105 rfl ?_
        refine ax_geti (pc := 106) (v := hi h3 104 8) dX7_answer_106 fl_X7_92 (by decide) rfl (hkU (hkU (hkU ko104))) (hiN (Or.inl (by omega)) (hiN (Or.inl (by omega)) (hiN (Or.inl (by omega)) rfl))) ?_
        refine aw_iconst (pc := 109) dX7_answer_109 ?_
        refine aw_icmp_ne (pc := 110) (tgt := 121) dX7_answer_110 (by decide) (fun c19 => ?_) (fun c19 => False.elim (by omega))
        refine aw_aload_n (pc := 121) dX7_answer_121 rfl ?_
        refine aw_invV (pc := 122) (md' := m_X7_letGo) (ci := 7) (as := []) dX7_answer_122 mo_X7_letGo im_X7_letGo se_X7_letGo ml_X7_110 rfl (hkU (hkU (hkU ko104))) rfl hd (Nat.le_of_ble_eq_true rfl) (Nat.le_of_ble_eq_true rfl) (Nat.le_of_ble_eq_true rfl) ?_
        refine am_mono g (fun _ h20 _ ok_h20 g => ?_)
        obtain ⟨rfl, ss_h20, g⟩ := g
        replace hL := QZ.ss hL (SS.tr (SS.up (SS.up (SS.up SS.rf))) ss_h20)
        obtain ⟨ko104, ro104_z, ko104_z, ro104_spare, ko104_spare, ro104_past, ko104_past, ro104_kept, ko104_kept, ro104_text, ko104_text, ro104_stack, ko104_stack, ro104_drew, ko104_drew, ro104_drawn, ko104_drawn, ro104_signs, ko104_signs, ro104_numbers, ko104_numbers⟩ := id hL
        show AW m_X7_answer d none Q 125 [some (.inr (some 104)), some (.inl (400 + v4))] [] h20 (0, 0)
        refine aw_iload_n (pc := 125) dX7_answer_125 rfl ?_
        exact ax_ireturn (pc := 126) dX7_answer_126 rfl g (by decide) (by decide)
    · replace g := g.2 c2
      refine aw_aload_n (pc := 21) dX7_answer_21 rfl ?_
      refine ax_geti (pc := 22) (v := hi h 104 10) dX7_answer_22 fl_X7_98 (by decide) rfl ko104 rfl ?_
      refine aw_goto (pc := 25) (tgt := 36) dX7_answer_25 (by decide) ?_
      refine ax_istore_n (pc := 36) (ls' := [some (.inr (some 104)), some (.inl (hi h 104 10))]) dX7_answer_36 (Nat.le_of_ble_eq_true rfl) rfl ?_
      refine aw_aload_n (pc := 37) dX7_answer_37 rfl ?_
      refine aw_getr (pc := 38) (r := some 105) dX7_answer_38 fl_X7_7 (by decide) rfl ko104 ro104_z ?_
      refine aw_bipush (pc := 41) dX7_answer_41 ?_
      refine aw_dup2 (pc := 43) dX7_answer_43 ?_
      refine ax_iaload (pc := 44) (n := 293) (v := hi h 105 7) dX7_answer_44 ko104_z (by decide) rfl ?_
      refine aw_aload_n (pc := 45) dX7_answer_45 rfl ?_
      refine ax_geti (pc := 46) (v := hi h 104 8) dX7_answer_46 fl_X7_92 (by decide) rfl ko104 rfl ?_
      refine aw_if_ne (pc := 49) (tgt := 56) dX7_answer_49 (by decide) (fun c21 => ?_) (fun c21 => False.elim (by omega))
      refine aw_iconst (pc := 56) dX7_answer_56 ?_
      refine aw_iadd_w (pc := 57) dX7_answer_57 ?_
      refine ax_iastore (pc := 58) (n := 293) dX7_answer_58 ko104_z (by decide) ?_
      refine aw_aload_n (pc := 59) dX7_answer_59 rfl ?_
      refine aw_getr (pc := 60) (r := some 105) dX7_answer_60 fl_X7_7 (by decide) rfl (hkU ko104) (hrU ro104_z) ?_
      refine aw_bipush (pc := 63) dX7_answer_63 ?_
      refine aw_dup2 (pc := 65) dX7_answer_65 ?_
      refine ax_iaload (pc := 66) (n := 293) (v := hi h 105 8) dX7_answer_66 (hkU ko104_z) (by decide) (hiN (Or.inr (by decide)) rfl) ?_
      refine aw_aload_n (pc := 67) dX7_answer_67 rfl ?_
      refine ax_geti (pc := 68) (v := hi h 104 8) dX7_answer_68 fl_X7_92 (by decide) rfl (hkU ko104) (hiN (Or.inl (by omega)) rfl) ?_
      refine aw_iconst (pc := 71) dX7_answer_71 ?_
      refine aw_icmp_ne (pc := 72) (tgt := 79) dX7_answer_72 (by decide) (fun c22 => False.elim (by omega)) (fun c22 => ?_)
      refine aw_iconst (pc := 75) dX7_answer_75 ?_
      refine aw_goto (pc := 76) (tgt := 80) dX7_answer_76 (by decide) ?_
      refine aw_iadd_w (pc := 80) dX7_answer_80 ?_
      refine ax_iastore (pc := 81) (n := 293) dX7_answer_81 (hkU ko104_z) (by decide) ?_
      refine aw_aload_n (pc := 82) dX7_answer_82 rfl ?_
      refine aw_getr (pc := 83) (r := some 105) dX7_answer_83 fl_X7_7 (by decide) rfl (hkU (hkU ko104)) (hrU (hrU ro104_z)) ?_
      refine aw_bipush (pc := 86) dX7_answer_86 ?_
      refine aw_dup2 (pc := 88) dX7_answer_88 ?_
      refine ax_iaload (pc := 89) (n := 293) (v := hi h 105 9) dX7_answer_89 (hkU (hkU ko104_z)) (by decide) (hiN (Or.inr (by decide)) (hiN (Or.inr (by decide)) rfl)) ?_
      refine aw_aload_n (pc := 90) dX7_answer_90 rfl ?_
      refine ax_geti (pc := 91) (v := hi h 104 8) dX7_answer_91 fl_X7_92 (by decide) rfl (hkU (hkU ko104)) (hiN (Or.inl (by omega)) (hiN (Or.inl (by omega)) rfl)) ?_
      refine aw_iconst (pc := 94) dX7_answer_94 ?_
      refine aw_icmp_le (pc := 95) (tgt := 102) dX7_answer_95 (by decide) (fun c23 => ?_) (fun c23 => False.elim (by omega))
      refine aw_iconst (pc := 102) dX7_answer_102 ?_
      refine aw_iadd_w (pc := 103) dX7_answer_103 ?_
      refine ax_iastore (pc := 104) (n := 293) dX7_answer_104 (hkU (hkU ko104_z)) (by decide) ?_
      refine aw_aload_n (pc := 105) dX7_answer_105 rfl ?_
      refine ax_geti (pc := 106) (v := hi h 104 8) dX7_answer_106 fl_X7_92 (by decide) rfl (hkU (hkU (hkU ko104))) (hiN (Or.inl (by omega)) (hiN (Or.inl (by omega)) (hiN (Or.inl (by omega)) rfl))) ?_
      refine aw_iconst (pc := 109) dX7_answer_109 ?_
      refine aw_icmp_ne (pc := 110) (tgt := 121) dX7_answer_110 (by decide) (fun c24 => False.elim (by omega)) (fun c24 => ?_)
      refine aw_aload_n (pc := 113) dX7_answer_113 rfl ?_
      refine aw_aload_n (pc := 114) dX7_answer_114 rfl ?_
      refine ax_geti (pc := 115) (v := hi h 104 9) dX7_answer_115 fl_X7_95 (by decide) rfl (hkU (hkU (hkU ko104))) (hiN (Or.inl (by omega)) (hiN (Or.inl (by omega)) (hiN (Or.inl (by omega)) rfl))) ?_
      refine aw_invV (pc := 118) (md' := m_X7_tell) (ci := 7) (as := [(.inl (hi h 104 9))]) dX7_answer_118 mo_X7_tell im_X7_tell se_X7_tell ml_X7_107 rfl (hkU (hkU (hkU ko104))) rfl hd (Nat.le_of_ble_eq_true rfl) (Nat.le_of_ble_eq_true rfl) (Nat.le_of_ble_eq_true rfl) ?_
      refine am_mono g (fun _ h25 _ ok_h25 g => ?_)
      obtain ⟨rfl, ss_h25, g⟩ := g
      replace hL := QZ.ss hL (SS.tr (SS.up (SS.up (SS.up SS.rf))) ss_h25)
      obtain ⟨ko104, ro104_z, ko104_z, ro104_spare, ko104_spare, ro104_past, ko104_past, ro104_kept, ko104_kept, ro104_text, ko104_text, ro104_stack, ko104_stack, ro104_drew, ko104_drew, ro104_drawn, ko104_drawn, ro104_signs, ko104_signs, ro104_numbers, ko104_numbers⟩ := id hL
      show AW m_X7_answer d none Q 121 [some (.inr (some 104)), some (.inl (hi h 104 10))] [] h25 (0, 0)
      refine aw_aload_n (pc := 121) dX7_answer_121 rfl ?_
      refine aw_invV (pc := 122) (md' := m_X7_letGo) (ci := 7) (as := []) dX7_answer_122 mo_X7_letGo im_X7_letGo se_X7_letGo ml_X7_110 rfl ko104 rfl hd (Nat.le_of_ble_eq_true rfl) (Nat.le_of_ble_eq_true rfl) (Nat.le_of_ble_eq_true rfl) ?_
      refine am_mono g (fun _ h26 _ ok_h26 g => ?_)
      obtain ⟨rfl, ss_h26, g⟩ := g
      replace hL := QZ.ss hL ss_h26
      obtain ⟨ko104, ro104_z, ko104_z, ro104_spare, ko104_spare, ro104_past, ko104_past, ro104_kept, ko104_kept, ro104_text, ko104_text, ro104_stack, ko104_stack, ro104_drew, ko104_drew, ro104_drawn, ko104_drawn, ro104_signs, ko104_signs, ro104_numbers, ko104_numbers⟩ := id hL
      show AW m_X7_answer d none Q 125 [some (.inr (some 104)), some (.inl (hi h 104 10))] [] h26 (0, 0)
      refine aw_iload_n (pc := 125) dX7_answer_125 rfl ?_
      exact ax_ireturn (pc := 126) dX7_answer_126 rfl g (by decide) (by decide)
  · replace g := g.2 c1
    refine aw_sipush (pc := 7) dX7_answer_7 ?_
    refine aw_goto (pc := 10) (tgt := 36) dX7_answer_10 (by decide) ?_
    refine ax_istore_n (pc := 36) (ls' := [some (.inr (some 104)), some (.inl 300)]) dX7_answer_36 (Nat.le_of_ble_eq_true rfl) rfl ?_
    refine aw_aload_n (pc := 37) dX7_answer_37 rfl ?_
    refine aw_getr (pc := 38) (r := some 105) dX7_answer_38 fl_X7_7 (by decide) rfl ko104 ro104_z ?_
    refine aw_bipush (pc := 41) dX7_answer_41 ?_
    refine aw_dup2 (pc := 43) dX7_answer_43 ?_
    refine ax_iaload (pc := 44) (n := 293) (v := hi h 105 7) dX7_answer_44 ko104_z (by decide) rfl ?_
    refine aw_aload_n (pc := 45) dX7_answer_45 rfl ?_
    refine ax_geti (pc := 46) (v := hi h 104 8) dX7_answer_46 fl_X7_92 (by decide) rfl ko104 rfl ?_
    refine aw_if_ne (pc := 49) (tgt := 56) dX7_answer_49 (by decide) (fun c27 => False.elim (by omega)) (fun c27 => ?_)
    refine aw_iconst (pc := 52) dX7_answer_52 ?_
    refine aw_goto (pc := 53) (tgt := 57) dX7_answer_53 (by decide) ?_
    refine aw_iadd_w (pc := 57) dX7_answer_57 ?_
    refine ax_iastore (pc := 58) (n := 293) dX7_answer_58 ko104_z (by decide) ?_
    refine aw_aload_n (pc := 59) dX7_answer_59 rfl ?_
    refine aw_getr (pc := 60) (r := some 105) dX7_answer_60 fl_X7_7 (by decide) rfl (hkU ko104) (hrU ro104_z) ?_
    refine aw_bipush (pc := 63) dX7_answer_63 ?_
    refine aw_dup2 (pc := 65) dX7_answer_65 ?_
    refine ax_iaload (pc := 66) (n := 293) (v := hi h 105 8) dX7_answer_66 (hkU ko104_z) (by decide) (hiN (Or.inr (by decide)) rfl) ?_
    refine aw_aload_n (pc := 67) dX7_answer_67 rfl ?_
    refine ax_geti (pc := 68) (v := hi h 104 8) dX7_answer_68 fl_X7_92 (by decide) rfl (hkU ko104) (hiN (Or.inl (by omega)) rfl) ?_
    refine aw_iconst (pc := 71) dX7_answer_71 ?_
    refine aw_icmp_ne (pc := 72) (tgt := 79) dX7_answer_72 (by decide) (fun c28 => ?_) (fun c28 => False.elim (by omega))
    refine aw_iconst (pc := 79) dX7_answer_79 ?_
    refine aw_iadd_w (pc := 80) dX7_answer_80 ?_
    refine ax_iastore (pc := 81) (n := 293) dX7_answer_81 (hkU ko104_z) (by decide) ?_
    refine aw_aload_n (pc := 82) dX7_answer_82 rfl ?_
    refine aw_getr (pc := 83) (r := some 105) dX7_answer_83 fl_X7_7 (by decide) rfl (hkU (hkU ko104)) (hrU (hrU ro104_z)) ?_
    refine aw_bipush (pc := 86) dX7_answer_86 ?_
    refine aw_dup2 (pc := 88) dX7_answer_88 ?_
    refine ax_iaload (pc := 89) (n := 293) (v := hi h 105 9) dX7_answer_89 (hkU (hkU ko104_z)) (by decide) (hiN (Or.inr (by decide)) (hiN (Or.inr (by decide)) rfl)) ?_
    refine aw_aload_n (pc := 90) dX7_answer_90 rfl ?_
    refine ax_geti (pc := 91) (v := hi h 104 8) dX7_answer_91 fl_X7_92 (by decide) rfl (hkU (hkU ko104)) (hiN (Or.inl (by omega)) (hiN (Or.inl (by omega)) rfl)) ?_
    refine aw_iconst (pc := 94) dX7_answer_94 ?_
    refine aw_icmp_le (pc := 95) (tgt := 102) dX7_answer_95 (by decide) (fun c29 => ?_) (fun c29 => False.elim (by omega))
    refine aw_iconst (pc := 102) dX7_answer_102 ?_
    refine aw_iadd_w (pc := 103) dX7_answer_103 ?_
    refine ax_iastore (pc := 104) (n := 293) dX7_answer_104 (hkU (hkU ko104_z)) (by decide) ?_
    refine aw_aload_n (pc := 105) dX7_answer_105 rfl ?_
    refine ax_geti (pc := 106) (v := hi h 104 8) dX7_answer_106 fl_X7_92 (by decide) rfl (hkU (hkU (hkU ko104))) (hiN (Or.inl (by omega)) (hiN (Or.inl (by omega)) (hiN (Or.inl (by omega)) rfl))) ?_
    refine aw_iconst (pc := 109) dX7_answer_109 ?_
    refine aw_icmp_ne (pc := 110) (tgt := 121) dX7_answer_110 (by decide) (fun c30 => ?_) (fun c30 => False.elim (by omega))
    refine aw_aload_n (pc := 121) dX7_answer_121 rfl ?_
    refine aw_invV (pc := 122) (md' := m_X7_letGo) (ci := 7) (as := []) dX7_answer_122 mo_X7_letGo im_X7_letGo se_X7_letGo ml_X7_110 rfl (hkU (hkU (hkU ko104))) rfl hd (Nat.le_of_ble_eq_true rfl) (Nat.le_of_ble_eq_true rfl) (Nat.le_of_ble_eq_true rfl) ?_
    refine am_mono g (fun _ h31 _ ok_h31 g => ?_)
    obtain ⟨rfl, ss_h31, g⟩ := g
    replace hL := QZ.ss hL (SS.tr (SS.up (SS.up (SS.up SS.rf))) ss_h31)
    obtain ⟨ko104, ro104_z, ko104_z, ro104_spare, ko104_spare, ro104_past, ko104_past, ro104_kept, ko104_kept, ro104_text, ko104_text, ro104_stack, ko104_stack, ro104_drew, ko104_drew, ro104_drawn, ko104_drawn, ro104_signs, ko104_signs, ro104_numbers, ko104_numbers⟩ := id hL
    show AW m_X7_answer d none Q 125 [some (.inr (some 104)), some (.inl 300)] [] h31 (0, 0)
    refine aw_iload_n (pc := 125) dX7_answer_125 rfl ?_
    exact ax_ireturn (pc := 126) dX7_answer_126 rfl g (by decide) (by decide)
set_option maxRecDepth 100000 in
set_option maxHeartbeats 4000000 in
theorem vc_X7_askNow {d : Nat} {Q : Option Int → AH → Prop} {h : AH} {x1 x2 : Int} (hd : 1 ≤ d) (hL : QZ h)
  (g :
    AM (d - 1) m_X7_noAnswer [(.inr (some 104))] h (fun r h1 => 
      r = none ∧ SS h h1 ∧
      AW m_X7_askNow d none Q 6 [some (.inr (some 104)), some (.inl x1), some (.inl x2), some (.inl 0)] [] h1 (0, 0))) :
  AM d m_X7_askNow [(.inr (some 104)), (.inl x1), (.inl x2)] h Q := by
  refine am_body mo_X7_askNow (Nat.le_of_ble_eq_true rfl) ?_
  show AW m_X7_askNow d none Q 0 [some (.inr (some 104)), some (.inl x1), some (.inl x2), none] [] h (0, 0)
  obtain ⟨ko104, ro104_z, ko104_z, ro104_spare, ko104_spare, ro104_past, ko104_past, ro104_kept, ko104_kept, ro104_text, ko104_text, ro104_stack, ko104_stack, ro104_drew, ko104_drew, ro104_drawn, ko104_drawn, ro104_signs, ko104_signs, ro104_numbers, ko104_numbers⟩ := id hL
  refine aw_aload_n (pc := 0) dX7_askNow_0 rfl ?_
  refine aw_invV (pc := 1) (md' := m_X7_noAnswer) (ci := 7) (as := []) dX7_askNow_1 mo_X7_noAnswer im_X7_noAnswer se_X7_noAnswer ml_X7_113 rfl ko104 rfl hd (Nat.le_of_ble_eq_true rfl) (Nat.le_of_ble_eq_true rfl) (Nat.le_of_ble_eq_true rfl) ?_
  refine am_mono g (fun _ h1 _ ok_h1 g => ?_)
  obtain ⟨rfl, ss_h1, g⟩ := g
  replace hL := QZ.ss hL ss_h1
  obtain ⟨ko104, ro104_z, ko104_z, ro104_spare, ko104_spare, ro104_past, ko104_past, ro104_kept, ko104_kept, ro104_text, ko104_text, ro104_stack, ko104_stack, ro104_drew, ko104_drew, ro104_drawn, ko104_drawn, ro104_signs, ko104_signs, ro104_numbers, ko104_numbers⟩ := id hL
  show AW m_X7_askNow d none Q 4 [some (.inr (some 104)), some (.inl x1), some (.inl x2), none] [] h1 (0, 0)
  refine aw_iconst (pc := 4) dX7_askNow_4 ?_
  refine ax_istore_n (pc := 5) (ls' := [some (.inr (some 104)), some (.inl x1), some (.inl x2), some (.inl 0)]) dX7_askNow_5 (Nat.le_of_ble_eq_true rfl) rfl ?_
  exact g
set_option maxRecDepth 100000 in
set_option maxHeartbeats 4000000 in
theorem vc_X7_askNow_6 {d : Nat} {Q : Option Int → AH → Prop} {h : AH} {x1 x2 x3 : Int} (hd : 1 ≤ d) (hL : QZ h)
  (g :
    ((hi h 105 0 ≤ x3 → (
      (rg (4 + x1)) ∧
      ((¬ hi h 104 8 = 0 → (
        ((¬ x1 = 8 → (
          (rg (8 - x1)) ∧
          (rg ((4 + x1) + (8 - x1))) ∧
          AM (d - 1) m_X7_answer [(.inr (some 104))] (up (up h 105 5 (w ((hi h 105 5) + 1))) 105 10 (w ((hi h 105 10) + ((4 + x1) + (8 - x1))))) (fun r h8 => 
            ∃ v9, r = some v9 ∧ SS (up (up h 105 5 (w ((hi h 105 5) + 1))) 105 10 (w ((hi h 105 10) + ((4 + x1) + (8 - x1))))) h8 ∧
            Q (some v9) h8)
        )) ∧
        (¬ (¬ x1 = 8) → (
          (rg ((4 + x1) + 1)) ∧
          AM (d - 1) m_X7_answer [(.inr (some 104))] (up (up h 105 5 (w ((hi h 105 5) + 1))) 105 10 (w ((hi h 105 10) + ((4 + x1) + 1)))) (fun r h11 => 
            ∃ v12, r = some v12 ∧ SS (up (up h 105 5 (w ((hi h 105 5) + 1))) 105 10 (w ((hi h 105 10) + ((4 + x1) + 1)))) h11 ∧
            Q (some v12) h11)
        )))
      )) ∧
      (¬ (¬ hi h 104 8 = 0) → (
        (rg ((4 + x1) + 2)) ∧
        AM (d - 1) m_X7_answer [(.inr (some 104))] (up (up h 105 5 (w ((hi h 105 5) + 1))) 105 10 (w ((hi h 105 10) + ((4 + x1) + 2)))) (fun r h14 => 
          ∃ v15, r = some v15 ∧ SS (up (up h 105 5 (w ((hi h 105 5) + 1))) 105 10 (w ((hi h 105 10) + ((4 + x1) + 2)))) h14 ∧
          Q (some v15) h14)
      )))
    )) ∧
    (¬ (hi h 105 0 ≤ x3) → (
      AM (d - 1) m_X7_of [(.inr (some 104)), (.inl x3), (.inl 1)] h (fun r h16 => 
        ∃ v17, r = some v17 ∧ SS h h16 ∧
        ((¬ v17 = 1 → (
          (rg (x3 + 1)) ∧
          AW m_X7_askNow d none Q 6 [some (.inr (some 104)), some (.inl x1), some (.inl x2), some (.inl (x3 + 1))] [] h16 (0, 0)
        )) ∧
        (¬ (¬ v17 = 1) → (
          AM (d - 1) m_X7_of [(.inr (some 104)), (.inl x3), (.inl 0)] h16 (fun r h20 => 
            ∃ v21, r = some v21 ∧ SS h16 h20 ∧
            AM (d - 1) m_X7_begins [(.inl v21), (.inl x1), (.inl x2)] h20 (fun r h22 => 
              ∃ v23, r = some v23 ∧ SS h20 h22 ∧
              ((v23 = 0 → (
                (rg (x3 + 1)) ∧
                AW m_X7_askNow d none Q 6 [some (.inr (some 104)), some (.inl x1), some (.inl x2), some (.inl (x3 + 1))] [] h22 (0, 0)
              )) ∧
              (¬ (v23 = 0) → (
                AM (d - 1) m_X7_answers [(.inr (some 104)), (.inl x3)] h22 (fun r h26 => 
                  r = none ∧ SS h22 h26 ∧
                  (rg (x3 + 1)) ∧
                  AW m_X7_askNow d none Q 6 [some (.inr (some 104)), some (.inl x1), some (.inl x2), some (.inl (x3 + 1))] [] h26 (0, 0))
              )))))
        ))))
    )))) :
  AW m_X7_askNow d none Q 6 [some (.inr (some 104)), some (.inl x1), some (.inl x2), some (.inl x3)] [] h (0, 0) := by
  obtain ⟨ko104, ro104_z, ko104_z, ro104_spare, ko104_spare, ro104_past, ko104_past, ro104_kept, ko104_kept, ro104_text, ko104_text, ro104_stack, ko104_stack, ro104_drew, ko104_drew, ro104_drawn, ko104_drawn, ro104_signs, ko104_signs, ro104_numbers, ko104_numbers⟩ := id hL
  refine aw_iload_n (pc := 6) dX7_askNow_6 rfl ?_
  refine aw_aload_n (pc := 7) dX7_askNow_7 rfl ?_
  refine aw_getr (pc := 8) (r := some 105) dX7_askNow_8 fl_X7_7 (by decide) rfl ko104 ro104_z ?_
  refine aw_iconst (pc := 11) dX7_askNow_11 ?_
  refine ax_iaload (pc := 12) (n := 293) (v := hi h 105 0) dX7_askNow_12 ko104_z (by decide) rfl ?_
  refine aw_icmp_ge (pc := 13) (tgt := 51) dX7_askNow_13 (by decide) (fun c2 => ?_) (fun c2 => ?_)
  · replace g := g.1 c2
    refine aw_aload_n (pc := 51) dX7_askNow_51 rfl ?_
    refine aw_getr (pc := 52) (r := some 105) dX7_askNow_52 fl_X7_7 (by decide) rfl ko104 ro104_z ?_
    refine aw_iconst (pc := 55) dX7_askNow_55 ?_
    refine aw_dup2 (pc := 56) dX7_askNow_56 ?_
    refine ax_iaload (pc := 57) (n := 293) (v := hi h 105 5) dX7_askNow_57 ko104_z (by decide) rfl ?_
    refine aw_iconst (pc := 58) dX7_askNow_58 ?_
    refine aw_iadd_w (pc := 59) dX7_askNow_59 ?_
    refine ax_iastore (pc := 60) (n := 293) dX7_askNow_60 ko104_z (by decide) ?_
    refine aw_aload_n (pc := 61) dX7_askNow_61 rfl ?_
    refine aw_getr (pc := 62) (r := some 105) dX7_askNow_62 fl_X7_7 (by decide) rfl (hkU ko104) (hrU ro104_z) ?_
    refine aw_bipush (pc := 65) dX7_askNow_65 ?_
    refine aw_dup2 (pc := 67) dX7_askNow_67 ?_
    refine ax_iaload (pc := 68) (n := 293) (v := hi h 105 10) dX7_askNow_68 (hkU ko104_z) (by decide) (hiN (Or.inr (by decide)) rfl) ?_
    refine aw_iconst (pc := 69) dX7_askNow_69 ?_
    refine aw_iload_n (pc := 70) dX7_askNow_70 rfl ?_
    obtain ⟨s3, g⟩ := g
    refine ax_iadd (pc := 71) (v := 4 + x1) dX7_askNow_71 s3 rfl ?_
    refine aw_aload_n (pc := 72) dX7_askNow_72 rfl ?_
    refine ax_geti (pc := 73) (v := hi h 104 8) dX7_askNow_73 fl_X7_92 (by decide) rfl (hkU ko104) (hiN (Or.inl (by omega)) rfl) ?_
    refine aw_if_ne (pc := 76) (tgt := 83) dX7_askNow_76 (by decide) (fun c4 => ?_) (fun c4 => ?_)
    · replace g := g.1 c4
      refine aw_iload_n (pc := 83) dX7_askNow_83 rfl ?_
      refine aw_bipush (pc := 84) dX7_askNow_84 ?_
      refine aw_icmp_ne (pc := 86) (tgt := 93) dX7_askNow_86 (by decide) (fun c5 => ?_) (fun c5 => ?_)
      · replace g := g.1 c5
        refine aw_bipush (pc := 93) dX7_askNow_93 ?_
        refine aw_iload_n (pc := 95) dX7_askNow_95 rfl ?_
        obtain ⟨s6, g⟩ := g
        refine ax_isub (pc := 96) (v := 8 - x1) dX7_askNow_96 s6 rfl ?_
        obtain ⟨s7, g⟩ := g
        refine ax_iadd (pc := 97) (v := (4 + x1) + (8 - x1)) dX7_askNow_97 s7 rfl ?_
        refine aw_iadd_w (pc := 98) dX7_askNow_98 ?_
        refine ax_iastore (pc := 99) (n := 293) dX7_askNow_99 (hkU ko104_z) (by decide) ?_
        refine aw_aload_n (pc := 100) dX7_askNow_100 rfl ?_
        refine aw_invV (pc := 101) (md' := m_X7_answer) (ci := 7) (as := []) dX7_askNow_101 mo_X7_answer im_X7_answer se_X7_answer ml_X7_122 rfl (hkU (hkU ko104)) rfl hd (Nat.le_of_ble_eq_true rfl) (Nat.le_of_ble_eq_true rfl) (Nat.le_of_ble_eq_true rfl) ?_
        refine am_mono g (fun _ h8 _ ok_h8 g => ?_)
        obtain ⟨v9, rfl, ss_h8, g⟩ := g
        replace hL := QZ.ss hL (SS.tr (SS.up (SS.up SS.rf)) ss_h8)
        obtain ⟨ko104, ro104_z, ko104_z, ro104_spare, ko104_spare, ro104_past, ko104_past, ro104_kept, ko104_kept, ro104_text, ko104_text, ro104_stack, ko104_stack, ro104_drew, ko104_drew, ro104_drawn, ko104_drawn, ro104_signs, ko104_signs, ro104_numbers, ko104_numbers⟩ := id hL
        show AW m_X7_askNow d none Q 104 [some (.inr (some 104)), some (.inl x1), some (.inl x2), some (.inl x3)] [(.inl v9)] h8 (0, 0)
        exact ax_ireturn (pc := 104) dX7_askNow_104 rfl g (by decide) (by decide)
      · replace g := g.2 c5
        refine aw_iconst (pc := 89) dX7_askNow_89 ?_
        refine aw_goto (pc := 90) (tgt := 97) dX7_askNow_90 (by decide) ?_
        obtain ⟨s10, g⟩ := g
        refine ax_iadd (pc := 97) (v := (4 + x1) + 1) dX7_askNow_97 s10 rfl ?_
        refine aw_iadd_w (pc := 98) dX7_askNow_98 ?_
        refine ax_iastore (pc := 99) (n := 293) dX7_askNow_99 (hkU ko104_z) (by decide) ?_
        refine aw_aload_n (pc := 100) dX7_askNow_100 rfl ?_
        refine aw_invV (pc := 101) (md' := m_X7_answer) (ci := 7) (as := []) dX7_askNow_101 mo_X7_answer im_X7_answer se_X7_answer ml_X7_122 rfl (hkU (hkU ko104)) rfl hd (Nat.le_of_ble_eq_true rfl) (Nat.le_of_ble_eq_true rfl) (Nat.le_of_ble_eq_true rfl) ?_
        refine am_mono g (fun _ h11 _ ok_h11 g => ?_)
        obtain ⟨v12, rfl, ss_h11, g⟩ := g
        replace hL := QZ.ss hL (SS.tr (SS.up (SS.up SS.rf)) ss_h11)
        obtain ⟨ko104, ro104_z, ko104_z, ro104_spare, ko104_spare, ro104_past, ko104_past, ro104_kept, ko104_kept, ro104_text, ko104_text, ro104_stack, ko104_stack, ro104_drew, ko104_drew, ro104_drawn, ko104_drawn, ro104_signs, ko104_signs, ro104_numbers, ko104_numbers⟩ := id hL
        show AW m_X7_askNow d none Q 104 [some (.inr (some 104)), some (.inl x1), some (.inl x2), some (.inl x3)] [(.inl v12)] h11 (0, 0)
        exact ax_ireturn (pc := 104) dX7_askNow_104 rfl g (by decide) (by decide)
    · replace g := g.2 c4
      refine aw_iconst (pc := 79) dX7_askNow_79 ?_
      refine aw_goto (pc := 80) (tgt := 97) dX7_askNow_80 (by decide) ?_
      obtain ⟨s13, g⟩ := g
      refine ax_iadd (pc := 97) (v := (4 + x1) + 2) dX7_askNow_97 s13 rfl ?_
      refine aw_iadd_w (pc := 98) dX7_askNow_98 ?_
      refine ax_iastore (pc := 99) (n := 293) dX7_askNow_99 (hkU ko104_z) (by decide) ?_
      refine aw_aload_n (pc := 100) dX7_askNow_100 rfl ?_
      refine aw_invV (pc := 101) (md' := m_X7_answer) (ci := 7) (as := []) dX7_askNow_101 mo_X7_answer im_X7_answer se_X7_answer ml_X7_122 rfl (hkU (hkU ko104)) rfl hd (Nat.le_of_ble_eq_true rfl) (Nat.le_of_ble_eq_true rfl) (Nat.le_of_ble_eq_true rfl) ?_
      refine am_mono g (fun _ h14 _ ok_h14 g => ?_)
      obtain ⟨v15, rfl, ss_h14, g⟩ := g
      replace hL := QZ.ss hL (SS.tr (SS.up (SS.up SS.rf)) ss_h14)
      obtain ⟨ko104, ro104_z, ko104_z, ro104_spare, ko104_spare, ro104_past, ko104_past, ro104_kept, ko104_kept, ro104_text, ko104_text, ro104_stack, ko104_stack, ro104_drew, ko104_drew, ro104_drawn, ko104_drawn, ro104_signs, ko104_signs, ro104_numbers, ko104_numbers⟩ := id hL
      show AW m_X7_askNow d none Q 104 [some (.inr (some 104)), some (.inl x1), some (.inl x2), some (.inl x3)] [(.inl v15)] h14 (0, 0)
      exact ax_ireturn (pc := 104) dX7_askNow_104 rfl g (by decide) (by decide)
  · replace g := g.2 c2
    refine aw_aload_n (pc := 16) dX7_askNow_16 rfl ?_
    refine aw_iload_n (pc := 17) dX7_askNow_17 rfl ?_
    refine aw_iconst (pc := 18) dX7_askNow_18 ?_
    refine aw_invV (pc := 19) (md' := m_X7_of) (ci := 7) (as := [(.inl x3), (.inl 1)]) dX7_askNow_19 mo_X7_of im_X7_of se_X7_of ml_X7_40 rfl ko104 rfl hd (Nat.le_of_ble_eq_true rfl) (Nat.le_of_ble_eq_true rfl) (Nat.le_of_ble_eq_true rfl) ?_
    refine am_mono g (fun _ h16 _ ok_h16 g => ?_)
    obtain ⟨v17, rfl, ss_h16, g⟩ := g
    replace hL := QZ.ss hL ss_h16
    obtain ⟨ko104, ro104_z, ko104_z, ro104_spare, ko104_spare, ro104_past, ko104_past, ro104_kept, ko104_kept, ro104_text, ko104_text, ro104_stack, ko104_stack, ro104_drew, ko104_drew, ro104_drawn, ko104_drawn, ro104_signs, ko104_signs, ro104_numbers, ko104_numbers⟩ := id hL
    show AW m_X7_askNow d none Q 22 [some (.inr (some 104)), some (.inl x1), some (.inl x2), some (.inl x3)] [(.inl v17)] h16 (0, 0)
    refine aw_iconst (pc := 22) dX7_askNow_22 ?_
    refine aw_icmp_ne (pc := 23) (tgt := 45) dX7_askNow_23 (by decide) (fun c18 => ?_) (fun c18 => ?_)
    · replace g := g.1 c18
      obtain ⟨s19, g⟩ := g
      refine ax_iinc (pc := 45) (v' := x3 + 1) (ls' := [some (.inr (some 104)), some (.inl x1), some (.inl x2), some (.inl (x3 + 1))]) dX7_askNow_45 rfl s19 rfl rfl ?_
      refine aw_goto (pc := 48) (tgt := 6) dX7_askNow_48 (by decide) ?_
      exact g
    · replace g := g.2 c18
      refine aw_aload_n (pc := 26) dX7_askNow_26 rfl ?_
      refine aw_iload_n (pc := 27) dX7_askNow_27 rfl ?_
      refine aw_iconst (pc := 28) dX7_askNow_28 ?_
      refine aw_invV (pc := 29) (md' := m_X7_of) (ci := 7) (as := [(.inl x3), (.inl 0)]) dX7_askNow_29 mo_X7_of im_X7_of se_X7_of ml_X7_40 rfl ko104 rfl hd (Nat.le_of_ble_eq_true rfl) (Nat.le_of_ble_eq_true rfl) (Nat.le_of_ble_eq_true rfl) ?_
      refine am_mono g (fun _ h20 _ ok_h20 g => ?_)
      obtain ⟨v21, rfl, ss_h20, g⟩ := g
      replace hL := QZ.ss hL ss_h20
      obtain ⟨ko104, ro104_z, ko104_z, ro104_spare, ko104_spare, ro104_past, ko104_past, ro104_kept, ko104_kept, ro104_text, ko104_text, ro104_stack, ko104_stack, ro104_drew, ko104_drew, ro104_drawn, ko104_drawn, ro104_signs, ko104_signs, ro104_numbers, ko104_numbers⟩ := id hL
      show AW m_X7_askNow d none Q 32 [some (.inr (some 104)), some (.inl x1), some (.inl x2), some (.inl x3)] [(.inl v21)] h20 (0, 0)
      refine aw_iload_n (pc := 32) dX7_askNow_32 rfl ?_
      refine aw_iload_n (pc := 33) dX7_askNow_33 rfl ?_
      refine aw_invS (pc := 34) (md' := m_X7_begins) (as := [(.inl v21), (.inl x1), (.inl x2)]) dX7_askNow_34 mo_X7_begins sm_X7_begins ml_X7_116 rfl rfl hd (Nat.le_of_ble_eq_true rfl) (Nat.le_of_ble_eq_true rfl) (Nat.le_of_ble_eq_true rfl) ?_
      refine am_mono g (fun _ h22 _ ok_h22 g => ?_)
      obtain ⟨v23, rfl, ss_h22, g⟩ := g
      replace hL := QZ.ss hL ss_h22
      obtain ⟨ko104, ro104_z, ko104_z, ro104_spare, ko104_spare, ro104_past, ko104_past, ro104_kept, ko104_kept, ro104_text, ko104_text, ro104_stack, ko104_stack, ro104_drew, ko104_drew, ro104_drawn, ko104_drawn, ro104_signs, ko104_signs, ro104_numbers, ko104_numbers⟩ := id hL
      show AW m_X7_askNow d none Q 37 [some (.inr (some 104)), some (.inl x1), some (.inl x2), some (.inl x3)] [(.inl v23)] h22 (0, 0)
      refine aw_if_eq (pc := 37) (tgt := 45) dX7_askNow_37 (by decide) (fun c24 => ?_) (fun c24 => ?_)
      · replace g := g.1 c24
        obtain ⟨s25, g⟩ := g
        refine ax_iinc (pc := 45) (v' := x3 + 1) (ls' := [some (.inr (some 104)), some (.inl x1), some (.inl x2), some (.inl (x3 + 1))]) dX7_askNow_45 rfl s25 rfl rfl ?_
        refine aw_goto (pc := 48) (tgt := 6) dX7_askNow_48 (by decide) ?_
        exact g
      · replace g := g.2 c24
        refine aw_aload_n (pc := 40) dX7_askNow_40 rfl ?_
        refine aw_iload_n (pc := 41) dX7_askNow_41 rfl ?_
        refine aw_invV (pc := 42) (md' := m_X7_answers) (ci := 7) (as := [(.inl x3)]) dX7_askNow_42 mo_X7_answers im_X7_answers se_X7_answers ml_X7_119 rfl ko104 rfl hd (Nat.le_of_ble_eq_true rfl) (Nat.le_of_ble_eq_true rfl) (Nat.le_of_ble_eq_true rfl) ?_
        refine am_mono g (fun _ h26 _ ok_h26 g => ?_)
        obtain ⟨rfl, ss_h26, g⟩ := g
        replace hL := QZ.ss hL ss_h26
        obtain ⟨ko104, ro104_z, ko104_z, ro104_spare, ko104_spare, ro104_past, ko104_past, ro104_kept, ko104_kept, ro104_text, ko104_text, ro104_stack, ko104_stack, ro104_drew, ko104_drew, ro104_drawn, ko104_drawn, ro104_signs, ko104_signs, ro104_numbers, ko104_numbers⟩ := id hL
        show AW m_X7_askNow d none Q 45 [some (.inr (some 104)), some (.inl x1), some (.inl x2), some (.inl x3)] [] h26 (0, 0)
        obtain ⟨s27, g⟩ := g
        refine ax_iinc (pc := 45) (v' := x3 + 1) (ls' := [some (.inr (some 104)), some (.inl x1), some (.inl x2), some (.inl (x3 + 1))]) dX7_askNow_45 rfl s27 rfl rfl ?_
        refine aw_goto (pc := 48) (tgt := 6) dX7_askNow_48 (by decide) ?_
        exact g
