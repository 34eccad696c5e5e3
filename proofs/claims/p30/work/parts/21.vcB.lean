set_option maxRecDepth 100000 in
set_option maxHeartbeats 4000000 in
theorem vc_X0_states {d : Nat} {Q : Option Int → AH → Prop} {h : AH} {t : Nat} (hL : QH h t)
  (g :
    Q (some (hi h t 1)) h) :
  AM d m_X0_states [(.inr (some t))] h Q := by
  refine am_body mo_X0_states (Nat.le_of_ble_eq_true rfl) ?_
  show AW m_X0_states d none Q 0 [some (.inr (some t))] [] h (0, 0)
  obtain ⟨kt, rt_rows, kt_rows⟩ := id hL
  refine aw_aload_n (pc := 0) dX0_states_0 rfl ?_
  refine ax_geti (pc := 1) (v := hi h t 1) dX0_states_1 fl_X0_17 (by decide) rfl kt rfl ?_
  exact ax_ireturn (pc := 4) dX0_states_4 rfl g (by decide) (by decide)
set_option maxRecDepth 100000 in
set_option maxHeartbeats 4000000 in
theorem vc_X0_add {d : Nat} {Q : Option Int → AH → Prop} {h : AH} {t : Nat} {q1 : Nat} (hd : 1 ≤ d) (hL : QH h t) (hL1 : QS h q1)
  (g :
    ((hi h t 1 < 4 → (
      ((hi h t 1 < 0 → (
        Q none h
      )) ∧
      (¬ (hi h t 1 < 0) → (
        (0 ≤ hi h t 1 ∧ hi h t 1 < 4) ∧
        ∃ q5, hr h (t + 1) (hi h t 1) = some q5 ∧ QS h q5 ∧
        ∃ q6, hr h (t + 1) (hi h t 1) = some q6 ∧ QS h q6 ∧
        AM (d - 1) m_X2_copyFrom [(.inr (some q6)), (.inr (some q1))] h (fun r h7 => 
          r = none ∧ SS h h7 ∧
          (rg ((hi h7 t 1) + 1)) ∧
          Q none (up h7 t 1 ((hi h7 t 1) + 1)))
      )))
    )) ∧
    (¬ (hi h t 1 < 4) → (
      AM (d - 1) m_X0_dropOldest [(.inr (some t))] h (fun r h9 => 
        r = none ∧ SW h h9 ∧
        ((hi h9 t 1 < 0 → (
          Q none h9
        )) ∧
        (¬ (hi h9 t 1 < 0) → (
          ((4 ≤ hi h9 t 1 → (
            Q none h9
          )) ∧
          (¬ (4 ≤ hi h9 t 1) → (
            (0 ≤ hi h9 t 1 ∧ hi h9 t 1 < 4) ∧
            ∃ q13, hr h9 (t + 1) (hi h9 t 1) = some q13 ∧ QS h9 q13 ∧
            ∃ q14, hr h9 (t + 1) (hi h9 t 1) = some q14 ∧ QS h9 q14 ∧
            AM (d - 1) m_X2_copyFrom [(.inr (some q14)), (.inr (some q1))] h9 (fun r h15 => 
              r = none ∧ SS h9 h15 ∧
              (rg ((hi h15 t 1) + 1)) ∧
              Q none (up h15 t 1 ((hi h15 t 1) + 1)))
          )))
        ))))
    )))) :
  AM d m_X0_add [(.inr (some t)), (.inr (some q1))] h Q := by
  refine am_body mo_X0_add (Nat.le_of_ble_eq_true rfl) ?_
  show AW m_X0_add d none Q 0 [some (.inr (some t)), some (.inr (some q1))] [] h (0, 0)
  obtain ⟨kt, rt_rows, kt_rows⟩ := id hL
  obtain ⟨kq1, rq1_pocket, lq1_pocket, rq1_told, lq1_told, rq1_tally, lq1_tally, rq1_settings, kq1_settings⟩ := id hL1
  obtain ⟨kq1_pocket, rq1_pocket_names, kq1_pocket_names, rq1_pocket_asksToGo, kq1_pocket_asksToGo, rq1_pocket_tellings, kq1_pocket_tellings, rq1_pocket_slots, kq1_pocket_slots, rq1_pocket_awake, kq1_pocket_awake, rq1_pocket_answering, kq1_pocket_answering⟩ := id lq1_pocket
  obtain ⟨kq1_told, rq1_told_row, kq1_told_row⟩ := id lq1_told
  have kq1_tally := id lq1_tally
  refine aw_aload_n (pc := 0) dX0_add_0 rfl ?_
  refine ax_geti (pc := 1) (v := hi h t 1) dX0_add_1 fl_X0_17 (by decide) rfl kt rfl ?_
  refine aw_iconst (pc := 4) dX0_add_4 ?_
  refine aw_icmp_lt (pc := 5) (tgt := 12) dX0_add_5 (by decide) (fun c1 => ?_) (fun c1 => ?_)
  · replace g := g.1 c1
    refine aw_aload_n (pc := 12) dX0_add_12 rfl ?_
    refine ax_geti (pc := 13) (v := hi h t 1) dX0_add_13 fl_X0_17 (by decide) rfl kt rfl ?_
    refine aw_if_lt (pc := 16) (tgt := 62) dX0_add_16 (by decide) (fun c2 => ?_) (fun c2 => ?_)
    · replace g := g.1 c2
      exact aw_return (pc := 62) dX0_add_62 rfl g (by decide) (by decide)
    · replace g := g.2 c2
      refine aw_aload_n (pc := 19) dX0_add_19 rfl ?_
      refine ax_geti (pc := 20) (v := hi h t 1) dX0_add_20 fl_X0_17 (by decide) rfl kt rfl ?_
      refine aw_iconst (pc := 23) dX0_add_23 ?_
      refine aw_icmp_ge (pc := 24) (tgt := 62) dX0_add_24 (by decide) (fun c3 => False.elim (by omega)) (fun c3 => ?_)
      refine aw_aload_n (pc := 27) dX0_add_27 rfl ?_
      refine aw_getr (pc := 28) (r := some (t + 1)) dX0_add_28 fl_X0_11 (by decide) rfl kt rt_rows ?_
      refine aw_aload_n (pc := 31) dX0_add_31 rfl ?_
      refine ax_geti (pc := 32) (v := hi h t 1) dX0_add_32 fl_X0_17 (by decide) rfl kt rfl ?_
      obtain ⟨s4, g⟩ := g
      obtain ⟨q5, e_q5, L_q5, g⟩ := g
      obtain ⟨kt, rt_rows, kt_rows⟩ := id hL
      obtain ⟨kq1, rq1_pocket, lq1_pocket, rq1_told, lq1_told, rq1_tally, lq1_tally, rq1_settings, kq1_settings⟩ := id hL1
      obtain ⟨kq1_pocket, rq1_pocket_names, kq1_pocket_names, rq1_pocket_asksToGo, kq1_pocket_asksToGo, rq1_pocket_tellings, kq1_pocket_tellings, rq1_pocket_slots, kq1_pocket_slots, rq1_pocket_awake, kq1_pocket_awake, rq1_pocket_answering, kq1_pocket_answering⟩ := id lq1_pocket
      obtain ⟨kq1_told, rq1_told_row, kq1_told_row⟩ := id lq1_told
      have kq1_tally := id lq1_tally
      obtain ⟨kq5, rq5_pocket, lq5_pocket, rq5_told, lq5_told, rq5_tally, lq5_tally, rq5_settings, kq5_settings⟩ := id L_q5
      obtain ⟨kq5_pocket, rq5_pocket_names, kq5_pocket_names, rq5_pocket_asksToGo, kq5_pocket_asksToGo, rq5_pocket_tellings, kq5_pocket_tellings, rq5_pocket_slots, kq5_pocket_slots, rq5_pocket_awake, kq5_pocket_awake, rq5_pocket_answering, kq5_pocket_answering⟩ := id lq5_pocket
      obtain ⟨kq5_told, rq5_told_row, kq5_told_row⟩ := id lq5_told
      have kq5_tally := id lq5_tally
      refine ax_aaload (pc := 35) (n := 4) (r := some q5) dX0_add_35 kt_rows s4 e_q5 ?_
      refine aw_ifnull (pc := 36) (tgt := 62) dX0_add_36 (by decide) (fun q => by cases q) (fun _ => ?_)
      refine aw_aload_n (pc := 39) dX0_add_39 rfl ?_
      refine aw_getr (pc := 40) (r := some (t + 1)) dX0_add_40 fl_X0_11 (by decide) rfl kt rt_rows ?_
      refine aw_aload_n (pc := 43) dX0_add_43 rfl ?_
      refine ax_geti (pc := 44) (v := hi h t 1) dX0_add_44 fl_X0_17 (by decide) rfl kt rfl ?_
      obtain ⟨q6, e_q6, L_q6, g⟩ := g
      obtain ⟨kt, rt_rows, kt_rows⟩ := id hL
      obtain ⟨kq1, rq1_pocket, lq1_pocket, rq1_told, lq1_told, rq1_tally, lq1_tally, rq1_settings, kq1_settings⟩ := id hL1
      obtain ⟨kq1_pocket, rq1_pocket_names, kq1_pocket_names, rq1_pocket_asksToGo, kq1_pocket_asksToGo, rq1_pocket_tellings, kq1_pocket_tellings, rq1_pocket_slots, kq1_pocket_slots, rq1_pocket_awake, kq1_pocket_awake, rq1_pocket_answering, kq1_pocket_answering⟩ := id lq1_pocket
      obtain ⟨kq1_told, rq1_told_row, kq1_told_row⟩ := id lq1_told
      have kq1_tally := id lq1_tally
      obtain ⟨kq5, rq5_pocket, lq5_pocket, rq5_told, lq5_told, rq5_tally, lq5_tally, rq5_settings, kq5_settings⟩ := id L_q5
      obtain ⟨kq5_pocket, rq5_pocket_names, kq5_pocket_names, rq5_pocket_asksToGo, kq5_pocket_asksToGo, rq5_pocket_tellings, kq5_pocket_tellings, rq5_pocket_slots, kq5_pocket_slots, rq5_pocket_awake, kq5_pocket_awake, rq5_pocket_answering, kq5_pocket_answering⟩ := id lq5_pocket
      obtain ⟨kq5_told, rq5_told_row, kq5_told_row⟩ := id lq5_told
      have kq5_tally := id lq5_tally
      obtain ⟨kq6, rq6_pocket, lq6_pocket, rq6_told, lq6_told, rq6_tally, lq6_tally, rq6_settings, kq6_settings⟩ := id L_q6
      obtain ⟨kq6_pocket, rq6_pocket_names, kq6_pocket_names, rq6_pocket_asksToGo, kq6_pocket_asksToGo, rq6_pocket_tellings, kq6_pocket_tellings, rq6_pocket_slots, kq6_pocket_slots, rq6_pocket_awake, kq6_pocket_awake, rq6_pocket_answering, kq6_pocket_answering⟩ := id lq6_pocket
      obtain ⟨kq6_told, rq6_told_row, kq6_told_row⟩ := id lq6_told
      have kq6_tally := id lq6_tally
      refine ax_aaload (pc := 47) (n := 4) (r := some q6) dX0_add_47 kt_rows s4 e_q6 ?_
      refine aw_aload_n (pc := 48) dX0_add_48 rfl ?_
      refine aw_invV (pc := 49) (md' := m_X2_copyFrom) (ci := 2) (as := [(.inr (some q1))]) dX0_add_49 mo_X2_copyFrom im_X2_copyFrom se_X2_copyFrom ml_X0_25 rfl kq6 rfl hd (Nat.le_of_ble_eq_true rfl) (Nat.le_of_ble_eq_true rfl) (Nat.le_of_ble_eq_true rfl) ?_
      refine am_mono g (fun _ h7 _ ok_h7 g => ?_)
      obtain ⟨rfl, ss_h7, g⟩ := g
      replace hL := QH.ss hL ss_h7
      replace hL1 := QS.ss hL1 ss_h7
      replace L_q5 := QS.ss L_q5 ss_h7
      replace L_q6 := QS.ss L_q6 ss_h7
      obtain ⟨kt, rt_rows, kt_rows⟩ := id hL
      obtain ⟨kq1, rq1_pocket, lq1_pocket, rq1_told, lq1_told, rq1_tally, lq1_tally, rq1_settings, kq1_settings⟩ := id hL1
      obtain ⟨kq1_pocket, rq1_pocket_names, kq1_pocket_names, rq1_pocket_asksToGo, kq1_pocket_asksToGo, rq1_pocket_tellings, kq1_pocket_tellings, rq1_pocket_slots, kq1_pocket_slots, rq1_pocket_awake, kq1_pocket_awake, rq1_pocket_answering, kq1_pocket_answering⟩ := id lq1_pocket
      obtain ⟨kq1_told, rq1_told_row, kq1_told_row⟩ := id lq1_told
      have kq1_tally := id lq1_tally
      obtain ⟨kq5, rq5_pocket, lq5_pocket, rq5_told, lq5_told, rq5_tally, lq5_tally, rq5_settings, kq5_settings⟩ := id L_q5
      obtain ⟨kq5_pocket, rq5_pocket_names, kq5_pocket_names, rq5_pocket_asksToGo, kq5_pocket_asksToGo, rq5_pocket_tellings, kq5_pocket_tellings, rq5_pocket_slots, kq5_pocket_slots, rq5_pocket_awake, kq5_pocket_awake, rq5_pocket_answering, kq5_pocket_answering⟩ := id lq5_pocket
      obtain ⟨kq5_told, rq5_told_row, kq5_told_row⟩ := id lq5_told
      have kq5_tally := id lq5_tally
      obtain ⟨kq6, rq6_pocket, lq6_pocket, rq6_told, lq6_told, rq6_tally, lq6_tally, rq6_settings, kq6_settings⟩ := id L_q6
      obtain ⟨kq6_pocket, rq6_pocket_names, kq6_pocket_names, rq6_pocket_asksToGo, kq6_pocket_asksToGo, rq6_pocket_tellings, kq6_pocket_tellings, rq6_pocket_slots, kq6_pocket_slots, rq6_pocket_awake, kq6_pocket_awake, rq6_pocket_answering, kq6_pocket_answering⟩ := id lq6_pocket
      obtain ⟨kq6_told, rq6_told_row, kq6_told_row⟩ := id lq6_told
      have kq6_tally := id lq6_tally
      show AW m_X0_add d none Q 52 [some (.inr (some t)), some (.inr (some q1))] [] h7 (0, 0)
      refine aw_aload_n (pc := 52) dX0_add_52 rfl ?_
      refine aw_dup (pc := 53) dX0_add_53 ?_
      refine ax_geti (pc := 54) (v := hi h7 t 1) dX0_add_54 fl_X0_17 (by decide) rfl kt rfl ?_
      refine aw_iconst (pc := 57) dX0_add_57 ?_
      obtain ⟨s8, g⟩ := g
      refine ax_iadd (pc := 58) (v := (hi h7 t 1) + 1) dX0_add_58 s8 rfl ?_
      refine ax_puti (pc := 59) dX0_add_59 fl_X0_17 (by decide) rfl rfl rfl kt ?_
      exact aw_return (pc := 62) dX0_add_62 rfl g (by decide) (by decide)
  · replace g := g.2 c1
    refine aw_aload_n (pc := 8) dX0_add_8 rfl ?_
    refine aw_invV (pc := 9) (md' := m_X0_dropOldest) (ci := 0) (as := []) dX0_add_9 mo_X0_dropOldest im_X0_dropOldest se_X0_dropOldest ml_X0_22 rfl kt rfl hd (Nat.le_of_ble_eq_true rfl) (Nat.le_of_ble_eq_true rfl) (Nat.le_of_ble_eq_true rfl) ?_
    refine am_mono g (fun _ h9 _ ok_h9 g => ?_)
    obtain ⟨rfl, ss_h9, g⟩ := g
    replace hL := QH.sw hL ss_h9
    replace hL1 := QS.sw hL1 ss_h9
    obtain ⟨kt, rt_rows, kt_rows⟩ := id hL
    obtain ⟨kq1, rq1_pocket, lq1_pocket, rq1_told, lq1_told, rq1_tally, lq1_tally, rq1_settings, kq1_settings⟩ := id hL1
    obtain ⟨kq1_pocket, rq1_pocket_names, kq1_pocket_names, rq1_pocket_asksToGo, kq1_pocket_asksToGo, rq1_pocket_tellings, kq1_pocket_tellings, rq1_pocket_slots, kq1_pocket_slots, rq1_pocket_awake, kq1_pocket_awake, rq1_pocket_answering, kq1_pocket_answering⟩ := id lq1_pocket
    obtain ⟨kq1_told, rq1_told_row, kq1_told_row⟩ := id lq1_told
    have kq1_tally := id lq1_tally
    show AW m_X0_add d none Q 12 [some (.inr (some t)), some (.inr (some q1))] [] h9 (0, 0)
    refine aw_aload_n (pc := 12) dX0_add_12 rfl ?_
    refine ax_geti (pc := 13) (v := hi h9 t 1) dX0_add_13 fl_X0_17 (by decide) rfl kt rfl ?_
    refine aw_if_lt (pc := 16) (tgt := 62) dX0_add_16 (by decide) (fun c10 => ?_) (fun c10 => ?_)
    · replace g := g.1 c10
      exact aw_return (pc := 62) dX0_add_62 rfl g (by decide) (by decide)
    · replace g := g.2 c10
      refine aw_aload_n (pc := 19) dX0_add_19 rfl ?_
      refine ax_geti (pc := 20) (v := hi h9 t 1) dX0_add_20 fl_X0_17 (by decide) rfl kt rfl ?_
      refine aw_iconst (pc := 23) dX0_add_23 ?_
      refine aw_icmp_ge (pc := 24) (tgt := 62) dX0_add_24 (by decide) (fun c11 => ?_) (fun c11 => ?_)
      · replace g := g.1 c11
        exact aw_return (pc := 62) dX0_add_62 rfl g (by decide) (by decide)
      · replace g := g.2 c11
        refine aw_aload_n (pc := 27) dX0_add_27 rfl ?_
        refine aw_getr (pc := 28) (r := some (t + 1)) dX0_add_28 fl_X0_11 (by decide) rfl kt rt_rows ?_
        refine aw_aload_n (pc := 31) dX0_add_31 rfl ?_
        refine ax_geti (pc := 32) (v := hi h9 t 1) dX0_add_32 fl_X0_17 (by decide) rfl kt rfl ?_
        obtain ⟨s12, g⟩ := g
        obtain ⟨q13, e_q13, L_q13, g⟩ := g
        obtain ⟨kt, rt_rows, kt_rows⟩ := id hL
        obtain ⟨kq1, rq1_pocket, lq1_pocket, rq1_told, lq1_told, rq1_tally, lq1_tally, rq1_settings, kq1_settings⟩ := id hL1
        obtain ⟨kq1_pocket, rq1_pocket_names, kq1_pocket_names, rq1_pocket_asksToGo, kq1_pocket_asksToGo, rq1_pocket_tellings, kq1_pocket_tellings, rq1_pocket_slots, kq1_pocket_slots, rq1_pocket_awake, kq1_pocket_awake, rq1_pocket_answering, kq1_pocket_answering⟩ := id lq1_pocket
        obtain ⟨kq1_told, rq1_told_row, kq1_told_row⟩ := id lq1_told
        have kq1_tally := id lq1_tally
        obtain ⟨kq13, rq13_pocket, lq13_pocket, rq13_told, lq13_told, rq13_tally, lq13_tally, rq13_settings, kq13_settings⟩ := id L_q13
        obtain ⟨kq13_pocket, rq13_pocket_names, kq13_pocket_names, rq13_pocket_asksToGo, kq13_pocket_asksToGo, rq13_pocket_tellings, kq13_pocket_tellings, rq13_pocket_slots, kq13_pocket_slots, rq13_pocket_awake, kq13_pocket_awake, rq13_pocket_answering, kq13_pocket_answering⟩ := id lq13_pocket
        obtain ⟨kq13_told, rq13_told_row, kq13_told_row⟩ := id lq13_told
        have kq13_tally := id lq13_tally
        refine ax_aaload (pc := 35) (n := 4) (r := some q13) dX0_add_35 kt_rows s12 e_q13 ?_
        refine aw_ifnull (pc := 36) (tgt := 62) dX0_add_36 (by decide) (fun q => by cases q) (fun _ => ?_)
        refine aw_aload_n (pc := 39) dX0_add_39 rfl ?_
        refine aw_getr (pc := 40) (r := some (t + 1)) dX0_add_40 fl_X0_11 (by decide) rfl kt rt_rows ?_
        refine aw_aload_n (pc := 43) dX0_add_43 rfl ?_
        refine ax_geti (pc := 44) (v := hi h9 t 1) dX0_add_44 fl_X0_17 (by decide) rfl kt rfl ?_
        obtain ⟨q14, e_q14, L_q14, g⟩ := g
        obtain ⟨kt, rt_rows, kt_rows⟩ := id hL
        obtain ⟨kq1, rq1_pocket, lq1_pocket, rq1_told, lq1_told, rq1_tally, lq1_tally, rq1_settings, kq1_settings⟩ := id hL1
        obtain ⟨kq1_pocket, rq1_pocket_names, kq1_pocket_names, rq1_pocket_asksToGo, kq1_pocket_asksToGo, rq1_pocket_tellings, kq1_pocket_tellings, rq1_pocket_slots, kq1_pocket_slots, rq1_pocket_awake, kq1_pocket_awake, rq1_pocket_answering, kq1_pocket_answering⟩ := id lq1_pocket
        obtain ⟨kq1_told, rq1_told_row, kq1_told_row⟩ := id lq1_told
        have kq1_tally := id lq1_tally
        obtain ⟨kq13, rq13_pocket, lq13_pocket, rq13_told, lq13_told, rq13_tally, lq13_tally, rq13_settings, kq13_settings⟩ := id L_q13
        obtain ⟨kq13_pocket, rq13_pocket_names, kq13_pocket_names, rq13_pocket_asksToGo, kq13_pocket_asksToGo, rq13_pocket_tellings, kq13_pocket_tellings, rq13_pocket_slots, kq13_pocket_slots, rq13_pocket_awake, kq13_pocket_awake, rq13_pocket_answering, kq13_pocket_answering⟩ := id lq13_pocket
        obtain ⟨kq13_told, rq13_told_row, kq13_told_row⟩ := id lq13_told
        have kq13_tally := id lq13_tally
        obtain ⟨kq14, rq14_pocket, lq14_pocket, rq14_told, lq14_told, rq14_tally, lq14_tally, rq14_settings, kq14_settings⟩ := id L_q14
        obtain ⟨kq14_pocket, rq14_pocket_names, kq14_pocket_names, rq14_pocket_asksToGo, kq14_pocket_asksToGo, rq14_pocket_tellings, kq14_pocket_tellings, rq14_pocket_slots, kq14_pocket_slots, rq14_pocket_awake, kq14_pocket_awake, rq14_pocket_answering, kq14_pocket_answering⟩ := id lq14_pocket
        obtain ⟨kq14_told, rq14_told_row, kq14_told_row⟩ := id lq14_told
        have kq14_tally := id lq14_tally
        refine ax_aaload (pc := 47) (n := 4) (r := some q14) dX0_add_47 kt_rows s12 e_q14 ?_
        refine aw_aload_n (pc := 48) dX0_add_48 rfl ?_
        refine aw_invV (pc := 49) (md' := m_X2_copyFrom) (ci := 2) (as := [(.inr (some q1))]) dX0_add_49 mo_X2_copyFrom im_X2_copyFrom se_X2_copyFrom ml_X0_25 rfl kq14 rfl hd (Nat.le_of_ble_eq_true rfl) (Nat.le_of_ble_eq_true rfl) (Nat.le_of_ble_eq_true rfl) ?_
        refine am_mono g (fun _ h15 _ ok_h15 g => ?_)
        obtain ⟨rfl, ss_h15, g⟩ := g
        replace hL := QH.ss hL ss_h15
        replace hL1 := QS.ss hL1 ss_h15
        replace L_q13 := QS.ss L_q13 ss_h15
        replace L_q14 := QS.ss L_q14 ss_h15
        obtain ⟨kt, rt_rows, kt_rows⟩ := id hL
        obtain ⟨kq1, rq1_pocket, lq1_pocket, rq1_told, lq1_told, rq1_tally, lq1_tally, rq1_settings, kq1_settings⟩ := id hL1
        obtain ⟨kq1_pocket, rq1_pocket_names, kq1_pocket_names, rq1_pocket_asksToGo, kq1_pocket_asksToGo, rq1_pocket_tellings, kq1_pocket_tellings, rq1_pocket_slots, kq1_pocket_slots, rq1_pocket_awake, kq1_pocket_awake, rq1_pocket_answering, kq1_pocket_answering⟩ := id lq1_pocket
        obtain ⟨kq1_told, rq1_told_row, kq1_told_row⟩ := id lq1_told
        have kq1_tally := id lq1_tally
        obtain ⟨kq13, rq13_pocket, lq13_pocket, rq13_told, lq13_told, rq13_tally, lq13_tally, rq13_settings, kq13_settings⟩ := id L_q13
        obtain ⟨kq13_pocket, rq13_pocket_names, kq13_pocket_names, rq13_pocket_asksToGo, kq13_pocket_asksToGo, rq13_pocket_tellings, kq13_pocket_tellings, rq13_pocket_slots, kq13_pocket_slots, rq13_pocket_awake, kq13_pocket_awake, rq13_pocket_answering, kq13_pocket_answering⟩ := id lq13_pocket
        obtain ⟨kq13_told, rq13_told_row, kq13_told_row⟩ := id lq13_told
        have kq13_tally := id lq13_tally
        obtain ⟨kq14, rq14_pocket, lq14_pocket, rq14_told, lq14_told, rq14_tally, lq14_tally, rq14_settings, kq14_settings⟩ := id L_q14
        obtain ⟨kq14_pocket, rq14_pocket_names, kq14_pocket_names, rq14_pocket_asksToGo, kq14_pocket_asksToGo, rq14_pocket_tellings, kq14_pocket_tellings, rq14_pocket_slots, kq14_pocket_slots, rq14_pocket_awake, kq14_pocket_awake, rq14_pocket_answering, kq14_pocket_answering⟩ := id lq14_pocket
        obtain ⟨kq14_told, rq14_told_row, kq14_told_row⟩ := id lq14_told
        have kq14_tally := id lq14_tally
        show AW m_X0_add d none Q 52 [some (.inr (some t)), some (.inr (some q1))] [] h15 (0, 0)
        refine aw_aload_n (pc := 52) dX0_add_52 rfl ?_
        refine aw_dup (pc := 53) dX0_add_53 ?_
        refine ax_geti (pc := 54) (v := hi h15 t 1) dX0_add_54 fl_X0_17 (by decide) rfl kt rfl ?_
        refine aw_iconst (pc := 57) dX0_add_57 ?_
        obtain ⟨s16, g⟩ := g
        refine ax_iadd (pc := 58) (v := (hi h15 t 1) + 1) dX0_add_58 s16 rfl ?_
        refine ax_puti (pc := 59) dX0_add_59 fl_X0_17 (by decide) rfl rfl rfl kt ?_
        exact aw_return (pc := 62) dX0_add_62 rfl g (by decide) (by decide)
set_option maxRecDepth 100000 in
set_option maxHeartbeats 4000000 in
theorem vc_X0_dropOldest {d : Nat} {Q : Option Int → AH → Prop} {h : AH} {t : Nat} (hL : QH h t)
  (g :
    ∃ q1, hr h (t + 1) 0 = some q1 ∧ QS h q1 ∧
    AW m_X0_dropOldest d none Q 9 [some (.inr (some t)), some (.inr (some q1)), some (.inl 1)] [] h (0, 0)) :
  AM d m_X0_dropOldest [(.inr (some t))] h Q := by
  refine am_body mo_X0_dropOldest (Nat.le_of_ble_eq_true rfl) ?_
  show AW m_X0_dropOldest d none Q 0 [some (.inr (some t)), none, none] [] h (0, 0)
  obtain ⟨kt, rt_rows, kt_rows⟩ := id hL
  refine aw_aload_n (pc := 0) dX0_dropOldest_0 rfl ?_
  refine aw_getr (pc := 1) (r := some (t + 1)) dX0_dropOldest_1 fl_X0_11 (by decide) rfl kt rt_rows ?_
  refine aw_iconst (pc := 4) dX0_dropOldest_4 ?_
  obtain ⟨q1, e_q1, L_q1, g⟩ := g
  obtain ⟨kt, rt_rows, kt_rows⟩ := id hL
  obtain ⟨kq1, rq1_pocket, lq1_pocket, rq1_told, lq1_told, rq1_tally, lq1_tally, rq1_settings, kq1_settings⟩ := id L_q1
  obtain ⟨kq1_pocket, rq1_pocket_names, kq1_pocket_names, rq1_pocket_asksToGo, kq1_pocket_asksToGo, rq1_pocket_tellings, kq1_pocket_tellings, rq1_pocket_slots, kq1_pocket_slots, rq1_pocket_awake, kq1_pocket_awake, rq1_pocket_answering, kq1_pocket_answering⟩ := id lq1_pocket
  obtain ⟨kq1_told, rq1_told_row, kq1_told_row⟩ := id lq1_told
  have kq1_tally := id lq1_tally
  refine ax_aaload (pc := 5) (n := 4) (r := some q1) dX0_dropOldest_5 kt_rows (by decide) e_q1 ?_
  refine ax_astore_n (pc := 6) (ls' := [some (.inr (some t)), some (.inr (some q1)), none]) dX0_dropOldest_6 (Nat.le_of_ble_eq_true rfl) rfl ?_
  refine aw_iconst (pc := 7) dX0_dropOldest_7 ?_
  refine ax_istore_n (pc := 8) (ls' := [some (.inr (some t)), some (.inr (some q1)), some (.inl 1)]) dX0_dropOldest_8 (Nat.le_of_ble_eq_true rfl) rfl ?_
  exact g
set_option maxRecDepth 100000 in
set_option maxHeartbeats 4000000 in
theorem vc_X0_dropOldest_9 {d : Nat} {Q : Option Int → AH → Prop} {h : AH} {t : Nat} {x2 : Int} {q1 : Nat} (hL : QH h t) (hL_q1 : QS h q1)
  (g :
    ((4 ≤ x2 → (
      Q none (up (ur h (t + 1) 3 (some q1)) t 1 3)
    )) ∧
    (¬ (4 ≤ x2) → (
      (rg (x2 - 1)) ∧
      (0 ≤ x2 ∧ x2 < 4) ∧
      ∃ q5, hr h (t + 1) x2 = some q5 ∧ QS h q5 ∧
      (0 ≤ x2 - 1 ∧ x2 - 1 < 4) ∧
      (rg (x2 + 1)) ∧
      AW m_X0_dropOldest d none Q 9 [some (.inr (some t)), some (.inr (some q1)), some (.inl (x2 + 1))] [] (ur h (t + 1) (x2 - 1) (some q5)) (0, 0)
    )))) :
  AW m_X0_dropOldest d none Q 9 [some (.inr (some t)), some (.inr (some q1)), some (.inl x2)] [] h (0, 0) := by
  obtain ⟨kt, rt_rows, kt_rows⟩ := id hL
  obtain ⟨kq1, rq1_pocket, lq1_pocket, rq1_told, lq1_told, rq1_tally, lq1_tally, rq1_settings, kq1_settings⟩ := id hL_q1
  obtain ⟨kq1_pocket, rq1_pocket_names, kq1_pocket_names, rq1_pocket_asksToGo, kq1_pocket_asksToGo, rq1_pocket_tellings, kq1_pocket_tellings, rq1_pocket_slots, kq1_pocket_slots, rq1_pocket_awake, kq1_pocket_awake, rq1_pocket_answering, kq1_pocket_answering⟩ := id lq1_pocket
  obtain ⟨kq1_told, rq1_told_row, kq1_told_row⟩ := id lq1_told
  have kq1_tally := id lq1_tally
  refine aw_iload_n (pc := 9) dX0_dropOldest_9 rfl ?_
  refine aw_iconst (pc := 10) dX0_dropOldest_10 ?_
  refine aw_icmp_ge (pc := 11) (tgt := 34) dX0_dropOldest_11 (by decide) (fun c2 => ?_) (fun c2 => ?_)
  · replace g := g.1 c2
    refine aw_aload_n (pc := 34) dX0_dropOldest_34 rfl ?_
    refine aw_getr (pc := 35) (r := some (t + 1)) dX0_dropOldest_35 fl_X0_11 (by decide) rfl kt rt_rows ?_
    refine aw_iconst (pc := 38) dX0_dropOldest_38 ?_
    refine aw_aload_n (pc := 39) dX0_dropOldest_39 rfl ?_
    refine ax_aastore (pc := 40) (n := 4) dX0_dropOldest_40 kt_rows (by decide) kq1 ?_
    refine aw_aload_n (pc := 41) dX0_dropOldest_41 rfl ?_
    refine aw_iconst (pc := 42) dX0_dropOldest_42 ?_
    refine ax_puti (pc := 43) dX0_dropOldest_43 fl_X0_17 (by decide) rfl rfl rfl (hkR kt) ?_
    exact aw_return (pc := 46) dX0_dropOldest_46 rfl g (by decide) (by decide)
  · replace g := g.2 c2
    refine aw_aload_n (pc := 14) dX0_dropOldest_14 rfl ?_
    refine aw_getr (pc := 15) (r := some (t + 1)) dX0_dropOldest_15 fl_X0_11 (by decide) rfl kt rt_rows ?_
    refine aw_iload_n (pc := 18) dX0_dropOldest_18 rfl ?_
    refine aw_iconst (pc := 19) dX0_dropOldest_19 ?_
    obtain ⟨s3, g⟩ := g
    refine ax_isub (pc := 20) (v := x2 - 1) dX0_dropOldest_20 s3 rfl ?_
    refine aw_aload_n (pc := 21) dX0_dropOldest_21 rfl ?_
    refine aw_getr (pc := 22) (r := some (t + 1)) dX0_dropOldest_22 fl_X0_11 (by decide) rfl kt rt_rows ?_
    refine aw_iload_n (pc := 25) dX0_dropOldest_25 rfl ?_
    obtain ⟨s4, g⟩ := g
    obtain ⟨q5, e_q5, L_q5, g⟩ := g
    obtain ⟨kt, rt_rows, kt_rows⟩ := id hL
    obtain ⟨kq1, rq1_pocket, lq1_pocket, rq1_told, lq1_told, rq1_tally, lq1_tally, rq1_settings, kq1_settings⟩ := id hL_q1
    obtain ⟨kq1_pocket, rq1_pocket_names, kq1_pocket_names, rq1_pocket_asksToGo, kq1_pocket_asksToGo, rq1_pocket_tellings, kq1_pocket_tellings, rq1_pocket_slots, kq1_pocket_slots, rq1_pocket_awake, kq1_pocket_awake, rq1_pocket_answering, kq1_pocket_answering⟩ := id lq1_pocket
    obtain ⟨kq1_told, rq1_told_row, kq1_told_row⟩ := id lq1_told
    have kq1_tally := id lq1_tally
    obtain ⟨kq5, rq5_pocket, lq5_pocket, rq5_told, lq5_told, rq5_tally, lq5_tally, rq5_settings, kq5_settings⟩ := id L_q5
    obtain ⟨kq5_pocket, rq5_pocket_names, kq5_pocket_names, rq5_pocket_asksToGo, kq5_pocket_asksToGo, rq5_pocket_tellings, kq5_pocket_tellings, rq5_pocket_slots, kq5_pocket_slots, rq5_pocket_awake, kq5_pocket_awake, rq5_pocket_answering, kq5_pocket_answering⟩ := id lq5_pocket
    obtain ⟨kq5_told, rq5_told_row, kq5_told_row⟩ := id lq5_told
    have kq5_tally := id lq5_tally
    refine ax_aaload (pc := 26) (n := 4) (r := some q5) dX0_dropOldest_26 kt_rows s4 e_q5 ?_
    obtain ⟨s6, g⟩ := g
    refine ax_aastore (pc := 27) (n := 4) dX0_dropOldest_27 kt_rows s6 kq5 ?_
    obtain ⟨s7, g⟩ := g
    refine ax_iinc (pc := 28) (v' := x2 + 1) (ls' := [some (.inr (some t)), some (.inr (some q1)), some (.inl (x2 + 1))]) dX0_dropOldest_28 rfl s7 rfl rfl ?_
    refine aw_goto (pc := 31) (tgt := 9) dX0_dropOldest_31 (by decide) ?_
    exact g
set_option maxRecDepth 100000 in
set_option maxHeartbeats 4000000 in
theorem vc_X0_backTo {d : Nat} {Q : Option Int → AH → Prop} {h : AH} {t : Nat} {q1 : Nat} (hd : 1 ≤ d) (hL : QH h t) (hL1 : QS h q1)
  (g :
    ((hi h t 1 < 1 → (
      Q (some (-5)) h
    )) ∧
    (¬ (hi h t 1 < 1) → (
      ((hi h t 1 ≤ 4 → (
        (rg ((hi h t 1) - 1)) ∧
        (0 ≤ (hi h t 1) - 1 ∧ (hi h t 1) - 1 < 4) ∧
        ∃ q5, hr (up h t 1 ((hi h t 1) - 1)) (t + 1) ((hi h t 1) - 1) = some q5 ∧ QS h q5 ∧
        AM (d - 1) m_X2_copyFrom [(.inr (some q1)), (.inr (some q5))] (up h t 1 ((hi h t 1) - 1)) (fun r h6 => 
          r = none ∧ SS (up h t 1 ((hi h t 1) - 1)) h6 ∧
          Q (some (hi h6 t 1)) h6)
      )) ∧
      (¬ (hi h t 1 ≤ 4) → (
        Q (some (-5)) h
      )))
    )))) :
  AM d m_X0_backTo [(.inr (some t)), (.inr (some q1))] h Q := by
  refine am_body mo_X0_backTo (Nat.le_of_ble_eq_true rfl) ?_
  show AW m_X0_backTo d none Q 0 [some (.inr (some t)), some (.inr (some q1))] [] h (0, 0)
  obtain ⟨kt, rt_rows, kt_rows⟩ := id hL
  obtain ⟨kq1, rq1_pocket, lq1_pocket, rq1_told, lq1_told, rq1_tally, lq1_tally, rq1_settings, kq1_settings⟩ := id hL1
  obtain ⟨kq1_pocket, rq1_pocket_names, kq1_pocket_names, rq1_pocket_asksToGo, kq1_pocket_asksToGo, rq1_pocket_tellings, kq1_pocket_tellings, rq1_pocket_slots, kq1_pocket_slots, rq1_pocket_awake, kq1_pocket_awake, rq1_pocket_answering, kq1_pocket_answering⟩ := id lq1_pocket
  obtain ⟨kq1_told, rq1_told_row, kq1_told_row⟩ := id lq1_told
  have kq1_tally := id lq1_tally
  refine aw_aload_n (pc := 0) dX0_backTo_0 rfl ?_
  refine aw_ifnull (pc := 1) (tgt := 20) dX0_backTo_1 (by decide) (fun q => by cases q) (fun _ => ?_)
  refine aw_aload_n (pc := 4) dX0_backTo_4 rfl ?_
  refine ax_geti (pc := 5) (v := hi h t 1) dX0_backTo_5 fl_X0_17 (by decide) rfl kt rfl ?_
  refine aw_iconst (pc := 8) dX0_backTo_8 ?_
  refine aw_icmp_lt (pc := 9) (tgt := 20) dX0_backTo_9 (by decide) (fun c1 => ?_) (fun c1 => ?_)
  · replace g := g.1 c1
    refine aw_bipush (pc := 20) dX0_backTo_20 ?_
    exact ax_ireturn (pc := 22) dX0_backTo_22 rfl g (by decide) (by decide)
  · replace g := g.2 c1
    refine aw_aload_n (pc := 12) dX0_backTo_12 rfl ?_
    refine ax_geti (pc := 13) (v := hi h t 1) dX0_backTo_13 fl_X0_17 (by decide) rfl kt rfl ?_
    refine aw_iconst (pc := 16) dX0_backTo_16 ?_
    refine aw_icmp_le (pc := 17) (tgt := 23) dX0_backTo_17 (by decide) (fun c2 => ?_) (fun c2 => ?_)
    · replace g := g.1 c2
      refine aw_aload_n (pc := 23) dX0_backTo_23 rfl ?_
      refine aw_dup (pc := 24) dX0_backTo_24 ?_
      refine ax_geti (pc := 25) (v := hi h t 1) dX0_backTo_25 fl_X0_17 (by decide) rfl kt rfl ?_
      refine aw_iconst (pc := 28) dX0_backTo_28 ?_
      obtain ⟨s3, g⟩ := g
      refine ax_isub (pc := 29) (v := (hi h t 1) - 1) dX0_backTo_29 s3 rfl ?_
      refine ax_puti (pc := 30) dX0_backTo_30 fl_X0_17 (by decide) rfl rfl rfl kt ?_
      refine aw_aload_n (pc := 33) dX0_backTo_33 rfl ?_
      refine aw_aload_n (pc := 34) dX0_backTo_34 rfl ?_
      refine aw_getr (pc := 35) (r := some (t + 1)) dX0_backTo_35 fl_X0_11 (by decide) rfl (hkU kt) (hrU rt_rows) ?_
      refine aw_aload_n (pc := 38) dX0_backTo_38 rfl ?_
      refine ax_geti (pc := 39) (v := (hi h t 1) - 1) dX0_backTo_39 fl_X0_17 (by decide) rfl (hkU kt) hiE ?_
      obtain ⟨s4, g⟩ := g
      obtain ⟨q5, e_q5, L_q5, g⟩ := g
      obtain ⟨kt, rt_rows, kt_rows⟩ := id hL
      obtain ⟨kq1, rq1_pocket, lq1_pocket, rq1_told, lq1_told, rq1_tally, lq1_tally, rq1_settings, kq1_settings⟩ := id hL1
      obtain ⟨kq1_pocket, rq1_pocket_names, kq1_pocket_names, rq1_pocket_asksToGo, kq1_pocket_asksToGo, rq1_pocket_tellings, kq1_pocket_tellings, rq1_pocket_slots, kq1_pocket_slots, rq1_pocket_awake, kq1_pocket_awake, rq1_pocket_answering, kq1_pocket_answering⟩ := id lq1_pocket
      obtain ⟨kq1_told, rq1_told_row, kq1_told_row⟩ := id lq1_told
      have kq1_tally := id lq1_tally
      obtain ⟨kq5, rq5_pocket, lq5_pocket, rq5_told, lq5_told, rq5_tally, lq5_tally, rq5_settings, kq5_settings⟩ := id L_q5
      obtain ⟨kq5_pocket, rq5_pocket_names, kq5_pocket_names, rq5_pocket_asksToGo, kq5_pocket_asksToGo, rq5_pocket_tellings, kq5_pocket_tellings, rq5_pocket_slots, kq5_pocket_slots, rq5_pocket_awake, kq5_pocket_awake, rq5_pocket_answering, kq5_pocket_answering⟩ := id lq5_pocket
      obtain ⟨kq5_told, rq5_told_row, kq5_told_row⟩ := id lq5_told
      have kq5_tally := id lq5_tally
      refine ax_aaload (pc := 42) (n := 4) (r := some q5) dX0_backTo_42 (hkU kt_rows) s4 e_q5 ?_
      refine aw_invV (pc := 43) (md' := m_X2_copyFrom) (ci := 2) (as := [(.inr (some q5))]) dX0_backTo_43 mo_X2_copyFrom im_X2_copyFrom se_X2_copyFrom ml_X0_25 rfl (hkU kq1) rfl hd (Nat.le_of_ble_eq_true rfl) (Nat.le_of_ble_eq_true rfl) (Nat.le_of_ble_eq_true rfl) ?_
      refine am_mono g (fun _ h6 _ ok_h6 g => ?_)
      obtain ⟨rfl, ss_h6, g⟩ := g
      replace hL := QH.ss hL (SS.tr (SS.up SS.rf) ss_h6)
      replace hL1 := QS.ss hL1 (SS.tr (SS.up SS.rf) ss_h6)
      replace L_q5 := QS.ss L_q5 (SS.tr (SS.up SS.rf) ss_h6)
      obtain ⟨kt, rt_rows, kt_rows⟩ := id hL
      obtain ⟨kq1, rq1_pocket, lq1_pocket, rq1_told, lq1_told, rq1_tally, lq1_tally, rq1_settings, kq1_settings⟩ := id hL1
      obtain ⟨kq1_pocket, rq1_pocket_names, kq1_pocket_names, rq1_pocket_asksToGo, kq1_pocket_asksToGo, rq1_pocket_tellings, kq1_pocket_tellings, rq1_pocket_slots, kq1_pocket_slots, rq1_pocket_awake, kq1_pocket_awake, rq1_pocket_answering, kq1_pocket_answering⟩ := id lq1_pocket
      obtain ⟨kq1_told, rq1_told_row, kq1_told_row⟩ := id lq1_told
      have kq1_tally := id lq1_tally
      obtain ⟨kq5, rq5_pocket, lq5_pocket, rq5_told, lq5_told, rq5_tally, lq5_tally, rq5_settings, kq5_settings⟩ := id L_q5
      obtain ⟨kq5_pocket, rq5_pocket_names, kq5_pocket_names, rq5_pocket_asksToGo, kq5_pocket_asksToGo, rq5_pocket_tellings, kq5_pocket_tellings, rq5_pocket_slots, kq5_pocket_slots, rq5_pocket_awake, kq5_pocket_awake, rq5_pocket_answering, kq5_pocket_answering⟩ := id lq5_pocket
      obtain ⟨kq5_told, rq5_told_row, kq5_told_row⟩ := id lq5_told
      have kq5_tally := id lq5_tally
      show AW m_X0_backTo d none Q 46 [some (.inr (some t)), some (.inr (some q1))] [] h6 (0, 0)
      refine aw_aload_n (pc := 46) dX0_backTo_46 rfl ?_
      refine ax_geti (pc := 47) (v := hi h6 t 1) dX0_backTo_47 fl_X0_17 (by decide) rfl kt rfl ?_
      exact ax_ireturn (pc := 50) dX0_backTo_50 rfl g (by decide) (by decide)
    · replace g := g.2 c2
      refine aw_bipush (pc := 20) dX0_backTo_20 ?_
      exact ax_ireturn (pc := 22) dX0_backTo_22 rfl g (by decide) (by decide)
set_option maxRecDepth 100000 in
set_option maxHeartbeats 4000000 in
theorem vc_X2_copyFrom {d : Nat} {Q : Option Int → AH → Prop} {h : AH} {b : Nat} {q1 : Nat} (hd : 1 ≤ d) (hL : QS h b) (hL1 : QS h q1)
  (g :
    AM (d - 1) m_X1_copyFrom [(.inr (some (b + 1))), (.inr (some (q1 + 1)))] h (fun r h1 => 
      r = none ∧ SS h h1 ∧
      AM (d - 1) m_X5_copyFrom [(.inr (some (b + 8))), (.inr (some (q1 + 8)))] h1 (fun r h2 => 
        r = none ∧ SS h1 h2 ∧
        AM (d - 1) m_X3_copyFrom [(.inr (some (b + 10))), (.inr (some (q1 + 10)))] h2 (fun r h3 => 
          r = none ∧ SS h2 h3 ∧
          Q none (up (cpy h3 (q1 + 11) (b + 11) 0 0 2) b 4 (hi (cpy h3 (q1 + 11) (b + 11) 0 0 2) q1 4)))))) :
  AM d m_X2_copyFrom [(.inr (some b)), (.inr (some q1))] h Q := by
  refine am_body mo_X2_copyFrom (Nat.le_of_ble_eq_true rfl) ?_
  show AW m_X2_copyFrom d none Q 0 [some (.inr (some b)), some (.inr (some q1))] [] h (0, 0)
  obtain ⟨kb, rb_pocket, lb_pocket, rb_told, lb_told, rb_tally, lb_tally, rb_settings, kb_settings⟩ := id hL
  obtain ⟨kb_pocket, rb_pocket_names, kb_pocket_names, rb_pocket_asksToGo, kb_pocket_asksToGo, rb_pocket_tellings, kb_pocket_tellings, rb_pocket_slots, kb_pocket_slots, rb_pocket_awake, kb_pocket_awake, rb_pocket_answering, kb_pocket_answering⟩ := id lb_pocket
  obtain ⟨kb_told, rb_told_row, kb_told_row⟩ := id lb_told
  have kb_tally := id lb_tally
  obtain ⟨kq1, rq1_pocket, lq1_pocket, rq1_told, lq1_told, rq1_tally, lq1_tally, rq1_settings, kq1_settings⟩ := id hL1
  obtain ⟨kq1_pocket, rq1_pocket_names, kq1_pocket_names, rq1_pocket_asksToGo, kq1_pocket_asksToGo, rq1_pocket_tellings, kq1_pocket_tellings, rq1_pocket_slots, kq1_pocket_slots, rq1_pocket_awake, kq1_pocket_awake, rq1_pocket_answering, kq1_pocket_answering⟩ := id lq1_pocket
  obtain ⟨kq1_told, rq1_told_row, kq1_told_row⟩ := id lq1_told
  have kq1_tally := id lq1_tally
  refine aw_aload_n (pc := 0) dX2_copyFrom_0 rfl ?_
  refine aw_ifnonnull (pc := 1) (tgt := 5) dX2_copyFrom_1 (by decide) (fun _ => ?_) (fun q => by cases q)
  refine aw_aload_n (pc := 5) dX2_copyFrom_5 rfl ?_
  refine aw_getr (pc := 6) (r := some (b + 1)) dX2_copyFrom_6 fl_X2_12 (by decide) rfl kb rb_pocket ?_
  refine aw_aload_n (pc := 9) dX2_copyFrom_9 rfl ?_
  refine aw_getr (pc := 10) (r := some (q1 + 1)) dX2_copyFrom_10 fl_X2_12 (by decide) rfl kq1 rq1_pocket ?_
  refine aw_invV (pc := 13) (md' := m_X1_copyFrom) (ci := 1) (as := [(.inr (some (q1 + 1)))]) dX2_copyFrom_13 mo_X1_copyFrom im_X1_copyFrom se_X1_copyFrom ml_X2_46 rfl kb_pocket rfl hd (Nat.le_of_ble_eq_true rfl) (Nat.le_of_ble_eq_true rfl) (Nat.le_of_ble_eq_true rfl) ?_
  refine am_mono g (fun _ h1 _ ok_h1 g => ?_)
  obtain ⟨rfl, ss_h1, g⟩ := g
  replace hL := QS.ss hL ss_h1
  replace hL1 := QS.ss hL1 ss_h1
  obtain ⟨kb, rb_pocket, lb_pocket, rb_told, lb_told, rb_tally, lb_tally, rb_settings, kb_settings⟩ := id hL
  obtain ⟨kb_pocket, rb_pocket_names, kb_pocket_names, rb_pocket_asksToGo, kb_pocket_asksToGo, rb_pocket_tellings, kb_pocket_tellings, rb_pocket_slots, kb_pocket_slots, rb_pocket_awake, kb_pocket_awake, rb_pocket_answering, kb_pocket_answering⟩ := id lb_pocket
  obtain ⟨kb_told, rb_told_row, kb_told_row⟩ := id lb_told
  have kb_tally := id lb_tally
  obtain ⟨kq1, rq1_pocket, lq1_pocket, rq1_told, lq1_told, rq1_tally, lq1_tally, rq1_settings, kq1_settings⟩ := id hL1
  obtain ⟨kq1_pocket, rq1_pocket_names, kq1_pocket_names, rq1_pocket_asksToGo, kq1_pocket_asksToGo, rq1_pocket_tellings, kq1_pocket_tellings, rq1_pocket_slots, kq1_pocket_slots, rq1_pocket_awake, kq1_pocket_awake, rq1_pocket_answering, kq1_pocket_answering⟩ := id lq1_pocket
  obtain ⟨kq1_told, rq1_told_row, kq1_told_row⟩ := id lq1_told
  have kq1_tally := id lq1_tally
  show AW m_X2_copyFrom d none Q 16 [some (.inr (some b)), some (.inr (some q1))] [] h1 (0, 0)
  refine aw_aload_n (pc := 16) dX2_copyFrom_16 rfl ?_
  refine aw_getr (pc := 17) (r := some (b + 8)) dX2_copyFrom_17 fl_X2_21 (by decide) rfl kb rb_told ?_
  refine aw_aload_n (pc := 20) dX2_copyFrom_20 rfl ?_
  refine aw_getr (pc := 21) (r := some (q1 + 8)) dX2_copyFrom_21 fl_X2_21 (by decide) rfl kq1 rq1_told ?_
  refine aw_invV (pc := 24) (md' := m_X5_copyFrom) (ci := 5) (as := [(.inr (some (q1 + 8)))]) dX2_copyFrom_24 mo_X5_copyFrom im_X5_copyFrom se_X5_copyFrom ml_X2_50 rfl kb_told rfl hd (Nat.le_of_ble_eq_true rfl) (Nat.le_of_ble_eq_true rfl) (Nat.le_of_ble_eq_true rfl) ?_
  refine am_mono g (fun _ h2 _ ok_h2 g => ?_)
  obtain ⟨rfl, ss_h2, g⟩ := g
  replace hL := QS.ss hL ss_h2
  replace hL1 := QS.ss hL1 ss_h2
  obtain ⟨kb, rb_pocket, lb_pocket, rb_told, lb_told, rb_tally, lb_tally, rb_settings, kb_settings⟩ := id hL
  obtain ⟨kb_pocket, rb_pocket_names, kb_pocket_names, rb_pocket_asksToGo, kb_pocket_asksToGo, rb_pocket_tellings, kb_pocket_tellings, rb_pocket_slots, kb_pocket_slots, rb_pocket_awake, kb_pocket_awake, rb_pocket_answering, kb_pocket_answering⟩ := id lb_pocket
  obtain ⟨kb_told, rb_told_row, kb_told_row⟩ := id lb_told
  have kb_tally := id lb_tally
  obtain ⟨kq1, rq1_pocket, lq1_pocket, rq1_told, lq1_told, rq1_tally, lq1_tally, rq1_settings, kq1_settings⟩ := id hL1
  obtain ⟨kq1_pocket, rq1_pocket_names, kq1_pocket_names, rq1_pocket_asksToGo, kq1_pocket_asksToGo, rq1_pocket_tellings, kq1_pocket_tellings, rq1_pocket_slots, kq1_pocket_slots, rq1_pocket_awake, kq1_pocket_awake, rq1_pocket_answering, kq1_pocket_answering⟩ := id lq1_pocket
  obtain ⟨kq1_told, rq1_told_row, kq1_told_row⟩ := id lq1_told
  have kq1_tally := id lq1_tally
  show AW m_X2_copyFrom d none Q 27 [some (.inr (some b)), some (.inr (some q1))] [] h2 (0, 0)
  refine aw_aload_n (pc := 27) dX2_copyFrom_27 rfl ?_
  refine aw_getr (pc := 28) (r := some (b + 10)) dX2_copyFrom_28 fl_X2_28 (by decide) rfl kb rb_tally ?_
  refine aw_aload_n (pc := 31) dX2_copyFrom_31 rfl ?_
  refine aw_getr (pc := 32) (r := some (q1 + 10)) dX2_copyFrom_32 fl_X2_28 (by decide) rfl kq1 rq1_tally ?_
  refine aw_invV (pc := 35) (md' := m_X3_copyFrom) (ci := 3) (as := [(.inr (some (q1 + 10)))]) dX2_copyFrom_35 mo_X3_copyFrom im_X3_copyFrom se_X3_copyFrom ml_X2_53 rfl kb_tally rfl hd (Nat.le_of_ble_eq_true rfl) (Nat.le_of_ble_eq_true rfl) (Nat.le_of_ble_eq_true rfl) ?_
  refine am_mono g (fun _ h3 _ ok_h3 g => ?_)
  obtain ⟨rfl, ss_h3, g⟩ := g
  replace hL := QS.ss hL ss_h3
  replace hL1 := QS.ss hL1 ss_h3
  obtain ⟨kb, rb_pocket, lb_pocket, rb_told, lb_told, rb_tally, lb_tally, rb_settings, kb_settings⟩ := id hL
  obtain ⟨kb_pocket, rb_pocket_names, kb_pocket_names, rb_pocket_asksToGo, kb_pocket_asksToGo, rb_pocket_tellings, kb_pocket_tellings, rb_pocket_slots, kb_pocket_slots, rb_pocket_awake, kb_pocket_awake, rb_pocket_answering, kb_pocket_answering⟩ := id lb_pocket
  obtain ⟨kb_told, rb_told_row, kb_told_row⟩ := id lb_told
  have kb_tally := id lb_tally
  obtain ⟨kq1, rq1_pocket, lq1_pocket, rq1_told, lq1_told, rq1_tally, lq1_tally, rq1_settings, kq1_settings⟩ := id hL1
  obtain ⟨kq1_pocket, rq1_pocket_names, kq1_pocket_names, rq1_pocket_asksToGo, kq1_pocket_asksToGo, rq1_pocket_tellings, kq1_pocket_tellings, rq1_pocket_slots, kq1_pocket_slots, rq1_pocket_awake, kq1_pocket_awake, rq1_pocket_answering, kq1_pocket_answering⟩ := id lq1_pocket
  obtain ⟨kq1_told, rq1_told_row, kq1_told_row⟩ := id lq1_told
  have kq1_tally := id lq1_tally
  show AW m_X2_copyFrom d none Q 38 [some (.inr (some b)), some (.inr (some q1))] [] h3 (0, 0)
  refine aw_aload_n (pc := 38) dX2_copyFrom_38 rfl ?_
  refine aw_getr (pc := 39) (r := some (q1 + 11)) dX2_copyFrom_39 fl_X2_32 (by decide) rfl kq1 rq1_settings ?_
  refine aw_iconst (pc := 42) dX2_copyFrom_42 ?_
  refine aw_aload_n (pc := 43) dX2_copyFrom_43 rfl ?_
  refine aw_getr (pc := 44) (r := some (b + 11)) dX2_copyFrom_44 fl_X2_32 (by decide) rfl kb rb_settings ?_
  refine aw_iconst (pc := 47) dX2_copyFrom_47 ?_
  refine aw_iconst (pc := 48) dX2_copyFrom_48 ?_
  refine aw_copy (pc := 49) (n0 := 2) (n1 := 2) dX2_copyFrom_49 ml_X2_56 nt_copy sm_copy ii_System kq1_settings kb_settings (by decide) (by decide) (by decide) (by decide) (by decide) hd (Nat.le_of_ble_eq_true rfl) ?_
  refine aw_aload_n (pc := 52) dX2_copyFrom_52 rfl ?_
  refine aw_aload_n (pc := 53) dX2_copyFrom_53 rfl ?_
  refine ax_geti (pc := 54) (v := hi (cpy h3 (q1 + 11) (b + 11) 0 0 2) q1 4) dX2_copyFrom_54 fl_X2_36 (by decide) rfl (hkC kq1) rfl ?_
  refine ax_puti (pc := 57) dX2_copyFrom_57 fl_X2_36 (by decide) rfl rfl rfl (hkC kb) ?_
  exact aw_return (pc := 60) dX2_copyFrom_60 rfl g (by decide) (by decide)
set_option maxRecDepth 100000 in
set_option maxHeartbeats 4000000 in
theorem vc_X2_putCard {d : Nat} {Q : Option Int → AH → Prop} {h : AH} {b : Nat} {x1 : Int} (hd : 1 ≤ d) (hL : QS h b)
  (g :
    ((x1 < 0 → (
      Q (some (-2)) h
    )) ∧
    (¬ (x1 < 0) → (
      ((x1 ≤ 255 → (
        AM (d - 1) m_X1_placeOf [(.inr (some (b + 1))), (.inl x1)] h (fun r h3 => 
          ∃ v4, r = some v4 ∧ SS h h3 ∧
          ((v4 = -1 → (
            AM (d - 1) m_X1_cards [(.inr (some (b + 1)))] h3 (fun r h6 => 
              ∃ v7, r = some v7 ∧ SS h3 h6 ∧
              ((v7 < 20 → (
                AM (d - 1) m_X1_insert [(.inr (some (b + 1))), (.inl x1)] h6 (fun r h9 => 
                  r = none ∧ SS h6 h9 ∧
                  AM (d - 1) m_X1_cards [(.inr (some (b + 1)))] h9 (fun r h10 => 
                    ∃ v11, r = some v11 ∧ SS h9 h10 ∧
                    Q (some v11) h10))
              )) ∧
              (¬ (v7 < 20) → (
                Q (some (-3)) h6
              ))))
          )) ∧
          (¬ (v4 = -1) → (
            Q (some (-4)) h3
          ))))
      )) ∧
      (¬ (x1 ≤ 255) → (
        Q (some (-2)) h
      )))
    )))) :
  AM d m_X2_putCard [(.inr (some b)), (.inl x1)] h Q := by
  refine am_body mo_X2_putCard (Nat.le_of_ble_eq_true rfl) ?_
  show AW m_X2_putCard d none Q 0 [some (.inr (some b)), some (.inl x1)] [] h (0, 0)
  obtain ⟨kb, rb_pocket, lb_pocket, rb_told, lb_told, rb_tally, lb_tally, rb_settings, kb_settings⟩ := id hL
  obtain ⟨kb_pocket, rb_pocket_names, kb_pocket_names, rb_pocket_asksToGo, kb_pocket_asksToGo, rb_pocket_tellings, kb_pocket_tellings, rb_pocket_slots, kb_pocket_slots, rb_pocket_awake, kb_pocket_awake, rb_pocket_answering, kb_pocket_answering⟩ := id lb_pocket
  obtain ⟨kb_told, rb_told_row, kb_told_row⟩ := id lb_told
  have kb_tally := id lb_tally
  refine aw_iload_n (pc := 0) dX2_putCard_0 rfl ?_
  refine aw_if_lt (pc := 1) (tgt := 11) dX2_putCard_1 (by decide) (fun c1 => ?_) (fun c1 => ?_)
  · replace g := g.1 c1
    refine aw_bipush (pc := 11) dX2_putCard_11 ?_
    exact ax_ireturn (pc := 13) dX2_putCard_13 rfl g (by decide) (by decide)
  · replace g := g.2 c1
    refine aw_iload_n (pc := 4) dX2_putCard_4 rfl ?_
    refine aw_sipush (pc := 5) dX2_putCard_5 ?_
    refine aw_icmp_le (pc := 8) (tgt := 14) dX2_putCard_8 (by decide) (fun c2 => ?_) (fun c2 => ?_)
    · replace g := g.1 c2
      refine aw_aload_n (pc := 14) dX2_putCard_14 rfl ?_
      refine aw_getr (pc := 15) (r := some (b + 1)) dX2_putCard_15 fl_X2_12 (by decide) rfl kb rb_pocket ?_
      refine aw_iload_n (pc := 18) dX2_putCard_18 rfl ?_
      refine aw_invV (pc := 19) (md' := m_X1_placeOf) (ci := 1) (as := [(.inl x1)]) dX2_putCard_19 mo_X1_placeOf im_X1_placeOf se_X1_placeOf ml_X2_62 rfl kb_pocket rfl hd (Nat.le_of_ble_eq_true rfl) (Nat.le_of_ble_eq_true rfl) (Nat.le_of_ble_eq_true rfl) ?_
      refine am_mono g (fun _ h3 _ ok_h3 g => ?_)
      obtain ⟨v4, rfl, ss_h3, g⟩ := g
      replace hL := QS.ss hL ss_h3
      obtain ⟨kb, rb_pocket, lb_pocket, rb_told, lb_told, rb_tally, lb_tally, rb_settings, kb_settings⟩ := id hL
      obtain ⟨kb_pocket, rb_pocket_names, kb_pocket_names, rb_pocket_asksToGo, kb_pocket_asksToGo, rb_pocket_tellings, kb_pocket_tellings, rb_pocket_slots, kb_pocket_slots, rb_pocket_awake, kb_pocket_awake, rb_pocket_answering, kb_pocket_answering⟩ := id lb_pocket
      obtain ⟨kb_told, rb_told_row, kb_told_row⟩ := id lb_told
      have kb_tally := id lb_tally
      show AW m_X2_putCard d none Q 22 [some (.inr (some b)), some (.inl x1)] [(.inl v4)] h3 (0, 0)
      refine aw_iconst (pc := 22) dX2_putCard_22 ?_
      refine aw_icmp_eq (pc := 23) (tgt := 29) dX2_putCard_23 (by decide) (fun c5 => ?_) (fun c5 => ?_)
      · replace g := g.1 c5
        refine aw_aload_n (pc := 29) dX2_putCard_29 rfl ?_
        refine aw_getr (pc := 30) (r := some (b + 1)) dX2_putCard_30 fl_X2_12 (by decide) rfl kb rb_pocket ?_
        refine aw_invV (pc := 33) (md' := m_X1_cards) (ci := 1) (as := []) dX2_putCard_33 mo_X1_cards im_X1_cards se_X1_cards ml_X2_66 rfl kb_pocket rfl hd (Nat.le_of_ble_eq_true rfl) (Nat.le_of_ble_eq_true rfl) (Nat.le_of_ble_eq_true rfl) ?_
        refine am_mono g (fun _ h6 _ ok_h6 g => ?_)
        obtain ⟨v7, rfl, ss_h6, g⟩ := g
        replace hL := QS.ss hL ss_h6
        obtain ⟨kb, rb_pocket, lb_pocket, rb_told, lb_told, rb_tally, lb_tally, rb_settings, kb_settings⟩ := id hL
        obtain ⟨kb_pocket, rb_pocket_names, kb_pocket_names, rb_pocket_asksToGo, kb_pocket_asksToGo, rb_pocket_tellings, kb_pocket_tellings, rb_pocket_slots, kb_pocket_slots, rb_pocket_awake, kb_pocket_awake, rb_pocket_answering, kb_pocket_answering⟩ := id lb_pocket
        obtain ⟨kb_told, rb_told_row, kb_told_row⟩ := id lb_told
        have kb_tally := id lb_tally
        show AW m_X2_putCard d none Q 36 [some (.inr (some b)), some (.inl x1)] [(.inl v7)] h6 (0, 0)
        refine aw_bipush (pc := 36) dX2_putCard_36 ?_
        refine aw_icmp_lt (pc := 38) (tgt := 44) dX2_putCard_38 (by decide) (fun c8 => ?_) (fun c8 => ?_)
        · replace g := g.1 c8
          refine aw_aload_n (pc := 44) dX2_putCard_44 rfl ?_
          refine aw_getr (pc := 45) (r := some (b + 1)) dX2_putCard_45 fl_X2_12 (by decide) rfl kb rb_pocket ?_
          refine aw_iload_n (pc := 48) dX2_putCard_48 rfl ?_
          refine aw_invV (pc := 49) (md' := m_X1_insert) (ci := 1) (as := [(.inl x1)]) dX2_putCard_49 mo_X1_insert im_X1_insert se_X1_insert ml_X2_70 rfl kb_pocket rfl hd (Nat.le_of_ble_eq_true rfl) (Nat.le_of_ble_eq_true rfl) (Nat.le_of_ble_eq_true rfl) ?_
          refine am_mono g (fun _ h9 _ ok_h9 g => ?_)
          obtain ⟨rfl, ss_h9, g⟩ := g
          replace hL := QS.ss hL ss_h9
          obtain ⟨kb, rb_pocket, lb_pocket, rb_told, lb_told, rb_tally, lb_tally, rb_settings, kb_settings⟩ := id hL
          obtain ⟨kb_pocket, rb_pocket_names, kb_pocket_names, rb_pocket_asksToGo, kb_pocket_asksToGo, rb_pocket_tellings, kb_pocket_tellings, rb_pocket_slots, kb_pocket_slots, rb_pocket_awake, kb_pocket_awake, rb_pocket_answering, kb_pocket_answering⟩ := id lb_pocket
          obtain ⟨kb_told, rb_told_row, kb_told_row⟩ := id lb_told
          have kb_tally := id lb_tally
          show AW m_X2_putCard d none Q 52 [some (.inr (some b)), some (.inl x1)] [] h9 (0, 0)
          refine aw_aload_n (pc := 52) dX2_putCard_52 rfl ?_
          refine aw_getr (pc := 53) (r := some (b + 1)) dX2_putCard_53 fl_X2_12 (by decide) rfl kb rb_pocket ?_
          refine aw_invV (pc := 56) (md' := m_X1_cards) (ci := 1) (as := []) dX2_putCard_56 mo_X1_cards im_X1_cards se_X1_cards ml_X2_66 rfl kb_pocket rfl hd (Nat.le_of_ble_eq_true rfl) (Nat.le_of_ble_eq_true rfl) (Nat.le_of_ble_eq_true rfl) ?_
          refine am_mono g (fun _ h10 _ ok_h10 g => ?_)
          obtain ⟨v11, rfl, ss_h10, g⟩ := g
          replace hL := QS.ss hL ss_h10
          obtain ⟨kb, rb_pocket, lb_pocket, rb_told, lb_told, rb_tally, lb_tally, rb_settings, kb_settings⟩ := id hL
          obtain ⟨kb_pocket, rb_pocket_names, kb_pocket_names, rb_pocket_asksToGo, kb_pocket_asksToGo, rb_pocket_tellings, kb_pocket_tellings, rb_pocket_slots, kb_pocket_slots, rb_pocket_awake, kb_pocket_awake, rb_pocket_answering, kb_pocket_answering⟩ := id lb_pocket
          obtain ⟨kb_told, rb_told_row, kb_told_row⟩ := id lb_told
          have kb_tally := id lb_tally
          show AW m_X2_putCard d none Q 59 [some (.inr (some b)), some (.inl x1)] [(.inl v11)] h10 (0, 0)
          exact ax_ireturn (pc := 59) dX2_putCard_59 rfl g (by decide) (by decide)
        · replace g := g.2 c8
          refine aw_bipush (pc := 41) dX2_putCard_41 ?_
          exact ax_ireturn (pc := 43) dX2_putCard_43 rfl g (by decide) (by decide)
      · replace g := g.2 c5
        refine aw_bipush (pc := 26) dX2_putCard_26 ?_
        exact ax_ireturn (pc := 28) dX2_putCard_28 rfl g (by decide) (by decide)
    · replace g := g.2 c2
      refine aw_bipush (pc := 11) dX2_putCard_11 ?_
      exact ax_ireturn (pc := 13) dX2_putCard_13 rfl g (by decide) (by decide)
set_option maxRecDepth 100000 in
set_option maxHeartbeats 4000000 in
theorem vc_X2_takeCard {d : Nat} {Q : Option Int → AH → Prop} {h : AH} {b : Nat} {x1 : Int} (hd : 1 ≤ d) (hL : QS h b)
  (g :
    AM (d - 1) m_X1_placeOf [(.inr (some (b + 1))), (.inl x1)] h (fun r h1 => 
      ∃ v2, r = some v2 ∧ SS h h1 ∧
      ((¬ v2 = -1 → (
        AM (d - 1) m_X1_removeAt [(.inr (some (b + 1))), (.inl v2)] h1 (fun r h4 => 
          r = none ∧ SS h1 h4 ∧
          AM (d - 1) m_X1_cards [(.inr (some (b + 1)))] h4 (fun r h5 => 
            ∃ v6, r = some v6 ∧ SS h4 h5 ∧
            Q (some v6) h5))
      )) ∧
      (¬ (¬ v2 = -1) → (
        Q (some (-1)) h1
      ))))) :
  AM d m_X2_takeCard [(.inr (some b)), (.inl x1)] h Q := by
  refine am_body mo_X2_takeCard (Nat.le_of_ble_eq_true rfl) ?_
  show AW m_X2_takeCard d none Q 0 [some (.inr (some b)), some (.inl x1), none] [] h (0, 0)
  obtain ⟨kb, rb_pocket, lb_pocket, rb_told, lb_told, rb_tally, lb_tally, rb_settings, kb_settings⟩ := id hL
  obtain ⟨kb_pocket, rb_pocket_names, kb_pocket_names, rb_pocket_asksToGo, kb_pocket_asksToGo, rb_pocket_tellings, kb_pocket_tellings, rb_pocket_slots, kb_pocket_slots, rb_pocket_awake, kb_pocket_awake, rb_pocket_answering, kb_pocket_answering⟩ := id lb_pocket
  obtain ⟨kb_told, rb_told_row, kb_told_row⟩ := id lb_told
  have kb_tally := id lb_tally
  refine aw_aload_n (pc := 0) dX2_takeCard_0 rfl ?_
  refine aw_getr (pc := 1) (r := some (b + 1)) dX2_takeCard_1 fl_X2_12 (by decide) rfl kb rb_pocket ?_
  refine aw_iload_n (pc := 4) dX2_takeCard_4 rfl ?_
  refine aw_invV (pc := 5) (md' := m_X1_placeOf) (ci := 1) (as := [(.inl x1)]) dX2_takeCard_5 mo_X1_placeOf im_X1_placeOf se_X1_placeOf ml_X2_62 rfl kb_pocket rfl hd (Nat.le_of_ble_eq_true rfl) (Nat.le_of_ble_eq_true rfl) (Nat.le_of_ble_eq_true rfl) ?_
  refine am_mono g (fun _ h1 _ ok_h1 g => ?_)
  obtain ⟨v2, rfl, ss_h1, g⟩ := g
  replace hL := QS.ss hL ss_h1
  obtain ⟨kb, rb_pocket, lb_pocket, rb_told, lb_told, rb_tally, lb_tally, rb_settings, kb_settings⟩ := id hL
  obtain ⟨kb_pocket, rb_pocket_names, kb_pocket_names, rb_pocket_asksToGo, kb_pocket_asksToGo, rb_pocket_tellings, kb_pocket_tellings, rb_pocket_slots, kb_pocket_slots, rb_pocket_awake, kb_pocket_awake, rb_pocket_answering, kb_pocket_answering⟩ := id lb_pocket
  obtain ⟨kb_told, rb_told_row, kb_told_row⟩ := id lb_told
  have kb_tally := id lb_tally
  show AW m_X2_takeCard d none Q 8 [some (.inr (some b)), some (.inl x1), none] [(.inl v2)] h1 (0, 0)
  refine ax_istore_n (pc := 8) (ls' := [some (.inr (some b)), some (.inl x1), some (.inl v2)]) dX2_takeCard_8 (Nat.le_of_ble_eq_true rfl) rfl ?_
  refine aw_iload_n (pc := 9) dX2_takeCard_9 rfl ?_
  refine aw_iconst (pc := 10) dX2_takeCard_10 ?_
  refine aw_icmp_ne (pc := 11) (tgt := 16) dX2_takeCard_11 (by decide) (fun c3 => ?_) (fun c3 => ?_)
  · replace g := g.1 c3
    refine aw_aload_n (pc := 16) dX2_takeCard_16 rfl ?_
    refine aw_getr (pc := 17) (r := some (b + 1)) dX2_takeCard_17 fl_X2_12 (by decide) rfl kb rb_pocket ?_
    refine aw_iload_n (pc := 20) dX2_takeCard_20 rfl ?_
    refine aw_invV (pc := 21) (md' := m_X1_removeAt) (ci := 1) (as := [(.inl v2)]) dX2_takeCard_21 mo_X1_removeAt im_X1_removeAt se_X1_removeAt ml_X2_74 rfl kb_pocket rfl hd (Nat.le_of_ble_eq_true rfl) (Nat.le_of_ble_eq_true rfl) (Nat.le_of_ble_eq_true rfl) ?_
    refine am_mono g (fun _ h4 _ ok_h4 g => ?_)
    obtain ⟨rfl, ss_h4, g⟩ := g
    replace hL := QS.ss hL ss_h4
    obtain ⟨kb, rb_pocket, lb_pocket, rb_told, lb_told, rb_tally, lb_tally, rb_settings, kb_settings⟩ := id hL
    obtain ⟨kb_pocket, rb_pocket_names, kb_pocket_names, rb_pocket_asksToGo, kb_pocket_asksToGo, rb_pocket_tellings, kb_pocket_tellings, rb_pocket_slots, kb_pocket_slots, rb_pocket_awake, kb_pocket_awake, rb_pocket_answering, kb_pocket_answering⟩ := id lb_pocket
    obtain ⟨kb_told, rb_told_row, kb_told_row⟩ := id lb_told
    have kb_tally := id lb_tally
    show AW m_X2_takeCard d none Q 24 [some (.inr (some b)), some (.inl x1), some (.inl v2)] [] h4 (0, 0)
    refine aw_aload_n (pc := 24) dX2_takeCard_24 rfl ?_
    refine aw_getr (pc := 25) (r := some (b + 1)) dX2_takeCard_25 fl_X2_12 (by decide) rfl kb rb_pocket ?_
    refine aw_invV (pc := 28) (md' := m_X1_cards) (ci := 1) (as := []) dX2_takeCard_28 mo_X1_cards im_X1_cards se_X1_cards ml_X2_66 rfl kb_pocket rfl hd (Nat.le_of_ble_eq_true rfl) (Nat.le_of_ble_eq_true rfl) (Nat.le_of_ble_eq_true rfl) ?_
    refine am_mono g (fun _ h5 _ ok_h5 g => ?_)
    obtain ⟨v6, rfl, ss_h5, g⟩ := g
    replace hL := QS.ss hL ss_h5
    obtain ⟨kb, rb_pocket, lb_pocket, rb_told, lb_told, rb_tally, lb_tally, rb_settings, kb_settings⟩ := id hL
    obtain ⟨kb_pocket, rb_pocket_names, kb_pocket_names, rb_pocket_asksToGo, kb_pocket_asksToGo, rb_pocket_tellings, kb_pocket_tellings, rb_pocket_slots, kb_pocket_slots, rb_pocket_awake, kb_pocket_awake, rb_pocket_answering, kb_pocket_answering⟩ := id lb_pocket
    obtain ⟨kb_told, rb_told_row, kb_told_row⟩ := id lb_told
    have kb_tally := id lb_tally
    show AW m_X2_takeCard d none Q 31 [some (.inr (some b)), some (.inl x1), some (.inl v2)] [(.inl v6)] h5 (0, 0)
    exact ax_ireturn (pc := 31) dX2_takeCard_31 rfl g (by decide) (by decide)
  · replace g := g.2 c3
    refine aw_iconst (pc := 14) dX2_takeCard_14 ?_
    exact ax_ireturn (pc := 15) dX2_takeCard_15 rfl g (by decide) (by decide)
set_option maxRecDepth 100000 in
set_option maxHeartbeats 4000000 in
theorem vc_X2_sleepCard {d : Nat} {Q : Option Int → AH → Prop} {h : AH} {b : Nat} {x1 : Int} (hd : 1 ≤ d) (hL : QS h b)
  (g :
    AM (d - 1) m_X1_placeOf [(.inr (some (b + 1))), (.inl x1)] h (fun r h1 => 
      ∃ v2, r = some v2 ∧ SS h h1 ∧
      ((¬ v2 = -1 → (
        AM (d - 1) m_X1_isAwake [(.inr (some (b + 1))), (.inl v2)] h1 (fun r h4 => 
          ∃ v5, r = some v5 ∧ SS h1 h4 ∧
          ((¬ v5 = 0 → (
            AM (d - 1) m_X1_sleepAt [(.inr (some (b + 1))), (.inl v2)] h4 (fun r h7 => 
              r = none ∧ SS h4 h7 ∧
              AM (d - 1) m_X1_awakeCards [(.inr (some (b + 1)))] h7 (fun r h8 => 
                ∃ v9, r = some v9 ∧ SS h7 h8 ∧
                Q (some v9) h8))
          )) ∧
          (¬ (¬ v5 = 0) → (
            Q (some (-5)) h4
          ))))
      )) ∧
      (¬ (¬ v2 = -1) → (
        Q (some (-1)) h1
      ))))) :
  AM d m_X2_sleepCard [(.inr (some b)), (.inl x1)] h Q := by
  refine am_body mo_X2_sleepCard (Nat.le_of_ble_eq_true rfl) ?_
  show AW m_X2_sleepCard d none Q 0 [some (.inr (some b)), some (.inl x1), none] [] h (0, 0)
  obtain ⟨kb, rb_pocket, lb_pocket, rb_told, lb_told, rb_tally, lb_tally, rb_settings, kb_settings⟩ := id hL
  obtain ⟨kb_pocket, rb_pocket_names, kb_pocket_names, rb_pocket_asksToGo, kb_pocket_asksToGo, rb_pocket_tellings, kb_pocket_tellings, rb_pocket_slots, kb_pocket_slots, rb_pocket_awake, kb_pocket_awake, rb_pocket_answering, kb_pocket_answering⟩ := id lb_pocket
  obtain ⟨kb_told, rb_told_row, kb_told_row⟩ := id lb_told
  have kb_tally := id lb_tally
  refine aw_aload_n (pc := 0) dX2_sleepCard_0 rfl ?_
  refine aw_getr (pc := 1) (r := some (b + 1)) dX2_sleepCard_1 fl_X2_12 (by decide) rfl kb rb_pocket ?_
  refine aw_iload_n (pc := 4) dX2_sleepCard_4 rfl ?_
  refine aw_invV (pc := 5) (md' := m_X1_placeOf) (ci := 1) (as := [(.inl x1)]) dX2_sleepCard_5 mo_X1_placeOf im_X1_placeOf se_X1_placeOf ml_X2_62 rfl kb_pocket rfl hd (Nat.le_of_ble_eq_true rfl) (Nat.le_of_ble_eq_true rfl) (Nat.le_of_ble_eq_true rfl) ?_
  refine am_mono g (fun _ h1 _ ok_h1 g => ?_)
  obtain ⟨v2, rfl, ss_h1, g⟩ := g
  replace hL := QS.ss hL ss_h1
  obtain ⟨kb, rb_pocket, lb_pocket, rb_told, lb_told, rb_tally, lb_tally, rb_settings, kb_settings⟩ := id hL
  obtain ⟨kb_pocket, rb_pocket_names, kb_pocket_names, rb_pocket_asksToGo, kb_pocket_asksToGo, rb_pocket_tellings, kb_pocket_tellings, rb_pocket_slots, kb_pocket_slots, rb_pocket_awake, kb_pocket_awake, rb_pocket_answering, kb_pocket_answering⟩ := id lb_pocket
  obtain ⟨kb_told, rb_told_row, kb_told_row⟩ := id lb_told
  have kb_tally := id lb_tally
  show AW m_X2_sleepCard d none Q 8 [some (.inr (some b)), some (.inl x1), none] [(.inl v2)] h1 (0, 0)
  refine ax_istore_n (pc := 8) (ls' := [some (.inr (some b)), some (.inl x1), some (.inl v2)]) dX2_sleepCard_8 (Nat.le_of_ble_eq_true rfl) rfl ?_
  refine aw_iload_n (pc := 9) dX2_sleepCard_9 rfl ?_
  refine aw_iconst (pc := 10) dX2_sleepCard_10 ?_
  refine aw_icmp_ne (pc := 11) (tgt := 16) dX2_sleepCard_11 (by decide) (fun c3 => ?_) (fun c3 => ?_)
  · replace g := g.1 c3
    refine aw_aload_n (pc := 16) dX2_sleepCard_16 rfl ?_
    refine aw_getr (pc := 17) (r := some (b + 1)) dX2_sleepCard_17 fl_X2_12 (by decide) rfl kb rb_pocket ?_
    refine aw_iload_n (pc := 20) dX2_sleepCard_20 rfl ?_
    refine aw_invV (pc := 21) (md' := m_X1_isAwake) (ci := 1) (as := [(.inl v2)]) dX2_sleepCard_21 mo_X1_isAwake im_X1_isAwake se_X1_isAwake ml_X2_77 rfl kb_pocket rfl hd (Nat.le_of_ble_eq_true rfl) (Nat.le_of_ble_eq_true rfl) (Nat.le_of_ble_eq_true rfl) ?_
    refine am_mono g (fun _ h4 _ ok_h4 g => ?_)
    obtain ⟨v5, rfl, ss_h4, g⟩ := g
    replace hL := QS.ss hL ss_h4
    obtain ⟨kb, rb_pocket, lb_pocket, rb_told, lb_told, rb_tally, lb_tally, rb_settings, kb_settings⟩ := id hL
    obtain ⟨kb_pocket, rb_pocket_names, kb_pocket_names, rb_pocket_asksToGo, kb_pocket_asksToGo, rb_pocket_tellings, kb_pocket_tellings, rb_pocket_slots, kb_pocket_slots, rb_pocket_awake, kb_pocket_awake, rb_pocket_answering, kb_pocket_answering⟩ := id lb_pocket
    obtain ⟨kb_told, rb_told_row, kb_told_row⟩ := id lb_told
    have kb_tally := id lb_tally
    show AW m_X2_sleepCard d none Q 24 [some (.inr (some b)), some (.inl x1), some (.inl v2)] [(.inl v5)] h4 (0, 0)
    refine aw_if_ne (pc := 24) (tgt := 30) dX2_sleepCard_24 (by decide) (fun c6 => ?_) (fun c6 => ?_)
    · replace g := g.1 c6
      refine aw_aload_n (pc := 30) dX2_sleepCard_30 rfl ?_
      refine aw_getr (pc := 31) (r := some (b + 1)) dX2_sleepCard_31 fl_X2_12 (by decide) rfl kb rb_pocket ?_
      refine aw_iload_n (pc := 34) dX2_sleepCard_34 rfl ?_
      refine aw_invV (pc := 35) (md' := m_X1_sleepAt) (ci := 1) (as := [(.inl v2)]) dX2_sleepCard_35 mo_X1_sleepAt im_X1_sleepAt se_X1_sleepAt ml_X2_81 rfl kb_pocket rfl hd (Nat.le_of_ble_eq_true rfl) (Nat.le_of_ble_eq_true rfl) (Nat.le_of_ble_eq_true rfl) ?_
      refine am_mono g (fun _ h7 _ ok_h7 g => ?_)
      obtain ⟨rfl, ss_h7, g⟩ := g
      replace hL := QS.ss hL ss_h7
      obtain ⟨kb, rb_pocket, lb_pocket, rb_told, lb_told, rb_tally, lb_tally, rb_settings, kb_settings⟩ := id hL
      obtain ⟨kb_pocket, rb_pocket_names, kb_pocket_names, rb_pocket_asksToGo, kb_pocket_asksToGo, rb_pocket_tellings, kb_pocket_tellings, rb_pocket_slots, kb_pocket_slots, rb_pocket_awake, kb_pocket_awake, rb_pocket_answering, kb_pocket_answering⟩ := id lb_pocket
      obtain ⟨kb_told, rb_told_row, kb_told_row⟩ := id lb_told
      have kb_tally := id lb_tally
      show AW m_X2_sleepCard d none Q 38 [some (.inr (some b)), some (.inl x1), some (.inl v2)] [] h7 (0, 0)
      refine aw_aload_n (pc := 38) dX2_sleepCard_38 rfl ?_
      refine aw_getr (pc := 39) (r := some (b + 1)) dX2_sleepCard_39 fl_X2_12 (by decide) rfl kb rb_pocket ?_
      refine aw_invV (pc := 42) (md' := m_X1_awakeCards) (ci := 1) (as := []) dX2_sleepCard_42 mo_X1_awakeCards im_X1_awakeCards se_X1_awakeCards ml_X2_84 rfl kb_pocket rfl hd (Nat.le_of_ble_eq_true rfl) (Nat.le_of_ble_eq_true rfl) (Nat.le_of_ble_eq_true rfl) ?_
      refine am_mono g (fun _ h8 _ ok_h8 g => ?_)
      obtain ⟨v9, rfl, ss_h8, g⟩ := g
      replace hL := QS.ss hL ss_h8
      obtain ⟨kb, rb_pocket, lb_pocket, rb_told, lb_told, rb_tally, lb_tally, rb_settings, kb_settings⟩ := id hL
      obtain ⟨kb_pocket, rb_pocket_names, kb_pocket_names, rb_pocket_asksToGo, kb_pocket_asksToGo, rb_pocket_tellings, kb_pocket_tellings, rb_pocket_slots, kb_pocket_slots, rb_pocket_awake, kb_pocket_awake, rb_pocket_answering, kb_pocket_answering⟩ := id lb_pocket
      obtain ⟨kb_told, rb_told_row, kb_told_row⟩ := id lb_told
      have kb_tally := id lb_tally
      show AW m_X2_sleepCard d none Q 45 [some (.inr (some b)), some (.inl x1), some (.inl v2)] [(.inl v9)] h8 (0, 0)
      exact ax_ireturn (pc := 45) dX2_sleepCard_45 rfl g (by decide) (by decide)
    · replace g := g.2 c6
      refine aw_bipush (pc := 27) dX2_sleepCard_27 ?_
      exact ax_ireturn (pc := 29) dX2_sleepCard_29 rfl g (by decide) (by decide)
  · replace g := g.2 c3
    refine aw_iconst (pc := 14) dX2_sleepCard_14 ?_
    exact ax_ireturn (pc := 15) dX2_sleepCard_15 rfl g (by decide) (by decide)
set_option maxRecDepth 100000 in
set_option maxHeartbeats 4000000 in
theorem vc_X2_wakeCards {d : Nat} {Q : Option Int → AH → Prop} {h : AH} {b : Nat} (hd : 1 ≤ d) (hL : QS h b)
  (g :
    AM (d - 1) m_X1_cards [(.inr (some (b + 1)))] h (fun r h1 => 
      ∃ v2, r = some v2 ∧ SS h h1 ∧
      AM (d - 1) m_X1_awakeCards [(.inr (some (b + 1)))] h1 (fun r h3 => 
        ∃ v4, r = some v4 ∧ SS h1 h3 ∧
        (rg (v2 - v4)) ∧
        ((¬ v2 - v4 = 0 → (
          AM (d - 1) m_X1_wakeEach [(.inr (some (b + 1)))] h3 (fun r h7 => 
            r = none ∧ SS h3 h7 ∧
            Q (some (v2 - v4)) h7)
        )) ∧
        (¬ (¬ v2 - v4 = 0) → (
          Q (some (-5)) h3
        )))))) :
  AM d m_X2_wakeCards [(.inr (some b))] h Q := by
  refine am_body mo_X2_wakeCards (Nat.le_of_ble_eq_true rfl) ?_
  show AW m_X2_wakeCards d none Q 0 [some (.inr (some b)), none] [] h (0, 0)
  obtain ⟨kb, rb_pocket, lb_pocket, rb_told, lb_told, rb_tally, lb_tally, rb_settings, kb_settings⟩ := id hL
  obtain ⟨kb_pocket, rb_pocket_names, kb_pocket_names, rb_pocket_asksToGo, kb_pocket_asksToGo, rb_pocket_tellings, kb_pocket_tellings, rb_pocket_slots, kb_pocket_slots, rb_pocket_awake, kb_pocket_awake, rb_pocket_answering, kb_pocket_answering⟩ := id lb_pocket
  obtain ⟨kb_told, rb_told_row, kb_told_row⟩ := id lb_told
  have kb_tally := id lb_tally
  refine aw_aload_n (pc := 0) dX2_wakeCards_0 rfl ?_
  refine aw_getr (pc := 1) (r := some (b + 1)) dX2_wakeCards_1 fl_X2_12 (by decide) rfl kb rb_pocket ?_
  refine aw_invV (pc := 4) (md' := m_X1_cards) (ci := 1) (as := []) dX2_wakeCards_4 mo_X1_cards im_X1_cards se_X1_cards ml_X2_66 rfl kb_pocket rfl hd (Nat.le_of_ble_eq_true rfl) (Nat.le_of_ble_eq_true rfl) (Nat.le_of_ble_eq_true rfl) ?_
  refine am_mono g (fun _ h1 _ ok_h1 g => ?_)
  obtain ⟨v2, rfl, ss_h1, g⟩ := g
  replace hL := QS.ss hL ss_h1
  obtain ⟨kb, rb_pocket, lb_pocket, rb_told, lb_told, rb_tally, lb_tally, rb_settings, kb_settings⟩ := id hL
  obtain ⟨kb_pocket, rb_pocket_names, kb_pocket_names, rb_pocket_asksToGo, kb_pocket_asksToGo, rb_pocket_tellings, kb_pocket_tellings, rb_pocket_slots, kb_pocket_slots, rb_pocket_awake, kb_pocket_awake, rb_pocket_answering, kb_pocket_answering⟩ := id lb_pocket
  obtain ⟨kb_told, rb_told_row, kb_told_row⟩ := id lb_told
  have kb_tally := id lb_tally
  show AW m_X2_wakeCards d none Q 7 [some (.inr (some b)), none] [(.inl v2)] h1 (0, 0)
  refine aw_aload_n (pc := 7) dX2_wakeCards_7 rfl ?_
  refine aw_getr (pc := 8) (r := some (b + 1)) dX2_wakeCards_8 fl_X2_12 (by decide) rfl kb rb_pocket ?_
  refine aw_invV (pc := 11) (md' := m_X1_awakeCards) (ci := 1) (as := []) dX2_wakeCards_11 mo_X1_awakeCards im_X1_awakeCards se_X1_awakeCards ml_X2_84 rfl kb_pocket rfl hd (Nat.le_of_ble_eq_true rfl) (Nat.le_of_ble_eq_true rfl) (Nat.le_of_ble_eq_true rfl) ?_
  refine am_mono g (fun _ h3 _ ok_h3 g => ?_)
  obtain ⟨v4, rfl, ss_h3, g⟩ := g
  replace hL := QS.ss hL ss_h3
  obtain ⟨kb, rb_pocket, lb_pocket, rb_told, lb_told, rb_tally, lb_tally, rb_settings, kb_settings⟩ := id hL
  obtain ⟨kb_pocket, rb_pocket_names, kb_pocket_names, rb_pocket_asksToGo, kb_pocket_asksToGo, rb_pocket_tellings, kb_pocket_tellings, rb_pocket_slots, kb_pocket_slots, rb_pocket_awake, kb_pocket_awake, rb_pocket_answering, kb_pocket_answering⟩ := id lb_pocket
  obtain ⟨kb_told, rb_told_row, kb_told_row⟩ := id lb_told
  have kb_tally := id lb_tally
  show AW m_X2_wakeCards d none Q 14 [some (.inr (some b)), none] [(.inl v4), (.inl v2)] h3 (0, 0)
  obtain ⟨s5, g⟩ := g
  refine ax_isub (pc := 14) (v := v2 - v4) dX2_wakeCards_14 s5 rfl ?_
  refine ax_istore_n (pc := 15) (ls' := [some (.inr (some b)), some (.inl (v2 - v4))]) dX2_wakeCards_15 (Nat.le_of_ble_eq_true rfl) rfl ?_
  refine aw_iload_n (pc := 16) dX2_wakeCards_16 rfl ?_
  refine aw_if_ne (pc := 17) (tgt := 23) dX2_wakeCards_17 (by decide) (fun c6 => ?_) (fun c6 => ?_)
  · replace g := g.1 c6
    refine aw_aload_n (pc := 23) dX2_wakeCards_23 rfl ?_
    refine aw_getr (pc := 24) (r := some (b + 1)) dX2_wakeCards_24 fl_X2_12 (by decide) rfl kb rb_pocket ?_
    refine aw_invV (pc := 27) (md' := m_X1_wakeEach) (ci := 1) (as := []) dX2_wakeCards_27 mo_X1_wakeEach im_X1_wakeEach se_X1_wakeEach ml_X2_87 rfl kb_pocket rfl hd (Nat.le_of_ble_eq_true rfl) (Nat.le_of_ble_eq_true rfl) (Nat.le_of_ble_eq_true rfl) ?_
    refine am_mono g (fun _ h7 _ ok_h7 g => ?_)
    obtain ⟨rfl, ss_h7, g⟩ := g
    replace hL := QS.ss hL ss_h7
    obtain ⟨kb, rb_pocket, lb_pocket, rb_told, lb_told, rb_tally, lb_tally, rb_settings, kb_settings⟩ := id hL
    obtain ⟨kb_pocket, rb_pocket_names, kb_pocket_names, rb_pocket_asksToGo, kb_pocket_asksToGo, rb_pocket_tellings, kb_pocket_tellings, rb_pocket_slots, kb_pocket_slots, rb_pocket_awake, kb_pocket_awake, rb_pocket_answering, kb_pocket_answering⟩ := id lb_pocket
    obtain ⟨kb_told, rb_told_row, kb_told_row⟩ := id lb_told
    have kb_tally := id lb_tally
    show AW m_X2_wakeCards d none Q 30 [some (.inr (some b)), some (.inl (v2 - v4))] [] h7 (0, 0)
    refine aw_iload_n (pc := 30) dX2_wakeCards_30 rfl ?_
    exact ax_ireturn (pc := 31) dX2_wakeCards_31 rfl g (by decide) (by decide)
  · replace g := g.2 c6
    refine aw_bipush (pc := 20) dX2_wakeCards_20 ?_
    exact ax_ireturn (pc := 22) dX2_wakeCards_22 rfl g (by decide) (by decide)
set_option maxRecDepth 100000 in
set_option maxHeartbeats 4000000 in
theorem vc_X2_leaveBehind {d : Nat} {Q : Option Int → AH → Prop} {h : AH} {b : Nat} {x1 x2 : Int} (hd : 1 ≤ d) (hL : QS h b)
  (g :
    AM (d - 1) m_X1_placeOf [(.inr (some (b + 1))), (.inl x1)] h (fun r h1 => 
      ∃ v2, r = some v2 ∧ SS h h1 ∧
      ((¬ v2 = -1 → (
        ((x2 < 0 → (
          Q (some (-2)) h1
        )) ∧
        (¬ (x2 < 0) → (
          ((x2 ≤ 200 → (
            AM (d - 1) m_X1_asksToGo [(.inr (some (b + 1))), (.inl v2)] h1 (fun r h6 => 
              ∃ v7, r = some v7 ∧ SS h1 h6 ∧
              ((¬ v7 = x2 → (
                AM (d - 1) m_X1_leaveAt [(.inr (some (b + 1))), (.inl v2), (.inl x2)] h6 (fun r h9 => 
                  r = none ∧ SS h6 h9 ∧
                  Q (some v7) h9)
              )) ∧
              (¬ (¬ v7 = x2) → (
                Q (some (-5)) h6
              ))))
          )) ∧
          (¬ (x2 ≤ 200) → (
            Q (some (-2)) h1
          )))
        )))
      )) ∧
      (¬ (¬ v2 = -1) → (
        Q (some (-1)) h1
      ))))) :
  AM d m_X2_leaveBehind [(.inr (some b)), (.inl x1), (.inl x2)] h Q := by
  refine am_body mo_X2_leaveBehind (Nat.le_of_ble_eq_true rfl) ?_
  show AW m_X2_leaveBehind d none Q 0 [some (.inr (some b)), some (.inl x1), some (.inl x2), none, none] [] h (0, 0)
  obtain ⟨kb, rb_pocket, lb_pocket, rb_told, lb_told, rb_tally, lb_tally, rb_settings, kb_settings⟩ := id hL
  obtain ⟨kb_pocket, rb_pocket_names, kb_pocket_names, rb_pocket_asksToGo, kb_pocket_asksToGo, rb_pocket_tellings, kb_pocket_tellings, rb_pocket_slots, kb_pocket_slots, rb_pocket_awake, kb_pocket_awake, rb_pocket_answering, kb_pocket_answering⟩ := id lb_pocket
  obtain ⟨kb_told, rb_told_row, kb_told_row⟩ := id lb_told
  have kb_tally := id lb_tally
  refine aw_aload_n (pc := 0) dX2_leaveBehind_0 rfl ?_
  refine aw_getr (pc := 1) (r := some (b + 1)) dX2_leaveBehind_1 fl_X2_12 (by decide) rfl kb rb_pocket ?_
  refine aw_iload_n (pc := 4) dX2_leaveBehind_4 rfl ?_
  refine aw_invV (pc := 5) (md' := m_X1_placeOf) (ci := 1) (as := [(.inl x1)]) dX2_leaveBehind_5 mo_X1_placeOf im_X1_placeOf se_X1_placeOf ml_X2_62 rfl kb_pocket rfl hd (Nat.le_of_ble_eq_true rfl) (Nat.le_of_ble_eq_true rfl) (Nat.le_of_ble_eq_true rfl) ?_
  refine am_mono g (fun _ h1 _ ok_h1 g => ?_)
  obtain ⟨v2, rfl, ss_h1, g⟩ := g
  replace hL := QS.ss hL ss_h1
  obtain ⟨kb, rb_pocket, lb_pocket, rb_told, lb_told, rb_tally, lb_tally, rb_settings, kb_settings⟩ := id hL
  obtain ⟨kb_pocket, rb_pocket_names, kb_pocket_names, rb_pocket_asksToGo, kb_pocket_asksToGo, rb_pocket_tellings, kb_pocket_tellings, rb_pocket_slots, kb_pocket_slots, rb_pocket_awake, kb_pocket_awake, rb_pocket_answering, kb_pocket_answering⟩ := id lb_pocket
  obtain ⟨kb_told, rb_told_row, kb_told_row⟩ := id lb_told
  have kb_tally := id lb_tally
  show AW m_X2_leaveBehind d none Q 8 [some (.inr (some b)), some (.inl x1), some (.inl x2), none, none] [(.inl v2)] h1 (0, 0)
  refine ax_istore_n (pc := 8) (ls' := [some (.inr (some b)), some (.inl x1), some (.inl x2), some (.inl v2), none]) dX2_leaveBehind_8 (Nat.le_of_ble_eq_true rfl) rfl ?_
  refine aw_iload_n (pc := 9) dX2_leaveBehind_9 rfl ?_
  refine aw_iconst (pc := 10) dX2_leaveBehind_10 ?_
  refine aw_icmp_ne (pc := 11) (tgt := 16) dX2_leaveBehind_11 (by decide) (fun c3 => ?_) (fun c3 => ?_)
  · replace g := g.1 c3
    refine aw_iload_n (pc := 16) dX2_leaveBehind_16 rfl ?_
    refine aw_if_lt (pc := 17) (tgt := 27) dX2_leaveBehind_17 (by decide) (fun c4 => ?_) (fun c4 => ?_)
    · replace g := g.1 c4
      refine aw_bipush (pc := 27) dX2_leaveBehind_27 ?_
      exact ax_ireturn (pc := 29) dX2_leaveBehind_29 rfl g (by decide) (by decide)
    · replace g := g.2 c4
      refine aw_iload_n (pc := 20) dX2_leaveBehind_20 rfl ?_
      refine aw_sipush (pc := 21) dX2_leaveBehind_21 ?_
      refine aw_icmp_le (pc := 24) (tgt := 30) dX2_leaveBehind_24 (by decide) (fun c5 => ?_) (fun c5 => ?_)
      · replace g := g.1 c5
        refine aw_aload_n (pc := 30) dX2_leaveBehind_30 rfl ?_
        refine aw_getr (pc := 31) (r := some (b + 1)) dX2_leaveBehind_31 fl_X2_12 (by decide) rfl kb rb_pocket ?_
        refine aw_iload_n (pc := 34) dX2_leaveBehind_34 rfl ?_
        refine aw_invV (pc := 35) (md' := m_X1_asksToGo) (ci := 1) (as := [(.inl v2)]) dX2_leaveBehind_35 mo_X1_asksToGo im_X1_asksToGo se_X1_asksToGo ml_X2_90 rfl kb_pocket rfl hd (Nat.le_of_ble_eq_true rfl) (Nat.le_of_ble_eq_true rfl) (Nat.le_of_ble_eq_true rfl) ?_
        refine am_mono g (fun _ h6 _ ok_h6 g => ?_)
        obtain ⟨v7, rfl, ss_h6, g⟩ := g
        replace hL := QS.ss hL ss_h6
        obtain ⟨kb, rb_pocket, lb_pocket, rb_told, lb_told, rb_tally, lb_tally, rb_settings, kb_settings⟩ := id hL
        obtain ⟨kb_pocket, rb_pocket_names, kb_pocket_names, rb_pocket_asksToGo, kb_pocket_asksToGo, rb_pocket_tellings, kb_pocket_tellings, rb_pocket_slots, kb_pocket_slots, rb_pocket_awake, kb_pocket_awake, rb_pocket_answering, kb_pocket_answering⟩ := id lb_pocket
        obtain ⟨kb_told, rb_told_row, kb_told_row⟩ := id lb_told
        have kb_tally := id lb_tally
        show AW m_X2_leaveBehind d none Q 38 [some (.inr (some b)), some (.inl x1), some (.inl x2), some (.inl v2), none] [(.inl v7)] h6 (0, 0)
        refine ax_istore (pc := 38) (ls' := [some (.inr (some b)), some (.inl x1), some (.inl x2), some (.inl v2), some (.inl v7)]) dX2_leaveBehind_38 (Nat.le_of_ble_eq_true rfl) rfl ?_
        refine aw_iload (pc := 40) dX2_leaveBehind_40 rfl ?_
        refine aw_iload_n (pc := 42) dX2_leaveBehind_42 rfl ?_
        refine aw_icmp_ne (pc := 43) (tgt := 49) dX2_leaveBehind_43 (by decide) (fun c8 => ?_) (fun c8 => ?_)
        · replace g := g.1 c8
          refine aw_aload_n (pc := 49) dX2_leaveBehind_49 rfl ?_
          refine aw_getr (pc := 50) (r := some (b + 1)) dX2_leaveBehind_50 fl_X2_12 (by decide) rfl kb rb_pocket ?_
          refine aw_iload_n (pc := 53) dX2_leaveBehind_53 rfl ?_
          refine aw_iload_n (pc := 54) dX2_leaveBehind_54 rfl ?_
          refine aw_invV (pc := 55) (md' := m_X1_leaveAt) (ci := 1) (as := [(.inl v2), (.inl x2)]) dX2_leaveBehind_55 mo_X1_leaveAt im_X1_leaveAt se_X1_leaveAt ml_X2_93 rfl kb_pocket rfl hd (Nat.le_of_ble_eq_true rfl) (Nat.le_of_ble_eq_true rfl) (Nat.le_of_ble_eq_true rfl) ?_
          refine am_mono g (fun _ h9 _ ok_h9 g => ?_)
          obtain ⟨rfl, ss_h9, g⟩ := g
          replace hL := QS.ss hL ss_h9
          obtain ⟨kb, rb_pocket, lb_pocket, rb_told, lb_told, rb_tally, lb_tally, rb_settings, kb_settings⟩ := id hL
          obtain ⟨kb_pocket, rb_pocket_names, kb_pocket_names, rb_pocket_asksToGo, kb_pocket_asksToGo, rb_pocket_tellings, kb_pocket_tellings, rb_pocket_slots, kb_pocket_slots, rb_pocket_awake, kb_pocket_awake, rb_pocket_answering, kb_pocket_answering⟩ := id lb_pocket
          obtain ⟨kb_told, rb_told_row, kb_told_row⟩ := id lb_told
          have kb_tally := id lb_tally
          show AW m_X2_leaveBehind d none Q 58 [some (.inr (some b)), some (.inl x1), some (.inl x2), some (.inl v2), some (.inl v7)] [] h9 (0, 0)
          refine aw_iload (pc := 58) dX2_leaveBehind_58 rfl ?_
          exact ax_ireturn (pc := 60) dX2_leaveBehind_60 rfl g (by decide) (by decide)
        · replace g := g.2 c8
          refine aw_bipush (pc := 46) dX2_leaveBehind_46 ?_
          exact ax_ireturn (pc := 48) dX2_leaveBehind_48 rfl g (by decide) (by decide)
      · replace g := g.2 c5
        refine aw_bipush (pc := 27) dX2_leaveBehind_27 ?_
        exact ax_ireturn (pc := 29) dX2_leaveBehind_29 rfl g (by decide) (by decide)
  · replace g := g.2 c3
    refine aw_iconst (pc := 14) dX2_leaveBehind_14 ?_
    exact ax_ireturn (pc := 15) dX2_leaveBehind_15 rfl g (by decide) (by decide)
set_option maxRecDepth 100000 in
set_option maxHeartbeats 4000000 in
theorem vc_X2_setTo {d : Nat} {Q : Option Int → AH → Prop} {h : AH} {b : Nat} {x1 x2 : Int} (hL : QS h b)
  (g :
    ((x1 < 0 → (
      Q (some (-1)) h
    )) ∧
    (¬ (x1 < 0) → (
      ((x1 < 2 → (
        ((¬ x1 = 0 → (
          ((x2 < 0 → (
            Q (some (-2)) h
          )) ∧
          (¬ (x2 < 0) → (
            ((x2 ≤ 2 → (
              (0 ≤ x1 ∧ x1 < 2) ∧
              ((¬ hi h (b + 11) x1 = x2 → (
                Q (some (hi h (b + 11) x1)) (up h (b + 11) x1 x2)
              )) ∧
              (¬ (¬ hi h (b + 11) x1 = x2) → (
                Q (some (-5)) h
              )))
            )) ∧
            (¬ (x2 ≤ 2) → (
              Q (some (-2)) h
            )))
          )))
        )) ∧
        (¬ (¬ x1 = 0) → (
          ((x2 < 0 → (
            Q (some (-2)) h
          )) ∧
          (¬ (x2 < 0) → (
            ((x2 ≤ 1 → (
              (0 ≤ x1 ∧ x1 < 2) ∧
              ((¬ hi h (b + 11) x1 = x2 → (
                Q (some (hi h (b + 11) x1)) (up h (b + 11) x1 x2)
              )) ∧
              (¬ (¬ hi h (b + 11) x1 = x2) → (
                Q (some (-5)) h
              )))
            )) ∧
            (¬ (x2 ≤ 1) → (
              Q (some (-2)) h
            )))
          )))
        )))
      )) ∧
      (¬ (x1 < 2) → (
        Q (some (-1)) h
      )))
    )))) :
  AM d m_X2_setTo [(.inr (some b)), (.inl x1), (.inl x2)] h Q := by
  refine am_body mo_X2_setTo (Nat.le_of_ble_eq_true rfl) ?_
  show AW m_X2_setTo d none Q 0 [some (.inr (some b)), some (.inl x1), some (.inl x2), none, none] [] h (0, 0)
  obtain ⟨kb, rb_pocket, lb_pocket, rb_told, lb_told, rb_tally, lb_tally, rb_settings, kb_settings⟩ := id hL
  obtain ⟨kb_pocket, rb_pocket_names, kb_pocket_names, rb_pocket_asksToGo, kb_pocket_asksToGo, rb_pocket_tellings, kb_pocket_tellings, rb_pocket_slots, kb_pocket_slots, rb_pocket_awake, kb_pocket_awake, rb_pocket_answering, kb_pocket_answering⟩ := id lb_pocket
  obtain ⟨kb_told, rb_told_row, kb_told_row⟩ := id lb_told
  have kb_tally := id lb_tally
  refine aw_iload_n (pc := 0) dX2_setTo_0 rfl ?_
  refine aw_if_lt (pc := 1) (tgt := 9) dX2_setTo_1 (by decide) (fun c1 => ?_) (fun c1 => ?_)
  · replace g := g.1 c1
    refine aw_iconst (pc := 9) dX2_setTo_9 ?_
    exact ax_ireturn (pc := 10) dX2_setTo_10 rfl g (by decide) (by decide)
  · replace g := g.2 c1
    refine aw_iload_n (pc := 4) dX2_setTo_4 rfl ?_
    refine aw_iconst (pc := 5) dX2_setTo_5 ?_
    refine aw_icmp_lt (pc := 6) (tgt := 11) dX2_setTo_6 (by decide) (fun c2 => ?_) (fun c2 => ?_)
    · replace g := g.1 c2
      refine aw_iload_n (pc := 11) dX2_setTo_11 rfl ?_
      refine aw_if_ne (pc := 12) (tgt := 19) dX2_setTo_12 (by decide) (fun c3 => ?_) (fun c3 => ?_)
      · replace g := g.1 c3
        refine aw_iconst (pc := 19) dX2_setTo_19 ?_
        refine ax_istore_n (pc := 20) (ls' := [some (.inr (some b)), some (.inl x1), some (.inl x2), some (.inl 2), none]) dX2_setTo_20 (Nat.le_of_ble_eq_true rfl) rfl ?_
        refine aw_iload_n (pc := 21) dX2_setTo_21 rfl ?_
        refine aw_if_lt (pc := 22) (tgt := 30) dX2_setTo_22 (by decide) (fun c4 => ?_) (fun c4 => ?_)
        · replace g := g.1 c4
          refine aw_bipush (pc := 30) dX2_setTo_30 ?_
          exact ax_ireturn (pc := 32) dX2_setTo_32 rfl g (by decide) (by decide)
        · replace g := g.2 c4
          refine aw_iload_n (pc := 25) dX2_setTo_25 rfl ?_
          refine aw_iload_n (pc := 26) dX2_setTo_26 rfl ?_
          refine aw_icmp_le (pc := 27) (tgt := 33) dX2_setTo_27 (by decide) (fun c5 => ?_) (fun c5 => ?_)
          · replace g := g.1 c5
            refine aw_aload_n (pc := 33) dX2_setTo_33 rfl ?_
            refine aw_getr (pc := 34) (r := some (b + 11)) dX2_setTo_34 fl_X2_32 (by decide) rfl kb rb_settings ?_
            refine aw_iload_n (pc := 37) dX2_setTo_37 rfl ?_
            obtain ⟨s6, g⟩ := g
            refine ax_iaload (pc := 38) (n := 2) (v := hi h (b + 11) x1) dX2_setTo_38 kb_settings s6 rfl ?_
            refine ax_istore (pc := 39) (ls' := [some (.inr (some b)), some (.inl x1), some (.inl x2), some (.inl 2), some (.inl (hi h (b + 11) x1))]) dX2_setTo_39 (Nat.le_of_ble_eq_true rfl) rfl ?_
            refine aw_iload (pc := 41) dX2_setTo_41 rfl ?_
            refine aw_iload_n (pc := 43) dX2_setTo_43 rfl ?_
            refine aw_icmp_ne (pc := 44) (tgt := 50) dX2_setTo_44 (by decide) (fun c7 => ?_) (fun c7 => ?_)
            · replace g := g.1 c7
              refine aw_aload_n (pc := 50) dX2_setTo_50 rfl ?_
              refine aw_getr (pc := 51) (r := some (b + 11)) dX2_setTo_51 fl_X2_32 (by decide) rfl kb rb_settings ?_
              refine aw_iload_n (pc := 54) dX2_setTo_54 rfl ?_
              refine aw_iload_n (pc := 55) dX2_setTo_55 rfl ?_
              refine ax_iastore (pc := 56) (n := 2) dX2_setTo_56 kb_settings s6 ?_
              refine aw_iload (pc := 57) dX2_setTo_57 rfl ?_
              exact ax_ireturn (pc := 59) dX2_setTo_59 rfl g (by decide) (by decide)
            · replace g := g.2 c7
              refine aw_bipush (pc := 47) dX2_setTo_47 ?_
              exact ax_ireturn (pc := 49) dX2_setTo_49 rfl g (by decide) (by decide)
          · replace g := g.2 c5
            refine aw_bipush (pc := 30) dX2_setTo_30 ?_
            exact ax_ireturn (pc := 32) dX2_setTo_32 rfl g (by decide) (by decide)
      · replace g := g.2 c3
        refine aw_iconst (pc := 15) dX2_setTo_15 ?_
        refine aw_goto (pc := 16) (tgt := 20) dX2_setTo_16 (by decide) ?_
        refine ax_istore_n (pc := 20) (ls' := [some (.inr (some b)), some (.inl x1), some (.inl x2), some (.inl 1), none]) dX2_setTo_20 (Nat.le_of_ble_eq_true rfl) rfl ?_
        refine aw_iload_n (pc := 21) dX2_setTo_21 rfl ?_
        refine aw_if_lt (pc := 22) (tgt := 30) dX2_setTo_22 (by decide) (fun c8 => ?_) (fun c8 => ?_)
        · replace g := g.1 c8
          refine aw_bipush (pc := 30) dX2_setTo_30 ?_
          exact ax_ireturn (pc := 32) dX2_setTo_32 rfl g (by decide) (by decide)
        · replace g := g.2 c8
          refine aw_iload_n (pc := 25) dX2_setTo_25 rfl ?_
          refine aw_iload_n (pc := 26) dX2_setTo_26 rfl ?_
          refine aw_icmp_le (pc := 27) (tgt := 33) dX2_setTo_27 (by decide) (fun c9 => ?_) (fun c9 => ?_)
          · replace g := g.1 c9
            refine aw_aload_n (pc := 33) dX2_setTo_33 rfl ?_
            refine aw_getr (pc := 34) (r := some (b + 11)) dX2_setTo_34 fl_X2_32 (by decide) rfl kb rb_settings ?_
            refine aw_iload_n (pc := 37) dX2_setTo_37 rfl ?_
            obtain ⟨s10, g⟩ := g
            refine ax_iaload (pc := 38) (n := 2) (v := hi h (b + 11) x1) dX2_setTo_38 kb_settings s10 rfl ?_
            refine ax_istore (pc := 39) (ls' := [some (.inr (some b)), some (.inl x1), some (.inl x2), some (.inl 1), some (.inl (hi h (b + 11) x1))]) dX2_setTo_39 (Nat.le_of_ble_eq_true rfl) rfl ?_
            refine aw_iload (pc := 41) dX2_setTo_41 rfl ?_
            refine aw_iload_n (pc := 43) dX2_setTo_43 rfl ?_
            refine aw_icmp_ne (pc := 44) (tgt := 50) dX2_setTo_44 (by decide) (fun c11 => ?_) (fun c11 => ?_)
            · replace g := g.1 c11
              refine aw_aload_n (pc := 50) dX2_setTo_50 rfl ?_
              refine aw_getr (pc := 51) (r := some (b + 11)) dX2_setTo_51 fl_X2_32 (by decide) rfl kb rb_settings ?_
              refine aw_iload_n (pc := 54) dX2_setTo_54 rfl ?_
              refine aw_iload_n (pc := 55) dX2_setTo_55 rfl ?_
              refine ax_iastore (pc := 56) (n := 2) dX2_setTo_56 kb_settings s10 ?_
              refine aw_iload (pc := 57) dX2_setTo_57 rfl ?_
              exact ax_ireturn (pc := 59) dX2_setTo_59 rfl g (by decide) (by decide)
            · replace g := g.2 c11
              refine aw_bipush (pc := 47) dX2_setTo_47 ?_
              exact ax_ireturn (pc := 49) dX2_setTo_49 rfl g (by decide) (by decide)
          · replace g := g.2 c9
            refine aw_bipush (pc := 30) dX2_setTo_30 ?_
            exact ax_ireturn (pc := 32) dX2_setTo_32 rfl g (by decide) (by decide)
    · replace g := g.2 c2
      refine aw_iconst (pc := 9) dX2_setTo_9 ?_
      exact ax_ireturn (pc := 10) dX2_setTo_10 rfl g (by decide) (by decide)
set_option maxRecDepth 100000 in
set_option maxHeartbeats 4000000 in
theorem vc_X2_valueOf {d : Nat} {Q : Option Int → AH → Prop} {h : AH} {b : Nat} {x1 : Int} (hL : QS h b)
  (g :
    ((x1 < 0 → (
      Q (some 0) h
    )) ∧
    (¬ (x1 < 0) → (
      ((2 ≤ x1 → (
        Q (some 0) h
      )) ∧
      (¬ (2 ≤ x1) → (
        (0 ≤ x1 ∧ x1 < 2) ∧
        Q (some (hi h (b + 11) x1)) h
      )))
    )))) :
  AM d m_X2_valueOf [(.inr (some b)), (.inl x1)] h Q := by
  refine am_body mo_X2_valueOf (Nat.le_of_ble_eq_true rfl) ?_
  show AW m_X2_valueOf d none Q 0 [some (.inr (some b)), some (.inl x1)] [] h (0, 0)
  obtain ⟨kb, rb_pocket, lb_pocket, rb_told, lb_told, rb_tally, lb_tally, rb_settings, kb_settings⟩ := id hL
  obtain ⟨kb_pocket, rb_pocket_names, kb_pocket_names, rb_pocket_asksToGo, kb_pocket_asksToGo, rb_pocket_tellings, kb_pocket_tellings, rb_pocket_slots, kb_pocket_slots, rb_pocket_awake, kb_pocket_awake, rb_pocket_answering, kb_pocket_answering⟩ := id lb_pocket
  obtain ⟨kb_told, rb_told_row, kb_told_row⟩ := id lb_told
  have kb_tally := id lb_tally
  refine aw_iload_n (pc := 0) dX2_valueOf_0 rfl ?_
  refine aw_if_lt (pc := 1) (tgt := 18) dX2_valueOf_1 (by decide) (fun c1 => ?_) (fun c1 => ?_)
  · replace g := g.1 c1
    refine aw_iconst (pc := 18) dX2_valueOf_18 ?_
    exact ax_ireturn (pc := 19) dX2_valueOf_19 rfl g (by decide) (by decide)
  · replace g := g.2 c1
    refine aw_iload_n (pc := 4) dX2_valueOf_4 rfl ?_
    refine aw_iconst (pc := 5) dX2_valueOf_5 ?_
    refine aw_icmp_ge (pc := 6) (tgt := 18) dX2_valueOf_6 (by decide) (fun c2 => ?_) (fun c2 => ?_)
    · replace g := g.1 c2
      refine aw_iconst (pc := 18) dX2_valueOf_18 ?_
      exact ax_ireturn (pc := 19) dX2_valueOf_19 rfl g (by decide) (by decide)
    · replace g := g.2 c2
      refine aw_aload_n (pc := 9) dX2_valueOf_9 rfl ?_
      refine aw_getr (pc := 10) (r := some (b + 11)) dX2_valueOf_10 fl_X2_32 (by decide) rfl kb rb_settings ?_
      refine aw_iload_n (pc := 13) dX2_valueOf_13 rfl ?_
      obtain ⟨s3, g⟩ := g
      refine ax_iaload (pc := 14) (n := 2) (v := hi h (b + 11) x1) dX2_valueOf_14 kb_settings s3 rfl ?_
      refine aw_goto (pc := 15) (tgt := 19) dX2_valueOf_15 (by decide) ?_
      exact ax_ireturn (pc := 19) dX2_valueOf_19 rfl g (by decide) (by decide)
set_option maxRecDepth 100000 in
set_option maxHeartbeats 4000000 in
theorem vc_X2_shuffleTo {d : Nat} {Q : Option Int → AH → Prop} {h : AH} {b : Nat} {x1 : Int} (hL : QS h b)
  (g :
    ((0 ≤ x1 → (
      ((¬ hi h b 4 = x1 → (
        Q (some (hi h b 4)) (up h b 4 x1)
      )) ∧
      (¬ (¬ hi h b 4 = x1) → (
        Q (some (-5)) h
      )))
    )) ∧
    (¬ (0 ≤ x1) → (
      Q (some (-2)) h
    )))) :
  AM d m_X2_shuffleTo [(.inr (some b)), (.inl x1)] h Q := by
  refine am_body mo_X2_shuffleTo (Nat.le_of_ble_eq_true rfl) ?_
  show AW m_X2_shuffleTo d none Q 0 [some (.inr (some b)), some (.inl x1), none] [] h (0, 0)
  obtain ⟨kb, rb_pocket, lb_pocket, rb_told, lb_told, rb_tally, lb_tally, rb_settings, kb_settings⟩ := id hL
  obtain ⟨kb_pocket, rb_pocket_names, kb_pocket_names, rb_pocket_asksToGo, kb_pocket_asksToGo, rb_pocket_tellings, kb_pocket_tellings, rb_pocket_slots, kb_pocket_slots, rb_pocket_awake, kb_pocket_awake, rb_pocket_answering, kb_pocket_answering⟩ := id lb_pocket
  obtain ⟨kb_told, rb_told_row, kb_told_row⟩ := id lb_told
  have kb_tally := id lb_tally
  refine aw_iload_n (pc := 0) dX2_shuffleTo_0 rfl ?_
  refine aw_if_ge (pc := 1) (tgt := 7) dX2_shuffleTo_1 (by decide) (fun c1 => ?_) (fun c1 => ?_)
  · replace g := g.1 c1
    refine aw_aload_n (pc := 7) dX2_shuffleTo_7 rfl ?_
    refine ax_geti (pc := 8) (v := hi h b 4) dX2_shuffleTo_8 fl_X2_36 (by decide) rfl kb rfl ?_
    refine ax_istore_n (pc := 11) (ls' := [some (.inr (some b)), some (.inl x1), some (.inl (hi h b 4))]) dX2_shuffleTo_11 (Nat.le_of_ble_eq_true rfl) rfl ?_
    refine aw_iload_n (pc := 12) dX2_shuffleTo_12 rfl ?_
    refine aw_iload_n (pc := 13) dX2_shuffleTo_13 rfl ?_
    refine aw_icmp_ne (pc := 14) (tgt := 20) dX2_shuffleTo_14 (by decide) (fun c2 => ?_) (fun c2 => ?_)
    · replace g := g.1 c2
      refine aw_aload_n (pc := 20) dX2_shuffleTo_20 rfl ?_
      refine aw_iload_n (pc := 21) dX2_shuffleTo_21 rfl ?_
      refine ax_puti (pc := 22) dX2_shuffleTo_22 fl_X2_36 (by decide) rfl rfl rfl kb ?_
      refine aw_iload_n (pc := 25) dX2_shuffleTo_25 rfl ?_
      exact ax_ireturn (pc := 26) dX2_shuffleTo_26 rfl g (by decide) (by decide)
    · replace g := g.2 c2
      refine aw_bipush (pc := 17) dX2_shuffleTo_17 ?_
      exact ax_ireturn (pc := 19) dX2_shuffleTo_19 rfl g (by decide) (by decide)
  · replace g := g.2 c1
    refine aw_bipush (pc := 4) dX2_shuffleTo_4 ?_
    exact ax_ireturn (pc := 6) dX2_shuffleTo_6 rfl g (by decide) (by decide)
set_option maxRecDepth 100000 in
set_option maxHeartbeats 4000000 in
theorem vc_X2_forgetTold {d : Nat} {Q : Option Int → AH → Prop} {h : AH} {b : Nat} (hd : 1 ≤ d) (hL : QS h b)
  (g :
    AM (d - 1) m_X5_names [(.inr (some (b + 8)))] h (fun r h1 => 
      ∃ v2, r = some v2 ∧ SS h h1 ∧
      ((¬ v2 = 0 → (
        AM (d - 1) m_X5_empty [(.inr (some (b + 8)))] h1 (fun r h4 => 
          r = none ∧ SS h1 h4 ∧
          Q (some v2) h4)
      )) ∧
      (¬ (¬ v2 = 0) → (
        Q (some (-5)) h1
      ))))) :
  AM d m_X2_forgetTold [(.inr (some b))] h Q := by
  refine am_body mo_X2_forgetTold (Nat.le_of_ble_eq_true rfl) ?_
  show AW m_X2_forgetTold d none Q 0 [some (.inr (some b)), none] [] h (0, 0)
  obtain ⟨kb, rb_pocket, lb_pocket, rb_told, lb_told, rb_tally, lb_tally, rb_settings, kb_settings⟩ := id hL
  obtain ⟨kb_pocket, rb_pocket_names, kb_pocket_names, rb_pocket_asksToGo, kb_pocket_asksToGo, rb_pocket_tellings, kb_pocket_tellings, rb_pocket_slots, kb_pocket_slots, rb_pocket_awake, kb_pocket_awake, rb_pocket_answering, kb_pocket_answering⟩ := id lb_pocket
  obtain ⟨kb_told, rb_told_row, kb_told_row⟩ := id lb_told
  have kb_tally := id lb_tally
  refine aw_aload_n (pc := 0) dX2_forgetTold_0 rfl ?_
  refine aw_getr (pc := 1) (r := some (b + 8)) dX2_forgetTold_1 fl_X2_21 (by decide) rfl kb rb_told ?_
  refine aw_invV (pc := 4) (md' := m_X5_names) (ci := 5) (as := []) dX2_forgetTold_4 mo_X5_names im_X5_names se_X5_names ml_X2_97 rfl kb_told rfl hd (Nat.le_of_ble_eq_true rfl) (Nat.le_of_ble_eq_true rfl) (Nat.le_of_ble_eq_true rfl) ?_
  refine am_mono g (fun _ h1 _ ok_h1 g => ?_)
  obtain ⟨v2, rfl, ss_h1, g⟩ := g
  replace hL := QS.ss hL ss_h1
  obtain ⟨kb, rb_pocket, lb_pocket, rb_told, lb_told, rb_tally, lb_tally, rb_settings, kb_settings⟩ := id hL
  obtain ⟨kb_pocket, rb_pocket_names, kb_pocket_names, rb_pocket_asksToGo, kb_pocket_asksToGo, rb_pocket_tellings, kb_pocket_tellings, rb_pocket_slots, kb_pocket_slots, rb_pocket_awake, kb_pocket_awake, rb_pocket_answering, kb_pocket_answering⟩ := id lb_pocket
  obtain ⟨kb_told, rb_told_row, kb_told_row⟩ := id lb_told
  have kb_tally := id lb_tally
  show AW m_X2_forgetTold d none Q 7 [some (.inr (some b)), none] [(.inl v2)] h1 (0, 0)
  refine ax_istore_n (pc := 7) (ls' := [some (.inr (some b)), some (.inl v2)]) dX2_forgetTold_7 (Nat.le_of_ble_eq_true rfl) rfl ?_
  refine aw_iload_n (pc := 8) dX2_forgetTold_8 rfl ?_
  refine aw_if_ne (pc := 9) (tgt := 15) dX2_forgetTold_9 (by decide) (fun c3 => ?_) (fun c3 => ?_)
  · replace g := g.1 c3
    refine aw_aload_n (pc := 15) dX2_forgetTold_15 rfl ?_
    refine aw_getr (pc := 16) (r := some (b + 8)) dX2_forgetTold_16 fl_X2_21 (by decide) rfl kb rb_told ?_
    refine aw_invV (pc := 19) (md' := m_X5_empty) (ci := 5) (as := []) dX2_forgetTold_19 mo_X5_empty im_X5_empty se_X5_empty ml_X2_100 rfl kb_told rfl hd (Nat.le_of_ble_eq_true rfl) (Nat.le_of_ble_eq_true rfl) (Nat.le_of_ble_eq_true rfl) ?_
    refine am_mono g (fun _ h4 _ ok_h4 g => ?_)
    obtain ⟨rfl, ss_h4, g⟩ := g
    replace hL := QS.ss hL ss_h4
    obtain ⟨kb, rb_pocket, lb_pocket, rb_told, lb_told, rb_tally, lb_tally, rb_settings, kb_settings⟩ := id hL
    obtain ⟨kb_pocket, rb_pocket_names, kb_pocket_names, rb_pocket_asksToGo, kb_pocket_asksToGo, rb_pocket_tellings, kb_pocket_tellings, rb_pocket_slots, kb_pocket_slots, rb_pocket_awake, kb_pocket_awake, rb_pocket_answering, kb_pocket_answering⟩ := id lb_pocket
    obtain ⟨kb_told, rb_told_row, kb_told_row⟩ := id lb_told
    have kb_tally := id lb_tally
    show AW m_X2_forgetTold d none Q 22 [some (.inr (some b)), some (.inl v2)] [] h4 (0, 0)
    refine aw_iload_n (pc := 22) dX2_forgetTold_22 rfl ?_
    exact ax_ireturn (pc := 23) dX2_forgetTold_23 rfl g (by decide) (by decide)
  · replace g := g.2 c3
    refine aw_bipush (pc := 12) dX2_forgetTold_12 ?_
    exact ax_ireturn (pc := 14) dX2_forgetTold_14 rfl g (by decide) (by decide)
set_option maxRecDepth 100000 in
set_option maxHeartbeats 4000000 in
theorem vc_X2_askFor {d : Nat} {Q : Option Int → AH → Prop} {h : AH} {b : Nat} {x1 x2 : Int} (hd : 1 ≤ d) (hL : QS h b)
  (g :
    AM (d - 1) m_X1_letAnswer [(.inr (some (b + 1))), (.inl x1), (.inl x2)] h (fun r h1 => 
      r = none ∧ SS h h1 ∧
      AM (d - 1) m_X2_hear [(.inr (some b))] h1 (fun r h2 => 
        ∃ v3, r = some v3 ∧ SS h1 h2 ∧
        (rg (4 + x1)) ∧
        ((¬ v3 = 300 → (
          (rg (8 - x1)) ∧
          (rg ((4 + x1) + ((if 1 < 8 - x1 then 8 - x1 else 1)))) ∧
          AM (d - 1) m_X1_passAsk [(.inr (some (b + 1)))] (up (up h2 (b + 10) 0 (w ((hi h2 (b + 10) 0) + 1))) (b + 10) 5 (w ((hi h2 (b + 10) 5) + ((4 + x1) + ((if 1 < 8 - x1 then 8 - x1 else 1)))))) (fun r h8 => 
            ∃ v9, r = some v9 ∧ SS (up (up h2 (b + 10) 0 (w ((hi h2 (b + 10) 0) + 1))) (b + 10) 5 (w ((hi h2 (b + 10) 5) + ((4 + x1) + ((if 1 < 8 - x1 then 8 - x1 else 1)))))) h8 ∧
            Q (some v3) (up h8 (b + 10) 7 (w ((hi h2 (b + 10) 7) + v9))))
        )) ∧
        (¬ (¬ v3 = 300) → (
          (rg ((4 + x1) + 2)) ∧
          AM (d - 1) m_X1_passAsk [(.inr (some (b + 1)))] (up (up h2 (b + 10) 0 (w ((hi h2 (b + 10) 0) + 1))) (b + 10) 5 (w ((hi h2 (b + 10) 5) + ((4 + x1) + 2)))) (fun r h11 => 
            ∃ v12, r = some v12 ∧ SS (up (up h2 (b + 10) 0 (w ((hi h2 (b + 10) 0) + 1))) (b + 10) 5 (w ((hi h2 (b + 10) 5) + ((4 + x1) + 2)))) h11 ∧
            Q (some v3) (up h11 (b + 10) 7 (w ((hi h2 (b + 10) 7) + v12))))
        )))))) :
  AM d m_X2_askFor [(.inr (some b)), (.inl x1), (.inl x2)] h Q := by
  refine am_body mo_X2_askFor (Nat.le_of_ble_eq_true rfl) ?_
  show AW m_X2_askFor d none Q 0 [some (.inr (some b)), some (.inl x1), some (.inl x2), none] [] h (0, 0)
  obtain ⟨kb, rb_pocket, lb_pocket, rb_told, lb_told, rb_tally, lb_tally, rb_settings, kb_settings⟩ := id hL
  obtain ⟨kb_pocket, rb_pocket_names, kb_pocket_names, rb_pocket_asksToGo, kb_pocket_asksToGo, rb_pocket_tellings, kb_pocket_tellings, rb_pocket_slots, kb_pocket_slots, rb_pocket_awake, kb_pocket_awake, rb_pocket_answering, kb_pocket_answering⟩ := id lb_pocket
  obtain ⟨kb_told, rb_told_row, kb_told_row⟩ := id lb_told
  have kb_tally := id lb_tally
  refine aw_aload_n (pc := 0) dX2_askFor_0 rfl ?_
  refine aw_getr (pc := 1) (r := some (b + 1)) dX2_askFor_1 fl_X2_12 (by decide) rfl kb rb_pocket ?_
  refine aw_iload_n (pc := 4) dX2_askFor_4 rfl ?_
  refine aw_iload_n (pc := 5) dX2_askFor_5 rfl ?_
  refine aw_invV (pc := 6) (md' := m_X1_letAnswer) (ci := 1) (as := [(.inl x1), (.inl x2)]) dX2_askFor_6 mo_X1_letAnswer im_X1_letAnswer se_X1_letAnswer ml_X2_103 rfl kb_pocket rfl hd (Nat.le_of_ble_eq_true rfl) (Nat.le_of_ble_eq_true rfl) (Nat.le_of_ble_eq_true rfl) ?_
  refine am_mono g (fun _ h1 _ ok_h1 g => ?_)
  obtain ⟨rfl, ss_h1, g⟩ := g
  replace hL := QS.ss hL ss_h1
  obtain ⟨kb, rb_pocket, lb_pocket, rb_told, lb_told, rb_tally, lb_tally, rb_settings, kb_settings⟩ := id hL
  obtain ⟨kb_pocket, rb_pocket_names, kb_pocket_names, rb_pocket_asksToGo, kb_pocket_asksToGo, rb_pocket_tellings, kb_pocket_tellings, rb_pocket_slots, kb_pocket_slots, rb_pocket_awake, kb_pocket_awake, rb_pocket_answering, kb_pocket_answering⟩ := id lb_pocket
  obtain ⟨kb_told, rb_told_row, kb_told_row⟩ := id lb_told
  have kb_tally := id lb_tally
  show AW m_X2_askFor d none Q 9 [some (.inr (some b)), some (.inl x1), some (.inl x2), none] [] h1 (0, 0)
  refine aw_aload_n (pc := 9) dX2_askFor_9 rfl ?_
  refine aw_invV (pc := 10) (md' := m_X2_hear) (ci := 2) (as := []) dX2_askFor_10 mo_X2_hear im_X2_hear se_X2_hear ml_X2_106 rfl kb rfl hd (Nat.le_of_ble_eq_true rfl) (Nat.le_of_ble_eq_true rfl) (Nat.le_of_ble_eq_true rfl) ?_
  refine am_mono g (fun _ h2 _ ok_h2 g => ?_)
  obtain ⟨v3, rfl, ss_h2, g⟩ := g
  replace hL := QS.ss hL ss_h2
  obtain ⟨kb, rb_pocket, lb_pocket, rb_told, lb_told, rb_tally, lb_tally, rb_settings, kb_settings⟩ := id hL
  obtain ⟨kb_pocket, rb_pocket_names, kb_pocket_names, rb_pocket_asksToGo, kb_pocket_asksToGo, rb_pocket_tellings, kb_pocket_tellings, rb_pocket_slots, kb_pocket_slots, rb_pocket_awake, kb_pocket_awake, rb_pocket_answering, kb_pocket_answering⟩ := id lb_pocket
  obtain ⟨kb_told, rb_told_row, kb_told_row⟩ := id lb_told
  have kb_tally := id lb_tally
  show AW m_X2_askFor d none Q 13 [some (.inr (some b)), some (.inl x1), some (.inl x2), none] [(.inl v3)] h2 (0, 0)
  refine ax_istore_n (pc := 13) (ls' := [some (.inr (some b)), some (.inl x1), some (.inl x2), some (.inl v3)]) dX2_askFor_13 (Nat.le_of_ble_eq_true rfl) rfl ?_
  refine aw_aload_n (pc := 14) dX2_askFor_14 rfl ?_
  refine aw_getr (pc := 15) (r := some (b + 10)) dX2_askFor_15 fl_X2_28 (by decide) rfl kb rb_tally ?_
  refine aw_dup (pc := 18) dX2_askFor_18 ?_
  refine ax_geti (pc := 19) (v := hi h2 (b + 10) 0) dX2_askFor_19 fl_X2_109 (by decide) rfl kb_tally rfl ?_
  refine aw_iconst (pc := 22) dX2_askFor_22 ?_
  refine aw_iadd_w (pc := 23) dX2_askFor_23 ?_
  refine ax_puti (pc := 24) dX2_askFor_24 fl_X2_109 (by decide) rfl rfl rfl kb_tally ?_
  refine aw_aload_n (pc := 27) dX2_askFor_27 rfl ?_
  refine aw_getr (pc := 28) (r := some (b + 10)) dX2_askFor_28 fl_X2_28 (by decide) rfl (hkU kb) (hrU rb_tally) ?_
  refine aw_dup (pc := 31) dX2_askFor_31 ?_
  refine ax_geti (pc := 32) (v := hi h2 (b + 10) 5) dX2_askFor_32 fl_X2_112 (by decide) rfl (hkU kb_tally) (hiN (Or.inr (by decide)) rfl) ?_
  refine aw_iconst (pc := 35) dX2_askFor_35 ?_
  refine aw_iload_n (pc := 36) dX2_askFor_36 rfl ?_
  obtain ⟨s4, g⟩ := g
  refine ax_iadd (pc := 37) (v := 4 + x1) dX2_askFor_37 s4 rfl ?_
  refine aw_iload_n (pc := 38) dX2_askFor_38 rfl ?_
  refine aw_sipush (pc := 39) dX2_askFor_39 ?_
  refine aw_icmp_ne (pc := 42) (tgt := 49) dX2_askFor_42 (by decide) (fun c5 => ?_) (fun c5 => ?_)
  · replace g := g.1 c5
    refine aw_iconst (pc := 49) dX2_askFor_49 ?_
    refine aw_bipush (pc := 50) dX2_askFor_50 ?_
    refine aw_iload_n (pc := 52) dX2_askFor_52 rfl ?_
    obtain ⟨s6, g⟩ := g
    refine ax_isub (pc := 53) (v := 8 - x1) dX2_askFor_53 s6 rfl ?_
    refine aw_max (pc := 54) dX2_askFor_54 ml_X2_115 sm_max ii_Math oc_max hd (Nat.le_of_ble_eq_true rfl) (Nat.le_of_ble_eq_true rfl) (Nat.le_of_ble_eq_true rfl) ?_
    obtain ⟨s7, g⟩ := g
    refine ax_iadd (pc := 57) (v := (4 + x1) + ((if 1 < 8 - x1 then 8 - x1 else 1))) dX2_askFor_57 s7 rfl ?_
    refine aw_iadd_w (pc := 58) dX2_askFor_58 ?_
    refine ax_puti (pc := 59) dX2_askFor_59 fl_X2_112 (by decide) rfl rfl rfl (hkU kb_tally) ?_
    refine aw_aload_n (pc := 62) dX2_askFor_62 rfl ?_
    refine aw_getr (pc := 63) (r := some (b + 10)) dX2_askFor_63 fl_X2_28 (by decide) rfl (hkU (hkU kb)) (hrU (hrU rb_tally)) ?_
    refine aw_dup (pc := 66) dX2_askFor_66 ?_
    refine ax_geti (pc := 67) (v := hi h2 (b + 10) 7) dX2_askFor_67 fl_X2_121 (by decide) rfl (hkU (hkU kb_tally)) (hiN (Or.inr (by decide)) (hiN (Or.inr (by decide)) rfl)) ?_
    refine aw_aload_n (pc := 70) dX2_askFor_70 rfl ?_
    refine aw_getr (pc := 71) (r := some (b + 1)) dX2_askFor_71 fl_X2_12 (by decide) rfl (hkU (hkU kb)) (hrU (hrU rb_pocket)) ?_
    refine aw_invV (pc := 74) (md' := m_X1_passAsk) (ci := 1) (as := []) dX2_askFor_74 mo_X1_passAsk im_X1_passAsk se_X1_passAsk ml_X2_124 rfl (hkU (hkU kb_pocket)) rfl hd (Nat.le_of_ble_eq_true rfl) (Nat.le_of_ble_eq_true rfl) (Nat.le_of_ble_eq_true rfl) ?_
    refine am_mono g (fun _ h8 _ ok_h8 g => ?_)
    obtain ⟨v9, rfl, ss_h8, g⟩ := g
    replace hL := QS.ss hL (SS.tr (SS.up (SS.up SS.rf)) ss_h8)
    obtain ⟨kb, rb_pocket, lb_pocket, rb_told, lb_told, rb_tally, lb_tally, rb_settings, kb_settings⟩ := id hL
    obtain ⟨kb_pocket, rb_pocket_names, kb_pocket_names, rb_pocket_asksToGo, kb_pocket_asksToGo, rb_pocket_tellings, kb_pocket_tellings, rb_pocket_slots, kb_pocket_slots, rb_pocket_awake, kb_pocket_awake, rb_pocket_answering, kb_pocket_answering⟩ := id lb_pocket
    obtain ⟨kb_told, rb_told_row, kb_told_row⟩ := id lb_told
    have kb_tally := id lb_tally
    show AW m_X2_askFor d none Q 77 [some (.inr (some b)), some (.inl x1), some (.inl x2), some (.inl v3)] [(.inl v9), (.inl (hi h2 (b + 10) 7)), (.inr (some (b + 10)))] h8 (0, 0)
    refine aw_iadd_w (pc := 77) dX2_askFor_77 ?_
    refine ax_puti (pc := 78) dX2_askFor_78 fl_X2_121 (by decide) rfl rfl rfl kb_tally ?_
    refine aw_iload_n (pc := 81) dX2_askFor_81 rfl ?_
    exact ax_ireturn (pc := 82) dX2_askFor_82 rfl g (by decide) (by decide)
  · replace g := g.2 c5
    refine aw_iconst (pc := 45) dX2_askFor_45 ?_
    refine aw_goto (pc := 46) (tgt := 57) dX2_askFor_46 (by decide) ?_
    obtain ⟨s10, g⟩ := g
    refine ax_iadd (pc := 57) (v := (4 + x1) + 2) dX2_askFor_57 s10 rfl ?_
    refine aw_iadd_w (pc := 58) dX2_askFor_58 ?_
    refine ax_puti (pc := 59) dX2_askFor_59 fl_X2_112 (by decide) rfl rfl rfl (hkU kb_tally) ?_
    refine aw_aload_n (pc := 62) dX2_askFor_62 rfl ?_
    refine aw_getr (pc := 63) (r := some (b + 10)) dX2_askFor_63 fl_X2_28 (by decide) rfl (hkU (hkU kb)) (hrU (hrU rb_tally)) ?_
    refine aw_dup (pc := 66) dX2_askFor_66 ?_
    refine ax_geti (pc := 67) (v := hi h2 (b + 10) 7) dX2_askFor_67 fl_X2_121 (by decide) rfl (hkU (hkU kb_tally)) (hiN (Or.inr (by decide)) (hiN (Or.inr (by decide)) rfl)) ?_
    refine aw_aload_n (pc := 70) dX2_askFor_70 rfl ?_
    refine aw_getr (pc := 71) (r := some (b + 1)) dX2_askFor_71 fl_X2_12 (by decide) rfl (hkU (hkU kb)) (hrU (hrU rb_pocket)) ?_
    refine aw_invV (pc := 74) (md' := m_X1_passAsk) (ci := 1) (as := []) dX2_askFor_74 mo_X1_passAsk im_X1_passAsk se_X1_passAsk ml_X2_124 rfl (hkU (hkU kb_pocket)) rfl hd (Nat.le_of_ble_eq_true rfl) (Nat.le_of_ble_eq_true rfl) (Nat.le_of_ble_eq_true rfl) ?_
    refine am_mono g (fun _ h11 _ ok_h11 g => ?_)
    obtain ⟨v12, rfl, ss_h11, g⟩ := g
    replace hL := QS.ss hL (SS.tr (SS.up (SS.up SS.rf)) ss_h11)
    obtain ⟨kb, rb_pocket, lb_pocket, rb_told, lb_told, rb_tally, lb_tally, rb_settings, kb_settings⟩ := id hL
    obtain ⟨kb_pocket, rb_pocket_names, kb_pocket_names, rb_pocket_asksToGo, kb_pocket_asksToGo, rb_pocket_tellings, kb_pocket_tellings, rb_pocket_slots, kb_pocket_slots, rb_pocket_awake, kb_pocket_awake, rb_pocket_answering, kb_pocket_answering⟩ := id lb_pocket
    obtain ⟨kb_told, rb_told_row, kb_told_row⟩ := id lb_told
    have kb_tally := id lb_tally
    show AW m_X2_askFor d none Q 77 [some (.inr (some b)), some (.inl x1), some (.inl x2), some (.inl v3)] [(.inl v12), (.inl (hi h2 (b + 10) 7)), (.inr (some (b + 10)))] h11 (0, 0)
    refine aw_iadd_w (pc := 77) dX2_askFor_77 ?_
    refine ax_puti (pc := 78) dX2_askFor_78 fl_X2_121 (by decide) rfl rfl rfl kb_tally ?_
    refine aw_iload_n (pc := 81) dX2_askFor_81 rfl ?_
    exact ax_ireturn (pc := 82) dX2_askFor_82 rfl g (by decide) (by decide)
set_option maxRecDepth 100000 in
set_option maxHeartbeats 4000000 in
theorem vc_X2_hear {d : Nat} {Q : Option Int → AH → Prop} {h : AH} {b : Nat} (hd : 1 ≤ d) (hL : QS h b)
  (g :
    AM (d - 1) m_X1_firstAnswering [(.inr (some (b + 1)))] h (fun r h1 => 
      ∃ v2, r = some v2 ∧ SS h h1 ∧
      ((¬ v2 = -1 → (
        AM (d - 1) m_X1_nameAt [(.inr (some (b + 1))), (.inl v2)] h1 (fun r h4 => 
          ∃ v5, r = some v5 ∧ SS h1 h4 ∧
          AM (d - 1) m_X1_differencesFrom [(.inr (some (b + 1))), (.inl v5)] h4 (fun r h6 => 
            ∃ v7, r = some v7 ∧ SS h4 h6 ∧
            ((v7 = 0 → (
              AM (d - 1) m_X5_add [(.inr (some (b + 8))), (.inl v5)] (up h6 (b + 10) 3 (w ((hi h6 (b + 10) 3) + 1))) (fun r h9 => 
                r = none ∧ SS (up h6 (b + 10) 3 (w ((hi h6 (b + 10) 3) + 1))) h9 ∧
                AM (d - 1) m_X1_tellAt [(.inr (some (b + 1))), (.inl v2)] h9 (fun r h10 => 
                  r = none ∧ SS h9 h10 ∧
                  ((hi h10 (b + 11) 0 = 0 → (
                    Q (some v5) h10
                  )) ∧
                  (¬ (hi h10 (b + 11) 0 = 0) → (
                    AM (d - 1) m_X1_sleepAt [(.inr (some (b + 1))), (.inl v2)] h10 (fun r h12 => 
                      r = none ∧ SS h10 h12 ∧
                      Q (some v5) h12)
                  )))))
            )) ∧
            (¬ (v7 = 0) → (
              AM (d - 1) m_X6_firstOne [(.inl v7)] (up (up h6 b 6 v5) (b + 10) 4 (w ((hi h6 (b + 10) 4) + 1))) (fun r h13 => 
                ∃ v14, r = some v14 ∧ SS (up (up h6 b 6 v5) (b + 10) 4 (w ((hi h6 (b + 10) 4) + 1))) h13 ∧
                (rg (400 + v14)) ∧
                Q (some (400 + v14)) h13)
            )))))
      )) ∧
      (¬ (¬ v2 = -1) → (
        Q (some 300) (up h1 (b + 10) 2 (w ((hi h1 (b + 10) 2) + 1)))
      ))))) :
  AM d m_X2_hear [(.inr (some b))] h Q := by
  refine am_body mo_X2_hear (Nat.le_of_ble_eq_true rfl) ?_
  show AW m_X2_hear d none Q 0 [some (.inr (some b)), none, none, none] [] h (0, 0)
  obtain ⟨kb, rb_pocket, lb_pocket, rb_told, lb_told, rb_tally, lb_tally, rb_settings, kb_settings⟩ := id hL
  obtain ⟨kb_pocket, rb_pocket_names, kb_pocket_names, rb_pocket_asksToGo, kb_pocket_asksToGo, rb_pocket_tellings, kb_pocket_tellings, rb_pocket_slots, kb_pocket_slots, rb_pocket_awake, kb_pocket_awake, rb_pocket_answering, kb_pocket_answering⟩ := id lb_pocket
  obtain ⟨kb_told, rb_told_row, kb_told_row⟩ := id lb_told
  have kb_tally := id lb_tally
  refine aw_aload_n (pc := 0) dX2_hear_0 rfl ?_
  refine aw_getr (pc := 1) (r := some (b + 1)) dX2_hear_1 fl_X2_12 (by decide) rfl kb rb_pocket ?_
  refine aw_invV (pc := 4) (md' := m_X1_firstAnswering) (ci := 1) (as := []) dX2_hear_4 mo_X1_firstAnswering im_X1_firstAnswering se_X1_firstAnswering ml_X2_127 rfl kb_pocket rfl hd (Nat.le_of_ble_eq_true rfl) (Nat.le_of_ble_eq_true rfl) (Nat.le_of_ble_eq_true rfl) ?_
  refine am_mono g (fun _ h1 _ ok_h1 g => ?_)
  obtain ⟨v2, rfl, ss_h1, g⟩ := g
  replace hL := QS.ss hL ss_h1
  obtain ⟨kb, rb_pocket, lb_pocket, rb_told, lb_told, rb_tally, lb_tally, rb_settings, kb_settings⟩ := id hL
  obtain ⟨kb_pocket, rb_pocket_names, kb_pocket_names, rb_pocket_asksToGo, kb_pocket_asksToGo, rb_pocket_tellings, kb_pocket_tellings, rb_pocket_slots, kb_pocket_slots, rb_pocket_awake, kb_pocket_awake, rb_pocket_answering, kb_pocket_answering⟩ := id lb_pocket
  obtain ⟨kb_told, rb_told_row, kb_told_row⟩ := id lb_told
  have kb_tally := id lb_tally
  show AW m_X2_hear d none Q 7 [some (.inr (some b)), none, none, none] [(.inl v2)] h1 (0, 0)
  refine ax_istore_n (pc := 7) (ls' := [some (.inr (some b)), some (.inl v2), none, none]) dX2_hear_7 (Nat.le_of_ble_eq_true rfl) rfl ?_
  refine aw_iload_n (pc := 8) dX2_hear_8 rfl ?_
  refine aw_iconst (pc := 9) dX2_hear_9 ?_
  refine aw_icmp_ne (pc := 10) (tgt := 30) dX2_hear_10 (by decide) (fun c3 => ?_) (fun c3 => ?_)
  · replace g := g.1 c3
    refine aw_aload_n (pc := 30) dX2_hear_30 rfl ?_
    refine aw_getr (pc := 31) (r := some (b + 1)) dX2_hear_31 fl_X2_12 (by decide) rfl kb rb_pocket ?_
    refine aw_iload_n (pc := 34) dX2_hear_34 rfl ?_
    refine aw_invV (pc := 35) (md' := m_X1_nameAt) (ci := 1) (as := [(.inl v2)]) dX2_hear_35 mo_X1_nameAt im_X1_nameAt se_X1_nameAt ml_X2_133 rfl kb_pocket rfl hd (Nat.le_of_ble_eq_true rfl) (Nat.le_of_ble_eq_true rfl) (Nat.le_of_ble_eq_true rfl) ?_
    refine am_mono g (fun _ h4 _ ok_h4 g => ?_)
    obtain ⟨v5, rfl, ss_h4, g⟩ := g
    replace hL := QS.ss hL ss_h4
    obtain ⟨kb, rb_pocket, lb_pocket, rb_told, lb_told, rb_tally, lb_tally, rb_settings, kb_settings⟩ := id hL
    obtain ⟨kb_pocket, rb_pocket_names, kb_pocket_names, rb_pocket_asksToGo, kb_pocket_asksToGo, rb_pocket_tellings, kb_pocket_tellings, rb_pocket_slots, kb_pocket_slots, rb_pocket_awake, kb_pocket_awake, rb_pocket_answering, kb_pocket_answering⟩ := id lb_pocket
    obtain ⟨kb_told, rb_told_row, kb_told_row⟩ := id lb_told
    have kb_tally := id lb_tally
    show AW m_X2_hear d none Q 38 [some (.inr (some b)), some (.inl v2), none, none] [(.inl v5)] h4 (0, 0)
    refine ax_istore_n (pc := 38) (ls' := [some (.inr (some b)), some (.inl v2), some (.inl v5), none]) dX2_hear_38 (Nat.le_of_ble_eq_true rfl) rfl ?_
    refine aw_aload_n (pc := 39) dX2_hear_39 rfl ?_
    refine aw_getr (pc := 40) (r := some (b + 1)) dX2_hear_40 fl_X2_12 (by decide) rfl kb rb_pocket ?_
    refine aw_iload_n (pc := 43) dX2_hear_43 rfl ?_
    refine aw_invV (pc := 44) (md' := m_X1_differencesFrom) (ci := 1) (as := [(.inl v5)]) dX2_hear_44 mo_X1_differencesFrom im_X1_differencesFrom se_X1_differencesFrom ml_X2_136 rfl kb_pocket rfl hd (Nat.le_of_ble_eq_true rfl) (Nat.le_of_ble_eq_true rfl) (Nat.le_of_ble_eq_true rfl) ?_
    refine am_mono g (fun _ h6 _ ok_h6 g => ?_)
    obtain ⟨v7, rfl, ss_h6, g⟩ := g
    replace hL := QS.ss hL ss_h6
    obtain ⟨kb, rb_pocket, lb_pocket, rb_told, lb_told, rb_tally, lb_tally, rb_settings, kb_settings⟩ := id hL
    obtain ⟨kb_pocket, rb_pocket_names, kb_pocket_names, rb_pocket_asksToGo, kb_pocket_asksToGo, rb_pocket_tellings, kb_pocket_tellings, rb_pocket_slots, kb_pocket_slots, rb_pocket_awake, kb_pocket_awake, rb_pocket_answering, kb_pocket_answering⟩ := id lb_pocket
    obtain ⟨kb_told, rb_told_row, kb_told_row⟩ := id lb_told
    have kb_tally := id lb_tally
    show AW m_X2_hear d none Q 47 [some (.inr (some b)), some (.inl v2), some (.inl v5), none] [(.inl v7)] h6 (0, 0)
    refine ax_istore_n (pc := 47) (ls' := [some (.inr (some b)), some (.inl v2), some (.inl v5), some (.inl v7)]) dX2_hear_47 (Nat.le_of_ble_eq_true rfl) rfl ?_
    refine aw_iload_n (pc := 48) dX2_hear_48 rfl ?_
    refine aw_if_eq (pc := 49) (tgt := 79) dX2_hear_49 (by decide) (fun c8 => ?_) (fun c8 => ?_)
    · replace g := g.1 c8
      refine aw_aload_n (pc := 79) dX2_hear_79 rfl ?_
      refine aw_getr (pc := 80) (r := some (b + 10)) dX2_hear_80 fl_X2_28 (by decide) rfl kb rb_tally ?_
      refine aw_dup (pc := 83) dX2_hear_83 ?_
      refine ax_geti (pc := 84) (v := hi h6 (b + 10) 3) dX2_hear_84 fl_X2_145 (by decide) rfl kb_tally rfl ?_
      refine aw_iconst (pc := 87) dX2_hear_87 ?_
      refine aw_iadd_w (pc := 88) dX2_hear_88 ?_
      refine ax_puti (pc := 89) dX2_hear_89 fl_X2_145 (by decide) rfl rfl rfl kb_tally ?_
      refine aw_aload_n (pc := 92) dX2_hear_92 rfl ?_
      refine aw_getr (pc := 93) (r := some (b + 8)) dX2_hear_93 fl_X2_21 (by decide) rfl (hkU kb) (hrU rb_told) ?_
      refine aw_iload_n (pc := 96) dX2_hear_96 rfl ?_
      refine aw_invV (pc := 97) (md' := m_X5_add) (ci := 5) (as := [(.inl v5)]) dX2_hear_97 mo_X5_add im_X5_add se_X5_add ml_X2_147 rfl (hkU kb_told) rfl hd (Nat.le_of_ble_eq_true rfl) (Nat.le_of_ble_eq_true rfl) (Nat.le_of_ble_eq_true rfl) ?_
      refine am_mono g (fun _ h9 _ ok_h9 g => ?_)
      obtain ⟨rfl, ss_h9, g⟩ := g
      replace hL := QS.ss hL (SS.tr (SS.up SS.rf) ss_h9)
      obtain ⟨kb, rb_pocket, lb_pocket, rb_told, lb_told, rb_tally, lb_tally, rb_settings, kb_settings⟩ := id hL
      obtain ⟨kb_pocket, rb_pocket_names, kb_pocket_names, rb_pocket_asksToGo, kb_pocket_asksToGo, rb_pocket_tellings, kb_pocket_tellings, rb_pocket_slots, kb_pocket_slots, rb_pocket_awake, kb_pocket_awake, rb_pocket_answering, kb_pocket_answering⟩ := id lb_pocket
      obtain ⟨kb_told, rb_told_row, kb_told_row⟩ := id lb_told
      have kb_tally := id lb_tally
      show AW m_X2_hear d none Q 100 [some (.inr (some b)), some (.inl v2), some (.inl v5), some (.inl v7)] [] h9 (0, 0)
      refine aw_aload_n (pc := 100) dX2_hear_100 rfl ?_
      refine aw_getr (pc := 101) (r := some (b + 1)) dX2_hear_101 fl_X2_12 (by decide) rfl kb rb_pocket ?_
      refine aw_iload_n (pc := 104) dX2_hear_104 rfl ?_
      refine aw_invV (pc := 105) (md' := m_X1_tellAt) (ci := 1) (as := [(.inl v2)]) dX2_hear_105 mo_X1_tellAt im_X1_tellAt se_X1_tellAt ml_X2_150 rfl kb_pocket rfl hd (Nat.le_of_ble_eq_true rfl) (Nat.le_of_ble_eq_true rfl) (Nat.le_of_ble_eq_true rfl) ?_
      refine am_mono g (fun _ h10 _ ok_h10 g => ?_)
      obtain ⟨rfl, ss_h10, g⟩ := g
      replace hL := QS.ss hL ss_h10
      obtain ⟨kb, rb_pocket, lb_pocket, rb_told, lb_told, rb_tally, lb_tally, rb_settings, kb_settings⟩ := id hL
      obtain ⟨kb_pocket, rb_pocket_names, kb_pocket_names, rb_pocket_asksToGo, kb_pocket_asksToGo, rb_pocket_tellings, kb_pocket_tellings, rb_pocket_slots, kb_pocket_slots, rb_pocket_awake, kb_pocket_awake, rb_pocket_answering, kb_pocket_answering⟩ := id lb_pocket
      obtain ⟨kb_told, rb_told_row, kb_told_row⟩ := id lb_told
      have kb_tally := id lb_tally
      show AW m_X2_hear d none Q 108 [some (.inr (some b)), some (.inl v2), some (.inl v5), some (.inl v7)] [] h10 (0, 0)
      refine aw_aload_n (pc := 108) dX2_hear_108 rfl ?_
      refine aw_getr (pc := 109) (r := some (b + 11)) dX2_hear_109 fl_X2_32 (by decide) rfl kb rb_settings ?_
      refine aw_iconst (pc := 112) dX2_hear_112 ?_
      refine ax_iaload (pc := 113) (n := 2) (v := hi h10 (b + 11) 0) dX2_hear_113 kb_settings (by decide) rfl ?_
      refine aw_if_eq (pc := 114) (tgt := 125) dX2_hear_114 (by decide) (fun c11 => ?_) (fun c11 => ?_)
      · replace g := g.1 c11
        refine aw_iload_n (pc := 125) dX2_hear_125 rfl ?_
        exact ax_ireturn (pc := 126) dX2_hear_126 rfl g (by decide) (by decide)
      · replace g := g.2 c11
        refine aw_aload_n (pc := 117) dX2_hear_117 rfl ?_
        refine aw_getr (pc := 118) (r := some (b + 1)) dX2_hear_118 fl_X2_12 (by decide) rfl kb rb_pocket ?_
        refine aw_iload_n (pc := 121) dX2_hear_121 rfl ?_
        refine aw_invV (pc := 122) (md' := m_X1_sleepAt) (ci := 1) (as := [(.inl v2)]) dX2_hear_122 mo_X1_sleepAt im_X1_sleepAt se_X1_sleepAt ml_X2_81 rfl kb_pocket rfl hd (Nat.le_of_ble_eq_true rfl) (Nat.le_of_ble_eq_true rfl) (Nat.le_of_ble_eq_true rfl) ?_
        refine am_mono g (fun _ h12 _ ok_h12 g => ?_)
        obtain ⟨rfl, ss_h12, g⟩ := g
        replace hL := QS.ss hL ss_h12
        obtain ⟨kb, rb_pocket, lb_pocket, rb_told, lb_told, rb_tally, lb_tally, rb_settings, kb_settings⟩ := id hL
        obtain ⟨kb_pocket, rb_pocket_names, kb_pocket_names, rb_pocket_asksToGo, kb_pocket_asksToGo, rb_pocket_tellings, kb_pocket_tellings, rb_pocket_slots, kb_pocket_slots, rb_pocket_awake, kb_pocket_awake, rb_pocket_answering, kb_pocket_answering⟩ := id lb_pocket
        obtain ⟨kb_told, rb_told_row, kb_told_row⟩ := id lb_told
        have kb_tally := id lb_tally
        show AW m_X2_hear d none Q 125 [some (.inr (some b)), some (.inl v2), some (.inl v5), some (.inl v7)] [] h12 (0, 0)
        refine aw_iload_n (pc := 125) dX2_hear_125 rfl ?_
        exact ax_ireturn (pc := 126) dX2_hear_126 rfl g (by decide) (by decide)
    · replace g := g.2 c8
      refine aw_aload_n (pc := 52) dX2_hear_52 rfl ?_
      refine aw_iload_n (pc := 53) dX2_hear_53 rfl ?_
      refine ax_puti (pc := 54) dX2_hear_54 fl_X2_43 (by decide) rfl rfl rfl kb ?_
      refine aw_aload_n (pc := 57) dX2_hear_57 rfl ?_
      refine aw_getr (pc := 58) (r := some (b + 10)) dX2_hear_58 fl_X2_28 (by decide) rfl (hkU kb) (hrU rb_tally) ?_
      refine aw_dup (pc := 61) dX2_hear_61 ?_
      refine ax_geti (pc := 62) (v := hi h6 (b + 10) 4) dX2_hear_62 fl_X2_139 (by decide) rfl (hkU kb_tally) (hiN (Or.inl (by omega)) rfl) ?_
      refine aw_iconst (pc := 65) dX2_hear_65 ?_
      refine aw_iadd_w (pc := 66) dX2_hear_66 ?_
      refine ax_puti (pc := 67) dX2_hear_67 fl_X2_139 (by decide) rfl rfl rfl (hkU kb_tally) ?_
      refine aw_sipush (pc := 70) dX2_hear_70 ?_
      refine aw_iload_n (pc := 73) dX2_hear_73 rfl ?_
      refine aw_invSN (pc := 74) (md' := m_X6_firstOne) (as := [(.inl v7)]) dX2_hear_74 mo_X6_firstOne sm_X6_firstOne nl_X2_142 rfl hd (Nat.le_of_ble_eq_true rfl) (Nat.le_of_ble_eq_true rfl) (Nat.le_of_ble_eq_true rfl) ?_
      refine am_mono g (fun _ h13 _ ok_h13 g => ?_)
      obtain ⟨v14, rfl, ss_h13, g⟩ := g
      replace hL := QS.ss hL (SS.tr (SS.up (SS.up SS.rf)) ss_h13)
      obtain ⟨kb, rb_pocket, lb_pocket, rb_told, lb_told, rb_tally, lb_tally, rb_settings, kb_settings⟩ := id hL
      obtain ⟨kb_pocket, rb_pocket_names, kb_pocket_names, rb_pocket_asksToGo, kb_pocket_asksToGo, rb_pocket_tellings, kb_pocket_tellings, rb_pocket_slots, kb_pocket_slots, rb_pocket_awake, kb_pocket_awake, rb_pocket_answering, kb_pocket_answering⟩ := id lb_pocket
      obtain ⟨kb_told, rb_told_row, kb_told_row⟩ := id lb_told
      have kb_tally := id lb_tally
      show AW m_X2_hear d none Q 77 [some (.inr (some b)), some (.inl v2), some (.inl v5), some (.inl v7)] [(.inl v14), (.inl 400)] h13 (0, 0)
      obtain ⟨s15, g⟩ := g
      refine ax_iadd (pc := 77) (v := 400 + v14) dX2_hear_77 s15 rfl ?_
      exact ax_ireturn (pc := 78) dX2_hear_78 rfl g (by decide) (by decide)
  · replace g := g.2 c3
    refine aw_aload_n (pc := 13) dX2_hear_13 rfl ?_
    refine aw_getr (pc := 14) (r := some (b + 10)) dX2_hear_14 fl_X2_28 (by decide) rfl kb rb_tally ?_
    refine aw_dup (pc := 17) dX2_hear_17 ?_
    refine ax_geti (pc := 18) (v := hi h1 (b + 10) 2) dX2_hear_18 fl_X2_130 (by decide) rfl kb_tally rfl ?_
    refine aw_iconst (pc := 21) dX2_hear_21 ?_
    refine aw_iadd_w (pc := 22) dX2_hear_22 ?_
    refine ax_puti (pc := 23) dX2_hear_23 fl_X2_130 (by decide) rfl rfl rfl kb_tally ?_
    refine aw_sipush (pc := 26) dX2_hear_26 ?_
    exact ax_ireturn (pc := 29) dX2_hear_29 rfl g (by decide) (by decide)
set_option maxRecDepth 100000 in
set_option maxHeartbeats 4000000 in
theorem vc_X2_makeWalk {d : Nat} {Q : Option Int → AH → Prop} {h : AH} {b : Nat} {x1 : Int} (hd : 1 ≤ d) (hL : QS h b)
  (g :
    AM (d - 1) m_X2_walkFrom [(.inr (some b)), (.inl 0), (.inl 0), (.inl x1)] (up h b 5 0) (fun r h1 => 
      r = none ∧ SS (up h b 5 0) h1 ∧
      Q (some (w ((hi h1 (b + 10) 3) - (hi h (b + 10) 3)))) h1)) :
  AM d m_X2_makeWalk [(.inr (some b)), (.inl x1)] h Q := by
  refine am_body mo_X2_makeWalk (Nat.le_of_ble_eq_true rfl) ?_
  show AW m_X2_makeWalk d none Q 0 [some (.inr (some b)), some (.inl x1), none] [] h (0, 0)
  obtain ⟨kb, rb_pocket, lb_pocket, rb_told, lb_told, rb_tally, lb_tally, rb_settings, kb_settings⟩ := id hL
  obtain ⟨kb_pocket, rb_pocket_names, kb_pocket_names, rb_pocket_asksToGo, kb_pocket_asksToGo, rb_pocket_tellings, kb_pocket_tellings, rb_pocket_slots, kb_pocket_slots, rb_pocket_awake, kb_pocket_awake, rb_pocket_answering, kb_pocket_answering⟩ := id lb_pocket
  obtain ⟨kb_told, rb_told_row, kb_told_row⟩ := id lb_told
  have kb_tally := id lb_tally
  refine aw_aload_n (pc := 0) dX2_makeWalk_0 rfl ?_
  refine aw_getr (pc := 1) (r := some (b + 10)) dX2_makeWalk_1 fl_X2_28 (by decide) rfl kb rb_tally ?_
  refine ax_geti (pc := 4) (v := hi h (b + 10) 3) dX2_makeWalk_4 fl_X2_145 (by decide) rfl kb_tally rfl ?_
  refine ax_istore_n (pc := 7) (ls' := [some (.inr (some b)), some (.inl x1), some (.inl (hi h (b + 10) 3))]) dX2_makeWalk_7 (Nat.le_of_ble_eq_true rfl) rfl ?_
  refine aw_aload_n (pc := 8) dX2_makeWalk_8 rfl ?_
  refine aw_iconst (pc := 9) dX2_makeWalk_9 ?_
  refine ax_puti (pc := 10) dX2_makeWalk_10 fl_X2_40 (by decide) rfl rfl rfl kb ?_
  refine aw_aload_n (pc := 13) dX2_makeWalk_13 rfl ?_
  refine aw_iconst (pc := 14) dX2_makeWalk_14 ?_
  refine aw_iconst (pc := 15) dX2_makeWalk_15 ?_
  refine aw_iload_n (pc := 16) dX2_makeWalk_16 rfl ?_
  refine aw_invS (pc := 17) (md' := m_X2_walkFrom) (as := [(.inr (some b)), (.inl 0), (.inl 0), (.inl x1)]) dX2_makeWalk_17 mo_X2_walkFrom sm_X2_walkFrom ml_X2_153 rfl rfl hd (Nat.le_of_ble_eq_true rfl) (Nat.le_of_ble_eq_true rfl) (Nat.le_of_ble_eq_true rfl) ?_
  refine am_mono g (fun _ h1 _ ok_h1 g => ?_)
  obtain ⟨rfl, ss_h1, g⟩ := g
  replace hL := QS.ss hL (SS.tr (SS.up SS.rf) ss_h1)
  obtain ⟨kb, rb_pocket, lb_pocket, rb_told, lb_told, rb_tally, lb_tally, rb_settings, kb_settings⟩ := id hL
  obtain ⟨kb_pocket, rb_pocket_names, kb_pocket_names, rb_pocket_asksToGo, kb_pocket_asksToGo, rb_pocket_tellings, kb_pocket_tellings, rb_pocket_slots, kb_pocket_slots, rb_pocket_awake, kb_pocket_awake, rb_pocket_answering, kb_pocket_answering⟩ := id lb_pocket
  obtain ⟨kb_told, rb_told_row, kb_told_row⟩ := id lb_told
  have kb_tally := id lb_tally
  show AW m_X2_makeWalk d none Q 20 [some (.inr (some b)), some (.inl x1), some (.inl (hi h (b + 10) 3))] [] h1 (0, 0)
  refine aw_aload_n (pc := 20) dX2_makeWalk_20 rfl ?_
  refine aw_getr (pc := 21) (r := some (b + 10)) dX2_makeWalk_21 fl_X2_28 (by decide) rfl kb rb_tally ?_
  refine ax_geti (pc := 24) (v := hi h1 (b + 10) 3) dX2_makeWalk_24 fl_X2_145 (by decide) rfl kb_tally rfl ?_
  refine aw_iload_n (pc := 27) dX2_makeWalk_27 rfl ?_
  refine aw_isub_w (pc := 28) dX2_makeWalk_28 ?_
  exact ax_ireturn (pc := 29) dX2_makeWalk_29 rfl g (by decide) (by decide)
set_option maxRecDepth 100000 in
set_option maxHeartbeats 4000000 in
theorem vc_X2_walkFrom {d : Nat} {Q : Option Int → AH → Prop} {h : AH} {q0 : Nat} {x1 x2 x3 : Int} (hd : 1 ≤ d) (hL0 : QS h q0)
  (g :
    AM (d - 1) m_X6_isBeginning [(.inl x1), (.inl x2)] h (fun r h1 => 
      ∃ v2, r = some v2 ∧ SS h h1 ∧
      ((¬ v2 = 0 → (
        AM (d - 1) m_X2_askFor [(.inr (some q0)), (.inl x1), (.inl x2)] (up h1 q0 5 ((if hi h1 q0 5 < x1 then x1 else hi h1 q0 5))) (fun r h4 => 
          ∃ v5, r = some v5 ∧ SS (up h1 q0 5 ((if hi h1 q0 5 < x1 then x1 else hi h1 q0 5))) h4 ∧
          ((400 ≤ v5 → (
            ((x3 = 0 → (
              AM (d - 1) m_X6_firstBits [(.inl (hi h4 q0 6)), (.inl x1)] h4 (fun r h8 => 
                ∃ v9, r = some v9 ∧ SS h4 h8 ∧
                (rg (x1 + 1)) ∧
                (rg (2 * v9)) ∧
                AM (d - 1) m_X2_walkFrom [(.inr (some q0)), (.inl (x1 + 1)), (.inl (2 * v9)), (.inl x3)] h8 (fun r h12 => 
                  r = none ∧ SS h8 h12 ∧
                  (rg ((2 * v9) + 1)) ∧
                  AM (d - 1) m_X2_walkFrom [(.inr (some q0)), (.inl (x1 + 1)), (.inl ((2 * v9) + 1)), (.inl x3)] h12 (fun r h14 => 
                    r = none ∧ SS h12 h14 ∧
                    Q none h14)))
            )) ∧
            (¬ (x3 = 0) → (
              (rg (v5 - 400)) ∧
              AM (d - 1) m_X6_firstBits [(.inl (hi h4 q0 6)), (.inl ((if x1 < v5 - 400 then v5 - 400 else x1)))] h4 (fun r h16 => 
                ∃ v17, r = some v17 ∧ SS h4 h16 ∧
                (rg (((if x1 < v5 - 400 then v5 - 400 else x1)) + 1)) ∧
                (rg (2 * v17)) ∧
                AM (d - 1) m_X2_walkFrom [(.inr (some q0)), (.inl (((if x1 < v5 - 400 then v5 - 400 else x1)) + 1)), (.inl (2 * v17)), (.inl x3)] h16 (fun r h20 => 
                  r = none ∧ SS h16 h20 ∧
                  (rg ((2 * v17) + 1)) ∧
                  AM (d - 1) m_X2_walkFrom [(.inr (some q0)), (.inl (((if x1 < v5 - 400 then v5 - 400 else x1)) + 1)), (.inl ((2 * v17) + 1)), (.inl x3)] h20 (fun r h22 => 
                    r = none ∧ SS h20 h22 ∧
                    Q none h22)))
            )))
          )) ∧
          (¬ (400 ≤ v5) → (
            Q none h4
          ))))
      )) ∧
      (¬ (¬ v2 = 0) → (
        Q none h1
      ))))) :
  AM d m_X2_walkFrom [(.inr (some q0)), (.inl x1), (.inl x2), (.inl x3)] h Q := by
  refine am_body mo_X2_walkFrom (Nat.le_of_ble_eq_true rfl) ?_
  show AW m_X2_walkFrom d none Q 0 [some (.inr (some q0)), some (.inl x1), some (.inl x2), some (.inl x3), none, none, none] [] h (0, 0)
  obtain ⟨kq0, rq0_pocket, lq0_pocket, rq0_told, lq0_told, rq0_tally, lq0_tally, rq0_settings, kq0_settings⟩ := id hL0
  obtain ⟨kq0_pocket, rq0_pocket_names, kq0_pocket_names, rq0_pocket_asksToGo, kq0_pocket_asksToGo, rq0_pocket_tellings, kq0_pocket_tellings, rq0_pocket_slots, kq0_pocket_slots, rq0_pocket_awake, kq0_pocket_awake, rq0_pocket_answering, kq0_pocket_answering⟩ := id lq0_pocket
  obtain ⟨kq0_told, rq0_told_row, kq0_told_row⟩ := id lq0_told
  have kq0_tally := id lq0_tally
  refine aw_aload_n (pc := 0) dX2_walkFrom_0 rfl ?_
  refine aw_ifnull (pc := 1) (tgt := 12) dX2_walkFrom_1 (by decide) (fun q => by cases q) (fun _ => ?_)
  refine aw_iload_n (pc := 4) dX2_walkFrom_4 rfl ?_
  refine aw_iload_n (pc := 5) dX2_walkFrom_5 rfl ?_
  refine aw_invSN (pc := 6) (md' := m_X6_isBeginning) (as := [(.inl x1), (.inl x2)]) dX2_walkFrom_6 mo_X6_isBeginning sm_X6_isBeginning nl_X2_157 rfl hd (Nat.le_of_ble_eq_true rfl) (Nat.le_of_ble_eq_true rfl) (Nat.le_of_ble_eq_true rfl) ?_
  refine am_mono g (fun _ h1 _ ok_h1 g => ?_)
  obtain ⟨v2, rfl, ss_h1, g⟩ := g
  replace hL0 := QS.ss hL0 ss_h1
  obtain ⟨kq0, rq0_pocket, lq0_pocket, rq0_told, lq0_told, rq0_tally, lq0_tally, rq0_settings, kq0_settings⟩ := id hL0
  obtain ⟨kq0_pocket, rq0_pocket_names, kq0_pocket_names, rq0_pocket_asksToGo, kq0_pocket_asksToGo, rq0_pocket_tellings, kq0_pocket_tellings, rq0_pocket_slots, kq0_pocket_slots, rq0_pocket_awake, kq0_pocket_awake, rq0_pocket_answering, kq0_pocket_answering⟩ := id lq0_pocket
  obtain ⟨kq0_told, rq0_told_row, kq0_told_row⟩ := id lq0_told
  have kq0_tally := id lq0_tally
  show AW m_X2_walkFrom d none Q 9 [some (.inr (some q0)), some (.inl x1), some (.inl x2), some (.inl x3), none, none, none] [(.inl v2)] h1 (0, 0)
  refine aw_if_ne (pc := 9) (tgt := 13) dX2_walkFrom_9 (by decide) (fun c3 => ?_) (fun c3 => ?_)
  · replace g := g.1 c3
    refine aw_aload_n (pc := 13) dX2_walkFrom_13 rfl ?_
    refine aw_aload_n (pc := 14) dX2_walkFrom_14 rfl ?_
    refine ax_geti (pc := 15) (v := hi h1 q0 5) dX2_walkFrom_15 fl_X2_40 (by decide) rfl kq0 rfl ?_
    refine aw_iload_n (pc := 18) dX2_walkFrom_18 rfl ?_
    refine aw_max (pc := 19) dX2_walkFrom_19 ml_X2_115 sm_max ii_Math oc_max hd (Nat.le_of_ble_eq_true rfl) (Nat.le_of_ble_eq_true rfl) (Nat.le_of_ble_eq_true rfl) ?_
    refine ax_puti (pc := 22) dX2_walkFrom_22 fl_X2_40 (by decide) rfl rfl rfl kq0 ?_
    refine aw_aload_n (pc := 25) dX2_walkFrom_25 rfl ?_
    refine aw_iload_n (pc := 26) dX2_walkFrom_26 rfl ?_
    refine aw_iload_n (pc := 27) dX2_walkFrom_27 rfl ?_
    refine aw_invV (pc := 28) (md' := m_X2_askFor) (ci := 2) (as := [(.inl x1), (.inl x2)]) dX2_walkFrom_28 mo_X2_askFor im_X2_askFor se_X2_askFor ml_X2_161 rfl (hkU kq0) rfl hd (Nat.le_of_ble_eq_true rfl) (Nat.le_of_ble_eq_true rfl) (Nat.le_of_ble_eq_true rfl) ?_
    refine am_mono g (fun _ h4 _ ok_h4 g => ?_)
    obtain ⟨v5, rfl, ss_h4, g⟩ := g
    replace hL0 := QS.ss hL0 (SS.tr (SS.up SS.rf) ss_h4)
    obtain ⟨kq0, rq0_pocket, lq0_pocket, rq0_told, lq0_told, rq0_tally, lq0_tally, rq0_settings, kq0_settings⟩ := id hL0
    obtain ⟨kq0_pocket, rq0_pocket_names, kq0_pocket_names, rq0_pocket_asksToGo, kq0_pocket_asksToGo, rq0_pocket_tellings, kq0_pocket_tellings, rq0_pocket_slots, kq0_pocket_slots, rq0_pocket_awake, kq0_pocket_awake, rq0_pocket_answering, kq0_pocket_answering⟩ := id lq0_pocket
    obtain ⟨kq0_told, rq0_told_row, kq0_told_row⟩ := id lq0_told
    have kq0_tally := id lq0_tally
    show AW m_X2_walkFrom d none Q 31 [some (.inr (some q0)), some (.inl x1), some (.inl x2), some (.inl x3), none, none, none] [(.inl v5)] h4 (0, 0)
    refine ax_istore (pc := 31) (ls' := [some (.inr (some q0)), some (.inl x1), some (.inl x2), some (.inl x3), some (.inl v5), none, none]) dX2_walkFrom_31 (Nat.le_of_ble_eq_true rfl) rfl ?_
    refine aw_iload (pc := 33) dX2_walkFrom_33 rfl ?_
    refine aw_sipush (pc := 35) dX2_walkFrom_35 ?_
    refine aw_icmp_ge (pc := 38) (tgt := 42) dX2_walkFrom_38 (by decide) (fun c6 => ?_) (fun c6 => ?_)
    · replace g := g.1 c6
      refine aw_iload_n (pc := 42) dX2_walkFrom_42 rfl ?_
      refine aw_if_eq (pc := 43) (tgt := 59) dX2_walkFrom_43 (by decide) (fun c7 => ?_) (fun c7 => ?_)
      · replace g := g.1 c7
        refine aw_iload_n (pc := 59) dX2_walkFrom_59 rfl ?_
        refine ax_istore (pc := 60) (ls' := [some (.inr (some q0)), some (.inl x1), some (.inl x2), some (.inl x3), some (.inl v5), some (.inl x1), none]) dX2_walkFrom_60 (Nat.le_of_ble_eq_true rfl) rfl ?_
        refine aw_aload_n (pc := 62) dX2_walkFrom_62 rfl ?_
        refine ax_geti (pc := 63) (v := hi h4 q0 6) dX2_walkFrom_63 fl_X2_43 (by decide) rfl kq0 rfl ?_
        refine aw_iload (pc := 66) dX2_walkFrom_66 rfl ?_
        refine aw_invSN (pc := 68) (md' := m_X6_firstBits) (as := [(.inl (hi h4 q0 6)), (.inl x1)]) dX2_walkFrom_68 mo_X6_firstBits sm_X6_firstBits nl_X2_164 rfl hd (Nat.le_of_ble_eq_true rfl) (Nat.le_of_ble_eq_true rfl) (Nat.le_of_ble_eq_true rfl) ?_
        refine am_mono g (fun _ h8 _ ok_h8 g => ?_)
        obtain ⟨v9, rfl, ss_h8, g⟩ := g
        replace hL0 := QS.ss hL0 ss_h8
        obtain ⟨kq0, rq0_pocket, lq0_pocket, rq0_told, lq0_told, rq0_tally, lq0_tally, rq0_settings, kq0_settings⟩ := id hL0
        obtain ⟨kq0_pocket, rq0_pocket_names, kq0_pocket_names, rq0_pocket_asksToGo, kq0_pocket_asksToGo, rq0_pocket_tellings, kq0_pocket_tellings, rq0_pocket_slots, kq0_pocket_slots, rq0_pocket_awake, kq0_pocket_awake, rq0_pocket_answering, kq0_pocket_answering⟩ := id lq0_pocket
        obtain ⟨kq0_told, rq0_told_row, kq0_told_row⟩ := id lq0_told
        have kq0_tally := id lq0_tally
        show AW m_X2_walkFrom d none Q 71 [some (.inr (some q0)), some (.inl x1), some (.inl x2), some (.inl x3), some (.inl v5), some (.inl x1), none] [(.inl v9)] h8 (0, 0)
        refine ax_istore (pc := 71) (ls' := [some (.inr (some q0)), some (.inl x1), some (.inl x2), some (.inl x3), some (.inl v5), some (.inl x1), some (.inl v9)]) dX2_walkFrom_71 (Nat.le_of_ble_eq_true rfl) rfl ?_
        refine aw_aload_n (pc := 73) dX2_walkFrom_73 rfl ?_
        refine aw_iload (pc := 74) dX2_walkFrom_74 rfl ?_
        refine aw_iconst (pc := 76) dX2_walkFrom_76 ?_
        obtain ⟨s10, g⟩ := g
        refine ax_iadd (pc := 77) (v := x1 + 1) dX2_walkFrom_77 s10 rfl ?_
        refine aw_iconst (pc := 78) dX2_walkFrom_78 ?_
        refine aw_iload (pc := 79) dX2_walkFrom_79 rfl ?_
        obtain ⟨s11, g⟩ := g
        refine ax_imul (pc := 81) (v := 2 * v9) dX2_walkFrom_81 s11 rfl ?_
        refine aw_iload_n (pc := 82) dX2_walkFrom_82 rfl ?_
        refine aw_invS (pc := 83) (md' := m_X2_walkFrom) (as := [(.inr (some q0)), (.inl (x1 + 1)), (.inl (2 * v9)), (.inl x3)]) dX2_walkFrom_83 mo_X2_walkFrom sm_X2_walkFrom ml_X2_153 rfl rfl hd (Nat.le_of_ble_eq_true rfl) (Nat.le_of_ble_eq_true rfl) (Nat.le_of_ble_eq_true rfl) ?_
        refine am_mono g (fun _ h12 _ ok_h12 g => ?_)
        obtain ⟨rfl, ss_h12, g⟩ := g
        replace hL0 := QS.ss hL0 ss_h12
        obtain ⟨kq0, rq0_pocket, lq0_pocket, rq0_told, lq0_told, rq0_tally, lq0_tally, rq0_settings, kq0_settings⟩ := id hL0
        obtain ⟨kq0_pocket, rq0_pocket_names, kq0_pocket_names, rq0_pocket_asksToGo, kq0_pocket_asksToGo, rq0_pocket_tellings, kq0_pocket_tellings, rq0_pocket_slots, kq0_pocket_slots, rq0_pocket_awake, kq0_pocket_awake, rq0_pocket_answering, kq0_pocket_answering⟩ := id lq0_pocket
        obtain ⟨kq0_told, rq0_told_row, kq0_told_row⟩ := id lq0_told
        have kq0_tally := id lq0_tally
        show AW m_X2_walkFrom d none Q 86 [some (.inr (some q0)), some (.inl x1), some (.inl x2), some (.inl x3), some (.inl v5), some (.inl x1), some (.inl v9)] [] h12 (0, 0)
        refine aw_aload_n (pc := 86) dX2_walkFrom_86 rfl ?_
        refine aw_iload (pc := 87) dX2_walkFrom_87 rfl ?_
        refine aw_iconst (pc := 89) dX2_walkFrom_89 ?_
        refine ax_iadd (pc := 90) (v := x1 + 1) dX2_walkFrom_90 s10 rfl ?_
        refine aw_iconst (pc := 91) dX2_walkFrom_91 ?_
        refine aw_iload (pc := 92) dX2_walkFrom_92 rfl ?_
        refine ax_imul (pc := 94) (v := 2 * v9) dX2_walkFrom_94 s11 rfl ?_
        refine aw_iconst (pc := 95) dX2_walkFrom_95 ?_
        obtain ⟨s13, g⟩ := g
        refine ax_iadd (pc := 96) (v := (2 * v9) + 1) dX2_walkFrom_96 s13 rfl ?_
        refine aw_iload_n (pc := 97) dX2_walkFrom_97 rfl ?_
        refine aw_invS (pc := 98) (md' := m_X2_walkFrom) (as := [(.inr (some q0)), (.inl (x1 + 1)), (.inl ((2 * v9) + 1)), (.inl x3)]) dX2_walkFrom_98 mo_X2_walkFrom sm_X2_walkFrom ml_X2_153 rfl rfl hd (Nat.le_of_ble_eq_true rfl) (Nat.le_of_ble_eq_true rfl) (Nat.le_of_ble_eq_true rfl) ?_
        refine am_mono g (fun _ h14 _ ok_h14 g => ?_)
        obtain ⟨rfl, ss_h14, g⟩ := g
        replace hL0 := QS.ss hL0 ss_h14
        obtain ⟨kq0, rq0_pocket, lq0_pocket, rq0_told, lq0_told, rq0_tally, lq0_tally, rq0_settings, kq0_settings⟩ := id hL0
        obtain ⟨kq0_pocket, rq0_pocket_names, kq0_pocket_names, rq0_pocket_asksToGo, kq0_pocket_asksToGo, rq0_pocket_tellings, kq0_pocket_tellings, rq0_pocket_slots, kq0_pocket_slots, rq0_pocket_awake, kq0_pocket_awake, rq0_pocket_answering, kq0_pocket_answering⟩ := id lq0_pocket
        obtain ⟨kq0_told, rq0_told_row, kq0_told_row⟩ := id lq0_told
        have kq0_tally := id lq0_tally
        show AW m_X2_walkFrom d none Q 101 [some (.inr (some q0)), some (.inl x1), some (.inl x2), some (.inl x3), some (.inl v5), some (.inl x1), some (.inl v9)] [] h14 (0, 0)
        exact aw_return (pc := 101) dX2_walkFrom_101 rfl g (by decide) (by decide)
      · replace g := g.2 c7
        refine aw_iload_n (pc := 46) dX2_walkFrom_46 rfl ?_
        refine aw_iload (pc := 47) dX2_walkFrom_47 rfl ?_
        refine aw_sipush (pc := 49) dX2_walkFrom_49 ?_
        obtain ⟨s15, g⟩ := g
        refine ax_isub (pc := 52) (v := v5 - 400) dX2_walkFrom_52 s15 rfl ?_
        refine aw_max (pc := 53) dX2_walkFrom_53 ml_X2_115 sm_max ii_Math oc_max hd (Nat.le_of_ble_eq_true rfl) (Nat.le_of_ble_eq_true rfl) (Nat.le_of_ble_eq_true rfl) ?_
        refine aw_goto (pc := 56) (tgt := 60) dX2_walkFrom_56 (by decide) ?_
        refine ax_istore (pc := 60) (ls' := [some (.inr (some q0)), some (.inl x1), some (.inl x2), some (.inl x3), some (.inl v5), some (.inl ((if x1 < v5 - 400 then v5 - 400 else x1))), none]) dX2_walkFrom_60 (Nat.le_of_ble_eq_true rfl) rfl ?_
        refine aw_aload_n (pc := 62) dX2_walkFrom_62 rfl ?_
        refine ax_geti (pc := 63) (v := hi h4 q0 6) dX2_walkFrom_63 fl_X2_43 (by decide) rfl kq0 rfl ?_
        refine aw_iload (pc := 66) dX2_walkFrom_66 rfl ?_
        refine aw_invSN (pc := 68) (md' := m_X6_firstBits) (as := [(.inl (hi h4 q0 6)), (.inl ((if x1 < v5 - 400 then v5 - 400 else x1)))]) dX2_walkFrom_68 mo_X6_firstBits sm_X6_firstBits nl_X2_164 rfl hd (Nat.le_of_ble_eq_true rfl) (Nat.le_of_ble_eq_true rfl) (Nat.le_of_ble_eq_true rfl) ?_
        refine am_mono g (fun _ h16 _ ok_h16 g => ?_)
        obtain ⟨v17, rfl, ss_h16, g⟩ := g
        replace hL0 := QS.ss hL0 ss_h16
        obtain ⟨kq0, rq0_pocket, lq0_pocket, rq0_told, lq0_told, rq0_tally, lq0_tally, rq0_settings, kq0_settings⟩ := id hL0
        obtain ⟨kq0_pocket, rq0_pocket_names, kq0_pocket_names, rq0_pocket_asksToGo, kq0_pocket_asksToGo, rq0_pocket_tellings, kq0_pocket_tellings, rq0_pocket_slots, kq0_pocket_slots, rq0_pocket_awake, kq0_pocket_awake, rq0_pocket_answering, kq0_pocket_answering⟩ := id lq0_pocket
        obtain ⟨kq0_told, rq0_told_row, kq0_told_row⟩ := id lq0_told
        have kq0_tally := id lq0_tally
        show AW m_X2_walkFrom d none Q 71 [some (.inr (some q0)), some (.inl x1), some (.inl x2), some (.inl x3), some (.inl v5), some (.inl ((if x1 < v5 - 400 then v5 - 400 else x1))), none] [(.inl v17)] h16 (0, 0)
        refine ax_istore (pc := 71) (ls' := [some (.inr (some q0)), some (.inl x1), some (.inl x2), some (.inl x3), some (.inl v5), some (.inl ((if x1 < v5 - 400 then v5 - 400 else x1))), some (.inl v17)]) dX2_walkFrom_71 (Nat.le_of_ble_eq_true rfl) rfl ?_
        refine aw_aload_n (pc := 73) dX2_walkFrom_73 rfl ?_
        refine aw_iload (pc := 74) dX2_walkFrom_74 rfl ?_
        refine aw_iconst (pc := 76) dX2_walkFrom_76 ?_
        obtain ⟨s18, g⟩ := g
        refine ax_iadd (pc := 77) (v := ((if x1 < v5 - 400 then v5 - 400 else x1)) + 1) dX2_walkFrom_77 s18 rfl ?_
        refine aw_iconst (pc := 78) dX2_walkFrom_78 ?_
        refine aw_iload (pc := 79) dX2_walkFrom_79 rfl ?_
        obtain ⟨s19, g⟩ := g
        refine ax_imul (pc := 81) (v := 2 * v17) dX2_walkFrom_81 s19 rfl ?_
        refine aw_iload_n (pc := 82) dX2_walkFrom_82 rfl ?_
        refine aw_invS (pc := 83) (md' := m_X2_walkFrom) (as := [(.inr (some q0)), (.inl (((if x1 < v5 - 400 then v5 - 400 else x1)) + 1)), (.inl (2 * v17)), (.inl x3)]) dX2_walkFrom_83 mo_X2_walkFrom sm_X2_walkFrom ml_X2_153 rfl rfl hd (Nat.le_of_ble_eq_true rfl) (Nat.le_of_ble_eq_true rfl) (Nat.le_of_ble_eq_true rfl) ?_
        refine am_mono g (fun _ h20 _ ok_h20 g => ?_)
        obtain ⟨rfl, ss_h20, g⟩ := g
        replace hL0 := QS.ss hL0 ss_h20
        obtain ⟨kq0, rq0_pocket, lq0_pocket, rq0_told, lq0_told, rq0_tally, lq0_tally, rq0_settings, kq0_settings⟩ := id hL0
        obtain ⟨kq0_pocket, rq0_pocket_names, kq0_pocket_names, rq0_pocket_asksToGo, kq0_pocket_asksToGo, rq0_pocket_tellings, kq0_pocket_tellings, rq0_pocket_slots, kq0_pocket_slots, rq0_pocket_awake, kq0_pocket_awake, rq0_pocket_answering, kq0_pocket_answering⟩ := id lq0_pocket
        obtain ⟨kq0_told, rq0_told_row, kq0_told_row⟩ := id lq0_told
        have kq0_tally := id lq0_tally
        show AW m_X2_walkFrom d none Q 86 [some (.inr (some q0)), some (.inl x1), some (.inl x2), some (.inl x3), some (.inl v5), some (.inl ((if x1 < v5 - 400 then v5 - 400 else x1))), some (.inl v17)] [] h20 (0, 0)
        refine aw_aload_n (pc := 86) dX2_walkFrom_86 rfl ?_
        refine aw_iload (pc := 87) dX2_walkFrom_87 rfl ?_
        refine aw_iconst (pc := 89) dX2_walkFrom_89 ?_
        refine ax_iadd (pc := 90) (v := ((if x1 < v5 - 400 then v5 - 400 else x1)) + 1) dX2_walkFrom_90 s18 rfl ?_
        refine aw_iconst (pc := 91) dX2_walkFrom_91 ?_
        refine aw_iload (pc := 92) dX2_walkFrom_92 rfl ?_
        refine ax_imul (pc := 94) (v := 2 * v17) dX2_walkFrom_94 s19 rfl ?_
        refine aw_iconst (pc := 95) dX2_walkFrom_95 ?_
        obtain ⟨s21, g⟩ := g
        refine ax_iadd (pc := 96) (v := (2 * v17) + 1) dX2_walkFrom_96 s21 rfl ?_
        refine aw_iload_n (pc := 97) dX2_walkFrom_97 rfl ?_
        refine aw_invS (pc := 98) (md' := m_X2_walkFrom) (as := [(.inr (some q0)), (.inl (((if x1 < v5 - 400 then v5 - 400 else x1)) + 1)), (.inl ((2 * v17) + 1)), (.inl x3)]) dX2_walkFrom_98 mo_X2_walkFrom sm_X2_walkFrom ml_X2_153 rfl rfl hd (Nat.le_of_ble_eq_true rfl) (Nat.le_of_ble_eq_true rfl) (Nat.le_of_ble_eq_true rfl) ?_
        refine am_mono g (fun _ h22 _ ok_h22 g => ?_)
        obtain ⟨rfl, ss_h22, g⟩ := g
        replace hL0 := QS.ss hL0 ss_h22
        obtain ⟨kq0, rq0_pocket, lq0_pocket, rq0_told, lq0_told, rq0_tally, lq0_tally, rq0_settings, kq0_settings⟩ := id hL0
        obtain ⟨kq0_pocket, rq0_pocket_names, kq0_pocket_names, rq0_pocket_asksToGo, kq0_pocket_asksToGo, rq0_pocket_tellings, kq0_pocket_tellings, rq0_pocket_slots, kq0_pocket_slots, rq0_pocket_awake, kq0_pocket_awake, rq0_pocket_answering, kq0_pocket_answering⟩ := id lq0_pocket
        obtain ⟨kq0_told, rq0_told_row, kq0_told_row⟩ := id lq0_told
        have kq0_tally := id lq0_tally
        show AW m_X2_walkFrom d none Q 101 [some (.inr (some q0)), some (.inl x1), some (.inl x2), some (.inl x3), some (.inl v5), some (.inl ((if x1 < v5 - 400 then v5 - 400 else x1))), some (.inl v17)] [] h22 (0, 0)
        exact aw_return (pc := 101) dX2_walkFrom_101 rfl g (by decide) (by decide)
    · replace g := g.2 c6
      exact aw_return (pc := 41) dX2_walkFrom_41 rfl g (by decide) (by decide)
  · replace g := g.2 c3
    exact aw_return (pc := 12) dX2_walkFrom_12 rfl g (by decide) (by decide)
set_option maxRecDepth 100000 in
set_option maxHeartbeats 4000000 in
theorem vc_X2_makeFrame {d : Nat} {Q : Option Int → AH → Prop} {h : AH} {b : Nat} {x1 : Int} (hd : 1 ≤ d) (hL : QS h b)
  (g :
    AM (d - 1) m_X6_isFrameSize [(.inl x1)] h (fun r h1 => 
      ∃ v2, r = some v2 ∧ SS h h1 ∧
      ((¬ v2 = 0 → (
        AM (d - 1) m_X2_drawSlots [(.inr (some b)), (.inl x1)] (up (up h1 (b + 10) 6 (w ((hi h1 (b + 10) 6) + 1))) (b + 10) 5 (w ((hi h1 (b + 10) 5) + 4))) (fun r h4 => 
          r = none ∧ SS (up (up h1 (b + 10) 6 (w ((hi h1 (b + 10) 6) + 1))) (b + 10) 5 (w ((hi h1 (b + 10) 5) + 4))) h4 ∧
          AW m_X2_makeFrame d none Q 51 [some (.inr (some b)), some (.inl x1), some (.inl (hi h1 (b + 10) 3)), some (.inl 0), none] [] h4 (0, 0))
      )) ∧
      (¬ (¬ v2 = 0) → (
        Q (some (-2)) h1
      ))))) :
  AM d m_X2_makeFrame [(.inr (some b)), (.inl x1)] h Q := by
  refine am_body mo_X2_makeFrame (Nat.le_of_ble_eq_true rfl) ?_
  show AW m_X2_makeFrame d none Q 0 [some (.inr (some b)), some (.inl x1), none, none, none] [] h (0, 0)
  obtain ⟨kb, rb_pocket, lb_pocket, rb_told, lb_told, rb_tally, lb_tally, rb_settings, kb_settings⟩ := id hL
  obtain ⟨kb_pocket, rb_pocket_names, kb_pocket_names, rb_pocket_asksToGo, kb_pocket_asksToGo, rb_pocket_tellings, kb_pocket_tellings, rb_pocket_slots, kb_pocket_slots, rb_pocket_awake, kb_pocket_awake, rb_pocket_answering, kb_pocket_answering⟩ := id lb_pocket
  obtain ⟨kb_told, rb_told_row, kb_told_row⟩ := id lb_told
  have kb_tally := id lb_tally
  refine aw_iload_n (pc := 0) dX2_makeFrame_0 rfl ?_
  refine aw_invSN (pc := 1) (md' := m_X6_isFrameSize) (as := [(.inl x1)]) dX2_makeFrame_1 mo_X6_isFrameSize sm_X6_isFrameSize nl_X2_167 rfl hd (Nat.le_of_ble_eq_true rfl) (Nat.le_of_ble_eq_true rfl) (Nat.le_of_ble_eq_true rfl) ?_
  refine am_mono g (fun _ h1 _ ok_h1 g => ?_)
  obtain ⟨v2, rfl, ss_h1, g⟩ := g
  replace hL := QS.ss hL ss_h1
  obtain ⟨kb, rb_pocket, lb_pocket, rb_told, lb_told, rb_tally, lb_tally, rb_settings, kb_settings⟩ := id hL
  obtain ⟨kb_pocket, rb_pocket_names, kb_pocket_names, rb_pocket_asksToGo, kb_pocket_asksToGo, rb_pocket_tellings, kb_pocket_tellings, rb_pocket_slots, kb_pocket_slots, rb_pocket_awake, kb_pocket_awake, rb_pocket_answering, kb_pocket_answering⟩ := id lb_pocket
  obtain ⟨kb_told, rb_told_row, kb_told_row⟩ := id lb_told
  have kb_tally := id lb_tally
  show AW m_X2_makeFrame d none Q 4 [some (.inr (some b)), some (.inl x1), none, none, none] [(.inl v2)] h1 (0, 0)
  refine aw_if_ne (pc := 4) (tgt := 10) dX2_makeFrame_4 (by decide) (fun c3 => ?_) (fun c3 => ?_)
  · replace g := g.1 c3
    refine aw_aload_n (pc := 10) dX2_makeFrame_10 rfl ?_
    refine aw_getr (pc := 11) (r := some (b + 10)) dX2_makeFrame_11 fl_X2_28 (by decide) rfl kb rb_tally ?_
    refine ax_geti (pc := 14) (v := hi h1 (b + 10) 3) dX2_makeFrame_14 fl_X2_145 (by decide) rfl kb_tally rfl ?_
    refine ax_istore_n (pc := 17) (ls' := [some (.inr (some b)), some (.inl x1), some (.inl (hi h1 (b + 10) 3)), none, none]) dX2_makeFrame_17 (Nat.le_of_ble_eq_true rfl) rfl ?_
    refine aw_aload_n (pc := 18) dX2_makeFrame_18 rfl ?_
    refine aw_getr (pc := 19) (r := some (b + 10)) dX2_makeFrame_19 fl_X2_28 (by decide) rfl kb rb_tally ?_
    refine aw_dup (pc := 22) dX2_makeFrame_22 ?_
    refine ax_geti (pc := 23) (v := hi h1 (b + 10) 6) dX2_makeFrame_23 fl_X2_170 (by decide) rfl kb_tally rfl ?_
    refine aw_iconst (pc := 26) dX2_makeFrame_26 ?_
    refine aw_iadd_w (pc := 27) dX2_makeFrame_27 ?_
    refine ax_puti (pc := 28) dX2_makeFrame_28 fl_X2_170 (by decide) rfl rfl rfl kb_tally ?_
    refine aw_aload_n (pc := 31) dX2_makeFrame_31 rfl ?_
    refine aw_getr (pc := 32) (r := some (b + 10)) dX2_makeFrame_32 fl_X2_28 (by decide) rfl (hkU kb) (hrU rb_tally) ?_
    refine aw_dup (pc := 35) dX2_makeFrame_35 ?_
    refine ax_geti (pc := 36) (v := hi h1 (b + 10) 5) dX2_makeFrame_36 fl_X2_112 (by decide) rfl (hkU kb_tally) (hiN (Or.inr (by decide)) rfl) ?_
    refine aw_iconst (pc := 39) dX2_makeFrame_39 ?_
    refine aw_iadd_w (pc := 40) dX2_makeFrame_40 ?_
    refine ax_puti (pc := 41) dX2_makeFrame_41 fl_X2_112 (by decide) rfl rfl rfl (hkU kb_tally) ?_
    refine aw_aload_n (pc := 44) dX2_makeFrame_44 rfl ?_
    refine aw_iload_n (pc := 45) dX2_makeFrame_45 rfl ?_
    refine aw_invV (pc := 46) (md' := m_X2_drawSlots) (ci := 2) (as := [(.inl x1)]) dX2_makeFrame_46 mo_X2_drawSlots im_X2_drawSlots se_X2_drawSlots ml_X2_173 rfl (hkU (hkU kb)) rfl hd (Nat.le_of_ble_eq_true rfl) (Nat.le_of_ble_eq_true rfl) (Nat.le_of_ble_eq_true rfl) ?_
    refine am_mono g (fun _ h4 _ ok_h4 g => ?_)
    obtain ⟨rfl, ss_h4, g⟩ := g
    replace hL := QS.ss hL (SS.tr (SS.up (SS.up SS.rf)) ss_h4)
    obtain ⟨kb, rb_pocket, lb_pocket, rb_told, lb_told, rb_tally, lb_tally, rb_settings, kb_settings⟩ := id hL
    obtain ⟨kb_pocket, rb_pocket_names, kb_pocket_names, rb_pocket_asksToGo, kb_pocket_asksToGo, rb_pocket_tellings, kb_pocket_tellings, rb_pocket_slots, kb_pocket_slots, rb_pocket_awake, kb_pocket_awake, rb_pocket_answering, kb_pocket_answering⟩ := id lb_pocket
    obtain ⟨kb_told, rb_told_row, kb_told_row⟩ := id lb_told
    have kb_tally := id lb_tally
    show AW m_X2_makeFrame d none Q 49 [some (.inr (some b)), some (.inl x1), some (.inl (hi h1 (b + 10) 3)), none, none] [] h4 (0, 0)
    refine aw_iconst (pc := 49) dX2_makeFrame_49 ?_
    refine ax_istore_n (pc := 50) (ls' := [some (.inr (some b)), some (.inl x1), some (.inl (hi h1 (b + 10) 3)), some (.inl 0), none]) dX2_makeFrame_50 (Nat.le_of_ble_eq_true rfl) rfl ?_
    exact g
  · replace g := g.2 c3
    refine aw_bipush (pc := 7) dX2_makeFrame_7 ?_
    exact ax_ireturn (pc := 9) dX2_makeFrame_9 rfl g (by decide) (by decide)
set_option maxRecDepth 100000 in
set_option maxHeartbeats 4000000 in
theorem vc_X2_makeFrame_51 {d : Nat} {Q : Option Int → AH → Prop} {h : AH} {b : Nat} {x1 x2 x3 : Int} (hd : 1 ≤ d) (hL : QS h b)
  (g :
    ((x1 ≤ x3 → (
      Q (some (w ((hi h (b + 10) 3) - x2))) h
    )) ∧
    (¬ (x1 ≤ x3) → (
      AM (d - 1) m_X1_letAnswerIn [(.inr (some (b + 1))), (.inl x3)] h (fun r h6 => 
        r = none ∧ SS h h6 ∧
        AM (d - 1) m_X2_hear [(.inr (some b))] h6 (fun r h7 => 
          ∃ v8, r = some v8 ∧ SS h6 h7 ∧
          ((¬ v8 = 300 → (
            AM (d - 1) m_X1_passAsk [(.inr (some (b + 1)))] (up (up h7 (b + 10) 1 (w ((hi h7 (b + 10) 1) + 1))) (b + 10) 5 (w ((hi h7 (b + 10) 5) + 9))) (fun r h10 => 
              ∃ v11, r = some v11 ∧ SS (up (up h7 (b + 10) 1 (w ((hi h7 (b + 10) 1) + 1))) (b + 10) 5 (w ((hi h7 (b + 10) 5) + 9))) h10 ∧
              (rg (x3 + 1)) ∧
              AW m_X2_makeFrame d none Q 51 [some (.inr (some b)), some (.inl x1), some (.inl x2), some (.inl (x3 + 1)), none] [] (up h10 (b + 10) 7 (w ((hi h7 (b + 10) 7) + v11))) (0, 0))
          )) ∧
          (¬ (¬ v8 = 300) → (
            AM (d - 1) m_X1_passAsk [(.inr (some (b + 1)))] (up (up h7 (b + 10) 1 (w ((hi h7 (b + 10) 1) + 1))) (b + 10) 5 (w ((hi h7 (b + 10) 5) + 1))) (fun r h13 => 
              ∃ v14, r = some v14 ∧ SS (up (up h7 (b + 10) 1 (w ((hi h7 (b + 10) 1) + 1))) (b + 10) 5 (w ((hi h7 (b + 10) 5) + 1))) h13 ∧
              (rg (x3 + 1)) ∧
              AW m_X2_makeFrame d none Q 51 [some (.inr (some b)), some (.inl x1), some (.inl x2), some (.inl (x3 + 1)), none] [] (up h13 (b + 10) 7 (w ((hi h7 (b + 10) 7) + v14))) (0, 0))
          )))))
    )))) :
  AW m_X2_makeFrame d none Q 51 [some (.inr (some b)), some (.inl x1), some (.inl x2), some (.inl x3), none] [] h (0, 0) := by
  obtain ⟨kb, rb_pocket, lb_pocket, rb_told, lb_told, rb_tally, lb_tally, rb_settings, kb_settings⟩ := id hL
  obtain ⟨kb_pocket, rb_pocket_names, kb_pocket_names, rb_pocket_asksToGo, kb_pocket_asksToGo, rb_pocket_tellings, kb_pocket_tellings, rb_pocket_slots, kb_pocket_slots, rb_pocket_awake, kb_pocket_awake, rb_pocket_answering, kb_pocket_answering⟩ := id lb_pocket
  obtain ⟨kb_told, rb_told_row, kb_told_row⟩ := id lb_told
  have kb_tally := id lb_tally
  refine aw_iload_n (pc := 51) dX2_makeFrame_51 rfl ?_
  refine aw_iload_n (pc := 52) dX2_makeFrame_52 rfl ?_
  refine aw_icmp_ge (pc := 53) (tgt := 134) dX2_makeFrame_53 (by decide) (fun c5 => ?_) (fun c5 => ?_)
  · replace g := g.1 c5
    refine aw_aload_n (pc := 134) dX2_makeFrame_134 rfl ?_
    refine aw_getr (pc := 135) (r := some (b + 10)) dX2_makeFrame_135 fl_X2_28 (by decide) rfl kb rb_tally ?_
    refine ax_geti (pc := 138) (v := hi h (b + 10) 3) dX2_makeFrame_138 fl_X2_145 (by decide) rfl kb_tally rfl ?_
    refine aw_iload_n (pc := 141) dX2_makeFrame_141 rfl ?_
    refine aw_isub_w (pc := 142) dX2_makeFrame_142 ?_
    exact ax_ireturn (pc := 143) dX2_makeFrame_143 rfl g (by decide) (by decide)
  · replace g := g.2 c5
    refine aw_aload_n (pc := 56) dX2_makeFrame_56 rfl ?_
    refine aw_getr (pc := 57) (r := some (b + 1)) dX2_makeFrame_57 fl_X2_12 (by decide) rfl kb rb_pocket ?_
    refine aw_iload_n (pc := 60) dX2_makeFrame_60 rfl ?_
    refine aw_invV (pc := 61) (md' := m_X1_letAnswerIn) (ci := 1) (as := [(.inl x3)]) dX2_makeFrame_61 mo_X1_letAnswerIn im_X1_letAnswerIn se_X1_letAnswerIn ml_X2_176 rfl kb_pocket rfl hd (Nat.le_of_ble_eq_true rfl) (Nat.le_of_ble_eq_true rfl) (Nat.le_of_ble_eq_true rfl) ?_
    refine am_mono g (fun _ h6 _ ok_h6 g => ?_)
    obtain ⟨rfl, ss_h6, g⟩ := g
    replace hL := QS.ss hL ss_h6
    obtain ⟨kb, rb_pocket, lb_pocket, rb_told, lb_told, rb_tally, lb_tally, rb_settings, kb_settings⟩ := id hL
    obtain ⟨kb_pocket, rb_pocket_names, kb_pocket_names, rb_pocket_asksToGo, kb_pocket_asksToGo, rb_pocket_tellings, kb_pocket_tellings, rb_pocket_slots, kb_pocket_slots, rb_pocket_awake, kb_pocket_awake, rb_pocket_answering, kb_pocket_answering⟩ := id lb_pocket
    obtain ⟨kb_told, rb_told_row, kb_told_row⟩ := id lb_told
    have kb_tally := id lb_tally
    show AW m_X2_makeFrame d none Q 64 [some (.inr (some b)), some (.inl x1), some (.inl x2), some (.inl x3), none] [] h6 (0, 0)
    refine aw_aload_n (pc := 64) dX2_makeFrame_64 rfl ?_
    refine aw_invV (pc := 65) (md' := m_X2_hear) (ci := 2) (as := []) dX2_makeFrame_65 mo_X2_hear im_X2_hear se_X2_hear ml_X2_106 rfl kb rfl hd (Nat.le_of_ble_eq_true rfl) (Nat.le_of_ble_eq_true rfl) (Nat.le_of_ble_eq_true rfl) ?_
    refine am_mono g (fun _ h7 _ ok_h7 g => ?_)
    obtain ⟨v8, rfl, ss_h7, g⟩ := g
    replace hL := QS.ss hL ss_h7
    obtain ⟨kb, rb_pocket, lb_pocket, rb_told, lb_told, rb_tally, lb_tally, rb_settings, kb_settings⟩ := id hL
    obtain ⟨kb_pocket, rb_pocket_names, kb_pocket_names, rb_pocket_asksToGo, kb_pocket_asksToGo, rb_pocket_tellings, kb_pocket_tellings, rb_pocket_slots, kb_pocket_slots, rb_pocket_awake, kb_pocket_awake, rb_pocket_answering, kb_pocket_answering⟩ := id lb_pocket
    obtain ⟨kb_told, rb_told_row, kb_told_row⟩ := id lb_told
    have kb_tally := id lb_tally
    show AW m_X2_makeFrame d none Q 68 [some (.inr (some b)), some (.inl x1), some (.inl x2), some (.inl x3), none] [(.inl v8)] h7 (0, 0)
    refine ax_istore (pc := 68) (ls' := [some (.inr (some b)), some (.inl x1), some (.inl x2), some (.inl x3), some (.inl v8)]) dX2_makeFrame_68 (Nat.le_of_ble_eq_true rfl) rfl ?_
    refine aw_aload_n (pc := 70) dX2_makeFrame_70 rfl ?_
    refine aw_getr (pc := 71) (r := some (b + 10)) dX2_makeFrame_71 fl_X2_28 (by decide) rfl kb rb_tally ?_
    refine aw_dup (pc := 74) dX2_makeFrame_74 ?_
    refine ax_geti (pc := 75) (v := hi h7 (b + 10) 1) dX2_makeFrame_75 fl_X2_179 (by decide) rfl kb_tally rfl ?_
    refine aw_iconst (pc := 78) dX2_makeFrame_78 ?_
    refine aw_iadd_w (pc := 79) dX2_makeFrame_79 ?_
    refine ax_puti (pc := 80) dX2_makeFrame_80 fl_X2_179 (by decide) rfl rfl rfl kb_tally ?_
    refine aw_aload_n (pc := 83) dX2_makeFrame_83 rfl ?_
    refine aw_getr (pc := 84) (r := some (b + 10)) dX2_makeFrame_84 fl_X2_28 (by decide) rfl (hkU kb) (hrU rb_tally) ?_
    refine aw_dup (pc := 87) dX2_makeFrame_87 ?_
    refine ax_geti (pc := 88) (v := hi h7 (b + 10) 5) dX2_makeFrame_88 fl_X2_112 (by decide) rfl (hkU kb_tally) (hiN (Or.inr (by decide)) rfl) ?_
    refine aw_iload (pc := 91) dX2_makeFrame_91 rfl ?_
    refine aw_sipush (pc := 93) dX2_makeFrame_93 ?_
    refine aw_icmp_ne (pc := 96) (tgt := 103) dX2_makeFrame_96 (by decide) (fun c9 => ?_) (fun c9 => ?_)
    · replace g := g.1 c9
      refine aw_bipush (pc := 103) dX2_makeFrame_103 ?_
      refine aw_iadd_w (pc := 105) dX2_makeFrame_105 ?_
      refine ax_puti (pc := 106) dX2_makeFrame_106 fl_X2_112 (by decide) rfl rfl rfl (hkU kb_tally) ?_
      refine aw_aload_n (pc := 109) dX2_makeFrame_109 rfl ?_
      refine aw_getr (pc := 110) (r := some (b + 10)) dX2_makeFrame_110 fl_X2_28 (by decide) rfl (hkU (hkU kb)) (hrU (hrU rb_tally)) ?_
      refine aw_dup (pc := 113) dX2_makeFrame_113 ?_
      refine ax_geti (pc := 114) (v := hi h7 (b + 10) 7) dX2_makeFrame_114 fl_X2_121 (by decide) rfl (hkU (hkU kb_tally)) (hiN (Or.inr (by decide)) (hiN (Or.inr (by decide)) rfl)) ?_
      refine aw_aload_n (pc := 117) dX2_makeFrame_117 rfl ?_
      refine aw_getr (pc := 118) (r := some (b + 1)) dX2_makeFrame_118 fl_X2_12 (by decide) rfl (hkU (hkU kb)) (hrU (hrU rb_pocket)) ?_
      refine aw_invV (pc := 121) (md' := m_X1_passAsk) (ci := 1) (as := []) dX2_makeFrame_121 mo_X1_passAsk im_X1_passAsk se_X1_passAsk ml_X2_124 rfl (hkU (hkU kb_pocket)) rfl hd (Nat.le_of_ble_eq_true rfl) (Nat.le_of_ble_eq_true rfl) (Nat.le_of_ble_eq_true rfl) ?_
      refine am_mono g (fun _ h10 _ ok_h10 g => ?_)
      obtain ⟨v11, rfl, ss_h10, g⟩ := g
      replace hL := QS.ss hL (SS.tr (SS.up (SS.up SS.rf)) ss_h10)
      obtain ⟨kb, rb_pocket, lb_pocket, rb_told, lb_told, rb_tally, lb_tally, rb_settings, kb_settings⟩ := id hL
      obtain ⟨kb_pocket, rb_pocket_names, kb_pocket_names, rb_pocket_asksToGo, kb_pocket_asksToGo, rb_pocket_tellings, kb_pocket_tellings, rb_pocket_slots, kb_pocket_slots, rb_pocket_awake, kb_pocket_awake, rb_pocket_answering, kb_pocket_answering⟩ := id lb_pocket
      obtain ⟨kb_told, rb_told_row, kb_told_row⟩ := id lb_told
      have kb_tally := id lb_tally
      show AW m_X2_makeFrame d none Q 124 [some (.inr (some b)), some (.inl x1), some (.inl x2), some (.inl x3), some (.inl v8)] [(.inl v11), (.inl (hi h7 (b + 10) 7)), (.inr (some (b + 10)))] h10 (0, 0)
      refine aw_iadd_w (pc := 124) dX2_makeFrame_124 ?_
      refine ax_puti (pc := 125) dX2_makeFrame_125 fl_X2_121 (by decide) rfl rfl rfl kb_tally ?_
      obtain ⟨s12, g⟩ := g
      refine ax_iinc (pc := 128) (v' := x3 + 1) (ls' := [some (.inr (some b)), some (.inl x1), some (.inl x2), some (.inl (x3 + 1)), some (.inl v8)]) dX2_makeFrame_128 rfl s12 rfl rfl ?_
      refine aw_goto (pc := 131) (tgt := 51) dX2_makeFrame_131 (by decide) ?_
      exact aw_fewer (show subl [some (.inr (some b)), some (.inl x1), some (.inl x2), some (.inl (x3 + 1)), none] [some (.inr (some b)), some (.inl x1), some (.inl x2), some (.inl (x3 + 1)), some (.inl v8)] from (And.intro rfl (And.intro rfl (And.intro rfl (And.intro rfl trivial))))) g
    · replace g := g.2 c9
      refine aw_iconst (pc := 99) dX2_makeFrame_99 ?_
      refine aw_goto (pc := 100) (tgt := 105) dX2_makeFrame_100 (by decide) ?_
      refine aw_iadd_w (pc := 105) dX2_makeFrame_105 ?_
      refine ax_puti (pc := 106) dX2_makeFrame_106 fl_X2_112 (by decide) rfl rfl rfl (hkU kb_tally) ?_
      refine aw_aload_n (pc := 109) dX2_makeFrame_109 rfl ?_
      refine aw_getr (pc := 110) (r := some (b + 10)) dX2_makeFrame_110 fl_X2_28 (by decide) rfl (hkU (hkU kb)) (hrU (hrU rb_tally)) ?_
      refine aw_dup (pc := 113) dX2_makeFrame_113 ?_
      refine ax_geti (pc := 114) (v := hi h7 (b + 10) 7) dX2_makeFrame_114 fl_X2_121 (by decide) rfl (hkU (hkU kb_tally)) (hiN (Or.inr (by decide)) (hiN (Or.inr (by decide)) rfl)) ?_
      refine aw_aload_n (pc := 117) dX2_makeFrame_117 rfl ?_
      refine aw_getr (pc := 118) (r := some (b + 1)) dX2_makeFrame_118 fl_X2_12 (by decide) rfl (hkU (hkU kb)) (hrU (hrU rb_pocket)) ?_
      refine aw_invV (pc := 121) (md' := m_X1_passAsk) (ci := 1) (as := []) dX2_makeFrame_121 mo_X1_passAsk im_X1_passAsk se_X1_passAsk ml_X2_124 rfl (hkU (hkU kb_pocket)) rfl hd (Nat.le_of_ble_eq_true rfl) (Nat.le_of_ble_eq_true rfl) (Nat.le_of_ble_eq_true rfl) ?_
      refine am_mono g (fun _ h13 _ ok_h13 g => ?_)
      obtain ⟨v14, rfl, ss_h13, g⟩ := g
      replace hL := QS.ss hL (SS.tr (SS.up (SS.up SS.rf)) ss_h13)
      obtain ⟨kb, rb_pocket, lb_pocket, rb_told, lb_told, rb_tally, lb_tally, rb_settings, kb_settings⟩ := id hL
      obtain ⟨kb_pocket, rb_pocket_names, kb_pocket_names, rb_pocket_asksToGo, kb_pocket_asksToGo, rb_pocket_tellings, kb_pocket_tellings, rb_pocket_slots, kb_pocket_slots, rb_pocket_awake, kb_pocket_awake, rb_pocket_answering, kb_pocket_answering⟩ := id lb_pocket
      obtain ⟨kb_told, rb_told_row, kb_told_row⟩ := id lb_told
      have kb_tally := id lb_tally
      show AW m_X2_makeFrame d none Q 124 [some (.inr (some b)), some (.inl x1), some (.inl x2), some (.inl x3), some (.inl v8)] [(.inl v14), (.inl (hi h7 (b + 10) 7)), (.inr (some (b + 10)))] h13 (0, 0)
      refine aw_iadd_w (pc := 124) dX2_makeFrame_124 ?_
      refine ax_puti (pc := 125) dX2_makeFrame_125 fl_X2_121 (by decide) rfl rfl rfl kb_tally ?_
      obtain ⟨s15, g⟩ := g
      refine ax_iinc (pc := 128) (v' := x3 + 1) (ls' := [some (.inr (some b)), some (.inl x1), some (.inl x2), some (.inl (x3 + 1)), some (.inl v8)]) dX2_makeFrame_128 rfl s15 rfl rfl ?_
      refine aw_goto (pc := 131) (tgt := 51) dX2_makeFrame_131 (by decide) ?_
      exact aw_fewer (show subl [some (.inr (some b)), some (.inl x1), some (.inl x2), some (.inl (x3 + 1)), none] [some (.inr (some b)), some (.inl x1), some (.inl x2), some (.inl (x3 + 1)), some (.inl v8)] from (And.intro rfl (And.intro rfl (And.intro rfl (And.intro rfl trivial))))) g
set_option maxRecDepth 100000 in
set_option maxHeartbeats 4000000 in
theorem vc_X2_drawSlots {d : Nat} {Q : Option Int → AH → Prop} {h : AH} {b : Nat} {x1 : Int} (hd : 1 ≤ d) (hL : QS h b)
  (g :
    AM (d - 1) m_X1_cards [(.inr (some (b + 1)))] h (fun r h1 => 
      ∃ v2, r = some v2 ∧ SS h h1 ∧
      AW m_X2_drawSlots d none Q 10 [some (.inr (some b)), some (.inl x1), some (.inl v2), some (.inl 0)] [] h1 (0, 0))) :
  AM d m_X2_drawSlots [(.inr (some b)), (.inl x1)] h Q := by
  refine am_body mo_X2_drawSlots (Nat.le_of_ble_eq_true rfl) ?_
  show AW m_X2_drawSlots d none Q 0 [some (.inr (some b)), some (.inl x1), none, none] [] h (0, 0)
  obtain ⟨kb, rb_pocket, lb_pocket, rb_told, lb_told, rb_tally, lb_tally, rb_settings, kb_settings⟩ := id hL
  obtain ⟨kb_pocket, rb_pocket_names, kb_pocket_names, rb_pocket_asksToGo, kb_pocket_asksToGo, rb_pocket_tellings, kb_pocket_tellings, rb_pocket_slots, kb_pocket_slots, rb_pocket_awake, kb_pocket_awake, rb_pocket_answering, kb_pocket_answering⟩ := id lb_pocket
  obtain ⟨kb_told, rb_told_row, kb_told_row⟩ := id lb_told
  have kb_tally := id lb_tally
  refine aw_aload_n (pc := 0) dX2_drawSlots_0 rfl ?_
  refine aw_getr (pc := 1) (r := some (b + 1)) dX2_drawSlots_1 fl_X2_12 (by decide) rfl kb rb_pocket ?_
  refine aw_invV (pc := 4) (md' := m_X1_cards) (ci := 1) (as := []) dX2_drawSlots_4 mo_X1_cards im_X1_cards se_X1_cards ml_X2_66 rfl kb_pocket rfl hd (Nat.le_of_ble_eq_true rfl) (Nat.le_of_ble_eq_true rfl) (Nat.le_of_ble_eq_true rfl) ?_
  refine am_mono g (fun _ h1 _ ok_h1 g => ?_)
  obtain ⟨v2, rfl, ss_h1, g⟩ := g
  replace hL := QS.ss hL ss_h1
  obtain ⟨kb, rb_pocket, lb_pocket, rb_told, lb_told, rb_tally, lb_tally, rb_settings, kb_settings⟩ := id hL
  obtain ⟨kb_pocket, rb_pocket_names, kb_pocket_names, rb_pocket_asksToGo, kb_pocket_asksToGo, rb_pocket_tellings, kb_pocket_tellings, rb_pocket_slots, kb_pocket_slots, rb_pocket_awake, kb_pocket_awake, rb_pocket_answering, kb_pocket_answering⟩ := id lb_pocket
  obtain ⟨kb_told, rb_told_row, kb_told_row⟩ := id lb_told
  have kb_tally := id lb_tally
  show AW m_X2_drawSlots d none Q 7 [some (.inr (some b)), some (.inl x1), none, none] [(.inl v2)] h1 (0, 0)
  refine ax_istore_n (pc := 7) (ls' := [some (.inr (some b)), some (.inl x1), some (.inl v2), none]) dX2_drawSlots_7 (Nat.le_of_ble_eq_true rfl) rfl ?_
  refine aw_iconst (pc := 8) dX2_drawSlots_8 ?_
  refine ax_istore_n (pc := 9) (ls' := [some (.inr (some b)), some (.inl x1), some (.inl v2), some (.inl 0)]) dX2_drawSlots_9 (Nat.le_of_ble_eq_true rfl) rfl ?_
  exact g
set_option maxRecDepth 100000 in
set_option maxHeartbeats 4000000 in
theorem vc_X2_drawSlots_10 {d : Nat} {Q : Option Int → AH → Prop} {h : AH} {b : Nat} {x1 x2 x3 : Int} (hd : 1 ≤ d) (hL : QS h b)
  (g :
    ((x2 ≤ x3 → (
      Q none h
    )) ∧
    (¬ (x2 ≤ x3) → (
      AM (d - 1) m_X1_isAwake [(.inr (some (b + 1))), (.inl x3)] h (fun r h4 => 
        ∃ v5, r = some v5 ∧ SS h h4 ∧
        ((v5 = 0 → (
          AM (d - 1) m_X1_slotAt [(.inr (some (b + 1))), (.inl x3), (.inl (-1))] h4 (fun r h7 => 
            r = none ∧ SS h4 h7 ∧
            (rg (x3 + 1)) ∧
            AW m_X2_drawSlots d none Q 10 [some (.inr (some b)), some (.inl x1), some (.inl x2), some (.inl (x3 + 1))] [] h7 (0, 0))
        )) ∧
        (¬ (v5 = 0) → (
          AM (d - 1) m_X2_draw [(.inr (some b)), (.inl x1)] h4 (fun r h9 => 
            ∃ v10, r = some v10 ∧ SS h4 h9 ∧
            AM (d - 1) m_X1_slotAt [(.inr (some (b + 1))), (.inl x3), (.inl v10)] h9 (fun r h11 => 
              r = none ∧ SS h9 h11 ∧
              (rg (x3 + 1)) ∧
              AW m_X2_drawSlots d none Q 10 [some (.inr (some b)), some (.inl x1), some (.inl x2), some (.inl (x3 + 1))] [] h11 (0, 0)))
        ))))
    )))) :
  AW m_X2_drawSlots d none Q 10 [some (.inr (some b)), some (.inl x1), some (.inl x2), some (.inl x3)] [] h (0, 0) := by
  obtain ⟨kb, rb_pocket, lb_pocket, rb_told, lb_told, rb_tally, lb_tally, rb_settings, kb_settings⟩ := id hL
  obtain ⟨kb_pocket, rb_pocket_names, kb_pocket_names, rb_pocket_asksToGo, kb_pocket_asksToGo, rb_pocket_tellings, kb_pocket_tellings, rb_pocket_slots, kb_pocket_slots, rb_pocket_awake, kb_pocket_awake, rb_pocket_answering, kb_pocket_answering⟩ := id lb_pocket
  obtain ⟨kb_told, rb_told_row, kb_told_row⟩ := id lb_told
  have kb_tally := id lb_tally
  refine aw_iload_n (pc := 10) dX2_drawSlots_10 rfl ?_
  refine aw_iload_n (pc := 11) dX2_drawSlots_11 rfl ?_
  refine aw_icmp_ge (pc := 12) (tgt := 49) dX2_drawSlots_12 (by decide) (fun c3 => ?_) (fun c3 => ?_)
  · replace g := g.1 c3
    exact aw_return (pc := 49) dX2_drawSlots_49 rfl g (by decide) (by decide)
  · replace g := g.2 c3
    refine aw_aload_n (pc := 15) dX2_drawSlots_15 rfl ?_
    refine aw_getr (pc := 16) (r := some (b + 1)) dX2_drawSlots_16 fl_X2_12 (by decide) rfl kb rb_pocket ?_
    refine aw_iload_n (pc := 19) dX2_drawSlots_19 rfl ?_
    refine aw_aload_n (pc := 20) dX2_drawSlots_20 rfl ?_
    refine aw_getr (pc := 21) (r := some (b + 1)) dX2_drawSlots_21 fl_X2_12 (by decide) rfl kb rb_pocket ?_
    refine aw_iload_n (pc := 24) dX2_drawSlots_24 rfl ?_
    refine aw_invV (pc := 25) (md' := m_X1_isAwake) (ci := 1) (as := [(.inl x3)]) dX2_drawSlots_25 mo_X1_isAwake im_X1_isAwake se_X1_isAwake ml_X2_77 rfl kb_pocket rfl hd (Nat.le_of_ble_eq_true rfl) (Nat.le_of_ble_eq_true rfl) (Nat.le_of_ble_eq_true rfl) ?_
    refine am_mono g (fun _ h4 _ ok_h4 g => ?_)
    obtain ⟨v5, rfl, ss_h4, g⟩ := g
    replace hL := QS.ss hL ss_h4
    obtain ⟨kb, rb_pocket, lb_pocket, rb_told, lb_told, rb_tally, lb_tally, rb_settings, kb_settings⟩ := id hL
    obtain ⟨kb_pocket, rb_pocket_names, kb_pocket_names, rb_pocket_asksToGo, kb_pocket_asksToGo, rb_pocket_tellings, kb_pocket_tellings, rb_pocket_slots, kb_pocket_slots, rb_pocket_awake, kb_pocket_awake, rb_pocket_answering, kb_pocket_answering⟩ := id lb_pocket
    obtain ⟨kb_told, rb_told_row, kb_told_row⟩ := id lb_told
    have kb_tally := id lb_tally
    show AW m_X2_drawSlots d none Q 28 [some (.inr (some b)), some (.inl x1), some (.inl x2), some (.inl x3)] [(.inl v5), (.inl x3), (.inr (some (b + 1)))] h4 (0, 0)
    refine aw_if_eq (pc := 28) (tgt := 39) dX2_drawSlots_28 (by decide) (fun c6 => ?_) (fun c6 => ?_)
    · replace g := g.1 c6
      refine aw_iconst (pc := 39) dX2_drawSlots_39 ?_
      refine aw_invV (pc := 40) (md' := m_X1_slotAt) (ci := 1) (as := [(.inl x3), (.inl (-1))]) dX2_drawSlots_40 mo_X1_slotAt im_X1_slotAt se_X1_slotAt ml_X2_185 rfl kb_pocket rfl hd (Nat.le_of_ble_eq_true rfl) (Nat.le_of_ble_eq_true rfl) (Nat.le_of_ble_eq_true rfl) ?_
      refine am_mono g (fun _ h7 _ ok_h7 g => ?_)
      obtain ⟨rfl, ss_h7, g⟩ := g
      replace hL := QS.ss hL ss_h7
      obtain ⟨kb, rb_pocket, lb_pocket, rb_told, lb_told, rb_tally, lb_tally, rb_settings, kb_settings⟩ := id hL
      obtain ⟨kb_pocket, rb_pocket_names, kb_pocket_names, rb_pocket_asksToGo, kb_pocket_asksToGo, rb_pocket_tellings, kb_pocket_tellings, rb_pocket_slots, kb_pocket_slots, rb_pocket_awake, kb_pocket_awake, rb_pocket_answering, kb_pocket_answering⟩ := id lb_pocket
      obtain ⟨kb_told, rb_told_row, kb_told_row⟩ := id lb_told
      have kb_tally := id lb_tally
      show AW m_X2_drawSlots d none Q 43 [some (.inr (some b)), some (.inl x1), some (.inl x2), some (.inl x3)] [] h7 (0, 0)
      obtain ⟨s8, g⟩ := g
      refine ax_iinc (pc := 43) (v' := x3 + 1) (ls' := [some (.inr (some b)), some (.inl x1), some (.inl x2), some (.inl (x3 + 1))]) dX2_drawSlots_43 rfl s8 rfl rfl ?_
      refine aw_goto (pc := 46) (tgt := 10) dX2_drawSlots_46 (by decide) ?_
      exact g
    · replace g := g.2 c6
      refine aw_aload_n (pc := 31) dX2_drawSlots_31 rfl ?_
      refine aw_iload_n (pc := 32) dX2_drawSlots_32 rfl ?_
      refine aw_invV (pc := 33) (md' := m_X2_draw) (ci := 2) (as := [(.inl x1)]) dX2_drawSlots_33 mo_X2_draw im_X2_draw se_X2_draw ml_X2_182 rfl kb rfl hd (Nat.le_of_ble_eq_true rfl) (Nat.le_of_ble_eq_true rfl) (Nat.le_of_ble_eq_true rfl) ?_
      refine am_mono g (fun _ h9 _ ok_h9 g => ?_)
      obtain ⟨v10, rfl, ss_h9, g⟩ := g
      replace hL := QS.ss hL ss_h9
      obtain ⟨kb, rb_pocket, lb_pocket, rb_told, lb_told, rb_tally, lb_tally, rb_settings, kb_settings⟩ := id hL
      obtain ⟨kb_pocket, rb_pocket_names, kb_pocket_names, rb_pocket_asksToGo, kb_pocket_asksToGo, rb_pocket_tellings, kb_pocket_tellings, rb_pocket_slots, kb_pocket_slots, rb_pocket_awake, kb_pocket_awake, rb_pocket_answering, kb_pocket_answering⟩ := id lb_pocket
      obtain ⟨kb_told, rb_told_row, kb_told_row⟩ := id lb_told
      have kb_tally := id lb_tally
      show AW m_X2_drawSlots d none Q 36 [some (.inr (some b)), some (.inl x1), some (.inl x2), some (.inl x3)] [(.inl v10), (.inl x3), (.inr (some (b + 1)))] h9 (0, 0)
      refine aw_goto (pc := 36) (tgt := 40) dX2_drawSlots_36 (by decide) ?_
      refine aw_invV (pc := 40) (md' := m_X1_slotAt) (ci := 1) (as := [(.inl x3), (.inl v10)]) dX2_drawSlots_40 mo_X1_slotAt im_X1_slotAt se_X1_slotAt ml_X2_185 rfl kb_pocket rfl hd (Nat.le_of_ble_eq_true rfl) (Nat.le_of_ble_eq_true rfl) (Nat.le_of_ble_eq_true rfl) ?_
      refine am_mono g (fun _ h11 _ ok_h11 g => ?_)
      obtain ⟨rfl, ss_h11, g⟩ := g
      replace hL := QS.ss hL ss_h11
      obtain ⟨kb, rb_pocket, lb_pocket, rb_told, lb_told, rb_tally, lb_tally, rb_settings, kb_settings⟩ := id hL
      obtain ⟨kb_pocket, rb_pocket_names, kb_pocket_names, rb_pocket_asksToGo, kb_pocket_asksToGo, rb_pocket_tellings, kb_pocket_tellings, rb_pocket_slots, kb_pocket_slots, rb_pocket_awake, kb_pocket_awake, rb_pocket_answering, kb_pocket_answering⟩ := id lb_pocket
      obtain ⟨kb_told, rb_told_row, kb_told_row⟩ := id lb_told
      have kb_tally := id lb_tally
      show AW m_X2_drawSlots d none Q 43 [some (.inr (some b)), some (.inl x1), some (.inl x2), some (.inl x3)] [] h11 (0, 0)
      obtain ⟨s12, g⟩ := g
      refine ax_iinc (pc := 43) (v' := x3 + 1) (ls' := [some (.inr (some b)), some (.inl x1), some (.inl x2), some (.inl (x3 + 1))]) dX2_drawSlots_43 rfl s12 rfl rfl ?_
      refine aw_goto (pc := 46) (tgt := 10) dX2_drawSlots_46 (by decide) ?_
      exact g
set_option maxRecDepth 100000 in
set_option maxHeartbeats 4000000 in
theorem vc_X2_draw {d : Nat} {Q : Option Int → AH → Prop} {h : AH} {b : Nat} {x1 : Int} (hL : QS h b)
  (g :
    ((1 ≤ x1 → (
      (x1 ≠ 0) ∧
      Q (some (rm (dv (an (w ((w ((hi h b 4) * 1103515245)) + 12345)) 2147483647) 65536) x1)) (up h b 4 (an (w ((w ((hi h b 4) * 1103515245)) + 12345)) 2147483647))
    )) ∧
    (¬ (1 ≤ x1) → (
      Q (some 0) h
    )))) :
  AM d m_X2_draw [(.inr (some b)), (.inl x1)] h Q := by
  refine am_body mo_X2_draw (Nat.le_of_ble_eq_true rfl) ?_
  show AW m_X2_draw d none Q 0 [some (.inr (some b)), some (.inl x1)] [] h (0, 0)
  obtain ⟨kb, rb_pocket, lb_pocket, rb_told, lb_told, rb_tally, lb_tally, rb_settings, kb_settings⟩ := id hL
  obtain ⟨kb_pocket, rb_pocket_names, kb_pocket_names, rb_pocket_asksToGo, kb_pocket_asksToGo, rb_pocket_tellings, kb_pocket_tellings, rb_pocket_slots, kb_pocket_slots, rb_pocket_awake, kb_pocket_awake, rb_pocket_answering, kb_pocket_answering⟩ := id lb_pocket
  obtain ⟨kb_told, rb_told_row, kb_told_row⟩ := id lb_told
  have kb_tally := id lb_tally
  refine aw_iload_n (pc := 0) dX2_draw_0 rfl ?_
  refine aw_iconst (pc := 1) dX2_draw_1 ?_
  refine aw_icmp_ge (pc := 2) (tgt := 7) dX2_draw_2 (by decide) (fun c1 => ?_) (fun c1 => ?_)
  · replace g := g.1 c1
    refine aw_aload_n (pc := 7) dX2_draw_7 rfl ?_
    refine aw_aload_n (pc := 8) dX2_draw_8 rfl ?_
    refine ax_geti (pc := 9) (v := hi h b 4) dX2_draw_9 fl_X2_36 (by decide) rfl kb rfl ?_
    refine aw_ldc (pc := 12) (n := 1103515245) dX2_draw_12 co_X2_188 (by decide) ?_
    refine aw_imul_w (pc := 14) dX2_draw_14 ?_
    refine aw_sipush (pc := 15) dX2_draw_15 ?_
    refine aw_iadd_w (pc := 18) dX2_draw_18 ?_
    refine aw_ldc (pc := 19) (n := 2147483647) dX2_draw_19 co_X2_189 (by decide) ?_
    refine aw_iand (pc := 21) dX2_draw_21 ?_
    refine ax_puti (pc := 22) dX2_draw_22 fl_X2_36 (by decide) rfl rfl rfl kb ?_
    refine aw_aload_n (pc := 25) dX2_draw_25 rfl ?_
    refine ax_geti (pc := 26) (v := an (w ((w ((hi h b 4) * 1103515245)) + 12345)) 2147483647) dX2_draw_26 fl_X2_36 (by decide) rfl (hkU kb) hiE ?_
    refine aw_ldc (pc := 29) (n := 65536) dX2_draw_29 co_X2_190 (by decide) ?_
    refine aw_idiv (pc := 31) dX2_draw_31 (by decide) ?_
    refine aw_iload_n (pc := 32) dX2_draw_32 rfl ?_
    obtain ⟨s2, g⟩ := g
    refine aw_irem (pc := 33) dX2_draw_33 s2 ?_
    exact ax_ireturn (pc := 34) dX2_draw_34 rfl g (by decide) (by decide)
  · replace g := g.2 c1
    refine aw_iconst (pc := 5) dX2_draw_5 ?_
    exact ax_ireturn (pc := 6) dX2_draw_6 rfl g (by decide) (by decide)
set_option maxRecDepth 100000 in
set_option maxHeartbeats 4000000 in
theorem vc_X2_makeRounds {d : Nat} {Q : Option Int → AH → Prop} {h : AH} {b : Nat} {x1 : Int} (hd : 1 ≤ d) (hL : QS h b)
  (g :
    AM (d - 1) m_X6_isFrameSize [(.inl x1)] h (fun r h1 => 
      ∃ v2, r = some v2 ∧ SS h h1 ∧
      ((¬ v2 = 0 → (
        AW m_X2_makeRounds d none Q 17 [some (.inr (some b)), some (.inl x1), some (.inl x1), some (.inl 0), some (.inl 1), none] [] h1 (0, 0)
      )) ∧
      (¬ (¬ v2 = 0) → (
        Q (some (-2)) h1
      ))))) :
  AM d m_X2_makeRounds [(.inr (some b)), (.inl x1)] h Q := by
  refine am_body mo_X2_makeRounds (Nat.le_of_ble_eq_true rfl) ?_
  show AW m_X2_makeRounds d none Q 0 [some (.inr (some b)), some (.inl x1), none, none, none, none] [] h (0, 0)
  obtain ⟨kb, rb_pocket, lb_pocket, rb_told, lb_told, rb_tally, lb_tally, rb_settings, kb_settings⟩ := id hL
  obtain ⟨kb_pocket, rb_pocket_names, kb_pocket_names, rb_pocket_asksToGo, kb_pocket_asksToGo, rb_pocket_tellings, kb_pocket_tellings, rb_pocket_slots, kb_pocket_slots, rb_pocket_awake, kb_pocket_awake, rb_pocket_answering, kb_pocket_answering⟩ := id lb_pocket
  obtain ⟨kb_told, rb_told_row, kb_told_row⟩ := id lb_told
  have kb_tally := id lb_tally
  refine aw_iload_n (pc := 0) dX2_makeRounds_0 rfl ?_
  refine aw_invSN (pc := 1) (md' := m_X6_isFrameSize) (as := [(.inl x1)]) dX2_makeRounds_1 mo_X6_isFrameSize sm_X6_isFrameSize nl_X2_167 rfl hd (Nat.le_of_ble_eq_true rfl) (Nat.le_of_ble_eq_true rfl) (Nat.le_of_ble_eq_true rfl) ?_
  refine am_mono g (fun _ h1 _ ok_h1 g => ?_)
  obtain ⟨v2, rfl, ss_h1, g⟩ := g
  replace hL := QS.ss hL ss_h1
  obtain ⟨kb, rb_pocket, lb_pocket, rb_told, lb_told, rb_tally, lb_tally, rb_settings, kb_settings⟩ := id hL
  obtain ⟨kb_pocket, rb_pocket_names, kb_pocket_names, rb_pocket_asksToGo, kb_pocket_asksToGo, rb_pocket_tellings, kb_pocket_tellings, rb_pocket_slots, kb_pocket_slots, rb_pocket_awake, kb_pocket_awake, rb_pocket_answering, kb_pocket_answering⟩ := id lb_pocket
  obtain ⟨kb_told, rb_told_row, kb_told_row⟩ := id lb_told
  have kb_tally := id lb_tally
  show AW m_X2_makeRounds d none Q 4 [some (.inr (some b)), some (.inl x1), none, none, none, none] [(.inl v2)] h1 (0, 0)
  refine aw_if_ne (pc := 4) (tgt := 10) dX2_makeRounds_4 (by decide) (fun c3 => ?_) (fun c3 => ?_)
  · replace g := g.1 c3
    refine aw_iload_n (pc := 10) dX2_makeRounds_10 rfl ?_
    refine ax_istore_n (pc := 11) (ls' := [some (.inr (some b)), some (.inl x1), some (.inl x1), none, none, none]) dX2_makeRounds_11 (Nat.le_of_ble_eq_true rfl) rfl ?_
    refine aw_iconst (pc := 12) dX2_makeRounds_12 ?_
    refine ax_istore_n (pc := 13) (ls' := [some (.inr (some b)), some (.inl x1), some (.inl x1), some (.inl 0), none, none]) dX2_makeRounds_13 (Nat.le_of_ble_eq_true rfl) rfl ?_
    refine aw_iconst (pc := 14) dX2_makeRounds_14 ?_
    refine ax_istore (pc := 15) (ls' := [some (.inr (some b)), some (.inl x1), some (.inl x1), some (.inl 0), some (.inl 1), none]) dX2_makeRounds_15 (Nat.le_of_ble_eq_true rfl) rfl ?_
    exact g
  · replace g := g.2 c3
    refine aw_bipush (pc := 7) dX2_makeRounds_7 ?_
    exact ax_ireturn (pc := 9) dX2_makeRounds_9 rfl g (by decide) (by decide)
set_option maxRecDepth 100000 in
set_option maxHeartbeats 4000000 in
theorem vc_X2_makeRounds_17 {d : Nat} {Q : Option Int → AH → Prop} {h : AH} {b : Nat} {x1 x2 x3 x4 : Int} (hd : 1 ≤ d) (hL : QS h b)
  (g :
    ((x4 = 0 → (
      Q (some x3) h
    )) ∧
    (¬ (x4 = 0) → (
      ((40 ≤ x3 → (
        Q (some x3) h
      )) ∧
      (¬ (40 ≤ x3) → (
        AM (d - 1) m_X2_makeFrame [(.inr (some b)), (.inl x2)] h (fun r h6 => 
          ∃ v7, r = some v7 ∧ SS h h6 ∧
          AM (d - 1) m_X2_nextSize [(.inr (some b)), (.inl x1), (.inl x2), (.inl (w ((hi h6 (b + 10) 4) - (hi h (b + 10) 4))))] h6 (fun r h8 => 
            ∃ v9, r = some v9 ∧ SS h6 h8 ∧
            (rg (x3 + 1)) ∧
            ((w ((hi h6 (b + 10) 4) - (hi h (b + 10) 4)) ≤ 0 → (
              AW m_X2_makeRounds d none Q 17 [some (.inr (some b)), some (.inl x1), some (.inl v9), some (.inl (x3 + 1)), some (.inl 0), none] [] h8 (0, 0)
            )) ∧
            (¬ (w ((hi h6 (b + 10) 4) - (hi h (b + 10) 4)) ≤ 0) → (
              AW m_X2_makeRounds d none Q 17 [some (.inr (some b)), some (.inl x1), some (.inl v9), some (.inl (x3 + 1)), some (.inl 1), none] [] h8 (0, 0)
            )))))
      )))
    )))) :
  AW m_X2_makeRounds d none Q 17 [some (.inr (some b)), some (.inl x1), some (.inl x2), some (.inl x3), some (.inl x4), none] [] h (0, 0) := by
  obtain ⟨kb, rb_pocket, lb_pocket, rb_told, lb_told, rb_tally, lb_tally, rb_settings, kb_settings⟩ := id hL
  obtain ⟨kb_pocket, rb_pocket_names, kb_pocket_names, rb_pocket_asksToGo, kb_pocket_asksToGo, rb_pocket_tellings, kb_pocket_tellings, rb_pocket_slots, kb_pocket_slots, rb_pocket_awake, kb_pocket_awake, rb_pocket_answering, kb_pocket_answering⟩ := id lb_pocket
  obtain ⟨kb_told, rb_told_row, kb_told_row⟩ := id lb_told
  have kb_tally := id lb_tally
  refine aw_iload (pc := 17) dX2_makeRounds_17 rfl ?_
  refine aw_if_eq (pc := 19) (tgt := 82) dX2_makeRounds_19 (by decide) (fun c4 => ?_) (fun c4 => ?_)
  · replace g := g.1 c4
    refine aw_iload_n (pc := 82) dX2_makeRounds_82 rfl ?_
    exact ax_ireturn (pc := 83) dX2_makeRounds_83 rfl g (by decide) (by decide)
  · replace g := g.2 c4
    refine aw_iload_n (pc := 22) dX2_makeRounds_22 rfl ?_
    refine aw_bipush (pc := 23) dX2_makeRounds_23 ?_
    refine aw_icmp_ge (pc := 25) (tgt := 82) dX2_makeRounds_25 (by decide) (fun c5 => ?_) (fun c5 => ?_)
    · replace g := g.1 c5
      refine aw_iload_n (pc := 82) dX2_makeRounds_82 rfl ?_
      exact ax_ireturn (pc := 83) dX2_makeRounds_83 rfl g (by decide) (by decide)
    · replace g := g.2 c5
      refine aw_aload_n (pc := 28) dX2_makeRounds_28 rfl ?_
      refine aw_getr (pc := 29) (r := some (b + 10)) dX2_makeRounds_29 fl_X2_28 (by decide) rfl kb rb_tally ?_
      refine ax_geti (pc := 32) (v := hi h (b + 10) 4) dX2_makeRounds_32 fl_X2_139 (by decide) rfl kb_tally rfl ?_
      refine ax_istore (pc := 35) (ls' := [some (.inr (some b)), some (.inl x1), some (.inl x2), some (.inl x3), some (.inl x4), some (.inl (hi h (b + 10) 4))]) dX2_makeRounds_35 (Nat.le_of_ble_eq_true rfl) rfl ?_
      refine aw_aload_n (pc := 37) dX2_makeRounds_37 rfl ?_
      refine aw_iload_n (pc := 38) dX2_makeRounds_38 rfl ?_
      refine aw_invV (pc := 39) (md' := m_X2_makeFrame) (ci := 2) (as := [(.inl x2)]) dX2_makeRounds_39 mo_X2_makeFrame im_X2_makeFrame se_X2_makeFrame ml_X2_191 rfl kb rfl hd (Nat.le_of_ble_eq_true rfl) (Nat.le_of_ble_eq_true rfl) (Nat.le_of_ble_eq_true rfl) ?_
      refine am_mono g (fun _ h6 _ ok_h6 g => ?_)
      obtain ⟨v7, rfl, ss_h6, g⟩ := g
      replace hL := QS.ss hL ss_h6
      obtain ⟨kb, rb_pocket, lb_pocket, rb_told, lb_told, rb_tally, lb_tally, rb_settings, kb_settings⟩ := id hL
      obtain ⟨kb_pocket, rb_pocket_names, kb_pocket_names, rb_pocket_asksToGo, kb_pocket_asksToGo, rb_pocket_tellings, kb_pocket_tellings, rb_pocket_slots, kb_pocket_slots, rb_pocket_awake, kb_pocket_awake, rb_pocket_answering, kb_pocket_answering⟩ := id lb_pocket
      obtain ⟨kb_told, rb_told_row, kb_told_row⟩ := id lb_told
      have kb_tally := id lb_tally
      show AW m_X2_makeRounds d none Q 42 [some (.inr (some b)), some (.inl x1), some (.inl x2), some (.inl x3), some (.inl x4), some (.inl (hi h (b + 10) 4))] [(.inl v7)] h6 (0, 0)
      refine aw_pop (pc := 42) dX2_makeRounds_42 ?_
      refine aw_aload_n (pc := 43) dX2_makeRounds_43 rfl ?_
      refine aw_getr (pc := 44) (r := some (b + 10)) dX2_makeRounds_44 fl_X2_28 (by decide) rfl kb rb_tally ?_
      refine ax_geti (pc := 47) (v := hi h6 (b + 10) 4) dX2_makeRounds_47 fl_X2_139 (by decide) rfl kb_tally rfl ?_
      refine aw_iload (pc := 50) dX2_makeRounds_50 rfl ?_
      refine aw_isub_w (pc := 52) dX2_makeRounds_52 ?_
      refine ax_istore (pc := 53) (ls' := [some (.inr (some b)), some (.inl x1), some (.inl x2), some (.inl x3), some (.inl x4), some (.inl (w ((hi h6 (b + 10) 4) - (hi h (b + 10) 4))))]) dX2_makeRounds_53 (Nat.le_of_ble_eq_true rfl) rfl ?_
      refine aw_aload_n (pc := 55) dX2_makeRounds_55 rfl ?_
      refine aw_iload_n (pc := 56) dX2_makeRounds_56 rfl ?_
      refine aw_iload_n (pc := 57) dX2_makeRounds_57 rfl ?_
      refine aw_iload (pc := 58) dX2_makeRounds_58 rfl ?_
      refine aw_invV (pc := 60) (md' := m_X2_nextSize) (ci := 2) (as := [(.inl x1), (.inl x2), (.inl (w ((hi h6 (b + 10) 4) - (hi h (b + 10) 4))))]) dX2_makeRounds_60 mo_X2_nextSize im_X2_nextSize se_X2_nextSize ml_X2_194 rfl kb rfl hd (Nat.le_of_ble_eq_true rfl) (Nat.le_of_ble_eq_true rfl) (Nat.le_of_ble_eq_true rfl) ?_
      refine am_mono g (fun _ h8 _ ok_h8 g => ?_)
      obtain ⟨v9, rfl, ss_h8, g⟩ := g
      replace hL := QS.ss hL ss_h8
      obtain ⟨kb, rb_pocket, lb_pocket, rb_told, lb_told, rb_tally, lb_tally, rb_settings, kb_settings⟩ := id hL
      obtain ⟨kb_pocket, rb_pocket_names, kb_pocket_names, rb_pocket_asksToGo, kb_pocket_asksToGo, rb_pocket_tellings, kb_pocket_tellings, rb_pocket_slots, kb_pocket_slots, rb_pocket_awake, kb_pocket_awake, rb_pocket_answering, kb_pocket_answering⟩ := id lb_pocket
      obtain ⟨kb_told, rb_told_row, kb_told_row⟩ := id lb_told
      have kb_tally := id lb_tally
      show AW m_X2_makeRounds d none Q 63 [some (.inr (some b)), some (.inl x1), some (.inl x2), some (.inl x3), some (.inl x4), some (.inl (w ((hi h6 (b + 10) 4) - (hi h (b + 10) 4))))] [(.inl v9)] h8 (0, 0)
      refine ax_istore_n (pc := 63) (ls' := [some (.inr (some b)), some (.inl x1), some (.inl v9), some (.inl x3), some (.inl x4), some (.inl (w ((hi h6 (b + 10) 4) - (hi h (b + 10) 4))))]) dX2_makeRounds_63 (Nat.le_of_ble_eq_true rfl) rfl ?_
      obtain ⟨s10, g⟩ := g
      refine ax_iinc (pc := 64) (v' := x3 + 1) (ls' := [some (.inr (some b)), some (.inl x1), some (.inl v9), some (.inl (x3 + 1)), some (.inl x4), some (.inl (w ((hi h6 (b + 10) 4) - (hi h (b + 10) 4))))]) dX2_makeRounds_64 rfl s10 rfl rfl ?_
      refine aw_iload (pc := 67) dX2_makeRounds_67 rfl ?_
      refine aw_if_le (pc := 69) (tgt := 76) dX2_makeRounds_69 (by decide) (fun c11 => ?_) (fun c11 => ?_)
      · replace g := g.1 c11
        refine aw_iconst (pc := 76) dX2_makeRounds_76 ?_
        refine ax_istore (pc := 77) (ls' := [some (.inr (some b)), some (.inl x1), some (.inl v9), some (.inl (x3 + 1)), some (.inl 0), some (.inl (w ((hi h6 (b + 10) 4) - (hi h (b + 10) 4))))]) dX2_makeRounds_77 (Nat.le_of_ble_eq_true rfl) rfl ?_
        refine aw_goto (pc := 79) (tgt := 17) dX2_makeRounds_79 (by decide) ?_
        exact aw_fewer (show subl [some (.inr (some b)), some (.inl x1), some (.inl v9), some (.inl (x3 + 1)), some (.inl 0), none] [some (.inr (some b)), some (.inl x1), some (.inl v9), some (.inl (x3 + 1)), some (.inl 0), some (.inl (w ((hi h6 (b + 10) 4) - (hi h (b + 10) 4))))] from (And.intro rfl (And.intro rfl (And.intro rfl (And.intro rfl (And.intro rfl trivial)))))) g
      · replace g := g.2 c11
        refine aw_iconst (pc := 72) dX2_makeRounds_72 ?_
        refine aw_goto (pc := 73) (tgt := 77) dX2_makeRounds_73 (by decide) ?_
        refine ax_istore (pc := 77) (ls' := [some (.inr (some b)), some (.inl x1), some (.inl v9), some (.inl (x3 + 1)), some (.inl 1), some (.inl (w ((hi h6 (b + 10) 4) - (hi h (b + 10) 4))))]) dX2_makeRounds_77 (Nat.le_of_ble_eq_true rfl) rfl ?_
        refine aw_goto (pc := 79) (tgt := 17) dX2_makeRounds_79 (by decide) ?_
        exact aw_fewer (show subl [some (.inr (some b)), some (.inl x1), some (.inl v9), some (.inl (x3 + 1)), some (.inl 1), none] [some (.inr (some b)), some (.inl x1), some (.inl v9), some (.inl (x3 + 1)), some (.inl 1), some (.inl (w ((hi h6 (b + 10) 4) - (hi h (b + 10) 4))))] from (And.intro rfl (And.intro rfl (And.intro rfl (And.intro rfl (And.intro rfl trivial)))))) g
set_option maxRecDepth 100000 in
set_option maxHeartbeats 4000000 in
theorem vc_X2_nextSize {d : Nat} {Q : Option Int → AH → Prop} {h : AH} {b : Nat} {x1 x2 x3 : Int} (hd : 1 ≤ d) (hL : QS h b)
  (g :
    ((¬ hi h (b + 11) 1 = 1 → (
      ((¬ hi h (b + 11) 1 = 2 → (
        Q (some ((if 1 < (if x1 < 64 then x1 else 64) then (if x1 < 64 then x1 else 64) else 1))) h
      )) ∧
      (¬ (¬ hi h (b + 11) 1 = 2) → (
        (rg (2 * x3)) ∧
        ((2 * x3 ≤ x2 → (
          (rg (4 * x3)) ∧
          ((x2 < 4 * x3 → (
            Q (some ((if 1 < (if x2 < 64 then x2 else 64) then (if x2 < 64 then x2 else 64) else 1))) h
          )) ∧
          (¬ (x2 < 4 * x3) → (
            Q (some ((if 1 < (if dv x2 2 < 64 then dv x2 2 else 64) then (if dv x2 2 < 64 then dv x2 2 else 64) else 1))) h
          )))
        )) ∧
        (¬ (2 * x3 ≤ x2) → (
          (rg (2 * x2)) ∧
          Q (some ((if 1 < (if 2 * x2 < 64 then 2 * x2 else 64) then (if 2 * x2 < 64 then 2 * x2 else 64) else 1))) h
        )))
      )))
    )) ∧
    (¬ (¬ hi h (b + 11) 1 = 1) → (
      (rg (2 * x3)) ∧
      Q (some ((if 1 < (if 2 * x3 < 64 then 2 * x3 else 64) then (if 2 * x3 < 64 then 2 * x3 else 64) else 1))) h
    )))) :
  AM d m_X2_nextSize [(.inr (some b)), (.inl x1), (.inl x2), (.inl x3)] h Q := by
  refine am_body mo_X2_nextSize (Nat.le_of_ble_eq_true rfl) ?_
  show AW m_X2_nextSize d none Q 0 [some (.inr (some b)), some (.inl x1), some (.inl x2), some (.inl x3), none] [] h (0, 0)
  obtain ⟨kb, rb_pocket, lb_pocket, rb_told, lb_told, rb_tally, lb_tally, rb_settings, kb_settings⟩ := id hL
  obtain ⟨kb_pocket, rb_pocket_names, kb_pocket_names, rb_pocket_asksToGo, kb_pocket_asksToGo, rb_pocket_tellings, kb_pocket_tellings, rb_pocket_slots, kb_pocket_slots, rb_pocket_awake, kb_pocket_awake, rb_pocket_answering, kb_pocket_answering⟩ := id lb_pocket
  obtain ⟨kb_told, rb_told_row, kb_told_row⟩ := id lb_told
  have kb_tally := id lb_tally
  refine aw_iload_n (pc := 0) dX2_nextSize_0 rfl ?_
  refine ax_istore (pc := 1) (ls' := [some (.inr (some b)), some (.inl x1), some (.inl x2), some (.inl x3), some (.inl x1)]) dX2_nextSize_1 (Nat.le_of_ble_eq_true rfl) rfl ?_
  refine aw_aload_n (pc := 3) dX2_nextSize_3 rfl ?_
  refine aw_getr (pc := 4) (r := some (b + 11)) dX2_nextSize_4 fl_X2_32 (by decide) rfl kb rb_settings ?_
  refine aw_iconst (pc := 7) dX2_nextSize_7 ?_
  refine ax_iaload (pc := 8) (n := 2) (v := hi h (b + 11) 1) dX2_nextSize_8 kb_settings (by decide) rfl ?_
  refine aw_iconst (pc := 9) dX2_nextSize_9 ?_
  refine aw_icmp_ne (pc := 10) (tgt := 21) dX2_nextSize_10 (by decide) (fun c1 => ?_) (fun c1 => ?_)
  · replace g := g.1 c1
    refine aw_aload_n (pc := 21) dX2_nextSize_21 rfl ?_
    refine aw_getr (pc := 22) (r := some (b + 11)) dX2_nextSize_22 fl_X2_32 (by decide) rfl kb rb_settings ?_
    refine aw_iconst (pc := 25) dX2_nextSize_25 ?_
    refine ax_iaload (pc := 26) (n := 2) (v := hi h (b + 11) 1) dX2_nextSize_26 kb_settings (by decide) rfl ?_
    refine aw_iconst (pc := 27) dX2_nextSize_27 ?_
    refine aw_icmp_ne (pc := 28) (tgt := 64) dX2_nextSize_28 (by decide) (fun c2 => ?_) (fun c2 => ?_)
    · replace g := g.1 c2
      refine aw_iconst (pc := 64) dX2_nextSize_64 ?_
      refine aw_bipush (pc := 65) dX2_nextSize_65 ?_
      refine aw_iload (pc := 67) dX2_nextSize_67 rfl ?_
      refine aw_min (pc := 69) dX2_nextSize_69 ml_X2_198 sm_min ii_Math oc_min hd (Nat.le_of_ble_eq_true rfl) (Nat.le_of_ble_eq_true rfl) (Nat.le_of_ble_eq_true rfl) ?_
      refine aw_max (pc := 72) dX2_nextSize_72 ml_X2_115 sm_max ii_Math oc_max hd (Nat.le_of_ble_eq_true rfl) (Nat.le_of_ble_eq_true rfl) (Nat.le_of_ble_eq_true rfl) ?_
      exact ax_ireturn (pc := 75) dX2_nextSize_75 rfl g (by decide) (by decide)
    · replace g := g.2 c2
      refine aw_iconst (pc := 31) dX2_nextSize_31 ?_
      refine aw_iload_n (pc := 32) dX2_nextSize_32 rfl ?_
      obtain ⟨s3, g⟩ := g
      refine ax_imul (pc := 33) (v := 2 * x3) dX2_nextSize_33 s3 rfl ?_
      refine aw_iload_n (pc := 34) dX2_nextSize_34 rfl ?_
      refine aw_icmp_le (pc := 35) (tgt := 46) dX2_nextSize_35 (by decide) (fun c4 => ?_) (fun c4 => ?_)
      · replace g := g.1 c4
        refine aw_iconst (pc := 46) dX2_nextSize_46 ?_
        refine aw_iload_n (pc := 47) dX2_nextSize_47 rfl ?_
        obtain ⟨s5, g⟩ := g
        refine ax_imul (pc := 48) (v := 4 * x3) dX2_nextSize_48 s5 rfl ?_
        refine aw_iload_n (pc := 49) dX2_nextSize_49 rfl ?_
        refine aw_icmp_gt (pc := 50) (tgt := 61) dX2_nextSize_50 (by decide) (fun c6 => ?_) (fun c6 => ?_)
        · replace g := g.1 c6
          refine aw_iload_n (pc := 61) dX2_nextSize_61 rfl ?_
          refine ax_istore (pc := 62) (ls' := [some (.inr (some b)), some (.inl x1), some (.inl x2), some (.inl x3), some (.inl x2)]) dX2_nextSize_62 (Nat.le_of_ble_eq_true rfl) rfl ?_
          refine aw_iconst (pc := 64) dX2_nextSize_64 ?_
          refine aw_bipush (pc := 65) dX2_nextSize_65 ?_
          refine aw_iload (pc := 67) dX2_nextSize_67 rfl ?_
          refine aw_min (pc := 69) dX2_nextSize_69 ml_X2_198 sm_min ii_Math oc_min hd (Nat.le_of_ble_eq_true rfl) (Nat.le_of_ble_eq_true rfl) (Nat.le_of_ble_eq_true rfl) ?_
          refine aw_max (pc := 72) dX2_nextSize_72 ml_X2_115 sm_max ii_Math oc_max hd (Nat.le_of_ble_eq_true rfl) (Nat.le_of_ble_eq_true rfl) (Nat.le_of_ble_eq_true rfl) ?_
          exact ax_ireturn (pc := 75) dX2_nextSize_75 rfl g (by decide) (by decide)
        · replace g := g.2 c6
          refine aw_iload_n (pc := 53) dX2_nextSize_53 rfl ?_
          refine aw_iconst (pc := 54) dX2_nextSize_54 ?_
          refine aw_idiv (pc := 55) dX2_nextSize_55 (by decide) ?_
          refine ax_istore (pc := 56) (ls' := [some (.inr (some b)), some (.inl x1), some (.inl x2), some (.inl x3), some (.inl (dv x2 2))]) dX2_nextSize_56 (Nat.le_of_ble_eq_true rfl) rfl ?_
          refine aw_goto (pc := 58) (tgt := 64) dX2_nextSize_58 (by decide) ?_
          refine aw_iconst (pc := 64) dX2_nextSize_64 ?_
          refine aw_bipush (pc := 65) dX2_nextSize_65 ?_
          refine aw_iload (pc := 67) dX2_nextSize_67 rfl ?_
          refine aw_min (pc := 69) dX2_nextSize_69 ml_X2_198 sm_min ii_Math oc_min hd (Nat.le_of_ble_eq_true rfl) (Nat.le_of_ble_eq_true rfl) (Nat.le_of_ble_eq_true rfl) ?_
          refine aw_max (pc := 72) dX2_nextSize_72 ml_X2_115 sm_max ii_Math oc_max hd (Nat.le_of_ble_eq_true rfl) (Nat.le_of_ble_eq_true rfl) (Nat.le_of_ble_eq_true rfl) ?_
          exact ax_ireturn (pc := 75) dX2_nextSize_75 rfl g (by decide) (by decide)
      · replace g := g.2 c4
        refine aw_iconst (pc := 38) dX2_nextSize_38 ?_
        refine aw_iload_n (pc := 39) dX2_nextSize_39 rfl ?_
        obtain ⟨s7, g⟩ := g
        refine ax_imul (pc := 40) (v := 2 * x2) dX2_nextSize_40 s7 rfl ?_
        refine ax_istore (pc := 41) (ls' := [some (.inr (some b)), some (.inl x1), some (.inl x2), some (.inl x3), some (.inl (2 * x2))]) dX2_nextSize_41 (Nat.le_of_ble_eq_true rfl) rfl ?_
        refine aw_goto (pc := 43) (tgt := 64) dX2_nextSize_43 (by decide) ?_
        refine aw_iconst (pc := 64) dX2_nextSize_64 ?_
        refine aw_bipush (pc := 65) dX2_nextSize_65 ?_
        refine aw_iload (pc := 67) dX2_nextSize_67 rfl ?_
        refine aw_min (pc := 69) dX2_nextSize_69 ml_X2_198 sm_min ii_Math oc_min hd (Nat.le_of_ble_eq_true rfl) (Nat.le_of_ble_eq_true rfl) (Nat.le_of_ble_eq_true rfl) ?_
        refine aw_max (pc := 72) dX2_nextSize_72 ml_X2_115 sm_max ii_Math oc_max hd (Nat.le_of_ble_eq_true rfl) (Nat.le_of_ble_eq_true rfl) (Nat.le_of_ble_eq_true rfl) ?_
        exact ax_ireturn (pc := 75) dX2_nextSize_75 rfl g (by decide) (by decide)
  · replace g := g.2 c1
    refine aw_iconst (pc := 13) dX2_nextSize_13 ?_
    refine aw_iload_n (pc := 14) dX2_nextSize_14 rfl ?_
    obtain ⟨s8, g⟩ := g
    refine ax_imul (pc := 15) (v := 2 * x3) dX2_nextSize_15 s8 rfl ?_
    refine ax_istore (pc := 16) (ls' := [some (.inr (some b)), some (.inl x1), some (.inl x2), some (.inl x3), some (.inl (2 * x3))]) dX2_nextSize_16 (Nat.le_of_ble_eq_true rfl) rfl ?_
    refine aw_goto (pc := 18) (tgt := 64) dX2_nextSize_18 (by decide) ?_
    refine aw_iconst (pc := 64) dX2_nextSize_64 ?_
    refine aw_bipush (pc := 65) dX2_nextSize_65 ?_
    refine aw_iload (pc := 67) dX2_nextSize_67 rfl ?_
    refine aw_min (pc := 69) dX2_nextSize_69 ml_X2_198 sm_min ii_Math oc_min hd (Nat.le_of_ble_eq_true rfl) (Nat.le_of_ble_eq_true rfl) (Nat.le_of_ble_eq_true rfl) ?_
    refine aw_max (pc := 72) dX2_nextSize_72 ml_X2_115 sm_max ii_Math oc_max hd (Nat.le_of_ble_eq_true rfl) (Nat.le_of_ble_eq_true rfl) (Nat.le_of_ble_eq_true rfl) ?_
    exact ax_ireturn (pc := 75) dX2_nextSize_75 rfl g (by decide) (by decide)
set_option maxRecDepth 100000 in
set_option maxHeartbeats 4000000 in
theorem vc_X2_carryOut {d : Nat} {Q : Option Int → AH → Prop} {h : AH} {b : Nat} {x1 x2 : Int} (hd : 1 ≤ d) (hL : QS h b)
  (g :
    ((¬ x1 = 43 → (
      ((¬ x1 = 45 → (
        ((¬ x1 = 122 → (
          ((¬ x1 = 102 → (
            ((¬ x1 = 97 → (
              ((¬ x1 = 118 → (
                AM (d - 1) m_X2_makeWalk [(.inr (some b)), (.inl 0)] h (fun r h7 => 
                  ∃ v8, r = some v8 ∧ SS h h7 ∧
                  Q (some v8) h7)
              )) ∧
              (¬ (¬ x1 = 118) → (
                AM (d - 1) m_X2_makeWalk [(.inr (some b)), (.inl 1)] h (fun r h9 => 
                  ∃ v10, r = some v10 ∧ SS h h9 ∧
                  Q (some v10) h9)
              )))
            )) ∧
            (¬ (¬ x1 = 97) → (
              AM (d - 1) m_X2_wakeCards [(.inr (some b))] h (fun r h11 => 
                ∃ v12, r = some v12 ∧ SS h h11 ∧
                Q (some v12) h11)
            )))
          )) ∧
          (¬ (¬ x1 = 102) → (
            AM (d - 1) m_X2_makeFrame [(.inr (some b)), (.inl x2)] h (fun r h13 => 
              ∃ v14, r = some v14 ∧ SS h h13 ∧
              Q (some v14) h13)
          )))
        )) ∧
        (¬ (¬ x1 = 122) → (
          AM (d - 1) m_X2_sleepCard [(.inr (some b)), (.inl x2)] h (fun r h15 => 
            ∃ v16, r = some v16 ∧ SS h h15 ∧
            Q (some v16) h15)
        )))
      )) ∧
      (¬ (¬ x1 = 45) → (
        AM (d - 1) m_X2_takeCard [(.inr (some b)), (.inl x2)] h (fun r h17 => 
          ∃ v18, r = some v18 ∧ SS h h17 ∧
          Q (some v18) h17)
      )))
    )) ∧
    (¬ (¬ x1 = 43) → (
      AM (d - 1) m_X2_putCard [(.inr (some b)), (.inl x2)] h (fun r h19 => 
        ∃ v20, r = some v20 ∧ SS h h19 ∧
        Q (some v20) h19)
    )))) :
  AM d m_X2_carryOut [(.inr (some b)), (.inl x1), (.inl x2)] h Q := by
  refine am_body mo_X2_carryOut (Nat.le_of_ble_eq_true rfl) ?_
  show AW m_X2_carryOut d none Q 0 [some (.inr (some b)), some (.inl x1), some (.inl x2)] [] h (0, 0)
  obtain ⟨kb, rb_pocket, lb_pocket, rb_told, lb_told, rb_tally, lb_tally, rb_settings, kb_settings⟩ := id hL
  obtain ⟨kb_pocket, rb_pocket_names, kb_pocket_names, rb_pocket_asksToGo, kb_pocket_asksToGo, rb_pocket_tellings, kb_pocket_tellings, rb_pocket_slots, kb_pocket_slots, rb_pocket_awake, kb_pocket_awake, rb_pocket_answering, kb_pocket_answering⟩ := id lb_pocket
  obtain ⟨kb_told, rb_told_row, kb_told_row⟩ := id lb_told
  have kb_tally := id lb_tally
  refine aw_iload_n (pc := 0) dX2_carryOut_0 rfl ?_
  refine aw_bipush (pc := 1) dX2_carryOut_1 ?_
  refine aw_icmp_ne (pc := 3) (tgt := 12) dX2_carryOut_3 (by decide) (fun c1 => ?_) (fun c1 => ?_)
  · replace g := g.1 c1
    refine aw_iload_n (pc := 12) dX2_carryOut_12 rfl ?_
    refine aw_bipush (pc := 13) dX2_carryOut_13 ?_
    refine aw_icmp_ne (pc := 15) (tgt := 24) dX2_carryOut_15 (by decide) (fun c2 => ?_) (fun c2 => ?_)
    · replace g := g.1 c2
      refine aw_iload_n (pc := 24) dX2_carryOut_24 rfl ?_
      refine aw_bipush (pc := 25) dX2_carryOut_25 ?_
      refine aw_icmp_ne (pc := 27) (tgt := 36) dX2_carryOut_27 (by decide) (fun c3 => ?_) (fun c3 => ?_)
      · replace g := g.1 c3
        refine aw_iload_n (pc := 36) dX2_carryOut_36 rfl ?_
        refine aw_bipush (pc := 37) dX2_carryOut_37 ?_
        refine aw_icmp_ne (pc := 39) (tgt := 48) dX2_carryOut_39 (by decide) (fun c4 => ?_) (fun c4 => ?_)
        · replace g := g.1 c4
          refine aw_iload_n (pc := 48) dX2_carryOut_48 rfl ?_
          refine aw_bipush (pc := 49) dX2_carryOut_49 ?_
          refine aw_icmp_ne (pc := 51) (tgt := 59) dX2_carryOut_51 (by decide) (fun c5 => ?_) (fun c5 => ?_)
          · replace g := g.1 c5
            refine aw_aload_n (pc := 59) dX2_carryOut_59 rfl ?_
            refine aw_iload_n (pc := 60) dX2_carryOut_60 rfl ?_
            refine aw_bipush (pc := 61) dX2_carryOut_61 ?_
            refine aw_icmp_ne (pc := 63) (tgt := 70) dX2_carryOut_63 (by decide) (fun c6 => ?_) (fun c6 => ?_)
            · replace g := g.1 c6
              refine aw_iconst (pc := 70) dX2_carryOut_70 ?_
              refine aw_invV (pc := 71) (md' := m_X2_makeWalk) (ci := 2) (as := [(.inl 0)]) dX2_carryOut_71 mo_X2_makeWalk im_X2_makeWalk se_X2_makeWalk ml_X2_213 rfl kb rfl hd (Nat.le_of_ble_eq_true rfl) (Nat.le_of_ble_eq_true rfl) (Nat.le_of_ble_eq_true rfl) ?_
              refine am_mono g (fun _ h7 _ ok_h7 g => ?_)
              obtain ⟨v8, rfl, ss_h7, g⟩ := g
              replace hL := QS.ss hL ss_h7
              obtain ⟨kb, rb_pocket, lb_pocket, rb_told, lb_told, rb_tally, lb_tally, rb_settings, kb_settings⟩ := id hL
              obtain ⟨kb_pocket, rb_pocket_names, kb_pocket_names, rb_pocket_asksToGo, kb_pocket_asksToGo, rb_pocket_tellings, kb_pocket_tellings, rb_pocket_slots, kb_pocket_slots, rb_pocket_awake, kb_pocket_awake, rb_pocket_answering, kb_pocket_answering⟩ := id lb_pocket
              obtain ⟨kb_told, rb_told_row, kb_told_row⟩ := id lb_told
              have kb_tally := id lb_tally
              show AW m_X2_carryOut d none Q 74 [some (.inr (some b)), some (.inl x1), some (.inl x2)] [(.inl v8)] h7 (0, 0)
              exact ax_ireturn (pc := 74) dX2_carryOut_74 rfl g (by decide) (by decide)
            · replace g := g.2 c6
              refine aw_iconst (pc := 66) dX2_carryOut_66 ?_
              refine aw_goto (pc := 67) (tgt := 71) dX2_carryOut_67 (by decide) ?_
              refine aw_invV (pc := 71) (md' := m_X2_makeWalk) (ci := 2) (as := [(.inl 1)]) dX2_carryOut_71 mo_X2_makeWalk im_X2_makeWalk se_X2_makeWalk ml_X2_213 rfl kb rfl hd (Nat.le_of_ble_eq_true rfl) (Nat.le_of_ble_eq_true rfl) (Nat.le_of_ble_eq_true rfl) ?_
              refine am_mono g (fun _ h9 _ ok_h9 g => ?_)
              obtain ⟨v10, rfl, ss_h9, g⟩ := g
              replace hL := QS.ss hL ss_h9
              obtain ⟨kb, rb_pocket, lb_pocket, rb_told, lb_told, rb_tally, lb_tally, rb_settings, kb_settings⟩ := id hL
              obtain ⟨kb_pocket, rb_pocket_names, kb_pocket_names, rb_pocket_asksToGo, kb_pocket_asksToGo, rb_pocket_tellings, kb_pocket_tellings, rb_pocket_slots, kb_pocket_slots, rb_pocket_awake, kb_pocket_awake, rb_pocket_answering, kb_pocket_answering⟩ := id lb_pocket
              obtain ⟨kb_told, rb_told_row, kb_told_row⟩ := id lb_told
              have kb_tally := id lb_tally
              show AW m_X2_carryOut d none Q 74 [some (.inr (some b)), some (.inl x1), some (.inl x2)] [(.inl v10)] h9 (0, 0)
              exact ax_ireturn (pc := 74) dX2_carryOut_74 rfl g (by decide) (by decide)
          · replace g := g.2 c5
            refine aw_aload_n (pc := 54) dX2_carryOut_54 rfl ?_
            refine aw_invV (pc := 55) (md' := m_X2_wakeCards) (ci := 2) (as := []) dX2_carryOut_55 mo_X2_wakeCards im_X2_wakeCards se_X2_wakeCards ml_X2_210 rfl kb rfl hd (Nat.le_of_ble_eq_true rfl) (Nat.le_of_ble_eq_true rfl) (Nat.le_of_ble_eq_true rfl) ?_
            refine am_mono g (fun _ h11 _ ok_h11 g => ?_)
            obtain ⟨v12, rfl, ss_h11, g⟩ := g
            replace hL := QS.ss hL ss_h11
            obtain ⟨kb, rb_pocket, lb_pocket, rb_told, lb_told, rb_tally, lb_tally, rb_settings, kb_settings⟩ := id hL
            obtain ⟨kb_pocket, rb_pocket_names, kb_pocket_names, rb_pocket_asksToGo, kb_pocket_asksToGo, rb_pocket_tellings, kb_pocket_tellings, rb_pocket_slots, kb_pocket_slots, rb_pocket_awake, kb_pocket_awake, rb_pocket_answering, kb_pocket_answering⟩ := id lb_pocket
            obtain ⟨kb_told, rb_told_row, kb_told_row⟩ := id lb_told
            have kb_tally := id lb_tally
            show AW m_X2_carryOut d none Q 58 [some (.inr (some b)), some (.inl x1), some (.inl x2)] [(.inl v12)] h11 (0, 0)
            exact ax_ireturn (pc := 58) dX2_carryOut_58 rfl g (by decide) (by decide)
        · replace g := g.2 c4
          refine aw_aload_n (pc := 42) dX2_carryOut_42 rfl ?_
          refine aw_iload_n (pc := 43) dX2_carryOut_43 rfl ?_
          refine aw_invV (pc := 44) (md' := m_X2_makeFrame) (ci := 2) (as := [(.inl x2)]) dX2_carryOut_44 mo_X2_makeFrame im_X2_makeFrame se_X2_makeFrame ml_X2_191 rfl kb rfl hd (Nat.le_of_ble_eq_true rfl) (Nat.le_of_ble_eq_true rfl) (Nat.le_of_ble_eq_true rfl) ?_
          refine am_mono g (fun _ h13 _ ok_h13 g => ?_)
          obtain ⟨v14, rfl, ss_h13, g⟩ := g
          replace hL := QS.ss hL ss_h13
          obtain ⟨kb, rb_pocket, lb_pocket, rb_told, lb_told, rb_tally, lb_tally, rb_settings, kb_settings⟩ := id hL
          obtain ⟨kb_pocket, rb_pocket_names, kb_pocket_names, rb_pocket_asksToGo, kb_pocket_asksToGo, rb_pocket_tellings, kb_pocket_tellings, rb_pocket_slots, kb_pocket_slots, rb_pocket_awake, kb_pocket_awake, rb_pocket_answering, kb_pocket_answering⟩ := id lb_pocket
          obtain ⟨kb_told, rb_told_row, kb_told_row⟩ := id lb_told
          have kb_tally := id lb_tally
          show AW m_X2_carryOut d none Q 47 [some (.inr (some b)), some (.inl x1), some (.inl x2)] [(.inl v14)] h13 (0, 0)
          exact ax_ireturn (pc := 47) dX2_carryOut_47 rfl g (by decide) (by decide)
      · replace g := g.2 c3
        refine aw_aload_n (pc := 30) dX2_carryOut_30 rfl ?_
        refine aw_iload_n (pc := 31) dX2_carryOut_31 rfl ?_
        refine aw_invV (pc := 32) (md' := m_X2_sleepCard) (ci := 2) (as := [(.inl x2)]) dX2_carryOut_32 mo_X2_sleepCard im_X2_sleepCard se_X2_sleepCard ml_X2_207 rfl kb rfl hd (Nat.le_of_ble_eq_true rfl) (Nat.le_of_ble_eq_true rfl) (Nat.le_of_ble_eq_true rfl) ?_
        refine am_mono g (fun _ h15 _ ok_h15 g => ?_)
        obtain ⟨v16, rfl, ss_h15, g⟩ := g
        replace hL := QS.ss hL ss_h15
        obtain ⟨kb, rb_pocket, lb_pocket, rb_told, lb_told, rb_tally, lb_tally, rb_settings, kb_settings⟩ := id hL
        obtain ⟨kb_pocket, rb_pocket_names, kb_pocket_names, rb_pocket_asksToGo, kb_pocket_asksToGo, rb_pocket_tellings, kb_pocket_tellings, rb_pocket_slots, kb_pocket_slots, rb_pocket_awake, kb_pocket_awake, rb_pocket_answering, kb_pocket_answering⟩ := id lb_pocket
        obtain ⟨kb_told, rb_told_row, kb_told_row⟩ := id lb_told
        have kb_tally := id lb_tally
        show AW m_X2_carryOut d none Q 35 [some (.inr (some b)), some (.inl x1), some (.inl x2)] [(.inl v16)] h15 (0, 0)
        exact ax_ireturn (pc := 35) dX2_carryOut_35 rfl g (by decide) (by decide)
    · replace g := g.2 c2
      refine aw_aload_n (pc := 18) dX2_carryOut_18 rfl ?_
      refine aw_iload_n (pc := 19) dX2_carryOut_19 rfl ?_
      refine aw_invV (pc := 20) (md' := m_X2_takeCard) (ci := 2) (as := [(.inl x2)]) dX2_carryOut_20 mo_X2_takeCard im_X2_takeCard se_X2_takeCard ml_X2_204 rfl kb rfl hd (Nat.le_of_ble_eq_true rfl) (Nat.le_of_ble_eq_true rfl) (Nat.le_of_ble_eq_true rfl) ?_
      refine am_mono g (fun _ h17 _ ok_h17 g => ?_)
      obtain ⟨v18, rfl, ss_h17, g⟩ := g
      replace hL := QS.ss hL ss_h17
      obtain ⟨kb, rb_pocket, lb_pocket, rb_told, lb_told, rb_tally, lb_tally, rb_settings, kb_settings⟩ := id hL
      obtain ⟨kb_pocket, rb_pocket_names, kb_pocket_names, rb_pocket_asksToGo, kb_pocket_asksToGo, rb_pocket_tellings, kb_pocket_tellings, rb_pocket_slots, kb_pocket_slots, rb_pocket_awake, kb_pocket_awake, rb_pocket_answering, kb_pocket_answering⟩ := id lb_pocket
      obtain ⟨kb_told, rb_told_row, kb_told_row⟩ := id lb_told
      have kb_tally := id lb_tally
      show AW m_X2_carryOut d none Q 23 [some (.inr (some b)), some (.inl x1), some (.inl x2)] [(.inl v18)] h17 (0, 0)
      exact ax_ireturn (pc := 23) dX2_carryOut_23 rfl g (by decide) (by decide)
  · replace g := g.2 c1
    refine aw_aload_n (pc := 6) dX2_carryOut_6 rfl ?_
    refine aw_iload_n (pc := 7) dX2_carryOut_7 rfl ?_
    refine aw_invV (pc := 8) (md' := m_X2_putCard) (ci := 2) (as := [(.inl x2)]) dX2_carryOut_8 mo_X2_putCard im_X2_putCard se_X2_putCard ml_X2_201 rfl kb rfl hd (Nat.le_of_ble_eq_true rfl) (Nat.le_of_ble_eq_true rfl) (Nat.le_of_ble_eq_true rfl) ?_
    refine am_mono g (fun _ h19 _ ok_h19 g => ?_)
    obtain ⟨v20, rfl, ss_h19, g⟩ := g
    replace hL := QS.ss hL ss_h19
    obtain ⟨kb, rb_pocket, lb_pocket, rb_told, lb_told, rb_tally, lb_tally, rb_settings, kb_settings⟩ := id hL
    obtain ⟨kb_pocket, rb_pocket_names, kb_pocket_names, rb_pocket_asksToGo, kb_pocket_asksToGo, rb_pocket_tellings, kb_pocket_tellings, rb_pocket_slots, kb_pocket_slots, rb_pocket_awake, kb_pocket_awake, rb_pocket_answering, kb_pocket_answering⟩ := id lb_pocket
    obtain ⟨kb_told, rb_told_row, kb_told_row⟩ := id lb_told
    have kb_tally := id lb_tally
    show AW m_X2_carryOut d none Q 11 [some (.inr (some b)), some (.inl x1), some (.inl x2)] [(.inl v20)] h19 (0, 0)
    exact ax_ireturn (pc := 11) dX2_carryOut_11 rfl g (by decide) (by decide)
