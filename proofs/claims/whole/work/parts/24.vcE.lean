set_option maxRecDepth 100000 in
set_option maxHeartbeats 4000000 in
theorem vc_X7_isBeginning {d : Nat} {Q : Option Int → AH → Prop} {h : AH} {x0 x1 : Int} (hd : 1 ≤ d) 
  (g :
    AM (d - 1) m_X7_in [(.inl x0), (.inl 0), (.inl 8)] h (fun r h1 => 
      ∃ v2, r = some v2 ∧ SS h h1 ∧
      ((v2 = 0 → (
        Q (some 0) h1
      )) ∧
      (¬ (v2 = 0) → (
        (rg ((sl 1 x0) - 1)) ∧
        AM (d - 1) m_X7_in [(.inl x1), (.inl 0), (.inl ((sl 1 x0) - 1))] h1 (fun r h5 => 
          ∃ v6, r = some v6 ∧ SS h1 h5 ∧
          ((v6 = 0 → (
            Q (some 0) h5
          )) ∧
          (¬ (v6 = 0) → (
            Q (some 1) h5
          ))))
      ))))) :
  AM d m_X7_isBeginning [(.inl x0), (.inl x1)] h Q := by
  refine am_body mo_X7_isBeginning (Nat.le_of_ble_eq_true rfl) ?_
  show AW m_X7_isBeginning d none Q 0 [some (.inl x0), some (.inl x1)] [] h (0, 0)
  refine aw_iload_n (pc := 0) dX7_isBeginning_0 rfl ?_
  refine aw_iconst (pc := 1) dX7_isBeginning_1 ?_
  refine aw_bipush (pc := 2) dX7_isBeginning_2 ?_
  refine aw_invS (pc := 4) (md' := m_X7_in) (as := [(.inl x0), (.inl 0), (.inl 8)]) dX7_isBeginning_4 mo_X7_in sm_X7_in ml_X7_63 rfl rfl hd (Nat.le_of_ble_eq_true rfl) (Nat.le_of_ble_eq_true rfl) (Nat.le_of_ble_eq_true rfl) ?_
  refine am_mono g (fun _ h1 _ ok_h1 g => ?_)
  obtain ⟨v2, rfl, ss_h1, g⟩ := g
  show AW m_X7_isBeginning d none Q 7 [some (.inl x0), some (.inl x1)] [(.inl v2)] h1 (0, 0)
  refine aw_if_eq (pc := 7) (tgt := 27) dX7_isBeginning_7 (by decide) (fun c3 => ?_) (fun c3 => ?_)
  · replace g := g.1 c3
    refine aw_iconst (pc := 27) dX7_isBeginning_27 ?_
    exact aw_ireturn (pc := 28) dX7_isBeginning_28 (by simp [okr]) g (by decide) (by decide)
  · replace g := g.2 c3
    refine aw_iload_n (pc := 10) dX7_isBeginning_10 rfl ?_
    refine aw_iconst (pc := 11) dX7_isBeginning_11 ?_
    refine aw_iconst (pc := 12) dX7_isBeginning_12 ?_
    refine aw_iload_n (pc := 13) dX7_isBeginning_13 rfl ?_
    refine aw_ishl (pc := 14) dX7_isBeginning_14 ?_
    refine aw_iconst (pc := 15) dX7_isBeginning_15 ?_
    obtain ⟨s4, g⟩ := g
    refine ax_isub (pc := 16) (v := (sl 1 x0) - 1) dX7_isBeginning_16 s4 rfl ?_
    refine aw_invS (pc := 17) (md' := m_X7_in) (as := [(.inl x1), (.inl 0), (.inl ((sl 1 x0) - 1))]) dX7_isBeginning_17 mo_X7_in sm_X7_in ml_X7_63 rfl rfl hd (Nat.le_of_ble_eq_true rfl) (Nat.le_of_ble_eq_true rfl) (Nat.le_of_ble_eq_true rfl) ?_
    refine am_mono g (fun _ h5 _ ok_h5 g => ?_)
    obtain ⟨v6, rfl, ss_h5, g⟩ := g
    show AW m_X7_isBeginning d none Q 20 [some (.inl x0), some (.inl x1)] [(.inl v6)] h5 (0, 0)
    refine aw_if_eq (pc := 20) (tgt := 27) dX7_isBeginning_20 (by decide) (fun c7 => ?_) (fun c7 => ?_)
    · replace g := g.1 c7
      refine aw_iconst (pc := 27) dX7_isBeginning_27 ?_
      exact aw_ireturn (pc := 28) dX7_isBeginning_28 (by simp [okr]) g (by decide) (by decide)
    · replace g := g.2 c7
      refine aw_iconst (pc := 23) dX7_isBeginning_23 ?_
      refine aw_goto (pc := 24) (tgt := 28) dX7_isBeginning_24 (by decide) ?_
      exact aw_ireturn (pc := 28) dX7_isBeginning_28 (by simp [okr]) g (by decide) (by decide)
set_option maxRecDepth 100000 in
set_option maxHeartbeats 4000000 in
theorem vc_X7_ask {d : Nat} {Q : Option Int → AH → Prop} {h : AH} {x1 x2 : Int} (hd : 1 ≤ d) (hL : QZ h)
  (g :
    AM (d - 1) m_X7_isBeginning [(.inl x1), (.inl x2)] h (fun r h1 => 
      ∃ v2, r = some v2 ∧ SS h h1 ∧
      ((¬ v2 = 0 → (
        AM (d - 1) m_X7_record [(.inr (some 104))] h1 (fun r h4 => 
          r = none ∧ SS h1 h4 ∧
          AM (d - 1) m_X7_askNow [(.inr (some 104)), (.inl x1), (.inl x2)] h4 (fun r h5 => 
            ∃ v6, r = some v6 ∧ SS h4 h5 ∧
            Q (some v6) h5))
      )) ∧
      (¬ (¬ v2 = 0) → (
        Q (some (-2)) h1
      ))))) :
  AM d m_X7_ask [(.inr (some 104)), (.inl x1), (.inl x2)] h Q := by
  refine am_body mo_X7_ask (Nat.le_of_ble_eq_true rfl) ?_
  show AW m_X7_ask d none Q 0 [some (.inr (some 104)), some (.inl x1), some (.inl x2)] [] h (0, 0)
  obtain ⟨ko104, ro104_z, ko104_z, ro104_spare, ko104_spare, ro104_past, ko104_past, ro104_kept, ko104_kept, ro104_text, ko104_text, ro104_stack, ko104_stack, ro104_drew, ko104_drew, ro104_drawn, ko104_drawn, ro104_signs, ko104_signs, ro104_numbers, ko104_numbers⟩ := id hL
  refine aw_iload_n (pc := 0) dX7_ask_0 rfl ?_
  refine aw_iload_n (pc := 1) dX7_ask_1 rfl ?_
  refine aw_invS (pc := 2) (md' := m_X7_isBeginning) (as := [(.inl x1), (.inl x2)]) dX7_ask_2 mo_X7_isBeginning sm_X7_isBeginning ml_X7_125 rfl rfl hd (Nat.le_of_ble_eq_true rfl) (Nat.le_of_ble_eq_true rfl) (Nat.le_of_ble_eq_true rfl) ?_
  refine am_mono g (fun _ h1 _ ok_h1 g => ?_)
  obtain ⟨v2, rfl, ss_h1, g⟩ := g
  replace hL := QZ.ss hL ss_h1
  obtain ⟨ko104, ro104_z, ko104_z, ro104_spare, ko104_spare, ro104_past, ko104_past, ro104_kept, ko104_kept, ro104_text, ko104_text, ro104_stack, ko104_stack, ro104_drew, ko104_drew, ro104_drawn, ko104_drawn, ro104_signs, ko104_signs, ro104_numbers, ko104_numbers⟩ := id hL
  show AW m_X7_ask d none Q 5 [some (.inr (some 104)), some (.inl x1), some (.inl x2)] [(.inl v2)] h1 (0, 0)
  refine aw_if_ne (pc := 5) (tgt := 11) dX7_ask_5 (by decide) (fun c3 => ?_) (fun c3 => ?_)
  · replace g := g.1 c3
    refine aw_aload_n (pc := 11) dX7_ask_11 rfl ?_
    refine aw_invV (pc := 12) (md' := m_X7_record) (ci := 7) (as := []) dX7_ask_12 mo_X7_record im_X7_record se_X7_record ml_X7_60 rfl ko104 rfl hd (Nat.le_of_ble_eq_true rfl) (Nat.le_of_ble_eq_true rfl) (Nat.le_of_ble_eq_true rfl) ?_
    refine am_mono g (fun _ h4 _ ok_h4 g => ?_)
    obtain ⟨rfl, ss_h4, g⟩ := g
    replace hL := QZ.ss hL ss_h4
    obtain ⟨ko104, ro104_z, ko104_z, ro104_spare, ko104_spare, ro104_past, ko104_past, ro104_kept, ko104_kept, ro104_text, ko104_text, ro104_stack, ko104_stack, ro104_drew, ko104_drew, ro104_drawn, ko104_drawn, ro104_signs, ko104_signs, ro104_numbers, ko104_numbers⟩ := id hL
    show AW m_X7_ask d none Q 15 [some (.inr (some 104)), some (.inl x1), some (.inl x2)] [] h4 (0, 0)
    refine aw_aload_n (pc := 15) dX7_ask_15 rfl ?_
    refine aw_iload_n (pc := 16) dX7_ask_16 rfl ?_
    refine aw_iload_n (pc := 17) dX7_ask_17 rfl ?_
    refine aw_invV (pc := 18) (md' := m_X7_askNow) (ci := 7) (as := [(.inl x1), (.inl x2)]) dX7_ask_18 mo_X7_askNow im_X7_askNow se_X7_askNow ml_X7_129 rfl ko104 rfl hd (Nat.le_of_ble_eq_true rfl) (Nat.le_of_ble_eq_true rfl) (Nat.le_of_ble_eq_true rfl) ?_
    refine am_mono g (fun _ h5 _ ok_h5 g => ?_)
    obtain ⟨v6, rfl, ss_h5, g⟩ := g
    replace hL := QZ.ss hL ss_h5
    obtain ⟨ko104, ro104_z, ko104_z, ro104_spare, ko104_spare, ro104_past, ko104_past, ro104_kept, ko104_kept, ro104_text, ko104_text, ro104_stack, ko104_stack, ro104_drew, ko104_drew, ro104_drawn, ko104_drawn, ro104_signs, ko104_signs, ro104_numbers, ko104_numbers⟩ := id hL
    show AW m_X7_ask d none Q 21 [some (.inr (some 104)), some (.inl x1), some (.inl x2)] [(.inl v6)] h5 (0, 0)
    exact ax_ireturn (pc := 21) dX7_ask_21 rfl g (by decide) (by decide)
  · replace g := g.2 c3
    refine aw_bipush (pc := 8) dX7_ask_8 ?_
    exact ax_ireturn (pc := 10) dX7_ask_10 rfl g (by decide) (by decide)
set_option maxRecDepth 100000 in
set_option maxHeartbeats 4000000 in
theorem vc_X7_walkNow {d : Nat} {Q : Option Int → AH → Prop} {h : AH} {x1 : Int} (hd : 1 ≤ d) (hL : QZ h)
  (g :
    AW m_X7_walkNow d none Q 14 [some (.inr (some 104)), some (.inl x1), some (.inl 1), none, none, none, none, none] [] (up (up h 110 0 0) 104 13 0) (0, 0)) :
  AM d m_X7_walkNow [(.inr (some 104)), (.inl x1)] h Q := by
  refine am_body mo_X7_walkNow (Nat.le_of_ble_eq_true rfl) ?_
  show AW m_X7_walkNow d none Q 0 [some (.inr (some 104)), some (.inl x1), none, none, none, none, none, none] [] h (0, 0)
  obtain ⟨ko104, ro104_z, ko104_z, ro104_spare, ko104_spare, ro104_past, ko104_past, ro104_kept, ko104_kept, ro104_text, ko104_text, ro104_stack, ko104_stack, ro104_drew, ko104_drew, ro104_drawn, ko104_drawn, ro104_signs, ko104_signs, ro104_numbers, ko104_numbers⟩ := id hL
  refine aw_iconst (pc := 0) dX7_walkNow_0 ?_
  refine ax_istore_n (pc := 1) (ls' := [some (.inr (some 104)), some (.inl x1), some (.inl 1), none, none, none, none, none]) dX7_walkNow_1 (Nat.le_of_ble_eq_true rfl) rfl ?_
  refine aw_aload_n (pc := 2) dX7_walkNow_2 rfl ?_
  refine aw_getr (pc := 3) (r := some 110) dX7_walkNow_3 fl_X7_25 (by decide) rfl ko104 ro104_stack ?_
  refine aw_iconst (pc := 6) dX7_walkNow_6 ?_
  refine aw_iconst (pc := 7) dX7_walkNow_7 ?_
  refine ax_iastore (pc := 8) (n := 20) dX7_walkNow_8 ko104_stack (by decide) ?_
  refine aw_aload_n (pc := 9) dX7_walkNow_9 rfl ?_
  refine aw_iconst (pc := 10) dX7_walkNow_10 ?_
  refine ax_puti (pc := 11) dX7_walkNow_11 fl_X7_132 (by decide) rfl rfl rfl (hkU ko104) ?_
  exact g
set_option maxRecDepth 100000 in
set_option maxHeartbeats 4000000 in
theorem vc_X7_walkNow_14 {d : Nat} {Q : Option Int → AH → Prop} {h : AH} {x1 x2 : Int} (hd : 1 ≤ d) (hL : QZ h)
  (g :
    ((x2 ≤ 0 → (
      Q none h
    )) ∧
    (¬ (x2 ≤ 0) → (
      (rg (x2 - 1)) ∧
      (0 ≤ x2 - 1 ∧ x2 - 1 < 20) ∧
      ((dv (hi h 110 (x2 - 1)) 256 ≤ hi h 104 13 → (
        AM (d - 1) m_X7_askNow [(.inr (some 104)), (.inl (dv (hi h 110 (x2 - 1)) 256)), (.inl (rm (hi h 110 (x2 - 1)) 256))] (up h 104 13 (hi h 104 13)) (fun r h5 => 
          ∃ v6, r = some v6 ∧ SS (up h 104 13 (hi h 104 13)) h5 ∧
          ((v6 < 400 → (
            AW m_X7_walkNow d none Q 14 [some (.inr (some 104)), some (.inl x1), some (.inl (x2 - 1)), none, none, none, none, none] [] h5 (0, 0)
          )) ∧
          (¬ (v6 < 400) → (
            ((x1 = 0 → (
              (rg (8 - (dv (hi h 110 (x2 - 1)) 256))) ∧
              (rg ((dv (hi h 110 (x2 - 1)) 256) + 1)) ∧
              (rg (256 * ((dv (hi h 110 (x2 - 1)) 256) + 1))) ∧
              (rg (2 * (sr (hi h5 104 10) (8 - (dv (hi h 110 (x2 - 1)) 256))))) ∧
              (rg ((256 * ((dv (hi h 110 (x2 - 1)) 256) + 1)) + (2 * (sr (hi h5 104 10) (8 - (dv (hi h 110 (x2 - 1)) 256)))))) ∧
              (rg (((256 * ((dv (hi h 110 (x2 - 1)) 256) + 1)) + (2 * (sr (hi h5 104 10) (8 - (dv (hi h 110 (x2 - 1)) 256))))) + 1)) ∧
              (rg ((x2 - 1) + 1)) ∧
              (0 ≤ (x2 - 1) + 1 ∧ (x2 - 1) + 1 < 20) ∧
              (rg ((x2 - 1) + 2)) ∧
              AW m_X7_walkNow d none Q 14 [some (.inr (some 104)), some (.inl x1), some (.inl ((x2 - 1) + 2)), none, none, none, none, none] [] (up (up h5 110 (x2 - 1) (((256 * ((dv (hi h 110 (x2 - 1)) 256) + 1)) + (2 * (sr (hi h5 104 10) (8 - (dv (hi h 110 (x2 - 1)) 256))))) + 1)) 110 ((x2 - 1) + 1) ((256 * ((dv (hi h 110 (x2 - 1)) 256) + 1)) + (2 * (sr (hi h5 104 10) (8 - (dv (hi h 110 (x2 - 1)) 256)))))) (0, 0)
            )) ∧
            (¬ (x1 = 0) → (
              (rg (v6 - 400)) ∧
              (rg (8 - (v6 - 400))) ∧
              (rg ((v6 - 400) + 1)) ∧
              (rg (256 * ((v6 - 400) + 1))) ∧
              (rg (2 * (sr (hi h5 104 10) (8 - (v6 - 400))))) ∧
              (rg ((256 * ((v6 - 400) + 1)) + (2 * (sr (hi h5 104 10) (8 - (v6 - 400)))))) ∧
              (rg (((256 * ((v6 - 400) + 1)) + (2 * (sr (hi h5 104 10) (8 - (v6 - 400))))) + 1)) ∧
              (rg ((x2 - 1) + 1)) ∧
              (0 ≤ (x2 - 1) + 1 ∧ (x2 - 1) + 1 < 20) ∧
              (rg ((x2 - 1) + 2)) ∧
              AW m_X7_walkNow d none Q 14 [some (.inr (some 104)), some (.inl x1), some (.inl ((x2 - 1) + 2)), none, none, none, none, none] [] (up (up h5 110 (x2 - 1) (((256 * ((v6 - 400) + 1)) + (2 * (sr (hi h5 104 10) (8 - (v6 - 400))))) + 1)) 110 ((x2 - 1) + 1) ((256 * ((v6 - 400) + 1)) + (2 * (sr (hi h5 104 10) (8 - (v6 - 400)))))) (0, 0)
            )))
          ))))
      )) ∧
      (¬ (dv (hi h 110 (x2 - 1)) 256 ≤ hi h 104 13) → (
        AM (d - 1) m_X7_askNow [(.inr (some 104)), (.inl (dv (hi h 110 (x2 - 1)) 256)), (.inl (rm (hi h 110 (x2 - 1)) 256))] (up h 104 13 (dv (hi h 110 (x2 - 1)) 256)) (fun r h28 => 
          ∃ v29, r = some v29 ∧ SS (up h 104 13 (dv (hi h 110 (x2 - 1)) 256)) h28 ∧
          ((v29 < 400 → (
            AW m_X7_walkNow d none Q 14 [some (.inr (some 104)), some (.inl x1), some (.inl (x2 - 1)), none, none, none, none, none] [] h28 (0, 0)
          )) ∧
          (¬ (v29 < 400) → (
            ((x1 = 0 → (
              (rg (8 - (dv (hi h 110 (x2 - 1)) 256))) ∧
              (rg ((dv (hi h 110 (x2 - 1)) 256) + 1)) ∧
              (rg (256 * ((dv (hi h 110 (x2 - 1)) 256) + 1))) ∧
              (rg (2 * (sr (hi h28 104 10) (8 - (dv (hi h 110 (x2 - 1)) 256))))) ∧
              (rg ((256 * ((dv (hi h 110 (x2 - 1)) 256) + 1)) + (2 * (sr (hi h28 104 10) (8 - (dv (hi h 110 (x2 - 1)) 256)))))) ∧
              (rg (((256 * ((dv (hi h 110 (x2 - 1)) 256) + 1)) + (2 * (sr (hi h28 104 10) (8 - (dv (hi h 110 (x2 - 1)) 256))))) + 1)) ∧
              (rg ((x2 - 1) + 1)) ∧
              (0 ≤ (x2 - 1) + 1 ∧ (x2 - 1) + 1 < 20) ∧
              (rg ((x2 - 1) + 2)) ∧
              AW m_X7_walkNow d none Q 14 [some (.inr (some 104)), some (.inl x1), some (.inl ((x2 - 1) + 2)), none, none, none, none, none] [] (up (up h28 110 (x2 - 1) (((256 * ((dv (hi h 110 (x2 - 1)) 256) + 1)) + (2 * (sr (hi h28 104 10) (8 - (dv (hi h 110 (x2 - 1)) 256))))) + 1)) 110 ((x2 - 1) + 1) ((256 * ((dv (hi h 110 (x2 - 1)) 256) + 1)) + (2 * (sr (hi h28 104 10) (8 - (dv (hi h 110 (x2 - 1)) 256)))))) (0, 0)
            )) ∧
            (¬ (x1 = 0) → (
              (rg (v29 - 400)) ∧
              (rg (8 - (v29 - 400))) ∧
              (rg ((v29 - 400) + 1)) ∧
              (rg (256 * ((v29 - 400) + 1))) ∧
              (rg (2 * (sr (hi h28 104 10) (8 - (v29 - 400))))) ∧
              (rg ((256 * ((v29 - 400) + 1)) + (2 * (sr (hi h28 104 10) (8 - (v29 - 400)))))) ∧
              (rg (((256 * ((v29 - 400) + 1)) + (2 * (sr (hi h28 104 10) (8 - (v29 - 400))))) + 1)) ∧
              (rg ((x2 - 1) + 1)) ∧
              (0 ≤ (x2 - 1) + 1 ∧ (x2 - 1) + 1 < 20) ∧
              (rg ((x2 - 1) + 2)) ∧
              AW m_X7_walkNow d none Q 14 [some (.inr (some 104)), some (.inl x1), some (.inl ((x2 - 1) + 2)), none, none, none, none, none] [] (up (up h28 110 (x2 - 1) (((256 * ((v29 - 400) + 1)) + (2 * (sr (hi h28 104 10) (8 - (v29 - 400))))) + 1)) 110 ((x2 - 1) + 1) ((256 * ((v29 - 400) + 1)) + (2 * (sr (hi h28 104 10) (8 - (v29 - 400)))))) (0, 0)
            )))
          ))))
      )))
    )))) :
  AW m_X7_walkNow d none Q 14 [some (.inr (some 104)), some (.inl x1), some (.inl x2), none, none, none, none, none] [] h (0, 0) := by
  obtain ⟨ko104, ro104_z, ko104_z, ro104_spare, ko104_spare, ro104_past, ko104_past, ro104_kept, ko104_kept, ro104_text, ko104_text, ro104_stack, ko104_stack, ro104_drew, ko104_drew, ro104_drawn, ko104_drawn, ro104_signs, ko104_signs, ro104_numbers, ko104_numbers⟩ := id hL
  refine aw_iload_n (pc := 14) dX7_walkNow_14 rfl ?_
  refine aw_if_le (pc := 15) (tgt := 157) dX7_walkNow_15 (by decide) (fun c1 => ?_) (fun c1 => ?_)
  · replace g := g.1 c1
    exact aw_return (pc := 157) dX7_walkNow_157 rfl g (by decide) (by decide)
  · replace g := g.2 c1
    obtain ⟨s2, g⟩ := g
    refine ax_iinc (pc := 18) (v' := x2 - 1) (ls' := [some (.inr (some 104)), some (.inl x1), some (.inl (x2 - 1)), none, none, none, none, none]) dX7_walkNow_18 rfl s2 (by omega) rfl ?_
    refine aw_aload_n (pc := 21) dX7_walkNow_21 rfl ?_
    refine aw_getr (pc := 22) (r := some 110) dX7_walkNow_22 fl_X7_25 (by decide) rfl ko104 ro104_stack ?_
    refine aw_iload_n (pc := 25) dX7_walkNow_25 rfl ?_
    obtain ⟨s3, g⟩ := g
    refine ax_iaload (pc := 26) (n := 20) (v := hi h 110 (x2 - 1)) dX7_walkNow_26 ko104_stack s3 rfl ?_
    refine aw_sipush (pc := 27) dX7_walkNow_27 ?_
    refine aw_idiv (pc := 30) dX7_walkNow_30 (by decide) ?_
    refine ax_istore_n (pc := 31) (ls' := [some (.inr (some 104)), some (.inl x1), some (.inl (x2 - 1)), some (.inl (dv (hi h 110 (x2 - 1)) 256)), none, none, none, none]) dX7_walkNow_31 (Nat.le_of_ble_eq_true rfl) rfl ?_
    refine aw_aload_n (pc := 32) dX7_walkNow_32 rfl ?_
    refine aw_getr (pc := 33) (r := some 110) dX7_walkNow_33 fl_X7_25 (by decide) rfl ko104 ro104_stack ?_
    refine aw_iload_n (pc := 36) dX7_walkNow_36 rfl ?_
    refine ax_iaload (pc := 37) (n := 20) (v := hi h 110 (x2 - 1)) dX7_walkNow_37 ko104_stack s3 rfl ?_
    refine aw_sipush (pc := 38) dX7_walkNow_38 ?_
    refine aw_irem (pc := 41) dX7_walkNow_41 (by decide) ?_
    refine ax_istore (pc := 42) (ls' := [some (.inr (some 104)), some (.inl x1), some (.inl (x2 - 1)), some (.inl (dv (hi h 110 (x2 - 1)) 256)), some (.inl (rm (hi h 110 (x2 - 1)) 256)), none, none, none]) dX7_walkNow_42 (Nat.le_of_ble_eq_true rfl) rfl ?_
    refine aw_aload_n (pc := 44) dX7_walkNow_44 rfl ?_
    refine aw_iload_n (pc := 45) dX7_walkNow_45 rfl ?_
    refine aw_aload_n (pc := 46) dX7_walkNow_46 rfl ?_
    refine ax_geti (pc := 47) (v := hi h 104 13) dX7_walkNow_47 fl_X7_132 (by decide) rfl ko104 rfl ?_
    refine aw_icmp_le (pc := 50) (tgt := 57) dX7_walkNow_50 (by decide) (fun c4 => ?_) (fun c4 => ?_)
    · replace g := g.1 c4
      refine aw_aload_n (pc := 57) dX7_walkNow_57 rfl ?_
      refine ax_geti (pc := 58) (v := hi h 104 13) dX7_walkNow_58 fl_X7_132 (by decide) rfl ko104 rfl ?_
      refine ax_puti (pc := 61) dX7_walkNow_61 fl_X7_132 (by decide) rfl rfl rfl ko104 ?_
      refine aw_aload_n (pc := 64) dX7_walkNow_64 rfl ?_
      refine aw_iload_n (pc := 65) dX7_walkNow_65 rfl ?_
      refine aw_iload (pc := 66) dX7_walkNow_66 rfl ?_
      refine aw_invV (pc := 68) (md' := m_X7_askNow) (ci := 7) (as := [(.inl (dv (hi h 110 (x2 - 1)) 256)), (.inl (rm (hi h 110 (x2 - 1)) 256))]) dX7_walkNow_68 mo_X7_askNow im_X7_askNow se_X7_askNow ml_X7_129 rfl (hkU ko104) rfl hd (Nat.le_of_ble_eq_true rfl) (Nat.le_of_ble_eq_true rfl) (Nat.le_of_ble_eq_true rfl) ?_
      refine am_mono g (fun _ h5 _ ok_h5 g => ?_)
      obtain ⟨v6, rfl, ss_h5, g⟩ := g
      replace hL := QZ.ss hL (SS.tr (SS.up SS.rf) ss_h5)
      obtain ⟨ko104, ro104_z, ko104_z, ro104_spare, ko104_spare, ro104_past, ko104_past, ro104_kept, ko104_kept, ro104_text, ko104_text, ro104_stack, ko104_stack, ro104_drew, ko104_drew, ro104_drawn, ko104_drawn, ro104_signs, ko104_signs, ro104_numbers, ko104_numbers⟩ := id hL
      show AW m_X7_walkNow d none Q 71 [some (.inr (some 104)), some (.inl x1), some (.inl (x2 - 1)), some (.inl (dv (hi h 110 (x2 - 1)) 256)), some (.inl (rm (hi h 110 (x2 - 1)) 256)), none, none, none] [(.inl v6)] h5 (0, 0)
      refine ax_istore (pc := 71) (ls' := [some (.inr (some 104)), some (.inl x1), some (.inl (x2 - 1)), some (.inl (dv (hi h 110 (x2 - 1)) 256)), some (.inl (rm (hi h 110 (x2 - 1)) 256)), some (.inl v6), none, none]) dX7_walkNow_71 (Nat.le_of_ble_eq_true rfl) rfl ?_
      refine aw_iload (pc := 73) dX7_walkNow_73 rfl ?_
      refine aw_sipush (pc := 75) dX7_walkNow_75 ?_
      refine aw_icmp_lt (pc := 78) (tgt := 154) dX7_walkNow_78 (by decide) (fun c7 => ?_) (fun c7 => ?_)
      · replace g := g.1 c7
        refine aw_goto (pc := 154) (tgt := 14) dX7_walkNow_154 (by decide) ?_
        exact aw_fewer (show subl [some (.inr (some 104)), some (.inl x1), some (.inl (x2 - 1)), none, none, none, none, none] [some (.inr (some 104)), some (.inl x1), some (.inl (x2 - 1)), some (.inl (dv (hi h 110 (x2 - 1)) 256)), some (.inl (rm (hi h 110 (x2 - 1)) 256)), some (.inl v6), none, none] from (And.intro rfl (And.intro rfl (And.intro rfl trivial)))) g
      · replace g := g.2 c7
        refine aw_iload_n (pc := 81) dX7_walkNow_81 rfl ?_
        refine aw_if_eq (pc := 82) (tgt := 94) dX7_walkNow_82 (by decide) (fun c8 => ?_) (fun c8 => ?_)
        · replace g := g.1 c8
          refine aw_iload_n (pc := 94) dX7_walkNow_94 rfl ?_
          refine ax_istore (pc := 95) (ls' := [some (.inr (some 104)), some (.inl x1), some (.inl (x2 - 1)), some (.inl (dv (hi h 110 (x2 - 1)) 256)), some (.inl (rm (hi h 110 (x2 - 1)) 256)), some (.inl v6), some (.inl (dv (hi h 110 (x2 - 1)) 256)), none]) dX7_walkNow_95 (Nat.le_of_ble_eq_true rfl) rfl ?_
          refine aw_aload_n (pc := 97) dX7_walkNow_97 rfl ?_
          refine ax_geti (pc := 98) (v := hi h5 104 10) dX7_walkNow_98 fl_X7_98 (by decide) rfl ko104 rfl ?_
          refine aw_bipush (pc := 101) dX7_walkNow_101 ?_
          refine aw_iload (pc := 103) dX7_walkNow_103 rfl ?_
          obtain ⟨s9, g⟩ := g
          refine ax_isub (pc := 105) (v := 8 - (dv (hi h 110 (x2 - 1)) 256)) dX7_walkNow_105 s9 rfl ?_
          refine aw_ishr (pc := 106) dX7_walkNow_106 ?_
          refine ax_istore (pc := 107) (ls' := [some (.inr (some 104)), some (.inl x1), some (.inl (x2 - 1)), some (.inl (dv (hi h 110 (x2 - 1)) 256)), some (.inl (rm (hi h 110 (x2 - 1)) 256)), some (.inl v6), some (.inl (dv (hi h 110 (x2 - 1)) 256)), some (.inl (sr (hi h5 104 10) (8 - (dv (hi h 110 (x2 - 1)) 256))))]) dX7_walkNow_107 (Nat.le_of_ble_eq_true rfl) rfl ?_
          refine aw_aload_n (pc := 109) dX7_walkNow_109 rfl ?_
          refine aw_getr (pc := 110) (r := some 110) dX7_walkNow_110 fl_X7_25 (by decide) rfl ko104 ro104_stack ?_
          refine aw_iload_n (pc := 113) dX7_walkNow_113 rfl ?_
          refine aw_sipush (pc := 114) dX7_walkNow_114 ?_
          refine aw_iload (pc := 117) dX7_walkNow_117 rfl ?_
          refine aw_iconst (pc := 119) dX7_walkNow_119 ?_
          obtain ⟨s10, g⟩ := g
          refine ax_iadd (pc := 120) (v := (dv (hi h 110 (x2 - 1)) 256) + 1) dX7_walkNow_120 s10 rfl ?_
          obtain ⟨s11, g⟩ := g
          refine ax_imul (pc := 121) (v := 256 * ((dv (hi h 110 (x2 - 1)) 256) + 1)) dX7_walkNow_121 s11 rfl ?_
          refine aw_iconst (pc := 122) dX7_walkNow_122 ?_
          refine aw_iload (pc := 123) dX7_walkNow_123 rfl ?_
          obtain ⟨s12, g⟩ := g
          refine ax_imul (pc := 125) (v := 2 * (sr (hi h5 104 10) (8 - (dv (hi h 110 (x2 - 1)) 256)))) dX7_walkNow_125 s12 rfl ?_
          obtain ⟨s13, g⟩ := g
          refine ax_iadd (pc := 126) (v := (256 * ((dv (hi h 110 (x2 - 1)) 256) + 1)) + (2 * (sr (hi h5 104 10) (8 - (dv (hi h 110 (x2 - 1)) 256))))) dX7_walkNow_126 s13 rfl ?_
          refine aw_iconst (pc := 127) dX7_walkNow_127 ?_
          obtain ⟨s14, g⟩ := g
          refine ax_iadd (pc := 128) (v := ((256 * ((dv (hi h 110 (x2 - 1)) 256) + 1)) + (2 * (sr (hi h5 104 10) (8 - (dv (hi h 110 (x2 - 1)) 256))))) + 1) dX7_walkNow_128 s14 rfl ?_
          refine ax_iastore (pc := 129) (n := 20) dX7_walkNow_129 ko104_stack s3 ?_
          refine aw_aload_n (pc := 130) dX7_walkNow_130 rfl ?_
          refine aw_getr (pc := 131) (r := some 110) dX7_walkNow_131 fl_X7_25 (by decide) rfl (hkU ko104) (hrU ro104_stack) ?_
          refine aw_iload_n (pc := 134) dX7_walkNow_134 rfl ?_
          refine aw_iconst (pc := 135) dX7_walkNow_135 ?_
          obtain ⟨s15, g⟩ := g
          refine ax_iadd (pc := 136) (v := (x2 - 1) + 1) dX7_walkNow_136 s15 rfl ?_
          refine aw_sipush (pc := 137) dX7_walkNow_137 ?_
          refine aw_iload (pc := 140) dX7_walkNow_140 rfl ?_
          refine aw_iconst (pc := 142) dX7_walkNow_142 ?_
          refine ax_iadd (pc := 143) (v := (dv (hi h 110 (x2 - 1)) 256) + 1) dX7_walkNow_143 s10 rfl ?_
          refine ax_imul (pc := 144) (v := 256 * ((dv (hi h 110 (x2 - 1)) 256) + 1)) dX7_walkNow_144 s11 rfl ?_
          refine aw_iconst (pc := 145) dX7_walkNow_145 ?_
          refine aw_iload (pc := 146) dX7_walkNow_146 rfl ?_
          refine ax_imul (pc := 148) (v := 2 * (sr (hi h5 104 10) (8 - (dv (hi h 110 (x2 - 1)) 256)))) dX7_walkNow_148 s12 rfl ?_
          refine ax_iadd (pc := 149) (v := (256 * ((dv (hi h 110 (x2 - 1)) 256) + 1)) + (2 * (sr (hi h5 104 10) (8 - (dv (hi h 110 (x2 - 1)) 256))))) dX7_walkNow_149 s13 rfl ?_
          obtain ⟨s16, g⟩ := g
          refine ax_iastore (pc := 150) (n := 20) dX7_walkNow_150 (hkU ko104_stack) s16 ?_
          obtain ⟨s17, g⟩ := g
          refine ax_iinc (pc := 151) (v' := (x2 - 1) + 2) (ls' := [some (.inr (some 104)), some (.inl x1), some (.inl ((x2 - 1) + 2)), some (.inl (dv (hi h 110 (x2 - 1)) 256)), some (.inl (rm (hi h 110 (x2 - 1)) 256)), some (.inl v6), some (.inl (dv (hi h 110 (x2 - 1)) 256)), some (.inl (sr (hi h5 104 10) (8 - (dv (hi h 110 (x2 - 1)) 256))))]) dX7_walkNow_151 rfl s17 rfl rfl ?_
          refine aw_goto (pc := 154) (tgt := 14) dX7_walkNow_154 (by decide) ?_
          exact aw_fewer (show subl [some (.inr (some 104)), some (.inl x1), some (.inl ((x2 - 1) + 2)), none, none, none, none, none] [some (.inr (some 104)), some (.inl x1), some (.inl ((x2 - 1) + 2)), some (.inl (dv (hi h 110 (x2 - 1)) 256)), some (.inl (rm (hi h 110 (x2 - 1)) 256)), some (.inl v6), some (.inl (dv (hi h 110 (x2 - 1)) 256)), some (.inl (sr (hi h5 104 10) (8 - (dv (hi h 110 (x2 - 1)) 256))))] from (And.intro rfl (And.intro rfl (And.intro rfl trivial)))) g
        · replace g := g.2 c8
          refine aw_iload (pc := 85) dX7_walkNow_85 rfl ?_
          refine aw_sipush (pc := 87) dX7_walkNow_87 ?_
          obtain ⟨s18, g⟩ := g
          refine ax_isub (pc := 90) (v := v6 - 400) dX7_walkNow_90 s18 rfl ?_
          refine aw_goto (pc := 91) (tgt := 95) dX7_walkNow_91 (by decide) ?_
          refine ax_istore (pc := 95) (ls' := [some (.inr (some 104)), some (.inl x1), some (.inl (x2 - 1)), some (.inl (dv (hi h 110 (x2 - 1)) 256)), some (.inl (rm (hi h 110 (x2 - 1)) 256)), some (.inl v6), some (.inl (v6 - 400)), none]) dX7_walkNow_95 (Nat.le_of_ble_eq_true rfl) rfl ?_
          refine aw_aload_n (pc := 97) dX7_walkNow_97 rfl ?_
          refine ax_geti (pc := 98) (v := hi h5 104 10) dX7_walkNow_98 fl_X7_98 (by decide) rfl ko104 rfl ?_
          refine aw_bipush (pc := 101) dX7_walkNow_101 ?_
          refine aw_iload (pc := 103) dX7_walkNow_103 rfl ?_
          obtain ⟨s19, g⟩ := g
          refine ax_isub (pc := 105) (v := 8 - (v6 - 400)) dX7_walkNow_105 s19 rfl ?_
          refine aw_ishr (pc := 106) dX7_walkNow_106 ?_
          refine ax_istore (pc := 107) (ls' := [some (.inr (some 104)), some (.inl x1), some (.inl (x2 - 1)), some (.inl (dv (hi h 110 (x2 - 1)) 256)), some (.inl (rm (hi h 110 (x2 - 1)) 256)), some (.inl v6), some (.inl (v6 - 400)), some (.inl (sr (hi h5 104 10) (8 - (v6 - 400))))]) dX7_walkNow_107 (Nat.le_of_ble_eq_true rfl) rfl ?_
          refine aw_aload_n (pc := 109) dX7_walkNow_109 rfl ?_
          refine aw_getr (pc := 110) (r := some 110) dX7_walkNow_110 fl_X7_25 (by decide) rfl ko104 ro104_stack ?_
          refine aw_iload_n (pc := 113) dX7_walkNow_113 rfl ?_
          refine aw_sipush (pc := 114) dX7_walkNow_114 ?_
          refine aw_iload (pc := 117) dX7_walkNow_117 rfl ?_
          refine aw_iconst (pc := 119) dX7_walkNow_119 ?_
          obtain ⟨s20, g⟩ := g
          refine ax_iadd (pc := 120) (v := (v6 - 400) + 1) dX7_walkNow_120 s20 rfl ?_
          obtain ⟨s21, g⟩ := g
          refine ax_imul (pc := 121) (v := 256 * ((v6 - 400) + 1)) dX7_walkNow_121 s21 rfl ?_
          refine aw_iconst (pc := 122) dX7_walkNow_122 ?_
          refine aw_iload (pc := 123) dX7_walkNow_123 rfl ?_
          obtain ⟨s22, g⟩ := g
          refine ax_imul (pc := 125) (v := 2 * (sr (hi h5 104 10) (8 - (v6 - 400)))) dX7_walkNow_125 s22 rfl ?_
          obtain ⟨s23, g⟩ := g
          refine ax_iadd (pc := 126) (v := (256 * ((v6 - 400) + 1)) + (2 * (sr (hi h5 104 10) (8 - (v6 - 400))))) dX7_walkNow_126 s23 rfl ?_
          refine aw_iconst (pc := 127) dX7_walkNow_127 ?_
          obtain ⟨s24, g⟩ := g
          refine ax_iadd (pc := 128) (v := ((256 * ((v6 - 400) + 1)) + (2 * (sr (hi h5 104 10) (8 - (v6 - 400))))) + 1) dX7_walkNow_128 s24 rfl ?_
          refine ax_iastore (pc := 129) (n := 20) dX7_walkNow_129 ko104_stack s3 ?_
          refine aw_aload_n (pc := 130) dX7_walkNow_130 rfl ?_
          refine aw_getr (pc := 131) (r := some 110) dX7_walkNow_131 fl_X7_25 (by decide) rfl (hkU ko104) (hrU ro104_stack) ?_
          refine aw_iload_n (pc := 134) dX7_walkNow_134 rfl ?_
          refine aw_iconst (pc := 135) dX7_walkNow_135 ?_
          obtain ⟨s25, g⟩ := g
          refine ax_iadd (pc := 136) (v := (x2 - 1) + 1) dX7_walkNow_136 s25 rfl ?_
          refine aw_sipush (pc := 137) dX7_walkNow_137 ?_
          refine aw_iload (pc := 140) dX7_walkNow_140 rfl ?_
          refine aw_iconst (pc := 142) dX7_walkNow_142 ?_
          refine ax_iadd (pc := 143) (v := (v6 - 400) + 1) dX7_walkNow_143 s20 rfl ?_
          refine ax_imul (pc := 144) (v := 256 * ((v6 - 400) + 1)) dX7_walkNow_144 s21 rfl ?_
          refine aw_iconst (pc := 145) dX7_walkNow_145 ?_
          refine aw_iload (pc := 146) dX7_walkNow_146 rfl ?_
          refine ax_imul (pc := 148) (v := 2 * (sr (hi h5 104 10) (8 - (v6 - 400)))) dX7_walkNow_148 s22 rfl ?_
          refine ax_iadd (pc := 149) (v := (256 * ((v6 - 400) + 1)) + (2 * (sr (hi h5 104 10) (8 - (v6 - 400))))) dX7_walkNow_149 s23 rfl ?_
          obtain ⟨s26, g⟩ := g
          refine ax_iastore (pc := 150) (n := 20) dX7_walkNow_150 (hkU ko104_stack) s26 ?_
          obtain ⟨s27, g⟩ := g
          refine ax_iinc (pc := 151) (v' := (x2 - 1) + 2) (ls' := [some (.inr (some 104)), some (.inl x1), some (.inl ((x2 - 1) + 2)), some (.inl (dv (hi h 110 (x2 - 1)) 256)), some (.inl (rm (hi h 110 (x2 - 1)) 256)), some (.inl v6), some (.inl (v6 - 400)), some (.inl (sr (hi h5 104 10) (8 - (v6 - 400))))]) dX7_walkNow_151 rfl s27 rfl rfl ?_
          refine aw_goto (pc := 154) (tgt := 14) dX7_walkNow_154 (by decide) ?_
          exact aw_fewer (show subl [some (.inr (some 104)), some (.inl x1), some (.inl ((x2 - 1) + 2)), none, none, none, none, none] [some (.inr (some 104)), some (.inl x1), some (.inl ((x2 - 1) + 2)), some (.inl (dv (hi h 110 (x2 - 1)) 256)), some (.inl (rm (hi h 110 (x2 - 1)) 256)), some (.inl v6), some (.inl (v6 - 400)), some (.inl (sr (hi h5 104 10) (8 - (v6 - 400))))] from (And.intro rfl (And.intro rfl (And.intro rfl trivial)))) g
    · replace g := g.2 c4
      refine aw_iload_n (pc := 53) dX7_walkNow_53 rfl ?_
      refine aw_goto (pc := 54) (tgt := 61) dX7_walkNow_54 (by decide) ?_
      refine ax_puti (pc := 61) dX7_walkNow_61 fl_X7_132 (by decide) rfl rfl rfl ko104 ?_
      refine aw_aload_n (pc := 64) dX7_walkNow_64 rfl ?_
      refine aw_iload_n (pc := 65) dX7_walkNow_65 rfl ?_
      refine aw_iload (pc := 66) dX7_walkNow_66 rfl ?_
      refine aw_invV (pc := 68) (md' := m_X7_askNow) (ci := 7) (as := [(.inl (dv (hi h 110 (x2 - 1)) 256)), (.inl (rm (hi h 110 (x2 - 1)) 256))]) dX7_walkNow_68 mo_X7_askNow im_X7_askNow se_X7_askNow ml_X7_129 rfl (hkU ko104) rfl hd (Nat.le_of_ble_eq_true rfl) (Nat.le_of_ble_eq_true rfl) (Nat.le_of_ble_eq_true rfl) ?_
      refine am_mono g (fun _ h28 _ ok_h28 g => ?_)
      obtain ⟨v29, rfl, ss_h28, g⟩ := g
      replace hL := QZ.ss hL (SS.tr (SS.up SS.rf) ss_h28)
      obtain ⟨ko104, ro104_z, ko104_z, ro104_spare, ko104_spare, ro104_past, ko104_past, ro104_kept, ko104_kept, ro104_text, ko104_text, ro104_stack, ko104_stack, ro104_drew, ko104_drew, ro104_drawn, ko104_drawn, ro104_signs, ko104_signs, ro104_numbers, ko104_numbers⟩ := id hL
      show AW m_X7_walkNow d none Q 71 [some (.inr (some 104)), some (.inl x1), some (.inl (x2 - 1)), some (.inl (dv (hi h 110 (x2 - 1)) 256)), some (.inl (rm (hi h 110 (x2 - 1)) 256)), none, none, none] [(.inl v29)] h28 (0, 0)
      refine ax_istore (pc := 71) (ls' := [some (.inr (some 104)), some (.inl x1), some (.inl (x2 - 1)), some (.inl (dv (hi h 110 (x2 - 1)) 256)), some (.inl (rm (hi h 110 (x2 - 1)) 256)), some (.inl v29), none, none]) dX7_walkNow_71 (Nat.le_of_ble_eq_true rfl) rfl ?_
      refine aw_iload (pc := 73) dX7_walkNow_73 rfl ?_
      refine aw_sipush (pc := 75) dX7_walkNow_75 ?_
      refine aw_icmp_lt (pc := 78) (tgt := 154) dX7_walkNow_78 (by decide) (fun c30 => ?_) (fun c30 => ?_)
      · replace g := g.1 c30
        refine aw_goto (pc := 154) (tgt := 14) dX7_walkNow_154 (by decide) ?_
        exact aw_fewer (show subl [some (.inr (some 104)), some (.inl x1), some (.inl (x2 - 1)), none, none, none, none, none] [some (.inr (some 104)), some (.inl x1), some (.inl (x2 - 1)), some (.inl (dv (hi h 110 (x2 - 1)) 256)), some (.inl (rm (hi h 110 (x2 - 1)) 256)), some (.inl v29), none, none] from (And.intro rfl (And.intro rfl (And.intro rfl trivial)))) g
      · replace g := g.2 c30
        refine aw_iload_n (pc := 81) dX7_walkNow_81 rfl ?_
        refine aw_if_eq (pc := 82) (tgt := 94) dX7_walkNow_82 (by decide) (fun c31 => ?_) (fun c31 => ?_)
        · replace g := g.1 c31
          refine aw_iload_n (pc := 94) dX7_walkNow_94 rfl ?_
          refine ax_istore (pc := 95) (ls' := [some (.inr (some 104)), some (.inl x1), some (.inl (x2 - 1)), some (.inl (dv (hi h 110 (x2 - 1)) 256)), some (.inl (rm (hi h 110 (x2 - 1)) 256)), some (.inl v29), some (.inl (dv (hi h 110 (x2 - 1)) 256)), none]) dX7_walkNow_95 (Nat.le_of_ble_eq_true rfl) rfl ?_
          refine aw_aload_n (pc := 97) dX7_walkNow_97 rfl ?_
          refine ax_geti (pc := 98) (v := hi h28 104 10) dX7_walkNow_98 fl_X7_98 (by decide) rfl ko104 rfl ?_
          refine aw_bipush (pc := 101) dX7_walkNow_101 ?_
          refine aw_iload (pc := 103) dX7_walkNow_103 rfl ?_
          obtain ⟨s32, g⟩ := g
          refine ax_isub (pc := 105) (v := 8 - (dv (hi h 110 (x2 - 1)) 256)) dX7_walkNow_105 s32 rfl ?_
          refine aw_ishr (pc := 106) dX7_walkNow_106 ?_
          refine ax_istore (pc := 107) (ls' := [some (.inr (some 104)), some (.inl x1), some (.inl (x2 - 1)), some (.inl (dv (hi h 110 (x2 - 1)) 256)), some (.inl (rm (hi h 110 (x2 - 1)) 256)), some (.inl v29), some (.inl (dv (hi h 110 (x2 - 1)) 256)), some (.inl (sr (hi h28 104 10) (8 - (dv (hi h 110 (x2 - 1)) 256))))]) dX7_walkNow_107 (Nat.le_of_ble_eq_true rfl) rfl ?_
          refine aw_aload_n (pc := 109) dX7_walkNow_109 rfl ?_
          refine aw_getr (pc := 110) (r := some 110) dX7_walkNow_110 fl_X7_25 (by decide) rfl ko104 ro104_stack ?_
          refine aw_iload_n (pc := 113) dX7_walkNow_113 rfl ?_
          refine aw_sipush (pc := 114) dX7_walkNow_114 ?_
          refine aw_iload (pc := 117) dX7_walkNow_117 rfl ?_
          refine aw_iconst (pc := 119) dX7_walkNow_119 ?_
          obtain ⟨s33, g⟩ := g
          refine ax_iadd (pc := 120) (v := (dv (hi h 110 (x2 - 1)) 256) + 1) dX7_walkNow_120 s33 rfl ?_
          obtain ⟨s34, g⟩ := g
          refine ax_imul (pc := 121) (v := 256 * ((dv (hi h 110 (x2 - 1)) 256) + 1)) dX7_walkNow_121 s34 rfl ?_
          refine aw_iconst (pc := 122) dX7_walkNow_122 ?_
          refine aw_iload (pc := 123) dX7_walkNow_123 rfl ?_
          obtain ⟨s35, g⟩ := g
          refine ax_imul (pc := 125) (v := 2 * (sr (hi h28 104 10) (8 - (dv (hi h 110 (x2 - 1)) 256)))) dX7_walkNow_125 s35 rfl ?_
          obtain ⟨s36, g⟩ := g
          refine ax_iadd (pc := 126) (v := (256 * ((dv (hi h 110 (x2 - 1)) 256) + 1)) + (2 * (sr (hi h28 104 10) (8 - (dv (hi h 110 (x2 - 1)) 256))))) dX7_walkNow_126 s36 rfl ?_
          refine aw_iconst (pc := 127) dX7_walkNow_127 ?_
          obtain ⟨s37, g⟩ := g
          refine ax_iadd (pc := 128) (v := ((256 * ((dv (hi h 110 (x2 - 1)) 256) + 1)) + (2 * (sr (hi h28 104 10) (8 - (dv (hi h 110 (x2 - 1)) 256))))) + 1) dX7_walkNow_128 s37 rfl ?_
          refine ax_iastore (pc := 129) (n := 20) dX7_walkNow_129 ko104_stack s3 ?_
          refine aw_aload_n (pc := 130) dX7_walkNow_130 rfl ?_
          refine aw_getr (pc := 131) (r := some 110) dX7_walkNow_131 fl_X7_25 (by decide) rfl (hkU ko104) (hrU ro104_stack) ?_
          refine aw_iload_n (pc := 134) dX7_walkNow_134 rfl ?_
          refine aw_iconst (pc := 135) dX7_walkNow_135 ?_
          obtain ⟨s38, g⟩ := g
          refine ax_iadd (pc := 136) (v := (x2 - 1) + 1) dX7_walkNow_136 s38 rfl ?_
          refine aw_sipush (pc := 137) dX7_walkNow_137 ?_
          refine aw_iload (pc := 140) dX7_walkNow_140 rfl ?_
          refine aw_iconst (pc := 142) dX7_walkNow_142 ?_
          refine ax_iadd (pc := 143) (v := (dv (hi h 110 (x2 - 1)) 256) + 1) dX7_walkNow_143 s33 rfl ?_
          refine ax_imul (pc := 144) (v := 256 * ((dv (hi h 110 (x2 - 1)) 256) + 1)) dX7_walkNow_144 s34 rfl ?_
          refine aw_iconst (pc := 145) dX7_walkNow_145 ?_
          refine aw_iload (pc := 146) dX7_walkNow_146 rfl ?_
          refine ax_imul (pc := 148) (v := 2 * (sr (hi h28 104 10) (8 - (dv (hi h 110 (x2 - 1)) 256)))) dX7_walkNow_148 s35 rfl ?_
          refine ax_iadd (pc := 149) (v := (256 * ((dv (hi h 110 (x2 - 1)) 256) + 1)) + (2 * (sr (hi h28 104 10) (8 - (dv (hi h 110 (x2 - 1)) 256))))) dX7_walkNow_149 s36 rfl ?_
          obtain ⟨s39, g⟩ := g
          refine ax_iastore (pc := 150) (n := 20) dX7_walkNow_150 (hkU ko104_stack) s39 ?_
          obtain ⟨s40, g⟩ := g
          refine ax_iinc (pc := 151) (v' := (x2 - 1) + 2) (ls' := [some (.inr (some 104)), some (.inl x1), some (.inl ((x2 - 1) + 2)), some (.inl (dv (hi h 110 (x2 - 1)) 256)), some (.inl (rm (hi h 110 (x2 - 1)) 256)), some (.inl v29), some (.inl (dv (hi h 110 (x2 - 1)) 256)), some (.inl (sr (hi h28 104 10) (8 - (dv (hi h 110 (x2 - 1)) 256))))]) dX7_walkNow_151 rfl s40 rfl rfl ?_
          refine aw_goto (pc := 154) (tgt := 14) dX7_walkNow_154 (by decide) ?_
          exact aw_fewer (show subl [some (.inr (some 104)), some (.inl x1), some (.inl ((x2 - 1) + 2)), none, none, none, none, none] [some (.inr (some 104)), some (.inl x1), some (.inl ((x2 - 1) + 2)), some (.inl (dv (hi h 110 (x2 - 1)) 256)), some (.inl (rm (hi h 110 (x2 - 1)) 256)), some (.inl v29), some (.inl (dv (hi h 110 (x2 - 1)) 256)), some (.inl (sr (hi h28 104 10) (8 - (dv (hi h 110 (x2 - 1)) 256))))] from (And.intro rfl (And.intro rfl (And.intro rfl trivial)))) g
        · replace g := g.2 c31
          refine aw_iload (pc := 85) dX7_walkNow_85 rfl ?_
          refine aw_sipush (pc := 87) dX7_walkNow_87 ?_
          obtain ⟨s41, g⟩ := g
          refine ax_isub (pc := 90) (v := v29 - 400) dX7_walkNow_90 s41 rfl ?_
          refine aw_goto (pc := 91) (tgt := 95) dX7_walkNow_91 (by decide) ?_
          refine ax_istore (pc := 95) (ls' := [some (.inr (some 104)), some (.inl x1), some (.inl (x2 - 1)), some (.inl (dv (hi h 110 (x2 - 1)) 256)), some (.inl (rm (hi h 110 (x2 - 1)) 256)), some (.inl v29), some (.inl (v29 - 400)), none]) dX7_walkNow_95 (Nat.le_of_ble_eq_true rfl) rfl ?_
          refine aw_aload_n (pc := 97) dX7_walkNow_97 rfl ?_
          refine ax_geti (pc := 98) (v := hi h28 104 10) dX7_walkNow_98 fl_X7_98 (by decide) rfl ko104 rfl ?_
          refine aw_bipush (pc := 101) dX7_walkNow_101 ?_
          refine aw_iload (pc := 103) dX7_walkNow_103 rfl ?_
          obtain ⟨s42, g⟩ := g
          refine ax_isub (pc := 105) (v := 8 - (v29 - 400)) dX7_walkNow_105 s42 rfl ?_
          refine aw_ishr (pc := 106) dX7_walkNow_106 ?_
          refine ax_istore (pc := 107) (ls' := [some (.inr (some 104)), some (.inl x1), some (.inl (x2 - 1)), some (.inl (dv (hi h 110 (x2 - 1)) 256)), some (.inl (rm (hi h 110 (x2 - 1)) 256)), some (.inl v29), some (.inl (v29 - 400)), some (.inl (sr (hi h28 104 10) (8 - (v29 - 400))))]) dX7_walkNow_107 (Nat.le_of_ble_eq_true rfl) rfl ?_
          refine aw_aload_n (pc := 109) dX7_walkNow_109 rfl ?_
          refine aw_getr (pc := 110) (r := some 110) dX7_walkNow_110 fl_X7_25 (by decide) rfl ko104 ro104_stack ?_
          refine aw_iload_n (pc := 113) dX7_walkNow_113 rfl ?_
          refine aw_sipush (pc := 114) dX7_walkNow_114 ?_
          refine aw_iload (pc := 117) dX7_walkNow_117 rfl ?_
          refine aw_iconst (pc := 119) dX7_walkNow_119 ?_
          obtain ⟨s43, g⟩ := g
          refine ax_iadd (pc := 120) (v := (v29 - 400) + 1) dX7_walkNow_120 s43 rfl ?_
          obtain ⟨s44, g⟩ := g
          refine ax_imul (pc := 121) (v := 256 * ((v29 - 400) + 1)) dX7_walkNow_121 s44 rfl ?_
          refine aw_iconst (pc := 122) dX7_walkNow_122 ?_
          refine aw_iload (pc := 123) dX7_walkNow_123 rfl ?_
          obtain ⟨s45, g⟩ := g
          refine ax_imul (pc := 125) (v := 2 * (sr (hi h28 104 10) (8 - (v29 - 400)))) dX7_walkNow_125 s45 rfl ?_
          obtain ⟨s46, g⟩ := g
          refine ax_iadd (pc := 126) (v := (256 * ((v29 - 400) + 1)) + (2 * (sr (hi h28 104 10) (8 - (v29 - 400))))) dX7_walkNow_126 s46 rfl ?_
          refine aw_iconst (pc := 127) dX7_walkNow_127 ?_
          obtain ⟨s47, g⟩ := g
          refine ax_iadd (pc := 128) (v := ((256 * ((v29 - 400) + 1)) + (2 * (sr (hi h28 104 10) (8 - (v29 - 400))))) + 1) dX7_walkNow_128 s47 rfl ?_
          refine ax_iastore (pc := 129) (n := 20) dX7_walkNow_129 ko104_stack s3 ?_
          refine aw_aload_n (pc := 130) dX7_walkNow_130 rfl ?_
          refine aw_getr (pc := 131) (r := some 110) dX7_walkNow_131 fl_X7_25 (by decide) rfl (hkU ko104) (hrU ro104_stack) ?_
          refine aw_iload_n (pc := 134) dX7_walkNow_134 rfl ?_
          refine aw_iconst (pc := 135) dX7_walkNow_135 ?_
          obtain ⟨s48, g⟩ := g
          refine ax_iadd (pc := 136) (v := (x2 - 1) + 1) dX7_walkNow_136 s48 rfl ?_
          refine aw_sipush (pc := 137) dX7_walkNow_137 ?_
          refine aw_iload (pc := 140) dX7_walkNow_140 rfl ?_
          refine aw_iconst (pc := 142) dX7_walkNow_142 ?_
          refine ax_iadd (pc := 143) (v := (v29 - 400) + 1) dX7_walkNow_143 s43 rfl ?_
          refine ax_imul (pc := 144) (v := 256 * ((v29 - 400) + 1)) dX7_walkNow_144 s44 rfl ?_
          refine aw_iconst (pc := 145) dX7_walkNow_145 ?_
          refine aw_iload (pc := 146) dX7_walkNow_146 rfl ?_
          refine ax_imul (pc := 148) (v := 2 * (sr (hi h28 104 10) (8 - (v29 - 400)))) dX7_walkNow_148 s45 rfl ?_
          refine ax_iadd (pc := 149) (v := (256 * ((v29 - 400) + 1)) + (2 * (sr (hi h28 104 10) (8 - (v29 - 400))))) dX7_walkNow_149 s46 rfl ?_
          obtain ⟨s49, g⟩ := g
          refine ax_iastore (pc := 150) (n := 20) dX7_walkNow_150 (hkU ko104_stack) s49 ?_
          obtain ⟨s50, g⟩ := g
          refine ax_iinc (pc := 151) (v' := (x2 - 1) + 2) (ls' := [some (.inr (some 104)), some (.inl x1), some (.inl ((x2 - 1) + 2)), some (.inl (dv (hi h 110 (x2 - 1)) 256)), some (.inl (rm (hi h 110 (x2 - 1)) 256)), some (.inl v29), some (.inl (v29 - 400)), some (.inl (sr (hi h28 104 10) (8 - (v29 - 400))))]) dX7_walkNow_151 rfl s50 rfl rfl ?_
          refine aw_goto (pc := 154) (tgt := 14) dX7_walkNow_154 (by decide) ?_
          exact aw_fewer (show subl [some (.inr (some 104)), some (.inl x1), some (.inl ((x2 - 1) + 2)), none, none, none, none, none] [some (.inr (some 104)), some (.inl x1), some (.inl ((x2 - 1) + 2)), some (.inl (dv (hi h 110 (x2 - 1)) 256)), some (.inl (rm (hi h 110 (x2 - 1)) 256)), some (.inl v29), some (.inl (v29 - 400)), some (.inl (sr (hi h28 104 10) (8 - (v29 - 400))))] from (And.intro rfl (And.intro rfl (And.intro rfl trivial)))) g
set_option maxRecDepth 100000 in
set_option maxHeartbeats 4000000 in
theorem vc_X7_walk {d : Nat} {Q : Option Int → AH → Prop} {h : AH} {x1 : Int} (hd : 1 ≤ d) (hL : QZ h)
  (g :
    AM (d - 1) m_X7_record [(.inr (some 104))] h (fun r h1 => 
      r = none ∧ SS h h1 ∧
      AM (d - 1) m_X7_walkNow [(.inr (some 104)), (.inl x1)] h1 (fun r h2 => 
        r = none ∧ SS h1 h2 ∧
        Q (some (w ((hi h2 105 8) - (hi h1 105 8)))) h2))) :
  AM d m_X7_walk [(.inr (some 104)), (.inl x1)] h Q := by
  refine am_body mo_X7_walk (Nat.le_of_ble_eq_true rfl) ?_
  show AW m_X7_walk d none Q 0 [some (.inr (some 104)), some (.inl x1), none] [] h (0, 0)
  obtain ⟨ko104, ro104_z, ko104_z, ro104_spare, ko104_spare, ro104_past, ko104_past, ro104_kept, ko104_kept, ro104_text, ko104_text, ro104_stack, ko104_stack, ro104_drew, ko104_drew, ro104_drawn, ko104_drawn, ro104_signs, ko104_signs, ro104_numbers, ko104_numbers⟩ := id hL
  refine aw_aload_n (pc := 0) dX7_walk_0 rfl ?_
  refine aw_invV (pc := 1) (md' := m_X7_record) (ci := 7) (as := []) dX7_walk_1 mo_X7_record im_X7_record se_X7_record ml_X7_60 rfl ko104 rfl hd (Nat.le_of_ble_eq_true rfl) (Nat.le_of_ble_eq_true rfl) (Nat.le_of_ble_eq_true rfl) ?_
  refine am_mono g (fun _ h1 _ ok_h1 g => ?_)
  obtain ⟨rfl, ss_h1, g⟩ := g
  replace hL := QZ.ss hL ss_h1
  obtain ⟨ko104, ro104_z, ko104_z, ro104_spare, ko104_spare, ro104_past, ko104_past, ro104_kept, ko104_kept, ro104_text, ko104_text, ro104_stack, ko104_stack, ro104_drew, ko104_drew, ro104_drawn, ko104_drawn, ro104_signs, ko104_signs, ro104_numbers, ko104_numbers⟩ := id hL
  show AW m_X7_walk d none Q 4 [some (.inr (some 104)), some (.inl x1), none] [] h1 (0, 0)
  refine aw_aload_n (pc := 4) dX7_walk_4 rfl ?_
  refine aw_getr (pc := 5) (r := some 105) dX7_walk_5 fl_X7_7 (by decide) rfl ko104 ro104_z ?_
  refine aw_bipush (pc := 8) dX7_walk_8 ?_
  refine ax_iaload (pc := 10) (n := 293) (v := hi h1 105 8) dX7_walk_10 ko104_z (by decide) rfl ?_
  refine ax_istore_n (pc := 11) (ls' := [some (.inr (some 104)), some (.inl x1), some (.inl (hi h1 105 8))]) dX7_walk_11 (Nat.le_of_ble_eq_true rfl) rfl ?_
  refine aw_aload_n (pc := 12) dX7_walk_12 rfl ?_
  refine aw_iload_n (pc := 13) dX7_walk_13 rfl ?_
  refine aw_invV (pc := 14) (md' := m_X7_walkNow) (ci := 7) (as := [(.inl x1)]) dX7_walk_14 mo_X7_walkNow im_X7_walkNow se_X7_walkNow ml_X7_135 rfl ko104 rfl hd (Nat.le_of_ble_eq_true rfl) (Nat.le_of_ble_eq_true rfl) (Nat.le_of_ble_eq_true rfl) ?_
  refine am_mono g (fun _ h2 _ ok_h2 g => ?_)
  obtain ⟨rfl, ss_h2, g⟩ := g
  replace hL := QZ.ss hL ss_h2
  obtain ⟨ko104, ro104_z, ko104_z, ro104_spare, ko104_spare, ro104_past, ko104_past, ro104_kept, ko104_kept, ro104_text, ko104_text, ro104_stack, ko104_stack, ro104_drew, ko104_drew, ro104_drawn, ko104_drawn, ro104_signs, ko104_signs, ro104_numbers, ko104_numbers⟩ := id hL
  show AW m_X7_walk d none Q 17 [some (.inr (some 104)), some (.inl x1), some (.inl (hi h1 105 8))] [] h2 (0, 0)
  refine aw_aload_n (pc := 17) dX7_walk_17 rfl ?_
  refine aw_getr (pc := 18) (r := some 105) dX7_walk_18 fl_X7_7 (by decide) rfl ko104 ro104_z ?_
  refine aw_bipush (pc := 21) dX7_walk_21 ?_
  refine ax_iaload (pc := 23) (n := 293) (v := hi h2 105 8) dX7_walk_23 ko104_z (by decide) rfl ?_
  refine aw_iload_n (pc := 24) dX7_walk_24 rfl ?_
  refine aw_isub_w (pc := 25) dX7_walk_25 ?_
  exact ax_ireturn (pc := 26) dX7_walk_26 rfl g (by decide) (by decide)
set_option maxRecDepth 100000 in
set_option maxHeartbeats 4000000 in
theorem vc_X7_frameNow {d : Nat} {Q : Option Int → AH → Prop} {h : AH} {x1 : Int} (hd : 1 ≤ d) (hL : QZ h)
  (g :
    AW m_X7_frameNow d none Q 4 [some (.inr (some 104)), some (.inl x1), some (.inl 0), some (.inl 0), none, none] [] h (0, 0)) :
  AM d m_X7_frameNow [(.inr (some 104)), (.inl x1)] h Q := by
  refine am_body mo_X7_frameNow (Nat.le_of_ble_eq_true rfl) ?_
  show AW m_X7_frameNow d none Q 0 [some (.inr (some 104)), some (.inl x1), none, none, none, none] [] h (0, 0)
  obtain ⟨ko104, ro104_z, ko104_z, ro104_spare, ko104_spare, ro104_past, ko104_past, ro104_kept, ko104_kept, ro104_text, ko104_text, ro104_stack, ko104_stack, ro104_drew, ko104_drew, ro104_drawn, ko104_drawn, ro104_signs, ko104_signs, ro104_numbers, ko104_numbers⟩ := id hL
  refine aw_iconst (pc := 0) dX7_frameNow_0 ?_
  refine ax_istore_n (pc := 1) (ls' := [some (.inr (some 104)), some (.inl x1), some (.inl 0), none, none, none]) dX7_frameNow_1 (Nat.le_of_ble_eq_true rfl) rfl ?_
  refine aw_iconst (pc := 2) dX7_frameNow_2 ?_
  refine ax_istore_n (pc := 3) (ls' := [some (.inr (some 104)), some (.inl x1), some (.inl 0), some (.inl 0), none, none]) dX7_frameNow_3 (Nat.le_of_ble_eq_true rfl) rfl ?_
  exact g
set_option maxRecDepth 100000 in
set_option maxHeartbeats 4000000 in
theorem vc_X7_frameNow_4 {d : Nat} {Q : Option Int → AH → Prop} {h : AH} {x1 x2 x3 : Int} (hd : 1 ≤ d) (hL : QZ h)
  (g :
    ((hi h 105 0 ≤ x3 → (
      AW m_X7_frameNow d none Q 80 [some (.inr (some 104)), some (.inl x1), some (.inl x2), some (.inl 0), none, none] [] (up (up h 105 11 (w ((hi h 105 11) + 1))) 105 10 (w ((hi h 105 10) + 4))) (0, 0)
    )) ∧
    (¬ (hi h 105 0 ≤ x3) → (
      AM (d - 1) m_X7_of [(.inr (some 104)), (.inl x3), (.inl 1)] h (fun r h2 => 
        ∃ v3, r = some v3 ∧ SS h h2 ∧
        ((¬ v3 = 1 → (
          (rg (x3 + 1)) ∧
          AW m_X7_frameNow d none Q 4 [some (.inr (some 104)), some (.inl x1), some (.inl x2), some (.inl (x3 + 1)), none, none] [] h2 (0, 0)
        )) ∧
        (¬ (¬ v3 = 1) → (
          AM (d - 1) m_X7_of [(.inr (some 104)), (.inl x3), (.inl 0)] h2 (fun r h6 => 
            ∃ v7, r = some v7 ∧ SS h2 h6 ∧
            (0 ≤ x2 ∧ x2 < 20) ∧
            AM (d - 1) m_X7_draw [(.inr (some 104)), (.inl x1)] (up h6 111 x2 v7) (fun r h9 => 
              ∃ v10, r = some v10 ∧ SS (up h6 111 x2 v7) h9 ∧
              (rg (x2 + 1)) ∧
              (rg (x3 + 1)) ∧
              AW m_X7_frameNow d none Q 4 [some (.inr (some 104)), some (.inl x1), some (.inl (x2 + 1)), some (.inl (x3 + 1)), none, none] [] (up h9 112 x2 v10) (0, 0)))
        ))))
    )))) :
  AW m_X7_frameNow d none Q 4 [some (.inr (some 104)), some (.inl x1), some (.inl x2), some (.inl x3), none, none] [] h (0, 0) := by
  obtain ⟨ko104, ro104_z, ko104_z, ro104_spare, ko104_spare, ro104_past, ko104_past, ro104_kept, ko104_kept, ro104_text, ko104_text, ro104_stack, ko104_stack, ro104_drew, ko104_drew, ro104_drawn, ko104_drawn, ro104_signs, ko104_signs, ro104_numbers, ko104_numbers⟩ := id hL
  refine aw_iload_n (pc := 4) dX7_frameNow_4 rfl ?_
  refine aw_aload_n (pc := 5) dX7_frameNow_5 rfl ?_
  refine aw_getr (pc := 6) (r := some 105) dX7_frameNow_6 fl_X7_7 (by decide) rfl ko104 ro104_z ?_
  refine aw_iconst (pc := 9) dX7_frameNow_9 ?_
  refine ax_iaload (pc := 10) (n := 293) (v := hi h 105 0) dX7_frameNow_10 ko104_z (by decide) rfl ?_
  refine aw_icmp_ge (pc := 11) (tgt := 56) dX7_frameNow_11 (by decide) (fun c1 => ?_) (fun c1 => ?_)
  · replace g := g.1 c1
    refine aw_aload_n (pc := 56) dX7_frameNow_56 rfl ?_
    refine aw_getr (pc := 57) (r := some 105) dX7_frameNow_57 fl_X7_7 (by decide) rfl ko104 ro104_z ?_
    refine aw_bipush (pc := 60) dX7_frameNow_60 ?_
    refine aw_dup2 (pc := 62) dX7_frameNow_62 ?_
    refine ax_iaload (pc := 63) (n := 293) (v := hi h 105 11) dX7_frameNow_63 ko104_z (by decide) rfl ?_
    refine aw_iconst (pc := 64) dX7_frameNow_64 ?_
    refine aw_iadd_w (pc := 65) dX7_frameNow_65 ?_
    refine ax_iastore (pc := 66) (n := 293) dX7_frameNow_66 ko104_z (by decide) ?_
    refine aw_aload_n (pc := 67) dX7_frameNow_67 rfl ?_
    refine aw_getr (pc := 68) (r := some 105) dX7_frameNow_68 fl_X7_7 (by decide) rfl (hkU ko104) (hrU ro104_z) ?_
    refine aw_bipush (pc := 71) dX7_frameNow_71 ?_
    refine aw_dup2 (pc := 73) dX7_frameNow_73 ?_
    refine ax_iaload (pc := 74) (n := 293) (v := hi h 105 10) dX7_frameNow_74 (hkU ko104_z) (by decide) (hiN (Or.inr (by decide)) rfl) ?_
    refine aw_iconst (pc := 75) dX7_frameNow_75 ?_
    refine aw_iadd_w (pc := 76) dX7_frameNow_76 ?_
    refine ax_iastore (pc := 77) (n := 293) dX7_frameNow_77 (hkU ko104_z) (by decide) ?_
    refine aw_iconst (pc := 78) dX7_frameNow_78 ?_
    refine ax_istore_n (pc := 79) (ls' := [some (.inr (some 104)), some (.inl x1), some (.inl x2), some (.inl 0), none, none]) dX7_frameNow_79 (Nat.le_of_ble_eq_true rfl) rfl ?_
    exact g
  · replace g := g.2 c1
    refine aw_aload_n (pc := 14) dX7_frameNow_14 rfl ?_
    refine aw_iload_n (pc := 15) dX7_frameNow_15 rfl ?_
    refine aw_iconst (pc := 16) dX7_frameNow_16 ?_
    refine aw_invV (pc := 17) (md' := m_X7_of) (ci := 7) (as := [(.inl x3), (.inl 1)]) dX7_frameNow_17 mo_X7_of im_X7_of se_X7_of ml_X7_40 rfl ko104 rfl hd (Nat.le_of_ble_eq_true rfl) (Nat.le_of_ble_eq_true rfl) (Nat.le_of_ble_eq_true rfl) ?_
    refine am_mono g (fun _ h2 _ ok_h2 g => ?_)
    obtain ⟨v3, rfl, ss_h2, g⟩ := g
    replace hL := QZ.ss hL ss_h2
    obtain ⟨ko104, ro104_z, ko104_z, ro104_spare, ko104_spare, ro104_past, ko104_past, ro104_kept, ko104_kept, ro104_text, ko104_text, ro104_stack, ko104_stack, ro104_drew, ko104_drew, ro104_drawn, ko104_drawn, ro104_signs, ko104_signs, ro104_numbers, ko104_numbers⟩ := id hL
    show AW m_X7_frameNow d none Q 20 [some (.inr (some 104)), some (.inl x1), some (.inl x2), some (.inl x3), none, none] [(.inl v3)] h2 (0, 0)
    refine aw_iconst (pc := 20) dX7_frameNow_20 ?_
    refine aw_icmp_ne (pc := 21) (tgt := 50) dX7_frameNow_21 (by decide) (fun c4 => ?_) (fun c4 => ?_)
    · replace g := g.1 c4
      obtain ⟨s5, g⟩ := g
      refine ax_iinc (pc := 50) (v' := x3 + 1) (ls' := [some (.inr (some 104)), some (.inl x1), some (.inl x2), some (.inl (x3 + 1)), none, none]) dX7_frameNow_50 rfl s5 rfl rfl ?_
      refine aw_goto (pc := 53) (tgt := 4) dX7_frameNow_53 (by decide) ?_
      exact g
    · replace g := g.2 c4
      refine aw_aload_n (pc := 24) dX7_frameNow_24 rfl ?_
      refine aw_getr (pc := 25) (r := some 111) dX7_frameNow_25 fl_X7_28 (by decide) rfl ko104 ro104_drew ?_
      refine aw_iload_n (pc := 28) dX7_frameNow_28 rfl ?_
      refine aw_aload_n (pc := 29) dX7_frameNow_29 rfl ?_
      refine aw_iload_n (pc := 30) dX7_frameNow_30 rfl ?_
      refine aw_iconst (pc := 31) dX7_frameNow_31 ?_
      refine aw_invV (pc := 32) (md' := m_X7_of) (ci := 7) (as := [(.inl x3), (.inl 0)]) dX7_frameNow_32 mo_X7_of im_X7_of se_X7_of ml_X7_40 rfl ko104 rfl hd (Nat.le_of_ble_eq_true rfl) (Nat.le_of_ble_eq_true rfl) (Nat.le_of_ble_eq_true rfl) ?_
      refine am_mono g (fun _ h6 _ ok_h6 g => ?_)
      obtain ⟨v7, rfl, ss_h6, g⟩ := g
      replace hL := QZ.ss hL ss_h6
      obtain ⟨ko104, ro104_z, ko104_z, ro104_spare, ko104_spare, ro104_past, ko104_past, ro104_kept, ko104_kept, ro104_text, ko104_text, ro104_stack, ko104_stack, ro104_drew, ko104_drew, ro104_drawn, ko104_drawn, ro104_signs, ko104_signs, ro104_numbers, ko104_numbers⟩ := id hL
      show AW m_X7_frameNow d none Q 35 [some (.inr (some 104)), some (.inl x1), some (.inl x2), some (.inl x3), none, none] [(.inl v7), (.inl x2), (.inr (some 111))] h6 (0, 0)
      obtain ⟨s8, g⟩ := g
      refine ax_iastore (pc := 35) (n := 20) dX7_frameNow_35 ko104_drew s8 ?_
      refine aw_aload_n (pc := 36) dX7_frameNow_36 rfl ?_
      refine aw_getr (pc := 37) (r := some 112) dX7_frameNow_37 fl_X7_31 (by decide) rfl (hkU ko104) (hrU ro104_drawn) ?_
      refine aw_iload_n (pc := 40) dX7_frameNow_40 rfl ?_
      refine aw_aload_n (pc := 41) dX7_frameNow_41 rfl ?_
      refine aw_iload_n (pc := 42) dX7_frameNow_42 rfl ?_
      refine aw_invV (pc := 43) (md' := m_X7_draw) (ci := 7) (as := [(.inl x1)]) dX7_frameNow_43 mo_X7_draw im_X7_draw se_X7_draw ml_X7_146 rfl (hkU ko104) rfl hd (Nat.le_of_ble_eq_true rfl) (Nat.le_of_ble_eq_true rfl) (Nat.le_of_ble_eq_true rfl) ?_
      refine am_mono g (fun _ h9 _ ok_h9 g => ?_)
      obtain ⟨v10, rfl, ss_h9, g⟩ := g
      replace hL := QZ.ss hL (SS.tr (SS.up SS.rf) ss_h9)
      obtain ⟨ko104, ro104_z, ko104_z, ro104_spare, ko104_spare, ro104_past, ko104_past, ro104_kept, ko104_kept, ro104_text, ko104_text, ro104_stack, ko104_stack, ro104_drew, ko104_drew, ro104_drawn, ko104_drawn, ro104_signs, ko104_signs, ro104_numbers, ko104_numbers⟩ := id hL
      show AW m_X7_frameNow d none Q 46 [some (.inr (some 104)), some (.inl x1), some (.inl x2), some (.inl x3), none, none] [(.inl v10), (.inl x2), (.inr (some 112))] h9 (0, 0)
      refine ax_iastore (pc := 46) (n := 20) dX7_frameNow_46 ko104_drawn s8 ?_
      obtain ⟨s11, g⟩ := g
      refine ax_iinc (pc := 47) (v' := x2 + 1) (ls' := [some (.inr (some 104)), some (.inl x1), some (.inl (x2 + 1)), some (.inl x3), none, none]) dX7_frameNow_47 rfl s11 rfl rfl ?_
      obtain ⟨s12, g⟩ := g
      refine ax_iinc (pc := 50) (v' := x3 + 1) (ls' := [some (.inr (some 104)), some (.inl x1), some (.inl (x2 + 1)), some (.inl (x3 + 1)), none, none]) dX7_frameNow_50 rfl s12 rfl rfl ?_
      refine aw_goto (pc := 53) (tgt := 4) dX7_frameNow_53 (by decide) ?_
      exact g
set_option maxRecDepth 100000 in
set_option maxHeartbeats 4000000 in
theorem vc_X7_frameNow_80 {d : Nat} {Q : Option Int → AH → Prop} {h : AH} {x1 x2 x3 : Int} (hd : 1 ≤ d) (hL : QZ h)
  (g :
    ((x1 ≤ x3 → (
      Q none h
    )) ∧
    (¬ (x1 ≤ x3) → (
      AM (d - 1) m_X7_noAnswer [(.inr (some 104))] h (fun r h14 => 
        r = none ∧ SS h h14 ∧
        AW m_X7_frameNow d none Q 92 [some (.inr (some 104)), some (.inl x1), some (.inl x2), some (.inl x3), some (.inl 0), none] [] h14 (0, 0))
    )))) :
  AW m_X7_frameNow d none Q 80 [some (.inr (some 104)), some (.inl x1), some (.inl x2), some (.inl x3), none, none] [] h (0, 0) := by
  obtain ⟨ko104, ro104_z, ko104_z, ro104_spare, ko104_spare, ro104_past, ko104_past, ro104_kept, ko104_kept, ro104_text, ko104_text, ro104_stack, ko104_stack, ro104_drew, ko104_drew, ro104_drawn, ko104_drawn, ro104_signs, ko104_signs, ro104_numbers, ko104_numbers⟩ := id hL
  refine aw_iload_n (pc := 80) dX7_frameNow_80 rfl ?_
  refine aw_iload_n (pc := 81) dX7_frameNow_81 rfl ?_
  refine aw_icmp_ge (pc := 82) (tgt := 186) dX7_frameNow_82 (by decide) (fun c13 => ?_) (fun c13 => ?_)
  · replace g := g.1 c13
    exact aw_return (pc := 186) dX7_frameNow_186 rfl g (by decide) (by decide)
  · replace g := g.2 c13
    refine aw_aload_n (pc := 85) dX7_frameNow_85 rfl ?_
    refine aw_invV (pc := 86) (md' := m_X7_noAnswer) (ci := 7) (as := []) dX7_frameNow_86 mo_X7_noAnswer im_X7_noAnswer se_X7_noAnswer ml_X7_113 rfl ko104 rfl hd (Nat.le_of_ble_eq_true rfl) (Nat.le_of_ble_eq_true rfl) (Nat.le_of_ble_eq_true rfl) ?_
    refine am_mono g (fun _ h14 _ ok_h14 g => ?_)
    obtain ⟨rfl, ss_h14, g⟩ := g
    replace hL := QZ.ss hL ss_h14
    obtain ⟨ko104, ro104_z, ko104_z, ro104_spare, ko104_spare, ro104_past, ko104_past, ro104_kept, ko104_kept, ro104_text, ko104_text, ro104_stack, ko104_stack, ro104_drew, ko104_drew, ro104_drawn, ko104_drawn, ro104_signs, ko104_signs, ro104_numbers, ko104_numbers⟩ := id hL
    show AW m_X7_frameNow d none Q 89 [some (.inr (some 104)), some (.inl x1), some (.inl x2), some (.inl x3), none, none] [] h14 (0, 0)
    refine aw_iconst (pc := 89) dX7_frameNow_89 ?_
    refine ax_istore (pc := 90) (ls' := [some (.inr (some 104)), some (.inl x1), some (.inl x2), some (.inl x3), some (.inl 0), none]) dX7_frameNow_90 (Nat.le_of_ble_eq_true rfl) rfl ?_
    exact g
set_option maxRecDepth 100000 in
set_option maxHeartbeats 4000000 in
theorem vc_X7_frameNow_92 {d : Nat} {Q : Option Int → AH → Prop} {h : AH} {x1 x2 x3 x4 : Int} (hd : 1 ≤ d) (hL : QZ h)
  (g :
    ((x2 ≤ x4 → (
      ((¬ hi h 104 8 = 0 → (
        AM (d - 1) m_X7_answer [(.inr (some 104))] (up (up h 105 6 (w ((hi h 105 6) + 1))) 105 10 (w ((hi h 105 10) + 9))) (fun r h17 => 
          ∃ v18, r = some v18 ∧ SS (up (up h 105 6 (w ((hi h 105 6) + 1))) 105 10 (w ((hi h 105 10) + 9))) h17 ∧
          (rg (x3 + 1)) ∧
          AW m_X7_frameNow d none Q 80 [some (.inr (some 104)), some (.inl x1), some (.inl x2), some (.inl (x3 + 1)), none, none] [] h17 (0, 0))
      )) ∧
      (¬ (¬ hi h 104 8 = 0) → (
        AM (d - 1) m_X7_answer [(.inr (some 104))] (up (up h 105 6 (w ((hi h 105 6) + 1))) 105 10 (w ((hi h 105 10) + 1))) (fun r h20 => 
          ∃ v21, r = some v21 ∧ SS (up (up h 105 6 (w ((hi h 105 6) + 1))) 105 10 (w ((hi h 105 10) + 1))) h20 ∧
          (rg (x3 + 1)) ∧
          AW m_X7_frameNow d none Q 80 [some (.inr (some 104)), some (.inl x1), some (.inl x2), some (.inl (x3 + 1)), none, none] [] h20 (0, 0))
      )))
    )) ∧
    (¬ (x2 ≤ x4) → (
      (0 ≤ x4 ∧ x4 < 20) ∧
      AM (d - 1) m_X7_cardWith [(.inr (some 104)), (.inl (hi h 111 x4))] h (fun r h24 => 
        ∃ v25, r = some v25 ∧ SS h h24 ∧
        ((¬ hi h24 112 x4 = x3 → (
          (rg (x4 + 1)) ∧
          AW m_X7_frameNow d none Q 92 [some (.inr (some 104)), some (.inl x1), some (.inl x2), some (.inl x3), some (.inl (x4 + 1)), none] [] h24 (0, 0)
        )) ∧
        (¬ (¬ hi h24 112 x4 = x3) → (
          ((v25 = -5 → (
            (rg (x4 + 1)) ∧
            AW m_X7_frameNow d none Q 92 [some (.inr (some 104)), some (.inl x1), some (.inl x2), some (.inl x3), some (.inl (x4 + 1)), none] [] h24 (0, 0)
          )) ∧
          (¬ (v25 = -5) → (
            AM (d - 1) m_X7_answers [(.inr (some 104)), (.inl v25)] h24 (fun r h30 => 
              r = none ∧ SS h24 h30 ∧
              (rg (x4 + 1)) ∧
              AW m_X7_frameNow d none Q 92 [some (.inr (some 104)), some (.inl x1), some (.inl x2), some (.inl x3), some (.inl (x4 + 1)), none] [] h30 (0, 0))
          )))
        ))))
    )))) :
  AW m_X7_frameNow d none Q 92 [some (.inr (some 104)), some (.inl x1), some (.inl x2), some (.inl x3), some (.inl x4), none] [] h (0, 0) := by
  obtain ⟨ko104, ro104_z, ko104_z, ro104_spare, ko104_spare, ro104_past, ko104_past, ro104_kept, ko104_kept, ro104_text, ko104_text, ro104_stack, ko104_stack, ro104_drew, ko104_drew, ro104_drawn, ko104_drawn, ro104_signs, ko104_signs, ro104_numbers, ko104_numbers⟩ := id hL
  refine aw_iload (pc := 92) dX7_frameNow_92 rfl ?_
  refine aw_iload_n (pc := 94) dX7_frameNow_94 rfl ?_
  refine aw_icmp_ge (pc := 95) (tgt := 141) dX7_frameNow_95 (by decide) (fun c15 => ?_) (fun c15 => ?_)
  · replace g := g.1 c15
    refine aw_aload_n (pc := 141) dX7_frameNow_141 rfl ?_
    refine aw_getr (pc := 142) (r := some 105) dX7_frameNow_142 fl_X7_7 (by decide) rfl ko104 ro104_z ?_
    refine aw_bipush (pc := 145) dX7_frameNow_145 ?_
    refine aw_dup2 (pc := 147) dX7_frameNow_147 ?_
    refine ax_iaload (pc := 148) (n := 293) (v := hi h 105 6) dX7_frameNow_148 ko104_z (by decide) rfl ?_
    refine aw_iconst (pc := 149) dX7_frameNow_149 ?_
    refine aw_iadd_w (pc := 150) dX7_frameNow_150 ?_
    refine ax_iastore (pc := 151) (n := 293) dX7_frameNow_151 ko104_z (by decide) ?_
    refine aw_aload_n (pc := 152) dX7_frameNow_152 rfl ?_
    refine aw_getr (pc := 153) (r := some 105) dX7_frameNow_153 fl_X7_7 (by decide) rfl (hkU ko104) (hrU ro104_z) ?_
    refine aw_bipush (pc := 156) dX7_frameNow_156 ?_
    refine aw_dup2 (pc := 158) dX7_frameNow_158 ?_
    refine ax_iaload (pc := 159) (n := 293) (v := hi h 105 10) dX7_frameNow_159 (hkU ko104_z) (by decide) (hiN (Or.inr (by decide)) rfl) ?_
    refine aw_aload_n (pc := 160) dX7_frameNow_160 rfl ?_
    refine ax_geti (pc := 161) (v := hi h 104 8) dX7_frameNow_161 fl_X7_92 (by decide) rfl (hkU ko104) (hiN (Or.inl (by omega)) rfl) ?_
    refine aw_if_ne (pc := 164) (tgt := 171) dX7_frameNow_164 (by decide) (fun c16 => ?_) (fun c16 => ?_)
    · replace g := g.1 c16
      refine aw_bipush (pc := 171) dX7_frameNow_171 ?_
      refine aw_iadd_w (pc := 173) dX7_frameNow_173 ?_
      refine ax_iastore (pc := 174) (n := 293) dX7_frameNow_174 (hkU ko104_z) (by decide) ?_
      refine aw_aload_n (pc := 175) dX7_frameNow_175 rfl ?_
      refine aw_invV (pc := 176) (md' := m_X7_answer) (ci := 7) (as := []) dX7_frameNow_176 mo_X7_answer im_X7_answer se_X7_answer ml_X7_122 rfl (hkU (hkU ko104)) rfl hd (Nat.le_of_ble_eq_true rfl) (Nat.le_of_ble_eq_true rfl) (Nat.le_of_ble_eq_true rfl) ?_
      refine am_mono g (fun _ h17 _ ok_h17 g => ?_)
      obtain ⟨v18, rfl, ss_h17, g⟩ := g
      replace hL := QZ.ss hL (SS.tr (SS.up (SS.up SS.rf)) ss_h17)
      obtain ⟨ko104, ro104_z, ko104_z, ro104_spare, ko104_spare, ro104_past, ko104_past, ro104_kept, ko104_kept, ro104_text, ko104_text, ro104_stack, ko104_stack, ro104_drew, ko104_drew, ro104_drawn, ko104_drawn, ro104_signs, ko104_signs, ro104_numbers, ko104_numbers⟩ := id hL
      show AW m_X7_frameNow d none Q 179 [some (.inr (some 104)), some (.inl x1), some (.inl x2), some (.inl x3), some (.inl x4), none] [(.inl v18)] h17 (0, 0)
      refine aw_pop (pc := 179) dX7_frameNow_179 ?_
      obtain ⟨s19, g⟩ := g
      refine ax_iinc (pc := 180) (v' := x3 + 1) (ls' := [some (.inr (some 104)), some (.inl x1), some (.inl x2), some (.inl (x3 + 1)), some (.inl x4), none]) dX7_frameNow_180 rfl s19 rfl rfl ?_
      refine aw_goto (pc := 183) (tgt := 80) dX7_frameNow_183 (by decide) ?_
      exact aw_fewer (show subl [some (.inr (some 104)), some (.inl x1), some (.inl x2), some (.inl (x3 + 1)), none, none] [some (.inr (some 104)), some (.inl x1), some (.inl x2), some (.inl (x3 + 1)), some (.inl x4), none] from (And.intro rfl (And.intro rfl (And.intro rfl (And.intro rfl trivial))))) g
    · replace g := g.2 c16
      refine aw_iconst (pc := 167) dX7_frameNow_167 ?_
      refine aw_goto (pc := 168) (tgt := 173) dX7_frameNow_168 (by decide) ?_
      refine aw_iadd_w (pc := 173) dX7_frameNow_173 ?_
      refine ax_iastore (pc := 174) (n := 293) dX7_frameNow_174 (hkU ko104_z) (by decide) ?_
      refine aw_aload_n (pc := 175) dX7_frameNow_175 rfl ?_
      refine aw_invV (pc := 176) (md' := m_X7_answer) (ci := 7) (as := []) dX7_frameNow_176 mo_X7_answer im_X7_answer se_X7_answer ml_X7_122 rfl (hkU (hkU ko104)) rfl hd (Nat.le_of_ble_eq_true rfl) (Nat.le_of_ble_eq_true rfl) (Nat.le_of_ble_eq_true rfl) ?_
      refine am_mono g (fun _ h20 _ ok_h20 g => ?_)
      obtain ⟨v21, rfl, ss_h20, g⟩ := g
      replace hL := QZ.ss hL (SS.tr (SS.up (SS.up SS.rf)) ss_h20)
      obtain ⟨ko104, ro104_z, ko104_z, ro104_spare, ko104_spare, ro104_past, ko104_past, ro104_kept, ko104_kept, ro104_text, ko104_text, ro104_stack, ko104_stack, ro104_drew, ko104_drew, ro104_drawn, ko104_drawn, ro104_signs, ko104_signs, ro104_numbers, ko104_numbers⟩ := id hL
      show AW m_X7_frameNow d none Q 179 [some (.inr (some 104)), some (.inl x1), some (.inl x2), some (.inl x3), some (.inl x4), none] [(.inl v21)] h20 (0, 0)
      refine aw_pop (pc := 179) dX7_frameNow_179 ?_
      obtain ⟨s22, g⟩ := g
      refine ax_iinc (pc := 180) (v' := x3 + 1) (ls' := [some (.inr (some 104)), some (.inl x1), some (.inl x2), some (.inl (x3 + 1)), some (.inl x4), none]) dX7_frameNow_180 rfl s22 rfl rfl ?_
      refine aw_goto (pc := 183) (tgt := 80) dX7_frameNow_183 (by decide) ?_
      exact aw_fewer (show subl [some (.inr (some 104)), some (.inl x1), some (.inl x2), some (.inl (x3 + 1)), none, none] [some (.inr (some 104)), some (.inl x1), some (.inl x2), some (.inl (x3 + 1)), some (.inl x4), none] from (And.intro rfl (And.intro rfl (And.intro rfl (And.intro rfl trivial))))) g
  · replace g := g.2 c15
    refine aw_aload_n (pc := 98) dX7_frameNow_98 rfl ?_
    refine aw_aload_n (pc := 99) dX7_frameNow_99 rfl ?_
    refine aw_getr (pc := 100) (r := some 111) dX7_frameNow_100 fl_X7_28 (by decide) rfl ko104 ro104_drew ?_
    refine aw_iload (pc := 103) dX7_frameNow_103 rfl ?_
    obtain ⟨s23, g⟩ := g
    refine ax_iaload (pc := 105) (n := 20) (v := hi h 111 x4) dX7_frameNow_105 ko104_drew s23 rfl ?_
    refine aw_invV (pc := 106) (md' := m_X7_cardWith) (ci := 7) (as := [(.inl (hi h 111 x4))]) dX7_frameNow_106 mo_X7_cardWith im_X7_cardWith se_X7_cardWith ml_X7_67 rfl ko104 rfl hd (Nat.le_of_ble_eq_true rfl) (Nat.le_of_ble_eq_true rfl) (Nat.le_of_ble_eq_true rfl) ?_
    refine am_mono g (fun _ h24 _ ok_h24 g => ?_)
    obtain ⟨v25, rfl, ss_h24, g⟩ := g
    replace hL := QZ.ss hL ss_h24
    obtain ⟨ko104, ro104_z, ko104_z, ro104_spare, ko104_spare, ro104_past, ko104_past, ro104_kept, ko104_kept, ro104_text, ko104_text, ro104_stack, ko104_stack, ro104_drew, ko104_drew, ro104_drawn, ko104_drawn, ro104_signs, ko104_signs, ro104_numbers, ko104_numbers⟩ := id hL
    show AW m_X7_frameNow d none Q 109 [some (.inr (some 104)), some (.inl x1), some (.inl x2), some (.inl x3), some (.inl x4), none] [(.inl v25)] h24 (0, 0)
    refine ax_istore (pc := 109) (ls' := [some (.inr (some 104)), some (.inl x1), some (.inl x2), some (.inl x3), some (.inl x4), some (.inl v25)]) dX7_frameNow_109 (Nat.le_of_ble_eq_true rfl) rfl ?_
    refine aw_aload_n (pc := 111) dX7_frameNow_111 rfl ?_
    refine aw_getr (pc := 112) (r := some 112) dX7_frameNow_112 fl_X7_31 (by decide) rfl ko104 ro104_drawn ?_
    refine aw_iload (pc := 115) dX7_frameNow_115 rfl ?_
    refine ax_iaload (pc := 117) (n := 20) (v := hi h24 112 x4) dX7_frameNow_117 ko104_drawn s23 rfl ?_
    refine aw_iload_n (pc := 118) dX7_frameNow_118 rfl ?_
    refine aw_icmp_ne (pc := 119) (tgt := 135) dX7_frameNow_119 (by decide) (fun c26 => ?_) (fun c26 => ?_)
    · replace g := g.1 c26
      obtain ⟨s27, g⟩ := g
      refine ax_iinc (pc := 135) (v' := x4 + 1) (ls' := [some (.inr (some 104)), some (.inl x1), some (.inl x2), some (.inl x3), some (.inl (x4 + 1)), some (.inl v25)]) dX7_frameNow_135 rfl s27 rfl rfl ?_
      refine aw_goto (pc := 138) (tgt := 92) dX7_frameNow_138 (by decide) ?_
      exact aw_fewer (show subl [some (.inr (some 104)), some (.inl x1), some (.inl x2), some (.inl x3), some (.inl (x4 + 1)), none] [some (.inr (some 104)), some (.inl x1), some (.inl x2), some (.inl x3), some (.inl (x4 + 1)), some (.inl v25)] from (And.intro rfl (And.intro rfl (And.intro rfl (And.intro rfl (And.intro rfl trivial)))))) g
    · replace g := g.2 c26
      refine aw_iload (pc := 122) dX7_frameNow_122 rfl ?_
      refine aw_bipush (pc := 124) dX7_frameNow_124 ?_
      refine aw_icmp_eq (pc := 126) (tgt := 135) dX7_frameNow_126 (by decide) (fun c28 => ?_) (fun c28 => ?_)
      · replace g := g.1 c28
        obtain ⟨s29, g⟩ := g
        refine ax_iinc (pc := 135) (v' := x4 + 1) (ls' := [some (.inr (some 104)), some (.inl x1), some (.inl x2), some (.inl x3), some (.inl (x4 + 1)), some (.inl v25)]) dX7_frameNow_135 rfl s29 rfl rfl ?_
        refine aw_goto (pc := 138) (tgt := 92) dX7_frameNow_138 (by decide) ?_
        exact aw_fewer (show subl [some (.inr (some 104)), some (.inl x1), some (.inl x2), some (.inl x3), some (.inl (x4 + 1)), none] [some (.inr (some 104)), some (.inl x1), some (.inl x2), some (.inl x3), some (.inl (x4 + 1)), some (.inl v25)] from (And.intro rfl (And.intro rfl (And.intro rfl (And.intro rfl (And.intro rfl trivial)))))) g
      · replace g := g.2 c28
        refine aw_aload_n (pc := 129) dX7_frameNow_129 rfl ?_
        refine aw_iload (pc := 130) dX7_frameNow_130 rfl ?_
        refine aw_invV (pc := 132) (md' := m_X7_answers) (ci := 7) (as := [(.inl v25)]) dX7_frameNow_132 mo_X7_answers im_X7_answers se_X7_answers ml_X7_119 rfl ko104 rfl hd (Nat.le_of_ble_eq_true rfl) (Nat.le_of_ble_eq_true rfl) (Nat.le_of_ble_eq_true rfl) ?_
        refine am_mono g (fun _ h30 _ ok_h30 g => ?_)
        obtain ⟨rfl, ss_h30, g⟩ := g
        replace hL := QZ.ss hL ss_h30
        obtain ⟨ko104, ro104_z, ko104_z, ro104_spare, ko104_spare, ro104_past, ko104_past, ro104_kept, ko104_kept, ro104_text, ko104_text, ro104_stack, ko104_stack, ro104_drew, ko104_drew, ro104_drawn, ko104_drawn, ro104_signs, ko104_signs, ro104_numbers, ko104_numbers⟩ := id hL
        show AW m_X7_frameNow d none Q 135 [some (.inr (some 104)), some (.inl x1), some (.inl x2), some (.inl x3), some (.inl x4), some (.inl v25)] [] h30 (0, 0)
        obtain ⟨s31, g⟩ := g
        refine ax_iinc (pc := 135) (v' := x4 + 1) (ls' := [some (.inr (some 104)), some (.inl x1), some (.inl x2), some (.inl x3), some (.inl (x4 + 1)), some (.inl v25)]) dX7_frameNow_135 rfl s31 rfl rfl ?_
        refine aw_goto (pc := 138) (tgt := 92) dX7_frameNow_138 (by decide) ?_
        exact aw_fewer (show subl [some (.inr (some 104)), some (.inl x1), some (.inl x2), some (.inl x3), some (.inl (x4 + 1)), none] [some (.inr (some 104)), some (.inl x1), some (.inl x2), some (.inl x3), some (.inl (x4 + 1)), some (.inl v25)] from (And.intro rfl (And.intro rfl (And.intro rfl (And.intro rfl (And.intro rfl trivial)))))) g
set_option maxRecDepth 100000 in
set_option maxHeartbeats 4000000 in
theorem vc_X7_isSlots {d : Nat} {Q : Option Int → AH → Prop} {h : AH} {x0 : Int} (hd : 1 ≤ d) 
  (g :
    AM (d - 1) m_X7_in [(.inl x0), (.inl 1), (.inl 64)] h (fun r h1 => 
      ∃ v2, r = some v2 ∧ SS h h1 ∧
      (v2 = 0 ∨ v2 = 1) ∧
      Q (some v2) h1)) :
  AM d m_X7_isSlots [(.inl x0)] h Q := by
  refine am_body mo_X7_isSlots (Nat.le_of_ble_eq_true rfl) ?_
  show AW m_X7_isSlots d none Q 0 [some (.inl x0)] [] h (0, 0)
  refine aw_iload_n (pc := 0) dX7_isSlots_0 rfl ?_
  refine aw_iconst (pc := 1) dX7_isSlots_1 ?_
  refine aw_bipush (pc := 2) dX7_isSlots_2 ?_
  refine aw_invS (pc := 4) (md' := m_X7_in) (as := [(.inl x0), (.inl 1), (.inl 64)]) dX7_isSlots_4 mo_X7_in sm_X7_in ml_X7_63 rfl rfl hd (Nat.le_of_ble_eq_true rfl) (Nat.le_of_ble_eq_true rfl) (Nat.le_of_ble_eq_true rfl) ?_
  refine am_mono g (fun _ h1 _ ok_h1 g => ?_)
  obtain ⟨v2, rfl, ss_h1, g⟩ := g
  show AW m_X7_isSlots d none Q 7 [some (.inl x0)] [(.inl v2)] h1 (0, 0)
  obtain ⟨s3, g⟩ := g
  exact aw_ireturn (pc := 7) dX7_isSlots_7 s3 g (by decide) (by decide)
set_option maxRecDepth 100000 in
set_option maxHeartbeats 4000000 in
theorem vc_X7_frame {d : Nat} {Q : Option Int → AH → Prop} {h : AH} {x1 : Int} (hd : 1 ≤ d) (hL : QZ h)
  (g :
    AM (d - 1) m_X7_isSlots [(.inl x1)] h (fun r h1 => 
      ∃ v2, r = some v2 ∧ SS h h1 ∧
      ((¬ v2 = 0 → (
        AM (d - 1) m_X7_record [(.inr (some 104))] h1 (fun r h4 => 
          r = none ∧ SS h1 h4 ∧
          AM (d - 1) m_X7_frameNow [(.inr (some 104)), (.inl x1)] h4 (fun r h5 => 
            r = none ∧ SS h4 h5 ∧
            Q (some (w ((hi h5 105 8) - (hi h4 105 8)))) h5))
      )) ∧
      (¬ (¬ v2 = 0) → (
        Q (some (-2)) h1
      ))))) :
  AM d m_X7_frame [(.inr (some 104)), (.inl x1)] h Q := by
  refine am_body mo_X7_frame (Nat.le_of_ble_eq_true rfl) ?_
  show AW m_X7_frame d none Q 0 [some (.inr (some 104)), some (.inl x1), none] [] h (0, 0)
  obtain ⟨ko104, ro104_z, ko104_z, ro104_spare, ko104_spare, ro104_past, ko104_past, ro104_kept, ko104_kept, ro104_text, ko104_text, ro104_stack, ko104_stack, ro104_drew, ko104_drew, ro104_drawn, ko104_drawn, ro104_signs, ko104_signs, ro104_numbers, ko104_numbers⟩ := id hL
  refine aw_iload_n (pc := 0) dX7_frame_0 rfl ?_
  refine aw_invS (pc := 1) (md' := m_X7_isSlots) (as := [(.inl x1)]) dX7_frame_1 mo_X7_isSlots sm_X7_isSlots ml_X7_149 rfl rfl hd (Nat.le_of_ble_eq_true rfl) (Nat.le_of_ble_eq_true rfl) (Nat.le_of_ble_eq_true rfl) ?_
  refine am_mono g (fun _ h1 _ ok_h1 g => ?_)
  obtain ⟨v2, rfl, ss_h1, g⟩ := g
  replace hL := QZ.ss hL ss_h1
  obtain ⟨ko104, ro104_z, ko104_z, ro104_spare, ko104_spare, ro104_past, ko104_past, ro104_kept, ko104_kept, ro104_text, ko104_text, ro104_stack, ko104_stack, ro104_drew, ko104_drew, ro104_drawn, ko104_drawn, ro104_signs, ko104_signs, ro104_numbers, ko104_numbers⟩ := id hL
  show AW m_X7_frame d none Q 4 [some (.inr (some 104)), some (.inl x1), none] [(.inl v2)] h1 (0, 0)
  refine aw_if_ne (pc := 4) (tgt := 10) dX7_frame_4 (by decide) (fun c3 => ?_) (fun c3 => ?_)
  · replace g := g.1 c3
    refine aw_aload_n (pc := 10) dX7_frame_10 rfl ?_
    refine aw_invV (pc := 11) (md' := m_X7_record) (ci := 7) (as := []) dX7_frame_11 mo_X7_record im_X7_record se_X7_record ml_X7_60 rfl ko104 rfl hd (Nat.le_of_ble_eq_true rfl) (Nat.le_of_ble_eq_true rfl) (Nat.le_of_ble_eq_true rfl) ?_
    refine am_mono g (fun _ h4 _ ok_h4 g => ?_)
    obtain ⟨rfl, ss_h4, g⟩ := g
    replace hL := QZ.ss hL ss_h4
    obtain ⟨ko104, ro104_z, ko104_z, ro104_spare, ko104_spare, ro104_past, ko104_past, ro104_kept, ko104_kept, ro104_text, ko104_text, ro104_stack, ko104_stack, ro104_drew, ko104_drew, ro104_drawn, ko104_drawn, ro104_signs, ko104_signs, ro104_numbers, ko104_numbers⟩ := id hL
    show AW m_X7_frame d none Q 14 [some (.inr (some 104)), some (.inl x1), none] [] h4 (0, 0)
    refine aw_aload_n (pc := 14) dX7_frame_14 rfl ?_
    refine aw_getr (pc := 15) (r := some 105) dX7_frame_15 fl_X7_7 (by decide) rfl ko104 ro104_z ?_
    refine aw_bipush (pc := 18) dX7_frame_18 ?_
    refine ax_iaload (pc := 20) (n := 293) (v := hi h4 105 8) dX7_frame_20 ko104_z (by decide) rfl ?_
    refine ax_istore_n (pc := 21) (ls' := [some (.inr (some 104)), some (.inl x1), some (.inl (hi h4 105 8))]) dX7_frame_21 (Nat.le_of_ble_eq_true rfl) rfl ?_
    refine aw_aload_n (pc := 22) dX7_frame_22 rfl ?_
    refine aw_iload_n (pc := 23) dX7_frame_23 rfl ?_
    refine aw_invV (pc := 24) (md' := m_X7_frameNow) (ci := 7) (as := [(.inl x1)]) dX7_frame_24 mo_X7_frameNow im_X7_frameNow se_X7_frameNow ml_X7_153 rfl ko104 rfl hd (Nat.le_of_ble_eq_true rfl) (Nat.le_of_ble_eq_true rfl) (Nat.le_of_ble_eq_true rfl) ?_
    refine am_mono g (fun _ h5 _ ok_h5 g => ?_)
    obtain ⟨rfl, ss_h5, g⟩ := g
    replace hL := QZ.ss hL ss_h5
    obtain ⟨ko104, ro104_z, ko104_z, ro104_spare, ko104_spare, ro104_past, ko104_past, ro104_kept, ko104_kept, ro104_text, ko104_text, ro104_stack, ko104_stack, ro104_drew, ko104_drew, ro104_drawn, ko104_drawn, ro104_signs, ko104_signs, ro104_numbers, ko104_numbers⟩ := id hL
    show AW m_X7_frame d none Q 27 [some (.inr (some 104)), some (.inl x1), some (.inl (hi h4 105 8))] [] h5 (0, 0)
    refine aw_aload_n (pc := 27) dX7_frame_27 rfl ?_
    refine aw_getr (pc := 28) (r := some 105) dX7_frame_28 fl_X7_7 (by decide) rfl ko104 ro104_z ?_
    refine aw_bipush (pc := 31) dX7_frame_31 ?_
    refine ax_iaload (pc := 33) (n := 293) (v := hi h5 105 8) dX7_frame_33 ko104_z (by decide) rfl ?_
    refine aw_iload_n (pc := 34) dX7_frame_34 rfl ?_
    refine aw_isub_w (pc := 35) dX7_frame_35 ?_
    exact ax_ireturn (pc := 36) dX7_frame_36 rfl g (by decide) (by decide)
  · replace g := g.2 c3
    refine aw_bipush (pc := 7) dX7_frame_7 ?_
    exact ax_ireturn (pc := 9) dX7_frame_9 rfl g (by decide) (by decide)
set_option maxRecDepth 100000 in
set_option maxHeartbeats 4000000 in
theorem vc_X7_nextSize {d : Nat} {Q : Option Int → AH → Prop} {h : AH} {x1 x2 x3 : Int} (hL : QZ h)
  (g :
    ((¬ hi h 105 3 = 0 → (
      ((¬ hi h 105 3 = 1 → (
        (rg (2 * x3)) ∧
        ((2 * x3 ≤ x2 → (
          (rg (4 * x3)) ∧
          ((x2 < 4 * x3 → (
            ((1 ≤ x2 → (
              ((x2 ≤ 64 → (
                Q (some x2) h
              )) ∧
              (¬ (x2 ≤ 64) → (
                Q (some 64) h
              )))
            )) ∧
            (¬ (1 ≤ x2) → (
              Q (some 1) h
            )))
          )) ∧
          (¬ (x2 < 4 * x3) → (
            ((1 ≤ dv x2 2 → (
              ((dv x2 2 ≤ 64 → (
                Q (some (dv x2 2)) h
              )) ∧
              (¬ (dv x2 2 ≤ 64) → (
                Q (some 64) h
              )))
            )) ∧
            (¬ (1 ≤ dv x2 2) → (
              Q (some 1) h
            )))
          )))
        )) ∧
        (¬ (2 * x3 ≤ x2) → (
          (rg (2 * x2)) ∧
          ((1 ≤ 2 * x2 → (
            ((2 * x2 ≤ 64 → (
              Q (some (2 * x2)) h
            )) ∧
            (¬ (2 * x2 ≤ 64) → (
              Q (some 64) h
            )))
          )) ∧
          (¬ (1 ≤ 2 * x2) → (
            Q (some 1) h
          )))
        )))
      )) ∧
      (¬ (¬ hi h 105 3 = 1) → (
        (rg (2 * x3)) ∧
        ((1 ≤ 2 * x3 → (
          ((2 * x3 ≤ 64 → (
            Q (some (2 * x3)) h
          )) ∧
          (¬ (2 * x3 ≤ 64) → (
            Q (some 64) h
          )))
        )) ∧
        (¬ (1 ≤ 2 * x3) → (
          Q (some 1) h
        )))
      )))
    )) ∧
    (¬ (¬ hi h 105 3 = 0) → (
      ((1 ≤ x1 → (
        ((x1 ≤ 64 → (
          Q (some x1) h
        )) ∧
        (¬ (x1 ≤ 64) → (
          Q (some 64) h
        )))
      )) ∧
      (¬ (1 ≤ x1) → (
        Q (some 1) h
      )))
    )))) :
  AM d m_X7_nextSize [(.inr (some 104)), (.inl x1), (.inl x2), (.inl x3)] h Q := by
  refine am_body mo_X7_nextSize (Nat.le_of_ble_eq_true rfl) ?_
  show AW m_X7_nextSize d none Q 0 [some (.inr (some 104)), some (.inl x1), some (.inl x2), some (.inl x3), none] [] h (0, 0)
  obtain ⟨ko104, ro104_z, ko104_z, ro104_spare, ko104_spare, ro104_past, ko104_past, ro104_kept, ko104_kept, ro104_text, ko104_text, ro104_stack, ko104_stack, ro104_drew, ko104_drew, ro104_drawn, ko104_drawn, ro104_signs, ko104_signs, ro104_numbers, ko104_numbers⟩ := id hL
  refine aw_aload_n (pc := 0) dX7_nextSize_0 rfl ?_
  refine aw_getr (pc := 1) (r := some 105) dX7_nextSize_1 fl_X7_7 (by decide) rfl ko104 ro104_z ?_
  refine aw_iconst (pc := 4) dX7_nextSize_4 ?_
  refine ax_iaload (pc := 5) (n := 293) (v := hi h 105 3) dX7_nextSize_5 ko104_z (by decide) rfl ?_
  refine aw_if_ne (pc := 6) (tgt := 13) dX7_nextSize_6 (by decide) (fun c1 => ?_) (fun c1 => ?_)
  · replace g := g.1 c1
    refine aw_aload_n (pc := 13) dX7_nextSize_13 rfl ?_
    refine aw_getr (pc := 14) (r := some 105) dX7_nextSize_14 fl_X7_7 (by decide) rfl ko104 ro104_z ?_
    refine aw_iconst (pc := 17) dX7_nextSize_17 ?_
    refine ax_iaload (pc := 18) (n := 293) (v := hi h 105 3) dX7_nextSize_18 ko104_z (by decide) rfl ?_
    refine aw_iconst (pc := 19) dX7_nextSize_19 ?_
    refine aw_icmp_ne (pc := 20) (tgt := 29) dX7_nextSize_20 (by decide) (fun c2 => ?_) (fun c2 => ?_)
    · replace g := g.1 c2
      refine aw_iconst (pc := 29) dX7_nextSize_29 ?_
      refine aw_iload_n (pc := 30) dX7_nextSize_30 rfl ?_
      obtain ⟨s3, g⟩ := g
      refine ax_imul (pc := 31) (v := 2 * x3) dX7_nextSize_31 s3 rfl ?_
      refine aw_iload_n (pc := 32) dX7_nextSize_32 rfl ?_
      refine aw_icmp_le (pc := 33) (tgt := 42) dX7_nextSize_33 (by decide) (fun c4 => ?_) (fun c4 => ?_)
      · replace g := g.1 c4
        refine aw_iconst (pc := 42) dX7_nextSize_42 ?_
        refine aw_iload_n (pc := 43) dX7_nextSize_43 rfl ?_
        obtain ⟨s5, g⟩ := g
        refine ax_imul (pc := 44) (v := 4 * x3) dX7_nextSize_44 s5 rfl ?_
        refine aw_iload_n (pc := 45) dX7_nextSize_45 rfl ?_
        refine aw_icmp_gt (pc := 46) (tgt := 55) dX7_nextSize_46 (by decide) (fun c6 => ?_) (fun c6 => ?_)
        · replace g := g.1 c6
          refine aw_iload_n (pc := 55) dX7_nextSize_55 rfl ?_
          refine ax_istore (pc := 56) (ls' := [some (.inr (some 104)), some (.inl x1), some (.inl x2), some (.inl x3), some (.inl x2)]) dX7_nextSize_56 (Nat.le_of_ble_eq_true rfl) rfl ?_
          refine aw_iload (pc := 58) dX7_nextSize_58 rfl ?_
          refine aw_iconst (pc := 60) dX7_nextSize_60 ?_
          refine aw_icmp_ge (pc := 61) (tgt := 68) dX7_nextSize_61 (by decide) (fun c7 => ?_) (fun c7 => ?_)
          · replace g := g.1 c7
            refine aw_iload (pc := 68) dX7_nextSize_68 rfl ?_
            refine aw_bipush (pc := 70) dX7_nextSize_70 ?_
            refine aw_icmp_le (pc := 72) (tgt := 80) dX7_nextSize_72 (by decide) (fun c8 => ?_) (fun c8 => ?_)
            · replace g := g.1 c8
              refine aw_iload (pc := 80) dX7_nextSize_80 rfl ?_
              exact ax_ireturn (pc := 82) dX7_nextSize_82 rfl g (by decide) (by decide)
            · replace g := g.2 c8
              refine aw_bipush (pc := 75) dX7_nextSize_75 ?_
              refine aw_goto (pc := 77) (tgt := 82) dX7_nextSize_77 (by decide) ?_
              exact ax_ireturn (pc := 82) dX7_nextSize_82 rfl g (by decide) (by decide)
          · replace g := g.2 c7
            refine aw_iconst (pc := 64) dX7_nextSize_64 ?_
            refine aw_goto (pc := 65) (tgt := 82) dX7_nextSize_65 (by decide) ?_
            exact ax_ireturn (pc := 82) dX7_nextSize_82 rfl g (by decide) (by decide)
        · replace g := g.2 c6
          refine aw_iload_n (pc := 49) dX7_nextSize_49 rfl ?_
          refine aw_iconst (pc := 50) dX7_nextSize_50 ?_
          refine aw_idiv (pc := 51) dX7_nextSize_51 (by decide) ?_
          refine aw_goto (pc := 52) (tgt := 56) dX7_nextSize_52 (by decide) ?_
          refine ax_istore (pc := 56) (ls' := [some (.inr (some 104)), some (.inl x1), some (.inl x2), some (.inl x3), some (.inl (dv x2 2))]) dX7_nextSize_56 (Nat.le_of_ble_eq_true rfl) rfl ?_
          refine aw_iload (pc := 58) dX7_nextSize_58 rfl ?_
          refine aw_iconst (pc := 60) dX7_nextSize_60 ?_
          refine aw_icmp_ge (pc := 61) (tgt := 68) dX7_nextSize_61 (by decide) (fun c9 => ?_) (fun c9 => ?_)
          · replace g := g.1 c9
            refine aw_iload (pc := 68) dX7_nextSize_68 rfl ?_
            refine aw_bipush (pc := 70) dX7_nextSize_70 ?_
            refine aw_icmp_le (pc := 72) (tgt := 80) dX7_nextSize_72 (by decide) (fun c10 => ?_) (fun c10 => ?_)
            · replace g := g.1 c10
              refine aw_iload (pc := 80) dX7_nextSize_80 rfl ?_
              exact ax_ireturn (pc := 82) dX7_nextSize_82 rfl g (by decide) (by decide)
            · replace g := g.2 c10
              refine aw_bipush (pc := 75) dX7_nextSize_75 ?_
              refine aw_goto (pc := 77) (tgt := 82) dX7_nextSize_77 (by decide) ?_
              exact ax_ireturn (pc := 82) dX7_nextSize_82 rfl g (by decide) (by decide)
          · replace g := g.2 c9
            refine aw_iconst (pc := 64) dX7_nextSize_64 ?_
            refine aw_goto (pc := 65) (tgt := 82) dX7_nextSize_65 (by decide) ?_
            exact ax_ireturn (pc := 82) dX7_nextSize_82 rfl g (by decide) (by decide)
      · replace g := g.2 c4
        refine aw_iconst (pc := 36) dX7_nextSize_36 ?_
        refine aw_iload_n (pc := 37) dX7_nextSize_37 rfl ?_
        obtain ⟨s11, g⟩ := g
        refine ax_imul (pc := 38) (v := 2 * x2) dX7_nextSize_38 s11 rfl ?_
        refine aw_goto (pc := 39) (tgt := 56) dX7_nextSize_39 (by decide) ?_
        refine ax_istore (pc := 56) (ls' := [some (.inr (some 104)), some (.inl x1), some (.inl x2), some (.inl x3), some (.inl (2 * x2))]) dX7_nextSize_56 (Nat.le_of_ble_eq_true rfl) rfl ?_
        refine aw_iload (pc := 58) dX7_nextSize_58 rfl ?_
        refine aw_iconst (pc := 60) dX7_nextSize_60 ?_
        refine aw_icmp_ge (pc := 61) (tgt := 68) dX7_nextSize_61 (by decide) (fun c12 => ?_) (fun c12 => ?_)
        · replace g := g.1 c12
          refine aw_iload (pc := 68) dX7_nextSize_68 rfl ?_
          refine aw_bipush (pc := 70) dX7_nextSize_70 ?_
          refine aw_icmp_le (pc := 72) (tgt := 80) dX7_nextSize_72 (by decide) (fun c13 => ?_) (fun c13 => ?_)
          · replace g := g.1 c13
            refine aw_iload (pc := 80) dX7_nextSize_80 rfl ?_
            exact ax_ireturn (pc := 82) dX7_nextSize_82 rfl g (by decide) (by decide)
          · replace g := g.2 c13
            refine aw_bipush (pc := 75) dX7_nextSize_75 ?_
            refine aw_goto (pc := 77) (tgt := 82) dX7_nextSize_77 (by decide) ?_
            exact ax_ireturn (pc := 82) dX7_nextSize_82 rfl g (by decide) (by decide)
        · replace g := g.2 c12
          refine aw_iconst (pc := 64) dX7_nextSize_64 ?_
          refine aw_goto (pc := 65) (tgt := 82) dX7_nextSize_65 (by decide) ?_
          exact ax_ireturn (pc := 82) dX7_nextSize_82 rfl g (by decide) (by decide)
    · replace g := g.2 c2
      refine aw_iconst (pc := 23) dX7_nextSize_23 ?_
      refine aw_iload_n (pc := 24) dX7_nextSize_24 rfl ?_
      obtain ⟨s14, g⟩ := g
      refine ax_imul (pc := 25) (v := 2 * x3) dX7_nextSize_25 s14 rfl ?_
      refine aw_goto (pc := 26) (tgt := 56) dX7_nextSize_26 (by decide) ?_
      refine ax_istore (pc := 56) (ls' := [some (.inr (some 104)), some (.inl x1), some (.inl x2), some (.inl x3), some (.inl (2 * x3))]) dX7_nextSize_56 (Nat.le_of_ble_eq_true rfl) rfl ?_
      refine aw_iload (pc := 58) dX7_nextSize_58 rfl ?_
      refine aw_iconst (pc := 60) dX7_nextSize_60 ?_
      refine aw_icmp_ge (pc := 61) (tgt := 68) dX7_nextSize_61 (by decide) (fun c15 => ?_) (fun c15 => ?_)
      · replace g := g.1 c15
        refine aw_iload (pc := 68) dX7_nextSize_68 rfl ?_
        refine aw_bipush (pc := 70) dX7_nextSize_70 ?_
        refine aw_icmp_le (pc := 72) (tgt := 80) dX7_nextSize_72 (by decide) (fun c16 => ?_) (fun c16 => ?_)
        · replace g := g.1 c16
          refine aw_iload (pc := 80) dX7_nextSize_80 rfl ?_
          exact ax_ireturn (pc := 82) dX7_nextSize_82 rfl g (by decide) (by decide)
        · replace g := g.2 c16
          refine aw_bipush (pc := 75) dX7_nextSize_75 ?_
          refine aw_goto (pc := 77) (tgt := 82) dX7_nextSize_77 (by decide) ?_
          exact ax_ireturn (pc := 82) dX7_nextSize_82 rfl g (by decide) (by decide)
      · replace g := g.2 c15
        refine aw_iconst (pc := 64) dX7_nextSize_64 ?_
        refine aw_goto (pc := 65) (tgt := 82) dX7_nextSize_65 (by decide) ?_
        exact ax_ireturn (pc := 82) dX7_nextSize_82 rfl g (by decide) (by decide)
  · replace g := g.2 c1
    refine aw_iload_n (pc := 9) dX7_nextSize_9 rfl ?_
    refine aw_goto (pc := 10) (tgt := 56) dX7_nextSize_10 (by decide) ?_
    refine ax_istore (pc := 56) (ls' := [some (.inr (some 104)), some (.inl x1), some (.inl x2), some (.inl x3), some (.inl x1)]) dX7_nextSize_56 (Nat.le_of_ble_eq_true rfl) rfl ?_
    refine aw_iload (pc := 58) dX7_nextSize_58 rfl ?_
    refine aw_iconst (pc := 60) dX7_nextSize_60 ?_
    refine aw_icmp_ge (pc := 61) (tgt := 68) dX7_nextSize_61 (by decide) (fun c17 => ?_) (fun c17 => ?_)
    · replace g := g.1 c17
      refine aw_iload (pc := 68) dX7_nextSize_68 rfl ?_
      refine aw_bipush (pc := 70) dX7_nextSize_70 ?_
      refine aw_icmp_le (pc := 72) (tgt := 80) dX7_nextSize_72 (by decide) (fun c18 => ?_) (fun c18 => ?_)
      · replace g := g.1 c18
        refine aw_iload (pc := 80) dX7_nextSize_80 rfl ?_
        exact ax_ireturn (pc := 82) dX7_nextSize_82 rfl g (by decide) (by decide)
      · replace g := g.2 c18
        refine aw_bipush (pc := 75) dX7_nextSize_75 ?_
        refine aw_goto (pc := 77) (tgt := 82) dX7_nextSize_77 (by decide) ?_
        exact ax_ireturn (pc := 82) dX7_nextSize_82 rfl g (by decide) (by decide)
    · replace g := g.2 c17
      refine aw_iconst (pc := 64) dX7_nextSize_64 ?_
      refine aw_goto (pc := 65) (tgt := 82) dX7_nextSize_65 (by decide) ?_
      exact ax_ireturn (pc := 82) dX7_nextSize_82 rfl g (by decide) (by decide)
set_option maxRecDepth 100000 in
set_option maxHeartbeats 4000000 in
theorem vc_X7_roundsNow {d : Nat} {Q : Option Int → AH → Prop} {h : AH} {x1 : Int} (hd : 1 ≤ d) (hL : QZ h)
  (g :
    AW m_X7_roundsNow d none Q 7 [some (.inr (some 104)), some (.inl x1), some (.inl 0), some (.inl x1), some (.inl 1), none, none] [] h (0, 0)) :
  AM d m_X7_roundsNow [(.inr (some 104)), (.inl x1)] h Q := by
  refine am_body mo_X7_roundsNow (Nat.le_of_ble_eq_true rfl) ?_
  show AW m_X7_roundsNow d none Q 0 [some (.inr (some 104)), some (.inl x1), none, none, none, none, none] [] h (0, 0)
  obtain ⟨ko104, ro104_z, ko104_z, ro104_spare, ko104_spare, ro104_past, ko104_past, ro104_kept, ko104_kept, ro104_text, ko104_text, ro104_stack, ko104_stack, ro104_drew, ko104_drew, ro104_drawn, ko104_drawn, ro104_signs, ko104_signs, ro104_numbers, ko104_numbers⟩ := id hL
  refine aw_iconst (pc := 0) dX7_roundsNow_0 ?_
  refine ax_istore_n (pc := 1) (ls' := [some (.inr (some 104)), some (.inl x1), some (.inl 0), none, none, none, none]) dX7_roundsNow_1 (Nat.le_of_ble_eq_true rfl) rfl ?_
  refine aw_iload_n (pc := 2) dX7_roundsNow_2 rfl ?_
  refine ax_istore_n (pc := 3) (ls' := [some (.inr (some 104)), some (.inl x1), some (.inl 0), some (.inl x1), none, none, none]) dX7_roundsNow_3 (Nat.le_of_ble_eq_true rfl) rfl ?_
  refine aw_iconst (pc := 4) dX7_roundsNow_4 ?_
  refine ax_istore (pc := 5) (ls' := [some (.inr (some 104)), some (.inl x1), some (.inl 0), some (.inl x1), some (.inl 1), none, none]) dX7_roundsNow_5 (Nat.le_of_ble_eq_true rfl) rfl ?_
  exact g
set_option maxRecDepth 100000 in
set_option maxHeartbeats 4000000 in
theorem vc_X7_roundsNow_7 {d : Nat} {Q : Option Int → AH → Prop} {h : AH} {x1 x2 x3 x4 : Int} (hd : 1 ≤ d) (hL : QZ h)
  (g :
    ((x4 = 0 → (
      Q (some x2) h
    )) ∧
    (¬ (x4 = 0) → (
      AM (d - 1) m_X7_frameNow [(.inr (some 104)), (.inl x3)] h (fun r h2 => 
        r = none ∧ SS h h2 ∧
        (rg (x2 + 1)) ∧
        ((w ((hi h2 105 9) - (hi h 105 9)) ≤ 0 → (
          AM (d - 1) m_X7_nextSize [(.inr (some 104)), (.inl x1), (.inl x3), (.inl (w ((hi h2 105 9) - (hi h 105 9))))] h2 (fun r h5 => 
            ∃ v6, r = some v6 ∧ SS h2 h5 ∧
            AW m_X7_roundsNow d none Q 7 [some (.inr (some 104)), some (.inl x1), some (.inl (x2 + 1)), some (.inl v6), some (.inl 0), none, none] [] h5 (0, 0))
        )) ∧
        (¬ (w ((hi h2 105 9) - (hi h 105 9)) ≤ 0) → (
          ((40 ≤ x2 + 1 → (
            AM (d - 1) m_X7_nextSize [(.inr (some 104)), (.inl x1), (.inl x3), (.inl (w ((hi h2 105 9) - (hi h 105 9))))] h2 (fun r h8 => 
              ∃ v9, r = some v9 ∧ SS h2 h8 ∧
              AW m_X7_roundsNow d none Q 7 [some (.inr (some 104)), some (.inl x1), some (.inl (x2 + 1)), some (.inl v9), some (.inl 0), none, none] [] h8 (0, 0))
          )) ∧
          (¬ (40 ≤ x2 + 1) → (
            AM (d - 1) m_X7_nextSize [(.inr (some 104)), (.inl x1), (.inl x3), (.inl (w ((hi h2 105 9) - (hi h 105 9))))] h2 (fun r h10 => 
              ∃ v11, r = some v11 ∧ SS h2 h10 ∧
              AW m_X7_roundsNow d none Q 7 [some (.inr (some 104)), some (.inl x1), some (.inl (x2 + 1)), some (.inl v11), some (.inl 1), none, none] [] h10 (0, 0))
          )))
        ))))
    )))) :
  AW m_X7_roundsNow d none Q 7 [some (.inr (some 104)), some (.inl x1), some (.inl x2), some (.inl x3), some (.inl x4), none, none] [] h (0, 0) := by
  obtain ⟨ko104, ro104_z, ko104_z, ro104_spare, ko104_spare, ro104_past, ko104_past, ro104_kept, ko104_kept, ro104_text, ko104_text, ro104_stack, ko104_stack, ro104_drew, ko104_drew, ro104_drawn, ko104_drawn, ro104_signs, ko104_signs, ro104_numbers, ko104_numbers⟩ := id hL
  refine aw_iload (pc := 7) dX7_roundsNow_7 rfl ?_
  refine aw_if_eq (pc := 9) (tgt := 71) dX7_roundsNow_9 (by decide) (fun c1 => ?_) (fun c1 => ?_)
  · replace g := g.1 c1
    refine aw_iload_n (pc := 71) dX7_roundsNow_71 rfl ?_
    exact ax_ireturn (pc := 72) dX7_roundsNow_72 rfl g (by decide) (by decide)
  · replace g := g.2 c1
    refine aw_aload_n (pc := 12) dX7_roundsNow_12 rfl ?_
    refine aw_getr (pc := 13) (r := some 105) dX7_roundsNow_13 fl_X7_7 (by decide) rfl ko104 ro104_z ?_
    refine aw_bipush (pc := 16) dX7_roundsNow_16 ?_
    refine ax_iaload (pc := 18) (n := 293) (v := hi h 105 9) dX7_roundsNow_18 ko104_z (by decide) rfl ?_
    refine ax_istore (pc := 19) (ls' := [some (.inr (some 104)), some (.inl x1), some (.inl x2), some (.inl x3), some (.inl x4), some (.inl (hi h 105 9)), none]) dX7_roundsNow_19 (Nat.le_of_ble_eq_true rfl) rfl ?_
    refine aw_aload_n (pc := 21) dX7_roundsNow_21 rfl ?_
    refine aw_iload_n (pc := 22) dX7_roundsNow_22 rfl ?_
    refine aw_invV (pc := 23) (md' := m_X7_frameNow) (ci := 7) (as := [(.inl x3)]) dX7_roundsNow_23 mo_X7_frameNow im_X7_frameNow se_X7_frameNow ml_X7_153 rfl ko104 rfl hd (Nat.le_of_ble_eq_true rfl) (Nat.le_of_ble_eq_true rfl) (Nat.le_of_ble_eq_true rfl) ?_
    refine am_mono g (fun _ h2 _ ok_h2 g => ?_)
    obtain ⟨rfl, ss_h2, g⟩ := g
    replace hL := QZ.ss hL ss_h2
    obtain ⟨ko104, ro104_z, ko104_z, ro104_spare, ko104_spare, ro104_past, ko104_past, ro104_kept, ko104_kept, ro104_text, ko104_text, ro104_stack, ko104_stack, ro104_drew, ko104_drew, ro104_drawn, ko104_drawn, ro104_signs, ko104_signs, ro104_numbers, ko104_numbers⟩ := id hL
    show AW m_X7_roundsNow d none Q 26 [some (.inr (some 104)), some (.inl x1), some (.inl x2), some (.inl x3), some (.inl x4), some (.inl (hi h 105 9)), none] [] h2 (0, 0)
    obtain ⟨s3, g⟩ := g
    refine ax_iinc (pc := 26) (v' := x2 + 1) (ls' := [some (.inr (some 104)), some (.inl x1), some (.inl (x2 + 1)), some (.inl x3), some (.inl x4), some (.inl (hi h 105 9)), none]) dX7_roundsNow_26 rfl s3 rfl rfl ?_
    refine aw_aload_n (pc := 29) dX7_roundsNow_29 rfl ?_
    refine aw_getr (pc := 30) (r := some 105) dX7_roundsNow_30 fl_X7_7 (by decide) rfl ko104 ro104_z ?_
    refine aw_bipush (pc := 33) dX7_roundsNow_33 ?_
    refine ax_iaload (pc := 35) (n := 293) (v := hi h2 105 9) dX7_roundsNow_35 ko104_z (by decide) rfl ?_
    refine aw_iload (pc := 36) dX7_roundsNow_36 rfl ?_
    refine aw_isub_w (pc := 38) dX7_roundsNow_38 ?_
    refine ax_istore (pc := 39) (ls' := [some (.inr (some 104)), some (.inl x1), some (.inl (x2 + 1)), some (.inl x3), some (.inl x4), some (.inl (hi h 105 9)), some (.inl (w ((hi h2 105 9) - (hi h 105 9))))]) dX7_roundsNow_39 (Nat.le_of_ble_eq_true rfl) rfl ?_
    refine aw_iload (pc := 41) dX7_roundsNow_41 rfl ?_
    refine aw_if_le (pc := 43) (tgt := 56) dX7_roundsNow_43 (by decide) (fun c4 => ?_) (fun c4 => ?_)
    · replace g := g.1 c4
      refine aw_iconst (pc := 56) dX7_roundsNow_56 ?_
      refine ax_istore (pc := 57) (ls' := [some (.inr (some 104)), some (.inl x1), some (.inl (x2 + 1)), some (.inl x3), some (.inl 0), some (.inl (hi h 105 9)), some (.inl (w ((hi h2 105 9) - (hi h 105 9))))]) dX7_roundsNow_57 (Nat.le_of_ble_eq_true rfl) rfl ?_
      refine aw_aload_n (pc := 59) dX7_roundsNow_59 rfl ?_
      refine aw_iload_n (pc := 60) dX7_roundsNow_60 rfl ?_
      refine aw_iload_n (pc := 61) dX7_roundsNow_61 rfl ?_
      refine aw_iload (pc := 62) dX7_roundsNow_62 rfl ?_
      refine aw_invV (pc := 64) (md' := m_X7_nextSize) (ci := 7) (as := [(.inl x1), (.inl x3), (.inl (w ((hi h2 105 9) - (hi h 105 9))))]) dX7_roundsNow_64 mo_X7_nextSize im_X7_nextSize se_X7_nextSize ml_X7_156 rfl ko104 rfl hd (Nat.le_of_ble_eq_true rfl) (Nat.le_of_ble_eq_true rfl) (Nat.le_of_ble_eq_true rfl) ?_
      refine am_mono g (fun _ h5 _ ok_h5 g => ?_)
      obtain ⟨v6, rfl, ss_h5, g⟩ := g
      replace hL := QZ.ss hL ss_h5
      obtain ⟨ko104, ro104_z, ko104_z, ro104_spare, ko104_spare, ro104_past, ko104_past, ro104_kept, ko104_kept, ro104_text, ko104_text, ro104_stack, ko104_stack, ro104_drew, ko104_drew, ro104_drawn, ko104_drawn, ro104_signs, ko104_signs, ro104_numbers, ko104_numbers⟩ := id hL
      show AW m_X7_roundsNow d none Q 67 [some (.inr (some 104)), some (.inl x1), some (.inl (x2 + 1)), some (.inl x3), some (.inl 0), some (.inl (hi h 105 9)), some (.inl (w ((hi h2 105 9) - (hi h 105 9))))] [(.inl v6)] h5 (0, 0)
      refine ax_istore_n (pc := 67) (ls' := [some (.inr (some 104)), some (.inl x1), some (.inl (x2 + 1)), some (.inl v6), some (.inl 0), some (.inl (hi h 105 9)), some (.inl (w ((hi h2 105 9) - (hi h 105 9))))]) dX7_roundsNow_67 (Nat.le_of_ble_eq_true rfl) rfl ?_
      refine aw_goto (pc := 68) (tgt := 7) dX7_roundsNow_68 (by decide) ?_
      exact aw_fewer (show subl [some (.inr (some 104)), some (.inl x1), some (.inl (x2 + 1)), some (.inl v6), some (.inl 0), none, none] [some (.inr (some 104)), some (.inl x1), some (.inl (x2 + 1)), some (.inl v6), some (.inl 0), some (.inl (hi h 105 9)), some (.inl (w ((hi h2 105 9) - (hi h 105 9))))] from (And.intro rfl (And.intro rfl (And.intro rfl (And.intro rfl (And.intro rfl trivial)))))) g
    · replace g := g.2 c4
      refine aw_iload_n (pc := 46) dX7_roundsNow_46 rfl ?_
      refine aw_bipush (pc := 47) dX7_roundsNow_47 ?_
      refine aw_icmp_ge (pc := 49) (tgt := 56) dX7_roundsNow_49 (by decide) (fun c7 => ?_) (fun c7 => ?_)
      · replace g := g.1 c7
        refine aw_iconst (pc := 56) dX7_roundsNow_56 ?_
        refine ax_istore (pc := 57) (ls' := [some (.inr (some 104)), some (.inl x1), some (.inl (x2 + 1)), some (.inl x3), some (.inl 0), some (.inl (hi h 105 9)), some (.inl (w ((hi h2 105 9) - (hi h 105 9))))]) dX7_roundsNow_57 (Nat.le_of_ble_eq_true rfl) rfl ?_
        refine aw_aload_n (pc := 59) dX7_roundsNow_59 rfl ?_
        refine aw_iload_n (pc := 60) dX7_roundsNow_60 rfl ?_
        refine aw_iload_n (pc := 61) dX7_roundsNow_61 rfl ?_
        refine aw_iload (pc := 62) dX7_roundsNow_62 rfl ?_
        refine aw_invV (pc := 64) (md' := m_X7_nextSize) (ci := 7) (as := [(.inl x1), (.inl x3), (.inl (w ((hi h2 105 9) - (hi h 105 9))))]) dX7_roundsNow_64 mo_X7_nextSize im_X7_nextSize se_X7_nextSize ml_X7_156 rfl ko104 rfl hd (Nat.le_of_ble_eq_true rfl) (Nat.le_of_ble_eq_true rfl) (Nat.le_of_ble_eq_true rfl) ?_
        refine am_mono g (fun _ h8 _ ok_h8 g => ?_)
        obtain ⟨v9, rfl, ss_h8, g⟩ := g
        replace hL := QZ.ss hL ss_h8
        obtain ⟨ko104, ro104_z, ko104_z, ro104_spare, ko104_spare, ro104_past, ko104_past, ro104_kept, ko104_kept, ro104_text, ko104_text, ro104_stack, ko104_stack, ro104_drew, ko104_drew, ro104_drawn, ko104_drawn, ro104_signs, ko104_signs, ro104_numbers, ko104_numbers⟩ := id hL
        show AW m_X7_roundsNow d none Q 67 [some (.inr (some 104)), some (.inl x1), some (.inl (x2 + 1)), some (.inl x3), some (.inl 0), some (.inl (hi h 105 9)), some (.inl (w ((hi h2 105 9) - (hi h 105 9))))] [(.inl v9)] h8 (0, 0)
        refine ax_istore_n (pc := 67) (ls' := [some (.inr (some 104)), some (.inl x1), some (.inl (x2 + 1)), some (.inl v9), some (.inl 0), some (.inl (hi h 105 9)), some (.inl (w ((hi h2 105 9) - (hi h 105 9))))]) dX7_roundsNow_67 (Nat.le_of_ble_eq_true rfl) rfl ?_
        refine aw_goto (pc := 68) (tgt := 7) dX7_roundsNow_68 (by decide) ?_
        exact aw_fewer (show subl [some (.inr (some 104)), some (.inl x1), some (.inl (x2 + 1)), some (.inl v9), some (.inl 0), none, none] [some (.inr (some 104)), some (.inl x1), some (.inl (x2 + 1)), some (.inl v9), some (.inl 0), some (.inl (hi h 105 9)), some (.inl (w ((hi h2 105 9) - (hi h 105 9))))] from (And.intro rfl (And.intro rfl (And.intro rfl (And.intro rfl (And.intro rfl trivial)))))) g
      · replace g := g.2 c7
        refine aw_iconst (pc := 52) dX7_roundsNow_52 ?_
        refine aw_goto (pc := 53) (tgt := 57) dX7_roundsNow_53 (by decide) ?_
        refine ax_istore (pc := 57) (ls' := [some (.inr (some 104)), some (.inl x1), some (.inl (x2 + 1)), some (.inl x3), some (.inl 1), some (.inl (hi h 105 9)), some (.inl (w ((hi h2 105 9) - (hi h 105 9))))]) dX7_roundsNow_57 (Nat.le_of_ble_eq_true rfl) rfl ?_
        refine aw_aload_n (pc := 59) dX7_roundsNow_59 rfl ?_
        refine aw_iload_n (pc := 60) dX7_roundsNow_60 rfl ?_
        refine aw_iload_n (pc := 61) dX7_roundsNow_61 rfl ?_
        refine aw_iload (pc := 62) dX7_roundsNow_62 rfl ?_
        refine aw_invV (pc := 64) (md' := m_X7_nextSize) (ci := 7) (as := [(.inl x1), (.inl x3), (.inl (w ((hi h2 105 9) - (hi h 105 9))))]) dX7_roundsNow_64 mo_X7_nextSize im_X7_nextSize se_X7_nextSize ml_X7_156 rfl ko104 rfl hd (Nat.le_of_ble_eq_true rfl) (Nat.le_of_ble_eq_true rfl) (Nat.le_of_ble_eq_true rfl) ?_
        refine am_mono g (fun _ h10 _ ok_h10 g => ?_)
        obtain ⟨v11, rfl, ss_h10, g⟩ := g
        replace hL := QZ.ss hL ss_h10
        obtain ⟨ko104, ro104_z, ko104_z, ro104_spare, ko104_spare, ro104_past, ko104_past, ro104_kept, ko104_kept, ro104_text, ko104_text, ro104_stack, ko104_stack, ro104_drew, ko104_drew, ro104_drawn, ko104_drawn, ro104_signs, ko104_signs, ro104_numbers, ko104_numbers⟩ := id hL
        show AW m_X7_roundsNow d none Q 67 [some (.inr (some 104)), some (.inl x1), some (.inl (x2 + 1)), some (.inl x3), some (.inl 1), some (.inl (hi h 105 9)), some (.inl (w ((hi h2 105 9) - (hi h 105 9))))] [(.inl v11)] h10 (0, 0)
        refine ax_istore_n (pc := 67) (ls' := [some (.inr (some 104)), some (.inl x1), some (.inl (x2 + 1)), some (.inl v11), some (.inl 1), some (.inl (hi h 105 9)), some (.inl (w ((hi h2 105 9) - (hi h 105 9))))]) dX7_roundsNow_67 (Nat.le_of_ble_eq_true rfl) rfl ?_
        refine aw_goto (pc := 68) (tgt := 7) dX7_roundsNow_68 (by decide) ?_
        exact aw_fewer (show subl [some (.inr (some 104)), some (.inl x1), some (.inl (x2 + 1)), some (.inl v11), some (.inl 1), none, none] [some (.inr (some 104)), some (.inl x1), some (.inl (x2 + 1)), some (.inl v11), some (.inl 1), some (.inl (hi h 105 9)), some (.inl (w ((hi h2 105 9) - (hi h 105 9))))] from (And.intro rfl (And.intro rfl (And.intro rfl (And.intro rfl (And.intro rfl trivial)))))) g
set_option maxRecDepth 100000 in
set_option maxHeartbeats 4000000 in
theorem vc_X7_rounds {d : Nat} {Q : Option Int → AH → Prop} {h : AH} {x1 : Int} (hd : 1 ≤ d) (hL : QZ h)
  (g :
    AM (d - 1) m_X7_isSlots [(.inl x1)] h (fun r h1 => 
      ∃ v2, r = some v2 ∧ SS h h1 ∧
      ((¬ v2 = 0 → (
        AM (d - 1) m_X7_record [(.inr (some 104))] h1 (fun r h4 => 
          r = none ∧ SS h1 h4 ∧
          AM (d - 1) m_X7_roundsNow [(.inr (some 104)), (.inl x1)] h4 (fun r h5 => 
            ∃ v6, r = some v6 ∧ SS h4 h5 ∧
            Q (some v6) h5))
      )) ∧
      (¬ (¬ v2 = 0) → (
        Q (some (-2)) h1
      ))))) :
  AM d m_X7_rounds [(.inr (some 104)), (.inl x1)] h Q := by
  refine am_body mo_X7_rounds (Nat.le_of_ble_eq_true rfl) ?_
  show AW m_X7_rounds d none Q 0 [some (.inr (some 104)), some (.inl x1)] [] h (0, 0)
  obtain ⟨ko104, ro104_z, ko104_z, ro104_spare, ko104_spare, ro104_past, ko104_past, ro104_kept, ko104_kept, ro104_text, ko104_text, ro104_stack, ko104_stack, ro104_drew, ko104_drew, ro104_drawn, ko104_drawn, ro104_signs, ko104_signs, ro104_numbers, ko104_numbers⟩ := id hL
  refine aw_iload_n (pc := 0) dX7_rounds_0 rfl ?_
  refine aw_invS (pc := 1) (md' := m_X7_isSlots) (as := [(.inl x1)]) dX7_rounds_1 mo_X7_isSlots sm_X7_isSlots ml_X7_149 rfl rfl hd (Nat.le_of_ble_eq_true rfl) (Nat.le_of_ble_eq_true rfl) (Nat.le_of_ble_eq_true rfl) ?_
  refine am_mono g (fun _ h1 _ ok_h1 g => ?_)
  obtain ⟨v2, rfl, ss_h1, g⟩ := g
  replace hL := QZ.ss hL ss_h1
  obtain ⟨ko104, ro104_z, ko104_z, ro104_spare, ko104_spare, ro104_past, ko104_past, ro104_kept, ko104_kept, ro104_text, ko104_text, ro104_stack, ko104_stack, ro104_drew, ko104_drew, ro104_drawn, ko104_drawn, ro104_signs, ko104_signs, ro104_numbers, ko104_numbers⟩ := id hL
  show AW m_X7_rounds d none Q 4 [some (.inr (some 104)), some (.inl x1)] [(.inl v2)] h1 (0, 0)
  refine aw_if_ne (pc := 4) (tgt := 10) dX7_rounds_4 (by decide) (fun c3 => ?_) (fun c3 => ?_)
  · replace g := g.1 c3
    refine aw_aload_n (pc := 10) dX7_rounds_10 rfl ?_
    refine aw_invV (pc := 11) (md' := m_X7_record) (ci := 7) (as := []) dX7_rounds_11 mo_X7_record im_X7_record se_X7_record ml_X7_60 rfl ko104 rfl hd (Nat.le_of_ble_eq_true rfl) (Nat.le_of_ble_eq_true rfl) (Nat.le_of_ble_eq_true rfl) ?_
    refine am_mono g (fun _ h4 _ ok_h4 g => ?_)
    obtain ⟨rfl, ss_h4, g⟩ := g
    replace hL := QZ.ss hL ss_h4
    obtain ⟨ko104, ro104_z, ko104_z, ro104_spare, ko104_spare, ro104_past, ko104_past, ro104_kept, ko104_kept, ro104_text, ko104_text, ro104_stack, ko104_stack, ro104_drew, ko104_drew, ro104_drawn, ko104_drawn, ro104_signs, ko104_signs, ro104_numbers, ko104_numbers⟩ := id hL
    show AW m_X7_rounds d none Q 14 [some (.inr (some 104)), some (.inl x1)] [] h4 (0, 0)
    refine aw_aload_n (pc := 14) dX7_rounds_14 rfl ?_
    refine aw_iload_n (pc := 15) dX7_rounds_15 rfl ?_
    refine aw_invV (pc := 16) (md' := m_X7_roundsNow) (ci := 7) (as := [(.inl x1)]) dX7_rounds_16 mo_X7_roundsNow im_X7_roundsNow se_X7_roundsNow ml_X7_160 rfl ko104 rfl hd (Nat.le_of_ble_eq_true rfl) (Nat.le_of_ble_eq_true rfl) (Nat.le_of_ble_eq_true rfl) ?_
    refine am_mono g (fun _ h5 _ ok_h5 g => ?_)
    obtain ⟨v6, rfl, ss_h5, g⟩ := g
    replace hL := QZ.ss hL ss_h5
    obtain ⟨ko104, ro104_z, ko104_z, ro104_spare, ko104_spare, ro104_past, ko104_past, ro104_kept, ko104_kept, ro104_text, ko104_text, ro104_stack, ko104_stack, ro104_drew, ko104_drew, ro104_drawn, ko104_drawn, ro104_signs, ko104_signs, ro104_numbers, ko104_numbers⟩ := id hL
    show AW m_X7_rounds d none Q 19 [some (.inr (some 104)), some (.inl x1)] [(.inl v6)] h5 (0, 0)
    exact ax_ireturn (pc := 19) dX7_rounds_19 rfl g (by decide) (by decide)
  · replace g := g.2 c3
    refine aw_bipush (pc := 7) dX7_rounds_7 ?_
    exact ax_ireturn (pc := 9) dX7_rounds_9 rfl g (by decide) (by decide)
set_option maxRecDepth 100000 in
set_option maxHeartbeats 4000000 in
theorem vc_X7_type {d : Nat} {Q : Option Int → AH → Prop} {h : AH} {x1 : Int} (hL : QZ h)
  (g :
    ((¬ hi h 104 7 = 60 → (
      (0 ≤ hi h 104 7 ∧ hi h 104 7 < 60) ∧
      (rg ((hi h 104 7) + 1)) ∧
      Q (some ((hi h 104 7) + 1)) (up (up h 109 (hi h 104 7) x1) 104 7 ((hi h 104 7) + 1))
    )) ∧
    (¬ (¬ hi h 104 7 = 60) → (
      Q (some (-3)) h
    )))) :
  AM d m_X7_type [(.inr (some 104)), (.inl x1)] h Q := by
  refine am_body mo_X7_type (Nat.le_of_ble_eq_true rfl) ?_
  show AW m_X7_type d none Q 0 [some (.inr (some 104)), some (.inl x1)] [] h (0, 0)
  obtain ⟨ko104, ro104_z, ko104_z, ro104_spare, ko104_spare, ro104_past, ko104_past, ro104_kept, ko104_kept, ro104_text, ko104_text, ro104_stack, ko104_stack, ro104_drew, ko104_drew, ro104_drawn, ko104_drawn, ro104_signs, ko104_signs, ro104_numbers, ko104_numbers⟩ := id hL
  refine aw_aload_n (pc := 0) dX7_type_0 rfl ?_
  refine ax_geti (pc := 1) (v := hi h 104 7) dX7_type_1 fl_X7_163 (by decide) rfl ko104 rfl ?_
  refine aw_bipush (pc := 4) dX7_type_4 ?_
  refine aw_icmp_ne (pc := 6) (tgt := 12) dX7_type_6 (by decide) (fun c1 => ?_) (fun c1 => ?_)
  · replace g := g.1 c1
    refine aw_aload_n (pc := 12) dX7_type_12 rfl ?_
    refine aw_getr (pc := 13) (r := some 109) dX7_type_13 fl_X7_22 (by decide) rfl ko104 ro104_text ?_
    refine aw_aload_n (pc := 16) dX7_type_16 rfl ?_
    refine ax_geti (pc := 17) (v := hi h 104 7) dX7_type_17 fl_X7_163 (by decide) rfl ko104 rfl ?_
    refine aw_iload_n (pc := 20) dX7_type_20 rfl ?_
    obtain ⟨s2, g⟩ := g
    refine ax_iastore (pc := 21) (n := 60) dX7_type_21 ko104_text s2 ?_
    refine aw_aload_n (pc := 22) dX7_type_22 rfl ?_
    refine aw_dup (pc := 23) dX7_type_23 ?_
    refine ax_geti (pc := 24) (v := hi h 104 7) dX7_type_24 fl_X7_163 (by decide) rfl (hkU ko104) (hiN (Or.inl (by omega)) rfl) ?_
    refine aw_iconst (pc := 27) dX7_type_27 ?_
    obtain ⟨s3, g⟩ := g
    refine ax_iadd (pc := 28) (v := (hi h 104 7) + 1) dX7_type_28 s3 rfl ?_
    refine ax_puti (pc := 29) dX7_type_29 fl_X7_163 (by decide) rfl rfl rfl (hkU ko104) ?_
    refine aw_aload_n (pc := 32) dX7_type_32 rfl ?_
    refine ax_geti (pc := 33) (v := (hi h 104 7) + 1) dX7_type_33 fl_X7_163 (by decide) rfl (hkU (hkU ko104)) hiE ?_
    exact ax_ireturn (pc := 36) dX7_type_36 rfl g (by decide) (by decide)
  · replace g := g.2 c1
    refine aw_bipush (pc := 9) dX7_type_9 ?_
    exact ax_ireturn (pc := 11) dX7_type_11 rfl g (by decide) (by decide)
set_option maxRecDepth 100000 in
set_option maxHeartbeats 4000000 in
theorem vc_X7_clearText {d : Nat} {Q : Option Int → AH → Prop} {h : AH}  (hL : QZ h)
  (g :
    Q (some (hi h 104 7)) (up h 104 7 0)) :
  AM d m_X7_clearText [(.inr (some 104))] h Q := by
  refine am_body mo_X7_clearText (Nat.le_of_ble_eq_true rfl) ?_
  show AW m_X7_clearText d none Q 0 [some (.inr (some 104)), none] [] h (0, 0)
  obtain ⟨ko104, ro104_z, ko104_z, ro104_spare, ko104_spare, ro104_past, ko104_past, ro104_kept, ko104_kept, ro104_text, ko104_text, ro104_stack, ko104_stack, ro104_drew, ko104_drew, ro104_drawn, ko104_drawn, ro104_signs, ko104_signs, ro104_numbers, ko104_numbers⟩ := id hL
  refine aw_aload_n (pc := 0) dX7_clearText_0 rfl ?_
  refine ax_geti (pc := 1) (v := hi h 104 7) dX7_clearText_1 fl_X7_163 (by decide) rfl ko104 rfl ?_
  refine ax_istore_n (pc := 4) (ls' := [some (.inr (some 104)), some (.inl (hi h 104 7))]) dX7_clearText_4 (Nat.le_of_ble_eq_true rfl) rfl ?_
  refine aw_aload_n (pc := 5) dX7_clearText_5 rfl ?_
  refine aw_iconst (pc := 6) dX7_clearText_6 ?_
  refine ax_puti (pc := 7) dX7_clearText_7 fl_X7_163 (by decide) rfl rfl rfl ko104 ?_
  refine aw_iload_n (pc := 10) dX7_clearText_10 rfl ?_
  exact ax_ireturn (pc := 11) dX7_clearText_11 rfl g (by decide) (by decide)
set_option maxRecDepth 100000 in
set_option maxHeartbeats 4000000 in
theorem vc_X7_sees {d : Nat} {Q : Option Int → AH → Prop} {h : AH} {x1 x2 : Int} (hd : 1 ≤ d) (hL : QZ h)
  (g :
    ((hi h 104 7 ≤ hi h 104 19 → (
      Q (some 0) h
    )) ∧
    (¬ (hi h 104 7 ≤ hi h 104 19) → (
      (0 ≤ hi h 104 19 ∧ hi h 104 19 < 60) ∧
      AM (d - 1) m_X7_in [(.inl (hi h 109 (hi h 104 19))), (.inl x1), (.inl x2)] h (fun r h3 => 
        ∃ v4, r = some v4 ∧ SS h h3 ∧
        ((v4 = 0 → (
          Q (some 0) h3
        )) ∧
        (¬ (v4 = 0) → (
          Q (some 1) h3
        ))))
    )))) :
  AM d m_X7_sees [(.inr (some 104)), (.inl x1), (.inl x2)] h Q := by
  refine am_body mo_X7_sees (Nat.le_of_ble_eq_true rfl) ?_
  show AW m_X7_sees d none Q 0 [some (.inr (some 104)), some (.inl x1), some (.inl x2)] [] h (0, 0)
  obtain ⟨ko104, ro104_z, ko104_z, ro104_spare, ko104_spare, ro104_past, ko104_past, ro104_kept, ko104_kept, ro104_text, ko104_text, ro104_stack, ko104_stack, ro104_drew, ko104_drew, ro104_drawn, ko104_drawn, ro104_signs, ko104_signs, ro104_numbers, ko104_numbers⟩ := id hL
  refine aw_aload_n (pc := 0) dX7_sees_0 rfl ?_
  refine ax_geti (pc := 1) (v := hi h 104 19) dX7_sees_1 fl_X7_166 (by decide) rfl ko104 rfl ?_
  refine aw_aload_n (pc := 4) dX7_sees_4 rfl ?_
  refine ax_geti (pc := 5) (v := hi h 104 7) dX7_sees_5 fl_X7_163 (by decide) rfl ko104 rfl ?_
  refine aw_icmp_ge (pc := 8) (tgt := 32) dX7_sees_8 (by decide) (fun c1 => ?_) (fun c1 => ?_)
  · replace g := g.1 c1
    refine aw_iconst (pc := 32) dX7_sees_32 ?_
    exact aw_ireturn (pc := 33) dX7_sees_33 (by simp [okr]) g (by decide) (by decide)
  · replace g := g.2 c1
    refine aw_aload_n (pc := 11) dX7_sees_11 rfl ?_
    refine aw_getr (pc := 12) (r := some 109) dX7_sees_12 fl_X7_22 (by decide) rfl ko104 ro104_text ?_
    refine aw_aload_n (pc := 15) dX7_sees_15 rfl ?_
    refine ax_geti (pc := 16) (v := hi h 104 19) dX7_sees_16 fl_X7_166 (by decide) rfl ko104 rfl ?_
    obtain ⟨s2, g⟩ := g
    refine ax_iaload (pc := 19) (n := 60) (v := hi h 109 (hi h 104 19)) dX7_sees_19 ko104_text s2 rfl ?_
    refine aw_iload_n (pc := 20) dX7_sees_20 rfl ?_
    refine aw_iload_n (pc := 21) dX7_sees_21 rfl ?_
    refine aw_invS (pc := 22) (md' := m_X7_in) (as := [(.inl (hi h 109 (hi h 104 19))), (.inl x1), (.inl x2)]) dX7_sees_22 mo_X7_in sm_X7_in ml_X7_63 rfl rfl hd (Nat.le_of_ble_eq_true rfl) (Nat.le_of_ble_eq_true rfl) (Nat.le_of_ble_eq_true rfl) ?_
    refine am_mono g (fun _ h3 _ ok_h3 g => ?_)
    obtain ⟨v4, rfl, ss_h3, g⟩ := g
    replace hL := QZ.ss hL ss_h3
    obtain ⟨ko104, ro104_z, ko104_z, ro104_spare, ko104_spare, ro104_past, ko104_past, ro104_kept, ko104_kept, ro104_text, ko104_text, ro104_stack, ko104_stack, ro104_drew, ko104_drew, ro104_drawn, ko104_drawn, ro104_signs, ko104_signs, ro104_numbers, ko104_numbers⟩ := id hL
    show AW m_X7_sees d none Q 25 [some (.inr (some 104)), some (.inl x1), some (.inl x2)] [(.inl v4)] h3 (0, 0)
    refine aw_if_eq (pc := 25) (tgt := 32) dX7_sees_25 (by decide) (fun c5 => ?_) (fun c5 => ?_)
    · replace g := g.1 c5
      refine aw_iconst (pc := 32) dX7_sees_32 ?_
      exact aw_ireturn (pc := 33) dX7_sees_33 (by simp [okr]) g (by decide) (by decide)
    · replace g := g.2 c5
      refine aw_iconst (pc := 28) dX7_sees_28 ?_
      refine aw_goto (pc := 29) (tgt := 33) dX7_sees_29 (by decide) ?_
      exact aw_ireturn (pc := 33) dX7_sees_33 (by simp [okr]) g (by decide) (by decide)
set_option maxRecDepth 100000 in
set_option maxHeartbeats 4000000 in
theorem vc_X7_takes {d : Nat} {Q : Option Int → AH → Prop} {h : AH} {x1 : Int} (hd : 1 ≤ d) (hL : QZ h)
  (g :
    AM (d - 1) m_X7_sees [(.inr (some 104)), (.inl x1), (.inl x1)] h (fun r h1 => 
      ∃ v2, r = some v2 ∧ SS h h1 ∧
      ((v2 = 0 → (
        (rg ((hi h1 104 19) + 0)) ∧
        (v2 = 0 ∨ v2 = 1) ∧
        Q (some v2) (up h1 104 19 ((hi h1 104 19) + 0))
      )) ∧
      (¬ (v2 = 0) → (
        (rg ((hi h1 104 19) + 1)) ∧
        (v2 = 0 ∨ v2 = 1) ∧
        Q (some v2) (up h1 104 19 ((hi h1 104 19) + 1))
      ))))) :
  AM d m_X7_takes [(.inr (some 104)), (.inl x1)] h Q := by
  refine am_body mo_X7_takes (Nat.le_of_ble_eq_true rfl) ?_
  show AW m_X7_takes d none Q 0 [some (.inr (some 104)), some (.inl x1), none] [] h (0, 0)
  obtain ⟨ko104, ro104_z, ko104_z, ro104_spare, ko104_spare, ro104_past, ko104_past, ro104_kept, ko104_kept, ro104_text, ko104_text, ro104_stack, ko104_stack, ro104_drew, ko104_drew, ro104_drawn, ko104_drawn, ro104_signs, ko104_signs, ro104_numbers, ko104_numbers⟩ := id hL
  refine aw_aload_n (pc := 0) dX7_takes_0 rfl ?_
  refine aw_iload_n (pc := 1) dX7_takes_1 rfl ?_
  refine aw_iload_n (pc := 2) dX7_takes_2 rfl ?_
  refine aw_invV (pc := 3) (md' := m_X7_sees) (ci := 7) (as := [(.inl x1), (.inl x1)]) dX7_takes_3 mo_X7_sees im_X7_sees se_X7_sees ml_X7_169 rfl ko104 rfl hd (Nat.le_of_ble_eq_true rfl) (Nat.le_of_ble_eq_true rfl) (Nat.le_of_ble_eq_true rfl) ?_
  refine am_mono g (fun _ h1 _ ok_h1 g => ?_)
  obtain ⟨v2, rfl, ss_h1, g⟩ := g
  replace hL := QZ.ss hL ss_h1
  obtain ⟨ko104, ro104_z, ko104_z, ro104_spare, ko104_spare, ro104_past, ko104_past, ro104_kept, ko104_kept, ro104_text, ko104_text, ro104_stack, ko104_stack, ro104_drew, ko104_drew, ro104_drawn, ko104_drawn, ro104_signs, ko104_signs, ro104_numbers, ko104_numbers⟩ := id hL
  show AW m_X7_takes d none Q 6 [some (.inr (some 104)), some (.inl x1), none] [(.inl v2)] h1 (0, 0)
  refine ax_istore_n (pc := 6) (ls' := [some (.inr (some 104)), some (.inl x1), some (.inl v2)]) dX7_takes_6 (Nat.le_of_ble_eq_true rfl) rfl ?_
  refine aw_aload_n (pc := 7) dX7_takes_7 rfl ?_
  refine aw_dup (pc := 8) dX7_takes_8 ?_
  refine ax_geti (pc := 9) (v := hi h1 104 19) dX7_takes_9 fl_X7_166 (by decide) rfl ko104 rfl ?_
  refine aw_iload_n (pc := 12) dX7_takes_12 rfl ?_
  refine aw_if_eq (pc := 13) (tgt := 20) dX7_takes_13 (by decide) (fun c3 => ?_) (fun c3 => ?_)
  · replace g := g.1 c3
    refine aw_iconst (pc := 20) dX7_takes_20 ?_
    obtain ⟨s4, g⟩ := g
    refine ax_iadd (pc := 21) (v := (hi h1 104 19) + 0) dX7_takes_21 s4 rfl ?_
    refine ax_puti (pc := 22) dX7_takes_22 fl_X7_166 (by decide) rfl rfl rfl ko104 ?_
    refine aw_iload_n (pc := 25) dX7_takes_25 rfl ?_
    obtain ⟨s5, g⟩ := g
    exact aw_ireturn (pc := 26) dX7_takes_26 s5 g (by decide) (by decide)
  · replace g := g.2 c3
    refine aw_iconst (pc := 16) dX7_takes_16 ?_
    refine aw_goto (pc := 17) (tgt := 21) dX7_takes_17 (by decide) ?_
    obtain ⟨s6, g⟩ := g
    refine ax_iadd (pc := 21) (v := (hi h1 104 19) + 1) dX7_takes_21 s6 rfl ?_
    refine ax_puti (pc := 22) dX7_takes_22 fl_X7_166 (by decide) rfl rfl rfl ko104 ?_
    refine aw_iload_n (pc := 25) dX7_takes_25 rfl ?_
    obtain ⟨s7, g⟩ := g
    exact aw_ireturn (pc := 26) dX7_takes_26 s7 g (by decide) (by decide)
set_option maxRecDepth 100000 in
set_option maxHeartbeats 4000000 in
theorem vc_X7_number {d : Nat} {Q : Option Int → AH → Prop} {h : AH} {x1 x2 : Int} (hd : 1 ≤ d) (hL : QZ h)
  (g :
    (rg (48 + x1)) ∧
    AM (d - 1) m_X7_sees [(.inr (some 104)), (.inl (48 + x1)), (.inl 57)] h (fun r h2 => 
      ∃ v3, r = some v3 ∧ SS h h2 ∧
      ((¬ v3 = 0 → (
        (0 ≤ hi h2 104 19 ∧ hi h2 104 19 < 60) ∧
        (rg ((hi h2 109 (hi h2 104 19)) - 48)) ∧
        (rg ((hi h2 104 19) + 1)) ∧
        AW m_X7_number d none Q 39 [some (.inr (some 104)), some (.inl x1), some (.inl x2), some (.inl ((hi h2 109 (hi h2 104 19)) - 48))] [] (up h2 104 19 ((hi h2 104 19) + 1)) (0, 0)
      )) ∧
      (¬ (¬ v3 = 0) → (
        Q (some (-5)) h2
      ))))) :
  AM d m_X7_number [(.inr (some 104)), (.inl x1), (.inl x2)] h Q := by
  refine am_body mo_X7_number (Nat.le_of_ble_eq_true rfl) ?_
  show AW m_X7_number d none Q 0 [some (.inr (some 104)), some (.inl x1), some (.inl x2), none] [] h (0, 0)
  obtain ⟨ko104, ro104_z, ko104_z, ro104_spare, ko104_spare, ro104_past, ko104_past, ro104_kept, ko104_kept, ro104_text, ko104_text, ro104_stack, ko104_stack, ro104_drew, ko104_drew, ro104_drawn, ko104_drawn, ro104_signs, ko104_signs, ro104_numbers, ko104_numbers⟩ := id hL
  refine aw_aload_n (pc := 0) dX7_number_0 rfl ?_
  refine aw_bipush (pc := 1) dX7_number_1 ?_
  refine aw_iload_n (pc := 3) dX7_number_3 rfl ?_
  obtain ⟨s1, g⟩ := g
  refine ax_iadd (pc := 4) (v := 48 + x1) dX7_number_4 s1 rfl ?_
  refine aw_bipush (pc := 5) dX7_number_5 ?_
  refine aw_invV (pc := 7) (md' := m_X7_sees) (ci := 7) (as := [(.inl (48 + x1)), (.inl 57)]) dX7_number_7 mo_X7_sees im_X7_sees se_X7_sees ml_X7_169 rfl ko104 rfl hd (Nat.le_of_ble_eq_true rfl) (Nat.le_of_ble_eq_true rfl) (Nat.le_of_ble_eq_true rfl) ?_
  refine am_mono g (fun _ h2 _ ok_h2 g => ?_)
  obtain ⟨v3, rfl, ss_h2, g⟩ := g
  replace hL := QZ.ss hL ss_h2
  obtain ⟨ko104, ro104_z, ko104_z, ro104_spare, ko104_spare, ro104_past, ko104_past, ro104_kept, ko104_kept, ro104_text, ko104_text, ro104_stack, ko104_stack, ro104_drew, ko104_drew, ro104_drawn, ko104_drawn, ro104_signs, ko104_signs, ro104_numbers, ko104_numbers⟩ := id hL
  show AW m_X7_number d none Q 10 [some (.inr (some 104)), some (.inl x1), some (.inl x2), none] [(.inl v3)] h2 (0, 0)
  refine aw_if_ne (pc := 10) (tgt := 16) dX7_number_10 (by decide) (fun c4 => ?_) (fun c4 => ?_)
  · replace g := g.1 c4
    refine aw_aload_n (pc := 16) dX7_number_16 rfl ?_
    refine aw_getr (pc := 17) (r := some 109) dX7_number_17 fl_X7_22 (by decide) rfl ko104 ro104_text ?_
    refine aw_aload_n (pc := 20) dX7_number_20 rfl ?_
    refine ax_geti (pc := 21) (v := hi h2 104 19) dX7_number_21 fl_X7_166 (by decide) rfl ko104 rfl ?_
    obtain ⟨s5, g⟩ := g
    refine ax_iaload (pc := 24) (n := 60) (v := hi h2 109 (hi h2 104 19)) dX7_number_24 ko104_text s5 rfl ?_
    refine aw_bipush (pc := 25) dX7_number_25 ?_
    obtain ⟨s6, g⟩ := g
    refine ax_isub (pc := 27) (v := (hi h2 109 (hi h2 104 19)) - 48) dX7_number_27 s6 rfl ?_
    refine ax_istore_n (pc := 28) (ls' := [some (.inr (some 104)), some (.inl x1), some (.inl x2), some (.inl ((hi h2 109 (hi h2 104 19)) - 48))]) dX7_number_28 (Nat.le_of_ble_eq_true rfl) rfl ?_
    refine aw_aload_n (pc := 29) dX7_number_29 rfl ?_
    refine aw_dup (pc := 30) dX7_number_30 ?_
    refine ax_geti (pc := 31) (v := hi h2 104 19) dX7_number_31 fl_X7_166 (by decide) rfl ko104 rfl ?_
    refine aw_iconst (pc := 34) dX7_number_34 ?_
    obtain ⟨s7, g⟩ := g
    refine ax_iadd (pc := 35) (v := (hi h2 104 19) + 1) dX7_number_35 s7 rfl ?_
    refine ax_puti (pc := 36) dX7_number_36 fl_X7_166 (by decide) rfl rfl rfl ko104 ?_
    exact g
  · replace g := g.2 c4
    refine aw_bipush (pc := 13) dX7_number_13 ?_
    exact ax_ireturn (pc := 15) dX7_number_15 rfl g (by decide) (by decide)
set_option maxRecDepth 100000 in
set_option maxHeartbeats 4000000 in
theorem vc_X7_number_39 {d : Nat} {Q : Option Int → AH → Prop} {h : AH} {x1 x2 x3 : Int} (hd : 1 ≤ d) (hL : QZ h)
  (g :
    ((x3 ≤ 0 → (
      Q (some x3) h
    )) ∧
    (¬ (x3 ≤ 0) → (
      AM (d - 1) m_X7_sees [(.inr (some 104)), (.inl 48), (.inl 57)] h (fun r h9 => 
        ∃ v10, r = some v10 ∧ SS h h9 ∧
        ((v10 = 0 → (
          Q (some x3) h9
        )) ∧
        (¬ (v10 = 0) → (
          (rg (10 * x3)) ∧
          (0 ≤ hi h9 104 19 ∧ hi h9 104 19 < 60) ∧
          (rg ((10 * x3) + (hi h9 109 (hi h9 104 19)))) ∧
          (rg (((10 * x3) + (hi h9 109 (hi h9 104 19))) - 48)) ∧
          ((x2 < ((10 * x3) + (hi h9 109 (hi h9 104 19))) - 48 → (
            Q (some x3) h9
          )) ∧
          (¬ (x2 < ((10 * x3) + (hi h9 109 (hi h9 104 19))) - 48) → (
            (rg ((hi h9 104 19) + 1)) ∧
            AW m_X7_number d none Q 39 [some (.inr (some 104)), some (.inl x1), some (.inl x2), some (.inl (((10 * x3) + (hi h9 109 (hi h9 104 19))) - 48))] [] (up h9 104 19 ((hi h9 104 19) + 1)) (0, 0)
          )))
        ))))
    )))) :
  AW m_X7_number d none Q 39 [some (.inr (some 104)), some (.inl x1), some (.inl x2), some (.inl x3)] [] h (0, 0) := by
  obtain ⟨ko104, ro104_z, ko104_z, ro104_spare, ko104_spare, ro104_past, ko104_past, ro104_kept, ko104_kept, ro104_text, ko104_text, ro104_stack, ko104_stack, ro104_drew, ko104_drew, ro104_drawn, ko104_drawn, ro104_signs, ko104_signs, ro104_numbers, ko104_numbers⟩ := id hL
  refine aw_iload_n (pc := 39) dX7_number_39 rfl ?_
  refine aw_if_le (pc := 40) (tgt := 106) dX7_number_40 (by decide) (fun c8 => ?_) (fun c8 => ?_)
  · replace g := g.1 c8
    refine aw_iload_n (pc := 106) dX7_number_106 rfl ?_
    exact ax_ireturn (pc := 107) dX7_number_107 rfl g (by decide) (by decide)
  · replace g := g.2 c8
    refine aw_aload_n (pc := 43) dX7_number_43 rfl ?_
    refine aw_bipush (pc := 44) dX7_number_44 ?_
    refine aw_bipush (pc := 46) dX7_number_46 ?_
    refine aw_invV (pc := 48) (md' := m_X7_sees) (ci := 7) (as := [(.inl 48), (.inl 57)]) dX7_number_48 mo_X7_sees im_X7_sees se_X7_sees ml_X7_169 rfl ko104 rfl hd (Nat.le_of_ble_eq_true rfl) (Nat.le_of_ble_eq_true rfl) (Nat.le_of_ble_eq_true rfl) ?_
    refine am_mono g (fun _ h9 _ ok_h9 g => ?_)
    obtain ⟨v10, rfl, ss_h9, g⟩ := g
    replace hL := QZ.ss hL ss_h9
    obtain ⟨ko104, ro104_z, ko104_z, ro104_spare, ko104_spare, ro104_past, ko104_past, ro104_kept, ko104_kept, ro104_text, ko104_text, ro104_stack, ko104_stack, ro104_drew, ko104_drew, ro104_drawn, ko104_drawn, ro104_signs, ko104_signs, ro104_numbers, ko104_numbers⟩ := id hL
    show AW m_X7_number d none Q 51 [some (.inr (some 104)), some (.inl x1), some (.inl x2), some (.inl x3)] [(.inl v10)] h9 (0, 0)
    refine aw_if_eq (pc := 51) (tgt := 106) dX7_number_51 (by decide) (fun c11 => ?_) (fun c11 => ?_)
    · replace g := g.1 c11
      refine aw_iload_n (pc := 106) dX7_number_106 rfl ?_
      exact ax_ireturn (pc := 107) dX7_number_107 rfl g (by decide) (by decide)
    · replace g := g.2 c11
      refine aw_bipush (pc := 54) dX7_number_54 ?_
      refine aw_iload_n (pc := 56) dX7_number_56 rfl ?_
      obtain ⟨s12, g⟩ := g
      refine ax_imul (pc := 57) (v := 10 * x3) dX7_number_57 s12 rfl ?_
      refine aw_aload_n (pc := 58) dX7_number_58 rfl ?_
      refine aw_getr (pc := 59) (r := some 109) dX7_number_59 fl_X7_22 (by decide) rfl ko104 ro104_text ?_
      refine aw_aload_n (pc := 62) dX7_number_62 rfl ?_
      refine ax_geti (pc := 63) (v := hi h9 104 19) dX7_number_63 fl_X7_166 (by decide) rfl ko104 rfl ?_
      obtain ⟨s13, g⟩ := g
      refine ax_iaload (pc := 66) (n := 60) (v := hi h9 109 (hi h9 104 19)) dX7_number_66 ko104_text s13 rfl ?_
      obtain ⟨s14, g⟩ := g
      refine ax_iadd (pc := 67) (v := (10 * x3) + (hi h9 109 (hi h9 104 19))) dX7_number_67 s14 rfl ?_
      refine aw_bipush (pc := 68) dX7_number_68 ?_
      obtain ⟨s15, g⟩ := g
      refine ax_isub (pc := 70) (v := ((10 * x3) + (hi h9 109 (hi h9 104 19))) - 48) dX7_number_70 s15 rfl ?_
      refine aw_iload_n (pc := 71) dX7_number_71 rfl ?_
      refine aw_icmp_gt (pc := 72) (tgt := 106) dX7_number_72 (by decide) (fun c16 => ?_) (fun c16 => ?_)
      · replace g := g.1 c16
        refine aw_iload_n (pc := 106) dX7_number_106 rfl ?_
        exact ax_ireturn (pc := 107) dX7_number_107 rfl g (by decide) (by decide)
      · replace g := g.2 c16
        refine aw_bipush (pc := 75) dX7_number_75 ?_
        refine aw_iload_n (pc := 77) dX7_number_77 rfl ?_
        refine ax_imul (pc := 78) (v := 10 * x3) dX7_number_78 s12 rfl ?_
        refine aw_aload_n (pc := 79) dX7_number_79 rfl ?_
        refine aw_getr (pc := 80) (r := some 109) dX7_number_80 fl_X7_22 (by decide) rfl ko104 ro104_text ?_
        refine aw_aload_n (pc := 83) dX7_number_83 rfl ?_
        refine ax_geti (pc := 84) (v := hi h9 104 19) dX7_number_84 fl_X7_166 (by decide) rfl ko104 rfl ?_
        refine ax_iaload (pc := 87) (n := 60) (v := hi h9 109 (hi h9 104 19)) dX7_number_87 ko104_text s13 rfl ?_
        refine ax_iadd (pc := 88) (v := (10 * x3) + (hi h9 109 (hi h9 104 19))) dX7_number_88 s14 rfl ?_
        refine aw_bipush (pc := 89) dX7_number_89 ?_
        refine ax_isub (pc := 91) (v := ((10 * x3) + (hi h9 109 (hi h9 104 19))) - 48) dX7_number_91 s15 rfl ?_
        refine ax_istore_n (pc := 92) (ls' := [some (.inr (some 104)), some (.inl x1), some (.inl x2), some (.inl (((10 * x3) + (hi h9 109 (hi h9 104 19))) - 48))]) dX7_number_92 (Nat.le_of_ble_eq_true rfl) rfl ?_
        refine aw_aload_n (pc := 93) dX7_number_93 rfl ?_
        refine aw_dup (pc := 94) dX7_number_94 ?_
        refine ax_geti (pc := 95) (v := hi h9 104 19) dX7_number_95 fl_X7_166 (by decide) rfl ko104 rfl ?_
        refine aw_iconst (pc := 98) dX7_number_98 ?_
        obtain ⟨s17, g⟩ := g
        refine ax_iadd (pc := 99) (v := (hi h9 104 19) + 1) dX7_number_99 s17 rfl ?_
        refine ax_puti (pc := 100) dX7_number_100 fl_X7_166 (by decide) rfl rfl rfl ko104 ?_
        refine aw_goto (pc := 103) (tgt := 39) dX7_number_103 (by decide) ?_
        exact g
set_option maxRecDepth 100000 in
set_option maxHeartbeats 4000000 in
theorem vc_X7_readOrder {d : Nat} {Q : Option Int → AH → Prop} {h : AH}  (hd : 1 ≤ d) (hL : QZ h)
  (g :
    ((hi h 104 7 ≤ hi h 104 19 → (
      Q (some 0) h
    )) ∧
    (¬ (hi h 104 7 ≤ hi h 104 19) → (
      (0 ≤ hi h 104 19 ∧ hi h 104 19 < 60) ∧
      ((hi h 109 (hi h 104 19) = 43 → (
        (rg ((hi h 104 19) + 1)) ∧
        AM (d - 1) m_X7_number [(.inr (some 104)), (.inl 0), (.inl 255)] (up h 104 19 ((hi h 104 19) + 1)) (fun r h15 => 
          ∃ v16, r = some v16 ∧ SS (up h 104 19 ((hi h 104 19) + 1)) h15 ∧
          ((¬ v16 = -5 → (
            (0 ≤ hi h15 104 18 ∧ hi h15 104 18 < 31) ∧
            (rg ((hi h15 104 18) + 1)) ∧
            Q (some 1) (up (up (up h15 113 (hi h15 104 18) (hi h 109 (hi h 104 19))) 114 (hi h15 104 18) v16) 104 18 ((hi h15 104 18) + 1))
          )) ∧
          (¬ (¬ v16 = -5) → (
            Q (some 0) h15
          ))))
      )) ∧
      (¬ (hi h 109 (hi h 104 19) = 43) → (
        ((hi h 109 (hi h 104 19) = 45 → (
          (rg ((hi h 104 19) + 1)) ∧
          AM (d - 1) m_X7_number [(.inr (some 104)), (.inl 0), (.inl 255)] (up h 104 19 ((hi h 104 19) + 1)) (fun r h24 => 
            ∃ v25, r = some v25 ∧ SS (up h 104 19 ((hi h 104 19) + 1)) h24 ∧
            ((¬ v25 = -5 → (
              (0 ≤ hi h24 104 18 ∧ hi h24 104 18 < 31) ∧
              (rg ((hi h24 104 18) + 1)) ∧
              Q (some 1) (up (up (up h24 113 (hi h24 104 18) (hi h 109 (hi h 104 19))) 114 (hi h24 104 18) v25) 104 18 ((hi h24 104 18) + 1))
            )) ∧
            (¬ (¬ v25 = -5) → (
              Q (some 0) h24
            ))))
        )) ∧
        (¬ (hi h 109 (hi h 104 19) = 45) → (
          ((¬ hi h 109 (hi h 104 19) = 122 → (
            ((hi h 109 (hi h 104 19) = 119 → (
              (rg ((hi h 104 19) + 1)) ∧
              (0 ≤ hi h 104 18 ∧ hi h 104 18 < 31) ∧
              (rg ((hi h 104 18) + 1)) ∧
              Q (some 1) (up (up (up (up h 104 19 ((hi h 104 19) + 1)) 113 (hi h 104 18) (hi h 109 (hi h 104 19))) 114 (hi h 104 18) 0) 104 18 ((hi h 104 18) + 1))
            )) ∧
            (¬ (hi h 109 (hi h 104 19) = 119) → (
              ((hi h 109 (hi h 104 19) = 118 → (
                (rg ((hi h 104 19) + 1)) ∧
                (0 ≤ hi h 104 18 ∧ hi h 104 18 < 31) ∧
                (rg ((hi h 104 18) + 1)) ∧
                Q (some 1) (up (up (up (up h 104 19 ((hi h 104 19) + 1)) 113 (hi h 104 18) (hi h 109 (hi h 104 19))) 114 (hi h 104 18) 0) 104 18 ((hi h 104 18) + 1))
              )) ∧
              (¬ (hi h 109 (hi h 104 19) = 118) → (
                ((hi h 109 (hi h 104 19) = 97 → (
                  (rg ((hi h 104 19) + 1)) ∧
                  (0 ≤ hi h 104 18 ∧ hi h 104 18 < 31) ∧
                  (rg ((hi h 104 18) + 1)) ∧
                  Q (some 1) (up (up (up (up h 104 19 ((hi h 104 19) + 1)) 113 (hi h 104 18) (hi h 109 (hi h 104 19))) 114 (hi h 104 18) 0) 104 18 ((hi h 104 18) + 1))
                )) ∧
                (¬ (hi h 109 (hi h 104 19) = 97) → (
                  ((hi h 109 (hi h 104 19) = 102 → (
                    (rg ((hi h 104 19) + 1)) ∧
                    AM (d - 1) m_X7_number [(.inr (some 104)), (.inl 1), (.inl 64)] (up h 104 19 ((hi h 104 19) + 1)) (fun r h56 => 
                      ∃ v57, r = some v57 ∧ SS (up h 104 19 ((hi h 104 19) + 1)) h56 ∧
                      ((¬ v57 = -5 → (
                        (0 ≤ hi h56 104 18 ∧ hi h56 104 18 < 31) ∧
                        (rg ((hi h56 104 18) + 1)) ∧
                        Q (some 1) (up (up (up h56 113 (hi h56 104 18) (hi h 109 (hi h 104 19))) 114 (hi h56 104 18) v57) 104 18 ((hi h56 104 18) + 1))
                      )) ∧
                      (¬ (¬ v57 = -5) → (
                        Q (some 0) h56
                      ))))
                  )) ∧
                  (¬ (hi h 109 (hi h 104 19) = 102) → (
                    Q (some 0) h
                  )))
                )))
              )))
            )))
          )) ∧
          (¬ (¬ hi h 109 (hi h 104 19) = 122) → (
            (rg ((hi h 104 19) + 1)) ∧
            AM (d - 1) m_X7_number [(.inr (some 104)), (.inl 0), (.inl 255)] (up h 104 19 ((hi h 104 19) + 1)) (fun r h64 => 
              ∃ v65, r = some v65 ∧ SS (up h 104 19 ((hi h 104 19) + 1)) h64 ∧
              ((¬ v65 = -5 → (
                (0 ≤ hi h64 104 18 ∧ hi h64 104 18 < 31) ∧
                (rg ((hi h64 104 18) + 1)) ∧
                Q (some 1) (up (up (up h64 113 (hi h64 104 18) (hi h 109 (hi h 104 19))) 114 (hi h64 104 18) v65) 104 18 ((hi h64 104 18) + 1))
              )) ∧
              (¬ (¬ v65 = -5) → (
                Q (some 0) h64
              ))))
          )))
        )))
      )))
    )))) :
  AM d m_X7_readOrder [(.inr (some 104))] h Q := by
  refine am_body mo_X7_readOrder (Nat.le_of_ble_eq_true rfl) ?_
  show AW m_X7_readOrder d none Q 0 [some (.inr (some 104)), none, none, none] [] h (0, 0)
  obtain ⟨ko104, ro104_z, ko104_z, ro104_spare, ko104_spare, ro104_past, ko104_past, ro104_kept, ko104_kept, ro104_text, ko104_text, ro104_stack, ko104_stack, ro104_drew, ko104_drew, ro104_drawn, ko104_drawn, ro104_signs, ko104_signs, ro104_numbers, ko104_numbers⟩ := id hL
  refine aw_aload_n (pc := 0) dX7_readOrder_0 rfl ?_
  refine ax_geti (pc := 1) (v := hi h 104 19) dX7_readOrder_1 fl_X7_166 (by decide) rfl ko104 rfl ?_
  refine aw_aload_n (pc := 4) dX7_readOrder_4 rfl ?_
  refine ax_geti (pc := 5) (v := hi h 104 7) dX7_readOrder_5 fl_X7_163 (by decide) rfl ko104 rfl ?_
  refine aw_icmp_ge (pc := 8) (tgt := 23) dX7_readOrder_8 (by decide) (fun c1 => ?_) (fun c1 => ?_)
  · replace g := g.1 c1
    refine aw_iconst (pc := 23) dX7_readOrder_23 ?_
    refine ax_istore_n (pc := 24) (ls' := [some (.inr (some 104)), some (.inl 0), none, none]) dX7_readOrder_24 (Nat.le_of_ble_eq_true rfl) rfl ?_
    refine aw_iload_n (pc := 25) dX7_readOrder_25 rfl ?_
    refine aw_bipush (pc := 26) dX7_readOrder_26 ?_
    refine aw_icmp_eq (pc := 28) (tgt := 43) dX7_readOrder_28 (by decide) (fun c2 => False.elim (by omega)) (fun c2 => ?_)
    refine aw_iload_n (pc := 31) dX7_readOrder_31 rfl ?_
    refine aw_bipush (pc := 32) dX7_readOrder_32 ?_
    refine aw_icmp_eq (pc := 34) (tgt := 43) dX7_readOrder_34 (by decide) (fun c3 => False.elim (by omega)) (fun c3 => ?_)
    refine aw_iload_n (pc := 37) dX7_readOrder_37 rfl ?_
    refine aw_bipush (pc := 38) dX7_readOrder_38 ?_
    refine aw_icmp_ne (pc := 40) (tgt := 47) dX7_readOrder_40 (by decide) (fun c4 => ?_) (fun c4 => False.elim (by omega))
    refine aw_iconst (pc := 47) dX7_readOrder_47 ?_
    refine ax_istore_n (pc := 48) (ls' := [some (.inr (some 104)), some (.inl 0), some (.inl 0), none]) dX7_readOrder_48 (Nat.le_of_ble_eq_true rfl) rfl ?_
    refine aw_iload_n (pc := 49) dX7_readOrder_49 rfl ?_
    refine aw_if_ne (pc := 50) (tgt := 79) dX7_readOrder_50 (by decide) (fun c5 => False.elim (by omega)) (fun c5 => ?_)
    refine aw_iload_n (pc := 53) dX7_readOrder_53 rfl ?_
    refine aw_bipush (pc := 54) dX7_readOrder_54 ?_
    refine aw_icmp_eq (pc := 56) (tgt := 79) dX7_readOrder_56 (by decide) (fun c6 => False.elim (by omega)) (fun c6 => ?_)
    refine aw_iload_n (pc := 59) dX7_readOrder_59 rfl ?_
    refine aw_bipush (pc := 60) dX7_readOrder_60 ?_
    refine aw_icmp_eq (pc := 62) (tgt := 79) dX7_readOrder_62 (by decide) (fun c7 => False.elim (by omega)) (fun c7 => ?_)
    refine aw_iload_n (pc := 65) dX7_readOrder_65 rfl ?_
    refine aw_bipush (pc := 66) dX7_readOrder_66 ?_
    refine aw_icmp_eq (pc := 68) (tgt := 79) dX7_readOrder_68 (by decide) (fun c8 => False.elim (by omega)) (fun c8 => ?_)
    refine aw_iload_n (pc := 71) dX7_readOrder_71 rfl ?_
    refine aw_bipush (pc := 72) dX7_readOrder_72 ?_
    refine aw_icmp_eq (pc := 74) (tgt := 79) dX7_readOrder_74 (by decide) (fun c9 => False.elim (by omega)) (fun c9 => ?_)
    refine aw_iconst (pc := 77) dX7_readOrder_77 ?_
    exact aw_ireturn (pc := 78) dX7_readOrder_78 (by simp [okr]) g (by decide) (by decide)
  · replace g := g.2 c1
    refine aw_aload_n (pc := 11) dX7_readOrder_11 rfl ?_
    refine aw_getr (pc := 12) (r := some 109) dX7_readOrder_12 fl_X7_22 (by decide) rfl ko104 ro104_text ?_
    refine aw_aload_n (pc := 15) dX7_readOrder_15 rfl ?_
    refine ax_geti (pc := 16) (v := hi h 104 19) dX7_readOrder_16 fl_X7_166 (by decide) rfl ko104 rfl ?_
    obtain ⟨s10, g⟩ := g
    refine ax_iaload (pc := 19) (n := 60) (v := hi h 109 (hi h 104 19)) dX7_readOrder_19 ko104_text s10 rfl ?_
    refine aw_goto (pc := 20) (tgt := 24) dX7_readOrder_20 (by decide) ?_
    refine ax_istore_n (pc := 24) (ls' := [some (.inr (some 104)), some (.inl (hi h 109 (hi h 104 19))), none, none]) dX7_readOrder_24 (Nat.le_of_ble_eq_true rfl) rfl ?_
    refine aw_iload_n (pc := 25) dX7_readOrder_25 rfl ?_
    refine aw_bipush (pc := 26) dX7_readOrder_26 ?_
    refine aw_icmp_eq (pc := 28) (tgt := 43) dX7_readOrder_28 (by decide) (fun c11 => ?_) (fun c11 => ?_)
    · replace g := g.1 c11
      refine aw_iconst (pc := 43) dX7_readOrder_43 ?_
      refine aw_goto (pc := 44) (tgt := 48) dX7_readOrder_44 (by decide) ?_
      refine ax_istore_n (pc := 48) (ls' := [some (.inr (some 104)), some (.inl (hi h 109 (hi h 104 19))), some (.inl 1), none]) dX7_readOrder_48 (Nat.le_of_ble_eq_true rfl) rfl ?_
      refine aw_iload_n (pc := 49) dX7_readOrder_49 rfl ?_
      refine aw_if_ne (pc := 50) (tgt := 79) dX7_readOrder_50 (by decide) (fun c12 => ?_) (fun c12 => False.elim (by omega))
      refine aw_aload_n (pc := 79) dX7_readOrder_79 rfl ?_
      refine aw_dup (pc := 80) dX7_readOrder_80 ?_
      refine ax_geti (pc := 81) (v := hi h 104 19) dX7_readOrder_81 fl_X7_166 (by decide) rfl ko104 rfl ?_
      refine aw_iconst (pc := 84) dX7_readOrder_84 ?_
      obtain ⟨s13, g⟩ := g
      refine ax_iadd (pc := 85) (v := (hi h 104 19) + 1) dX7_readOrder_85 s13 rfl ?_
      refine ax_puti (pc := 86) dX7_readOrder_86 fl_X7_166 (by decide) rfl rfl rfl ko104 ?_
      refine aw_iload_n (pc := 89) dX7_readOrder_89 rfl ?_
      refine aw_if_eq (pc := 90) (tgt := 104) dX7_readOrder_90 (by decide) (fun c14 => False.elim (by omega)) (fun c14 => ?_)
      refine aw_aload_n (pc := 93) dX7_readOrder_93 rfl ?_
      refine aw_iconst (pc := 94) dX7_readOrder_94 ?_
      refine aw_sipush (pc := 95) dX7_readOrder_95 ?_
      refine aw_invV (pc := 98) (md' := m_X7_number) (ci := 7) (as := [(.inl 0), (.inl 255)]) dX7_readOrder_98 mo_X7_number im_X7_number se_X7_number ml_X7_172 rfl (hkU ko104) rfl hd (Nat.le_of_ble_eq_true rfl) (Nat.le_of_ble_eq_true rfl) (Nat.le_of_ble_eq_true rfl) ?_
      refine am_mono g (fun _ h15 _ ok_h15 g => ?_)
      obtain ⟨v16, rfl, ss_h15, g⟩ := g
      replace hL := QZ.ss hL (SS.tr (SS.up SS.rf) ss_h15)
      obtain ⟨ko104, ro104_z, ko104_z, ro104_spare, ko104_spare, ro104_past, ko104_past, ro104_kept, ko104_kept, ro104_text, ko104_text, ro104_stack, ko104_stack, ro104_drew, ko104_drew, ro104_drawn, ko104_drawn, ro104_signs, ko104_signs, ro104_numbers, ko104_numbers⟩ := id hL
      show AW m_X7_readOrder d none Q 101 [some (.inr (some 104)), some (.inl (hi h 109 (hi h 104 19))), some (.inl 1), none] [(.inl v16)] h15 (0, 0)
      refine aw_goto (pc := 101) (tgt := 121) dX7_readOrder_101 (by decide) ?_
      refine ax_istore_n (pc := 121) (ls' := [some (.inr (some 104)), some (.inl (hi h 109 (hi h 104 19))), some (.inl 1), some (.inl v16)]) dX7_readOrder_121 (Nat.le_of_ble_eq_true rfl) rfl ?_
      refine aw_iload_n (pc := 122) dX7_readOrder_122 rfl ?_
      refine aw_bipush (pc := 123) dX7_readOrder_123 ?_
      refine aw_icmp_ne (pc := 125) (tgt := 130) dX7_readOrder_125 (by decide) (fun c17 => ?_) (fun c17 => ?_)
      · replace g := g.1 c17
        refine aw_aload_n (pc := 130) dX7_readOrder_130 rfl ?_
        refine aw_getr (pc := 131) (r := some 113) dX7_readOrder_131 fl_X7_34 (by decide) rfl ko104 ro104_signs ?_
        refine aw_aload_n (pc := 134) dX7_readOrder_134 rfl ?_
        refine ax_geti (pc := 135) (v := hi h15 104 18) dX7_readOrder_135 fl_X7_175 (by decide) rfl ko104 rfl ?_
        refine aw_iload_n (pc := 138) dX7_readOrder_138 rfl ?_
        obtain ⟨s18, g⟩ := g
        refine ax_iastore (pc := 139) (n := 31) dX7_readOrder_139 ko104_signs s18 ?_
        refine aw_aload_n (pc := 140) dX7_readOrder_140 rfl ?_
        refine aw_getr (pc := 141) (r := some 114) dX7_readOrder_141 fl_X7_37 (by decide) rfl (hkU ko104) (hrU ro104_numbers) ?_
        refine aw_aload_n (pc := 144) dX7_readOrder_144 rfl ?_
        refine ax_geti (pc := 145) (v := hi h15 104 18) dX7_readOrder_145 fl_X7_175 (by decide) rfl (hkU ko104) (hiN (Or.inl (by omega)) rfl) ?_
        refine aw_iload_n (pc := 148) dX7_readOrder_148 rfl ?_
        refine ax_iastore (pc := 149) (n := 31) dX7_readOrder_149 (hkU ko104_numbers) s18 ?_
        refine aw_aload_n (pc := 150) dX7_readOrder_150 rfl ?_
        refine aw_dup (pc := 151) dX7_readOrder_151 ?_
        refine ax_geti (pc := 152) (v := hi h15 104 18) dX7_readOrder_152 fl_X7_175 (by decide) rfl (hkU (hkU ko104)) (hiN (Or.inl (by omega)) (hiN (Or.inl (by omega)) rfl)) ?_
        refine aw_iconst (pc := 155) dX7_readOrder_155 ?_
        obtain ⟨s19, g⟩ := g
        refine ax_iadd (pc := 156) (v := (hi h15 104 18) + 1) dX7_readOrder_156 s19 rfl ?_
        refine ax_puti (pc := 157) dX7_readOrder_157 fl_X7_175 (by decide) rfl rfl rfl (hkU (hkU ko104)) ?_
        refine aw_iconst (pc := 160) dX7_readOrder_160 ?_
        exact aw_ireturn (pc := 161) dX7_readOrder_161 (by simp [okr]) g (by decide) (by decide)
      · replace g := g.2 c17
        refine aw_iconst (pc := 128) dX7_readOrder_128 ?_
        exact aw_ireturn (pc := 129) dX7_readOrder_129 (by simp [okr]) g (by decide) (by decide)
    · replace g := g.2 c11
      refine aw_iload_n (pc := 31) dX7_readOrder_31 rfl ?_
      refine aw_bipush (pc := 32) dX7_readOrder_32 ?_
      refine aw_icmp_eq (pc := 34) (tgt := 43) dX7_readOrder_34 (by decide) (fun c20 => ?_) (fun c20 => ?_)
      · replace g := g.1 c20
        refine aw_iconst (pc := 43) dX7_readOrder_43 ?_
        refine aw_goto (pc := 44) (tgt := 48) dX7_readOrder_44 (by decide) ?_
        refine ax_istore_n (pc := 48) (ls' := [some (.inr (some 104)), some (.inl (hi h 109 (hi h 104 19))), some (.inl 1), none]) dX7_readOrder_48 (Nat.le_of_ble_eq_true rfl) rfl ?_
        refine aw_iload_n (pc := 49) dX7_readOrder_49 rfl ?_
        refine aw_if_ne (pc := 50) (tgt := 79) dX7_readOrder_50 (by decide) (fun c21 => ?_) (fun c21 => False.elim (by omega))
        refine aw_aload_n (pc := 79) dX7_readOrder_79 rfl ?_
        refine aw_dup (pc := 80) dX7_readOrder_80 ?_
        refine ax_geti (pc := 81) (v := hi h 104 19) dX7_readOrder_81 fl_X7_166 (by decide) rfl ko104 rfl ?_
        refine aw_iconst (pc := 84) dX7_readOrder_84 ?_
        obtain ⟨s22, g⟩ := g
        refine ax_iadd (pc := 85) (v := (hi h 104 19) + 1) dX7_readOrder_85 s22 rfl ?_
        refine ax_puti (pc := 86) dX7_readOrder_86 fl_X7_166 (by decide) rfl rfl rfl ko104 ?_
        refine aw_iload_n (pc := 89) dX7_readOrder_89 rfl ?_
        refine aw_if_eq (pc := 90) (tgt := 104) dX7_readOrder_90 (by decide) (fun c23 => False.elim (by omega)) (fun c23 => ?_)
        refine aw_aload_n (pc := 93) dX7_readOrder_93 rfl ?_
        refine aw_iconst (pc := 94) dX7_readOrder_94 ?_
        refine aw_sipush (pc := 95) dX7_readOrder_95 ?_
        refine aw_invV (pc := 98) (md' := m_X7_number) (ci := 7) (as := [(.inl 0), (.inl 255)]) dX7_readOrder_98 mo_X7_number im_X7_number se_X7_number ml_X7_172 rfl (hkU ko104) rfl hd (Nat.le_of_ble_eq_true rfl) (Nat.le_of_ble_eq_true rfl) (Nat.le_of_ble_eq_true rfl) ?_
        refine am_mono g (fun _ h24 _ ok_h24 g => ?_)
        obtain ⟨v25, rfl, ss_h24, g⟩ := g
        replace hL := QZ.ss hL (SS.tr (SS.up SS.rf) ss_h24)
        obtain ⟨ko104, ro104_z, ko104_z, ro104_spare, ko104_spare, ro104_past, ko104_past, ro104_kept, ko104_kept, ro104_text, ko104_text, ro104_stack, ko104_stack, ro104_drew, ko104_drew, ro104_drawn, ko104_drawn, ro104_signs, ko104_signs, ro104_numbers, ko104_numbers⟩ := id hL
        show AW m_X7_readOrder d none Q 101 [some (.inr (some 104)), some (.inl (hi h 109 (hi h 104 19))), some (.inl 1), none] [(.inl v25)] h24 (0, 0)
        refine aw_goto (pc := 101) (tgt := 121) dX7_readOrder_101 (by decide) ?_
        refine ax_istore_n (pc := 121) (ls' := [some (.inr (some 104)), some (.inl (hi h 109 (hi h 104 19))), some (.inl 1), some (.inl v25)]) dX7_readOrder_121 (Nat.le_of_ble_eq_true rfl) rfl ?_
        refine aw_iload_n (pc := 122) dX7_readOrder_122 rfl ?_
        refine aw_bipush (pc := 123) dX7_readOrder_123 ?_
        refine aw_icmp_ne (pc := 125) (tgt := 130) dX7_readOrder_125 (by decide) (fun c26 => ?_) (fun c26 => ?_)
        · replace g := g.1 c26
          refine aw_aload_n (pc := 130) dX7_readOrder_130 rfl ?_
          refine aw_getr (pc := 131) (r := some 113) dX7_readOrder_131 fl_X7_34 (by decide) rfl ko104 ro104_signs ?_
          refine aw_aload_n (pc := 134) dX7_readOrder_134 rfl ?_
          refine ax_geti (pc := 135) (v := hi h24 104 18) dX7_readOrder_135 fl_X7_175 (by decide) rfl ko104 rfl ?_
          refine aw_iload_n (pc := 138) dX7_readOrder_138 rfl ?_
          obtain ⟨s27, g⟩ := g
          refine ax_iastore (pc := 139) (n := 31) dX7_readOrder_139 ko104_signs s27 ?_
          refine aw_aload_n (pc := 140) dX7_readOrder_140 rfl ?_
          refine aw_getr (pc := 141) (r := some 114) dX7_readOrder_141 fl_X7_37 (by decide) rfl (hkU ko104) (hrU ro104_numbers) ?_
          refine aw_aload_n (pc := 144) dX7_readOrder_144 rfl ?_
          refine ax_geti (pc := 145) (v := hi h24 104 18) dX7_readOrder_145 fl_X7_175 (by decide) rfl (hkU ko104) (hiN (Or.inl (by omega)) rfl) ?_
          refine aw_iload_n (pc := 148) dX7_readOrder_148 rfl ?_
          refine ax_iastore (pc := 149) (n := 31) dX7_readOrder_149 (hkU ko104_numbers) s27 ?_
          refine aw_aload_n (pc := 150) dX7_readOrder_150 rfl ?_
          refine aw_dup (pc := 151) dX7_readOrder_151 ?_
          refine ax_geti (pc := 152) (v := hi h24 104 18) dX7_readOrder_152 fl_X7_175 (by decide) rfl (hkU (hkU ko104)) (hiN (Or.inl (by omega)) (hiN (Or.inl (by omega)) rfl)) ?_
          refine aw_iconst (pc := 155) dX7_readOrder_155 ?_
          obtain ⟨s28, g⟩ := g
          refine ax_iadd (pc := 156) (v := (hi h24 104 18) + 1) dX7_readOrder_156 s28 rfl ?_
          refine ax_puti (pc := 157) dX7_readOrder_157 fl_X7_175 (by decide) rfl rfl rfl (hkU (hkU ko104)) ?_
          refine aw_iconst (pc := 160) dX7_readOrder_160 ?_
          exact aw_ireturn (pc := 161) dX7_readOrder_161 (by simp [okr]) g (by decide) (by decide)
        · replace g := g.2 c26
          refine aw_iconst (pc := 128) dX7_readOrder_128 ?_
          exact aw_ireturn (pc := 129) dX7_readOrder_129 (by simp [okr]) g (by decide) (by decide)
      · replace g := g.2 c20
        refine aw_iload_n (pc := 37) dX7_readOrder_37 rfl ?_
        refine aw_bipush (pc := 38) dX7_readOrder_38 ?_
        refine aw_icmp_ne (pc := 40) (tgt := 47) dX7_readOrder_40 (by decide) (fun c29 => ?_) (fun c29 => ?_)
        · replace g := g.1 c29
          refine aw_iconst (pc := 47) dX7_readOrder_47 ?_
          refine ax_istore_n (pc := 48) (ls' := [some (.inr (some 104)), some (.inl (hi h 109 (hi h 104 19))), some (.inl 0), none]) dX7_readOrder_48 (Nat.le_of_ble_eq_true rfl) rfl ?_
          refine aw_iload_n (pc := 49) dX7_readOrder_49 rfl ?_
          refine aw_if_ne (pc := 50) (tgt := 79) dX7_readOrder_50 (by decide) (fun c30 => False.elim (by omega)) (fun c30 => ?_)
          refine aw_iload_n (pc := 53) dX7_readOrder_53 rfl ?_
          refine aw_bipush (pc := 54) dX7_readOrder_54 ?_
          refine aw_icmp_eq (pc := 56) (tgt := 79) dX7_readOrder_56 (by decide) (fun c31 => ?_) (fun c31 => ?_)
          · replace g := g.1 c31
            refine aw_aload_n (pc := 79) dX7_readOrder_79 rfl ?_
            refine aw_dup (pc := 80) dX7_readOrder_80 ?_
            refine ax_geti (pc := 81) (v := hi h 104 19) dX7_readOrder_81 fl_X7_166 (by decide) rfl ko104 rfl ?_
            refine aw_iconst (pc := 84) dX7_readOrder_84 ?_
            obtain ⟨s32, g⟩ := g
            refine ax_iadd (pc := 85) (v := (hi h 104 19) + 1) dX7_readOrder_85 s32 rfl ?_
            refine ax_puti (pc := 86) dX7_readOrder_86 fl_X7_166 (by decide) rfl rfl rfl ko104 ?_
            refine aw_iload_n (pc := 89) dX7_readOrder_89 rfl ?_
            refine aw_if_eq (pc := 90) (tgt := 104) dX7_readOrder_90 (by decide) (fun c33 => ?_) (fun c33 => False.elim (by omega))
            refine aw_iload_n (pc := 104) dX7_readOrder_104 rfl ?_
            refine aw_bipush (pc := 105) dX7_readOrder_105 ?_
            refine aw_icmp_ne (pc := 107) (tgt := 120) dX7_readOrder_107 (by decide) (fun c34 => ?_) (fun c34 => False.elim (by omega))
            refine aw_iconst (pc := 120) dX7_readOrder_120 ?_
            refine ax_istore_n (pc := 121) (ls' := [some (.inr (some 104)), some (.inl (hi h 109 (hi h 104 19))), some (.inl 0), some (.inl 0)]) dX7_readOrder_121 (Nat.le_of_ble_eq_true rfl) rfl ?_
            refine aw_iload_n (pc := 122) dX7_readOrder_122 rfl ?_
            refine aw_bipush (pc := 123) dX7_readOrder_123 ?_
            refine aw_icmp_ne (pc := 125) (tgt := 130) dX7_readOrder_125 (by decide) (fun c35 => ?_) (fun c35 => False.elim (by omega))
            refine aw_aload_n (pc := 130) dX7_readOrder_130 rfl ?_
            refine aw_getr (pc := 131) (r := some 113) dX7_readOrder_131 fl_X7_34 (by decide) rfl (hkU ko104) (hrU ro104_signs) ?_
            refine aw_aload_n (pc := 134) dX7_readOrder_134 rfl ?_
            refine ax_geti (pc := 135) (v := hi h 104 18) dX7_readOrder_135 fl_X7_175 (by decide) rfl (hkU ko104) (hiN (Or.inr (by decide)) rfl) ?_
            refine aw_iload_n (pc := 138) dX7_readOrder_138 rfl ?_
            obtain ⟨s36, g⟩ := g
            refine ax_iastore (pc := 139) (n := 31) dX7_readOrder_139 (hkU ko104_signs) s36 ?_
            refine aw_aload_n (pc := 140) dX7_readOrder_140 rfl ?_
            refine aw_getr (pc := 141) (r := some 114) dX7_readOrder_141 fl_X7_37 (by decide) rfl (hkU (hkU ko104)) (hrU (hrU ro104_numbers)) ?_
            refine aw_aload_n (pc := 144) dX7_readOrder_144 rfl ?_
            refine ax_geti (pc := 145) (v := hi h 104 18) dX7_readOrder_145 fl_X7_175 (by decide) rfl (hkU (hkU ko104)) (hiN (Or.inl (by omega)) (hiN (Or.inr (by decide)) rfl)) ?_
            refine aw_iload_n (pc := 148) dX7_readOrder_148 rfl ?_
            refine ax_iastore (pc := 149) (n := 31) dX7_readOrder_149 (hkU (hkU ko104_numbers)) s36 ?_
            refine aw_aload_n (pc := 150) dX7_readOrder_150 rfl ?_
            refine aw_dup (pc := 151) dX7_readOrder_151 ?_
            refine ax_geti (pc := 152) (v := hi h 104 18) dX7_readOrder_152 fl_X7_175 (by decide) rfl (hkU (hkU (hkU ko104))) (hiN (Or.inl (by omega)) (hiN (Or.inl (by omega)) (hiN (Or.inr (by decide)) rfl))) ?_
            refine aw_iconst (pc := 155) dX7_readOrder_155 ?_
            obtain ⟨s37, g⟩ := g
            refine ax_iadd (pc := 156) (v := (hi h 104 18) + 1) dX7_readOrder_156 s37 rfl ?_
            refine ax_puti (pc := 157) dX7_readOrder_157 fl_X7_175 (by decide) rfl rfl rfl (hkU (hkU (hkU ko104))) ?_
            refine aw_iconst (pc := 160) dX7_readOrder_160 ?_
            exact aw_ireturn (pc := 161) dX7_readOrder_161 (by simp [okr]) g (by decide) (by decide)
          · replace g := g.2 c31
            refine aw_iload_n (pc := 59) dX7_readOrder_59 rfl ?_
            refine aw_bipush (pc := 60) dX7_readOrder_60 ?_
            refine aw_icmp_eq (pc := 62) (tgt := 79) dX7_readOrder_62 (by decide) (fun c38 => ?_) (fun c38 => ?_)
            · replace g := g.1 c38
              refine aw_aload_n (pc := 79) dX7_readOrder_79 rfl ?_
              refine aw_dup (pc := 80) dX7_readOrder_80 ?_
              refine ax_geti (pc := 81) (v := hi h 104 19) dX7_readOrder_81 fl_X7_166 (by decide) rfl ko104 rfl ?_
              refine aw_iconst (pc := 84) dX7_readOrder_84 ?_
              obtain ⟨s39, g⟩ := g
              refine ax_iadd (pc := 85) (v := (hi h 104 19) + 1) dX7_readOrder_85 s39 rfl ?_
              refine ax_puti (pc := 86) dX7_readOrder_86 fl_X7_166 (by decide) rfl rfl rfl ko104 ?_
              refine aw_iload_n (pc := 89) dX7_readOrder_89 rfl ?_
              refine aw_if_eq (pc := 90) (tgt := 104) dX7_readOrder_90 (by decide) (fun c40 => ?_) (fun c40 => False.elim (by omega))
              refine aw_iload_n (pc := 104) dX7_readOrder_104 rfl ?_
              refine aw_bipush (pc := 105) dX7_readOrder_105 ?_
              refine aw_icmp_ne (pc := 107) (tgt := 120) dX7_readOrder_107 (by decide) (fun c41 => ?_) (fun c41 => False.elim (by omega))
              refine aw_iconst (pc := 120) dX7_readOrder_120 ?_
              refine ax_istore_n (pc := 121) (ls' := [some (.inr (some 104)), some (.inl (hi h 109 (hi h 104 19))), some (.inl 0), some (.inl 0)]) dX7_readOrder_121 (Nat.le_of_ble_eq_true rfl) rfl ?_
              refine aw_iload_n (pc := 122) dX7_readOrder_122 rfl ?_
              refine aw_bipush (pc := 123) dX7_readOrder_123 ?_
              refine aw_icmp_ne (pc := 125) (tgt := 130) dX7_readOrder_125 (by decide) (fun c42 => ?_) (fun c42 => False.elim (by omega))
              refine aw_aload_n (pc := 130) dX7_readOrder_130 rfl ?_
              refine aw_getr (pc := 131) (r := some 113) dX7_readOrder_131 fl_X7_34 (by decide) rfl (hkU ko104) (hrU ro104_signs) ?_
              refine aw_aload_n (pc := 134) dX7_readOrder_134 rfl ?_
              refine ax_geti (pc := 135) (v := hi h 104 18) dX7_readOrder_135 fl_X7_175 (by decide) rfl (hkU ko104) (hiN (Or.inr (by decide)) rfl) ?_
              refine aw_iload_n (pc := 138) dX7_readOrder_138 rfl ?_
              obtain ⟨s43, g⟩ := g
              refine ax_iastore (pc := 139) (n := 31) dX7_readOrder_139 (hkU ko104_signs) s43 ?_
              refine aw_aload_n (pc := 140) dX7_readOrder_140 rfl ?_
              refine aw_getr (pc := 141) (r := some 114) dX7_readOrder_141 fl_X7_37 (by decide) rfl (hkU (hkU ko104)) (hrU (hrU ro104_numbers)) ?_
              refine aw_aload_n (pc := 144) dX7_readOrder_144 rfl ?_
              refine ax_geti (pc := 145) (v := hi h 104 18) dX7_readOrder_145 fl_X7_175 (by decide) rfl (hkU (hkU ko104)) (hiN (Or.inl (by omega)) (hiN (Or.inr (by decide)) rfl)) ?_
              refine aw_iload_n (pc := 148) dX7_readOrder_148 rfl ?_
              refine ax_iastore (pc := 149) (n := 31) dX7_readOrder_149 (hkU (hkU ko104_numbers)) s43 ?_
              refine aw_aload_n (pc := 150) dX7_readOrder_150 rfl ?_
              refine aw_dup (pc := 151) dX7_readOrder_151 ?_
              refine ax_geti (pc := 152) (v := hi h 104 18) dX7_readOrder_152 fl_X7_175 (by decide) rfl (hkU (hkU (hkU ko104))) (hiN (Or.inl (by omega)) (hiN (Or.inl (by omega)) (hiN (Or.inr (by decide)) rfl))) ?_
              refine aw_iconst (pc := 155) dX7_readOrder_155 ?_
              obtain ⟨s44, g⟩ := g
              refine ax_iadd (pc := 156) (v := (hi h 104 18) + 1) dX7_readOrder_156 s44 rfl ?_
              refine ax_puti (pc := 157) dX7_readOrder_157 fl_X7_175 (by decide) rfl rfl rfl (hkU (hkU (hkU ko104))) ?_
              refine aw_iconst (pc := 160) dX7_readOrder_160 ?_
              exact aw_ireturn (pc := 161) dX7_readOrder_161 (by simp [okr]) g (by decide) (by decide)
            · replace g := g.2 c38
              refine aw_iload_n (pc := 65) dX7_readOrder_65 rfl ?_
              refine aw_bipush (pc := 66) dX7_readOrder_66 ?_
              refine aw_icmp_eq (pc := 68) (tgt := 79) dX7_readOrder_68 (by decide) (fun c45 => ?_) (fun c45 => ?_)
              · replace g := g.1 c45
                refine aw_aload_n (pc := 79) dX7_readOrder_79 rfl ?_
                refine aw_dup (pc := 80) dX7_readOrder_80 ?_
                refine ax_geti (pc := 81) (v := hi h 104 19) dX7_readOrder_81 fl_X7_166 (by decide) rfl ko104 rfl ?_
                refine aw_iconst (pc := 84) dX7_readOrder_84 ?_
                obtain ⟨s46, g⟩ := g
                refine ax_iadd (pc := 85) (v := (hi h 104 19) + 1) dX7_readOrder_85 s46 rfl ?_
                refine ax_puti (pc := 86) dX7_readOrder_86 fl_X7_166 (by decide) rfl rfl rfl ko104 ?_
                refine aw_iload_n (pc := 89) dX7_readOrder_89 rfl ?_
                refine aw_if_eq (pc := 90) (tgt := 104) dX7_readOrder_90 (by decide) (fun c47 => ?_) (fun c47 => False.elim (by omega))
                refine aw_iload_n (pc := 104) dX7_readOrder_104 rfl ?_
                refine aw_bipush (pc := 105) dX7_readOrder_105 ?_
                refine aw_icmp_ne (pc := 107) (tgt := 120) dX7_readOrder_107 (by decide) (fun c48 => ?_) (fun c48 => False.elim (by omega))
                refine aw_iconst (pc := 120) dX7_readOrder_120 ?_
                refine ax_istore_n (pc := 121) (ls' := [some (.inr (some 104)), some (.inl (hi h 109 (hi h 104 19))), some (.inl 0), some (.inl 0)]) dX7_readOrder_121 (Nat.le_of_ble_eq_true rfl) rfl ?_
                refine aw_iload_n (pc := 122) dX7_readOrder_122 rfl ?_
                refine aw_bipush (pc := 123) dX7_readOrder_123 ?_
                refine aw_icmp_ne (pc := 125) (tgt := 130) dX7_readOrder_125 (by decide) (fun c49 => ?_) (fun c49 => False.elim (by omega))
                refine aw_aload_n (pc := 130) dX7_readOrder_130 rfl ?_
                refine aw_getr (pc := 131) (r := some 113) dX7_readOrder_131 fl_X7_34 (by decide) rfl (hkU ko104) (hrU ro104_signs) ?_
                refine aw_aload_n (pc := 134) dX7_readOrder_134 rfl ?_
                refine ax_geti (pc := 135) (v := hi h 104 18) dX7_readOrder_135 fl_X7_175 (by decide) rfl (hkU ko104) (hiN (Or.inr (by decide)) rfl) ?_
                refine aw_iload_n (pc := 138) dX7_readOrder_138 rfl ?_
                obtain ⟨s50, g⟩ := g
                refine ax_iastore (pc := 139) (n := 31) dX7_readOrder_139 (hkU ko104_signs) s50 ?_
                refine aw_aload_n (pc := 140) dX7_readOrder_140 rfl ?_
                refine aw_getr (pc := 141) (r := some 114) dX7_readOrder_141 fl_X7_37 (by decide) rfl (hkU (hkU ko104)) (hrU (hrU ro104_numbers)) ?_
                refine aw_aload_n (pc := 144) dX7_readOrder_144 rfl ?_
                refine ax_geti (pc := 145) (v := hi h 104 18) dX7_readOrder_145 fl_X7_175 (by decide) rfl (hkU (hkU ko104)) (hiN (Or.inl (by omega)) (hiN (Or.inr (by decide)) rfl)) ?_
                refine aw_iload_n (pc := 148) dX7_readOrder_148 rfl ?_
                refine ax_iastore (pc := 149) (n := 31) dX7_readOrder_149 (hkU (hkU ko104_numbers)) s50 ?_
                refine aw_aload_n (pc := 150) dX7_readOrder_150 rfl ?_
                refine aw_dup (pc := 151) dX7_readOrder_151 ?_
                refine ax_geti (pc := 152) (v := hi h 104 18) dX7_readOrder_152 fl_X7_175 (by decide) rfl (hkU (hkU (hkU ko104))) (hiN (Or.inl (by omega)) (hiN (Or.inl (by omega)) (hiN (Or.inr (by decide)) rfl))) ?_
                refine aw_iconst (pc := 155) dX7_readOrder_155 ?_
                obtain ⟨s51, g⟩ := g
                refine ax_iadd (pc := 156) (v := (hi h 104 18) + 1) dX7_readOrder_156 s51 rfl ?_
                refine ax_puti (pc := 157) dX7_readOrder_157 fl_X7_175 (by decide) rfl rfl rfl (hkU (hkU (hkU ko104))) ?_
                refine aw_iconst (pc := 160) dX7_readOrder_160 ?_
                exact aw_ireturn (pc := 161) dX7_readOrder_161 (by simp [okr]) g (by decide) (by decide)
              · replace g := g.2 c45
                refine aw_iload_n (pc := 71) dX7_readOrder_71 rfl ?_
                refine aw_bipush (pc := 72) dX7_readOrder_72 ?_
                refine aw_icmp_eq (pc := 74) (tgt := 79) dX7_readOrder_74 (by decide) (fun c52 => ?_) (fun c52 => ?_)
                · replace g := g.1 c52
                  refine aw_aload_n (pc := 79) dX7_readOrder_79 rfl ?_
                  refine aw_dup (pc := 80) dX7_readOrder_80 ?_
                  refine ax_geti (pc := 81) (v := hi h 104 19) dX7_readOrder_81 fl_X7_166 (by decide) rfl ko104 rfl ?_
                  refine aw_iconst (pc := 84) dX7_readOrder_84 ?_
                  obtain ⟨s53, g⟩ := g
                  refine ax_iadd (pc := 85) (v := (hi h 104 19) + 1) dX7_readOrder_85 s53 rfl ?_
                  refine ax_puti (pc := 86) dX7_readOrder_86 fl_X7_166 (by decide) rfl rfl rfl ko104 ?_
                  refine aw_iload_n (pc := 89) dX7_readOrder_89 rfl ?_
                  refine aw_if_eq (pc := 90) (tgt := 104) dX7_readOrder_90 (by decide) (fun c54 => ?_) (fun c54 => False.elim (by omega))
                  refine aw_iload_n (pc := 104) dX7_readOrder_104 rfl ?_
                  refine aw_bipush (pc := 105) dX7_readOrder_105 ?_
                  refine aw_icmp_ne (pc := 107) (tgt := 120) dX7_readOrder_107 (by decide) (fun c55 => False.elim (by omega)) (fun c55 => ?_)
                  refine aw_aload_n (pc := 110) dX7_readOrder_110 rfl ?_
                  refine aw_iconst (pc := 111) dX7_readOrder_111 ?_
                  refine aw_bipush (pc := 112) dX7_readOrder_112 ?_
                  refine aw_invV (pc := 114) (md' := m_X7_number) (ci := 7) (as := [(.inl 1), (.inl 64)]) dX7_readOrder_114 mo_X7_number im_X7_number se_X7_number ml_X7_172 rfl (hkU ko104) rfl hd (Nat.le_of_ble_eq_true rfl) (Nat.le_of_ble_eq_true rfl) (Nat.le_of_ble_eq_true rfl) ?_
                  refine am_mono g (fun _ h56 _ ok_h56 g => ?_)
                  obtain ⟨v57, rfl, ss_h56, g⟩ := g
                  replace hL := QZ.ss hL (SS.tr (SS.up SS.rf) ss_h56)
                  obtain ⟨ko104, ro104_z, ko104_z, ro104_spare, ko104_spare, ro104_past, ko104_past, ro104_kept, ko104_kept, ro104_text, ko104_text, ro104_stack, ko104_stack, ro104_drew, ko104_drew, ro104_drawn, ko104_drawn, ro104_signs, ko104_signs, ro104_numbers, ko104_numbers⟩ := id hL
                  show AW m_X7_readOrder d none Q 117 [some (.inr (some 104)), some (.inl (hi h 109 (hi h 104 19))), some (.inl 0), none] [(.inl v57)] h56 (0, 0)
                  refine aw_goto (pc := 117) (tgt := 121) dX7_readOrder_117 (by decide) ?_
                  refine ax_istore_n (pc := 121) (ls' := [some (.inr (some 104)), some (.inl (hi h 109 (hi h 104 19))), some (.inl 0), some (.inl v57)]) dX7_readOrder_121 (Nat.le_of_ble_eq_true rfl) rfl ?_
                  refine aw_iload_n (pc := 122) dX7_readOrder_122 rfl ?_
                  refine aw_bipush (pc := 123) dX7_readOrder_123 ?_
                  refine aw_icmp_ne (pc := 125) (tgt := 130) dX7_readOrder_125 (by decide) (fun c58 => ?_) (fun c58 => ?_)
                  · replace g := g.1 c58
                    refine aw_aload_n (pc := 130) dX7_readOrder_130 rfl ?_
                    refine aw_getr (pc := 131) (r := some 113) dX7_readOrder_131 fl_X7_34 (by decide) rfl ko104 ro104_signs ?_
                    refine aw_aload_n (pc := 134) dX7_readOrder_134 rfl ?_
                    refine ax_geti (pc := 135) (v := hi h56 104 18) dX7_readOrder_135 fl_X7_175 (by decide) rfl ko104 rfl ?_
                    refine aw_iload_n (pc := 138) dX7_readOrder_138 rfl ?_
                    obtain ⟨s59, g⟩ := g
                    refine ax_iastore (pc := 139) (n := 31) dX7_readOrder_139 ko104_signs s59 ?_
                    refine aw_aload_n (pc := 140) dX7_readOrder_140 rfl ?_
                    refine aw_getr (pc := 141) (r := some 114) dX7_readOrder_141 fl_X7_37 (by decide) rfl (hkU ko104) (hrU ro104_numbers) ?_
                    refine aw_aload_n (pc := 144) dX7_readOrder_144 rfl ?_
                    refine ax_geti (pc := 145) (v := hi h56 104 18) dX7_readOrder_145 fl_X7_175 (by decide) rfl (hkU ko104) (hiN (Or.inl (by omega)) rfl) ?_
                    refine aw_iload_n (pc := 148) dX7_readOrder_148 rfl ?_
                    refine ax_iastore (pc := 149) (n := 31) dX7_readOrder_149 (hkU ko104_numbers) s59 ?_
                    refine aw_aload_n (pc := 150) dX7_readOrder_150 rfl ?_
                    refine aw_dup (pc := 151) dX7_readOrder_151 ?_
                    refine ax_geti (pc := 152) (v := hi h56 104 18) dX7_readOrder_152 fl_X7_175 (by decide) rfl (hkU (hkU ko104)) (hiN (Or.inl (by omega)) (hiN (Or.inl (by omega)) rfl)) ?_
                    refine aw_iconst (pc := 155) dX7_readOrder_155 ?_
                    obtain ⟨s60, g⟩ := g
                    refine ax_iadd (pc := 156) (v := (hi h56 104 18) + 1) dX7_readOrder_156 s60 rfl ?_
                    refine ax_puti (pc := 157) dX7_readOrder_157 fl_X7_175 (by decide) rfl rfl rfl (hkU (hkU ko104)) ?_
                    refine aw_iconst (pc := 160) dX7_readOrder_160 ?_
                    exact aw_ireturn (pc := 161) dX7_readOrder_161 (by simp [okr]) g (by decide) (by decide)
                  · replace g := g.2 c58
                    refine aw_iconst (pc := 128) dX7_readOrder_128 ?_
                    exact aw_ireturn (pc := 129) dX7_readOrder_129 (by simp [okr]) g (by decide) (by decide)
                · replace g := g.2 c52
                  refine aw_iconst (pc := 77) dX7_readOrder_77 ?_
                  exact aw_ireturn (pc := 78) dX7_readOrder_78 (by simp [okr]) g (by decide) (by decide)
        · replace g := g.2 c29
          refine aw_iconst (pc := 43) dX7_readOrder_43 ?_
          refine aw_goto (pc := 44) (tgt := 48) dX7_readOrder_44 (by decide) ?_
          refine ax_istore_n (pc := 48) (ls' := [some (.inr (some 104)), some (.inl (hi h 109 (hi h 104 19))), some (.inl 1), none]) dX7_readOrder_48 (Nat.le_of_ble_eq_true rfl) rfl ?_
          refine aw_iload_n (pc := 49) dX7_readOrder_49 rfl ?_
          refine aw_if_ne (pc := 50) (tgt := 79) dX7_readOrder_50 (by decide) (fun c61 => ?_) (fun c61 => False.elim (by omega))
          refine aw_aload_n (pc := 79) dX7_readOrder_79 rfl ?_
          refine aw_dup (pc := 80) dX7_readOrder_80 ?_
          refine ax_geti (pc := 81) (v := hi h 104 19) dX7_readOrder_81 fl_X7_166 (by decide) rfl ko104 rfl ?_
          refine aw_iconst (pc := 84) dX7_readOrder_84 ?_
          obtain ⟨s62, g⟩ := g
          refine ax_iadd (pc := 85) (v := (hi h 104 19) + 1) dX7_readOrder_85 s62 rfl ?_
          refine ax_puti (pc := 86) dX7_readOrder_86 fl_X7_166 (by decide) rfl rfl rfl ko104 ?_
          refine aw_iload_n (pc := 89) dX7_readOrder_89 rfl ?_
          refine aw_if_eq (pc := 90) (tgt := 104) dX7_readOrder_90 (by decide) (fun c63 => False.elim (by omega)) (fun c63 => ?_)
          refine aw_aload_n (pc := 93) dX7_readOrder_93 rfl ?_
          refine aw_iconst (pc := 94) dX7_readOrder_94 ?_
          refine aw_sipush (pc := 95) dX7_readOrder_95 ?_
          refine aw_invV (pc := 98) (md' := m_X7_number) (ci := 7) (as := [(.inl 0), (.inl 255)]) dX7_readOrder_98 mo_X7_number im_X7_number se_X7_number ml_X7_172 rfl (hkU ko104) rfl hd (Nat.le_of_ble_eq_true rfl) (Nat.le_of_ble_eq_true rfl) (Nat.le_of_ble_eq_true rfl) ?_
          refine am_mono g (fun _ h64 _ ok_h64 g => ?_)
          obtain ⟨v65, rfl, ss_h64, g⟩ := g
          replace hL := QZ.ss hL (SS.tr (SS.up SS.rf) ss_h64)
          obtain ⟨ko104, ro104_z, ko104_z, ro104_spare, ko104_spare, ro104_past, ko104_past, ro104_kept, ko104_kept, ro104_text, ko104_text, ro104_stack, ko104_stack, ro104_drew, ko104_drew, ro104_drawn, ko104_drawn, ro104_signs, ko104_signs, ro104_numbers, ko104_numbers⟩ := id hL
          show AW m_X7_readOrder d none Q 101 [some (.inr (some 104)), some (.inl (hi h 109 (hi h 104 19))), some (.inl 1), none] [(.inl v65)] h64 (0, 0)
          refine aw_goto (pc := 101) (tgt := 121) dX7_readOrder_101 (by decide) ?_
          refine ax_istore_n (pc := 121) (ls' := [some (.inr (some 104)), some (.inl (hi h 109 (hi h 104 19))), some (.inl 1), some (.inl v65)]) dX7_readOrder_121 (Nat.le_of_ble_eq_true rfl) rfl ?_
          refine aw_iload_n (pc := 122) dX7_readOrder_122 rfl ?_
          refine aw_bipush (pc := 123) dX7_readOrder_123 ?_
          refine aw_icmp_ne (pc := 125) (tgt := 130) dX7_readOrder_125 (by decide) (fun c66 => ?_) (fun c66 => ?_)
          · replace g := g.1 c66
            refine aw_aload_n (pc := 130) dX7_readOrder_130 rfl ?_
            refine aw_getr (pc := 131) (r := some 113) dX7_readOrder_131 fl_X7_34 (by decide) rfl ko104 ro104_signs ?_
            refine aw_aload_n (pc := 134) dX7_readOrder_134 rfl ?_
            refine ax_geti (pc := 135) (v := hi h64 104 18) dX7_readOrder_135 fl_X7_175 (by decide) rfl ko104 rfl ?_
            refine aw_iload_n (pc := 138) dX7_readOrder_138 rfl ?_
            obtain ⟨s67, g⟩ := g
            refine ax_iastore (pc := 139) (n := 31) dX7_readOrder_139 ko104_signs s67 ?_
            refine aw_aload_n (pc := 140) dX7_readOrder_140 rfl ?_
            refine aw_getr (pc := 141) (r := some 114) dX7_readOrder_141 fl_X7_37 (by decide) rfl (hkU ko104) (hrU ro104_numbers) ?_
            refine aw_aload_n (pc := 144) dX7_readOrder_144 rfl ?_
            refine ax_geti (pc := 145) (v := hi h64 104 18) dX7_readOrder_145 fl_X7_175 (by decide) rfl (hkU ko104) (hiN (Or.inl (by omega)) rfl) ?_
            refine aw_iload_n (pc := 148) dX7_readOrder_148 rfl ?_
            refine ax_iastore (pc := 149) (n := 31) dX7_readOrder_149 (hkU ko104_numbers) s67 ?_
            refine aw_aload_n (pc := 150) dX7_readOrder_150 rfl ?_
            refine aw_dup (pc := 151) dX7_readOrder_151 ?_
            refine ax_geti (pc := 152) (v := hi h64 104 18) dX7_readOrder_152 fl_X7_175 (by decide) rfl (hkU (hkU ko104)) (hiN (Or.inl (by omega)) (hiN (Or.inl (by omega)) rfl)) ?_
            refine aw_iconst (pc := 155) dX7_readOrder_155 ?_
            obtain ⟨s68, g⟩ := g
            refine ax_iadd (pc := 156) (v := (hi h64 104 18) + 1) dX7_readOrder_156 s68 rfl ?_
            refine ax_puti (pc := 157) dX7_readOrder_157 fl_X7_175 (by decide) rfl rfl rfl (hkU (hkU ko104)) ?_
            refine aw_iconst (pc := 160) dX7_readOrder_160 ?_
            exact aw_ireturn (pc := 161) dX7_readOrder_161 (by simp [okr]) g (by decide) (by decide)
          · replace g := g.2 c66
            refine aw_iconst (pc := 128) dX7_readOrder_128 ?_
            exact aw_ireturn (pc := 129) dX7_readOrder_129 (by simp [okr]) g (by decide) (by decide)
set_option maxRecDepth 100000 in
set_option maxHeartbeats 4000000 in
theorem vc_X7_readText {d : Nat} {Q : Option Int → AH → Prop} {h : AH}  (hd : 1 ≤ d) (hL : QZ h)
  (g :
    AM (d - 1) m_X7_readOrder [(.inr (some 104))] (up (up h 104 19 0) 104 18 0) (fun r h1 => 
      ∃ v2, r = some v2 ∧ SS (up (up h 104 19 0) 104 18 0) h1 ∧
      AW m_X7_readText d none Q 15 [some (.inr (some 104)), some (.inl v2)] [] h1 (0, 0))) :
  AM d m_X7_readText [(.inr (some 104))] h Q := by
  refine am_body mo_X7_readText (Nat.le_of_ble_eq_true rfl) ?_
  show AW m_X7_readText d none Q 0 [some (.inr (some 104)), none] [] h (0, 0)
  obtain ⟨ko104, ro104_z, ko104_z, ro104_spare, ko104_spare, ro104_past, ko104_past, ro104_kept, ko104_kept, ro104_text, ko104_text, ro104_stack, ko104_stack, ro104_drew, ko104_drew, ro104_drawn, ko104_drawn, ro104_signs, ko104_signs, ro104_numbers, ko104_numbers⟩ := id hL
  refine aw_aload_n (pc := 0) dX7_readText_0 rfl ?_
  refine aw_iconst (pc := 1) dX7_readText_1 ?_
  refine ax_puti (pc := 2) dX7_readText_2 fl_X7_166 (by decide) rfl rfl rfl ko104 ?_
  refine aw_aload_n (pc := 5) dX7_readText_5 rfl ?_
  refine aw_iconst (pc := 6) dX7_readText_6 ?_
  refine ax_puti (pc := 7) dX7_readText_7 fl_X7_175 (by decide) rfl rfl rfl (hkU ko104) ?_
  refine aw_aload_n (pc := 10) dX7_readText_10 rfl ?_
  refine aw_invV (pc := 11) (md' := m_X7_readOrder) (ci := 7) (as := []) dX7_readText_11 mo_X7_readOrder im_X7_readOrder se_X7_readOrder ml_X7_178 rfl (hkU (hkU ko104)) rfl hd (Nat.le_of_ble_eq_true rfl) (Nat.le_of_ble_eq_true rfl) (Nat.le_of_ble_eq_true rfl) ?_
  refine am_mono g (fun _ h1 _ ok_h1 g => ?_)
  obtain ⟨v2, rfl, ss_h1, g⟩ := g
  replace hL := QZ.ss hL (SS.tr (SS.up (SS.up SS.rf)) ss_h1)
  obtain ⟨ko104, ro104_z, ko104_z, ro104_spare, ko104_spare, ro104_past, ko104_past, ro104_kept, ko104_kept, ro104_text, ko104_text, ro104_stack, ko104_stack, ro104_drew, ko104_drew, ro104_drawn, ko104_drawn, ro104_signs, ko104_signs, ro104_numbers, ko104_numbers⟩ := id hL
  show AW m_X7_readText d none Q 14 [some (.inr (some 104)), none] [(.inl v2)] h1 (0, 0)
  refine ax_istore_n (pc := 14) (ls' := [some (.inr (some 104)), some (.inl v2)]) dX7_readText_14 (Nat.le_of_ble_eq_true rfl) rfl ?_
  exact g
set_option maxRecDepth 100000 in
set_option maxHeartbeats 4000000 in
theorem vc_X7_readText_15 {d : Nat} {Q : Option Int → AH → Prop} {h : AH} {x1 : Int} (hd : 1 ≤ d) (hL : QZ h)
  (g :
    ((x1 = 0 → (
      (x1 = 0 ∨ x1 = 1) ∧
      Q (some x1) h
    )) ∧
    (¬ (x1 = 0) → (
      ((hi h 104 7 ≤ hi h 104 19 → (
        (x1 = 0 ∨ x1 = 1) ∧
        Q (some x1) h
      )) ∧
      (¬ (hi h 104 7 ≤ hi h 104 19) → (
        AM (d - 1) m_X7_takes [(.inr (some 104)), (.inl 59)] h (fun r h7 => 
          ∃ v8, r = some v8 ∧ SS h h7 ∧
          ((v8 = 0 → (
            AW m_X7_readText d none Q 15 [some (.inr (some 104)), some (.inl 0)] [] h7 (0, 0)
          )) ∧
          (¬ (v8 = 0) → (
            AM (d - 1) m_X7_readOrder [(.inr (some 104))] h7 (fun r h10 => 
              ∃ v11, r = some v11 ∧ SS h7 h10 ∧
              ((v11 = 0 → (
                AW m_X7_readText d none Q 15 [some (.inr (some 104)), some (.inl 0)] [] h10 (0, 0)
              )) ∧
              (¬ (v11 = 0) → (
                AW m_X7_readText d none Q 15 [some (.inr (some 104)), some (.inl 1)] [] h10 (0, 0)
              ))))
          ))))
      )))
    )))) :
  AW m_X7_readText d none Q 15 [some (.inr (some 104)), some (.inl x1)] [] h (0, 0) := by
  obtain ⟨ko104, ro104_z, ko104_z, ro104_spare, ko104_spare, ro104_past, ko104_past, ro104_kept, ko104_kept, ro104_text, ko104_text, ro104_stack, ko104_stack, ro104_drew, ko104_drew, ro104_drawn, ko104_drawn, ro104_signs, ko104_signs, ro104_numbers, ko104_numbers⟩ := id hL
  refine aw_iload_n (pc := 15) dX7_readText_15 rfl ?_
  refine aw_if_eq (pc := 16) (tgt := 55) dX7_readText_16 (by decide) (fun c3 => ?_) (fun c3 => ?_)
  · replace g := g.1 c3
    refine aw_iload_n (pc := 55) dX7_readText_55 rfl ?_
    obtain ⟨s4, g⟩ := g
    exact aw_ireturn (pc := 56) dX7_readText_56 s4 g (by decide) (by decide)
  · replace g := g.2 c3
    refine aw_aload_n (pc := 19) dX7_readText_19 rfl ?_
    refine ax_geti (pc := 20) (v := hi h 104 19) dX7_readText_20 fl_X7_166 (by decide) rfl ko104 rfl ?_
    refine aw_aload_n (pc := 23) dX7_readText_23 rfl ?_
    refine ax_geti (pc := 24) (v := hi h 104 7) dX7_readText_24 fl_X7_163 (by decide) rfl ko104 rfl ?_
    refine aw_icmp_ge (pc := 27) (tgt := 55) dX7_readText_27 (by decide) (fun c5 => ?_) (fun c5 => ?_)
    · replace g := g.1 c5
      refine aw_iload_n (pc := 55) dX7_readText_55 rfl ?_
      obtain ⟨s6, g⟩ := g
      exact aw_ireturn (pc := 56) dX7_readText_56 s6 g (by decide) (by decide)
    · replace g := g.2 c5
      refine aw_aload_n (pc := 30) dX7_readText_30 rfl ?_
      refine aw_bipush (pc := 31) dX7_readText_31 ?_
      refine aw_invV (pc := 33) (md' := m_X7_takes) (ci := 7) (as := [(.inl 59)]) dX7_readText_33 mo_X7_takes im_X7_takes se_X7_takes ml_X7_182 rfl ko104 rfl hd (Nat.le_of_ble_eq_true rfl) (Nat.le_of_ble_eq_true rfl) (Nat.le_of_ble_eq_true rfl) ?_
      refine am_mono g (fun _ h7 _ ok_h7 g => ?_)
      obtain ⟨v8, rfl, ss_h7, g⟩ := g
      replace hL := QZ.ss hL ss_h7
      obtain ⟨ko104, ro104_z, ko104_z, ro104_spare, ko104_spare, ro104_past, ko104_past, ro104_kept, ko104_kept, ro104_text, ko104_text, ro104_stack, ko104_stack, ro104_drew, ko104_drew, ro104_drawn, ko104_drawn, ro104_signs, ko104_signs, ro104_numbers, ko104_numbers⟩ := id hL
      show AW m_X7_readText d none Q 36 [some (.inr (some 104)), some (.inl x1)] [(.inl v8)] h7 (0, 0)
      refine aw_if_eq (pc := 36) (tgt := 50) dX7_readText_36 (by decide) (fun c9 => ?_) (fun c9 => ?_)
      · replace g := g.1 c9
        refine aw_iconst (pc := 50) dX7_readText_50 ?_
        refine ax_istore_n (pc := 51) (ls' := [some (.inr (some 104)), some (.inl 0)]) dX7_readText_51 (Nat.le_of_ble_eq_true rfl) rfl ?_
        refine aw_goto (pc := 52) (tgt := 15) dX7_readText_52 (by decide) ?_
        exact g
      · replace g := g.2 c9
        refine aw_aload_n (pc := 39) dX7_readText_39 rfl ?_
        refine aw_invV (pc := 40) (md' := m_X7_readOrder) (ci := 7) (as := []) dX7_readText_40 mo_X7_readOrder im_X7_readOrder se_X7_readOrder ml_X7_178 rfl ko104 rfl hd (Nat.le_of_ble_eq_true rfl) (Nat.le_of_ble_eq_true rfl) (Nat.le_of_ble_eq_true rfl) ?_
        refine am_mono g (fun _ h10 _ ok_h10 g => ?_)
        obtain ⟨v11, rfl, ss_h10, g⟩ := g
        replace hL := QZ.ss hL ss_h10
        obtain ⟨ko104, ro104_z, ko104_z, ro104_spare, ko104_spare, ro104_past, ko104_past, ro104_kept, ko104_kept, ro104_text, ko104_text, ro104_stack, ko104_stack, ro104_drew, ko104_drew, ro104_drawn, ko104_drawn, ro104_signs, ko104_signs, ro104_numbers, ko104_numbers⟩ := id hL
        show AW m_X7_readText d none Q 43 [some (.inr (some 104)), some (.inl x1)] [(.inl v11)] h10 (0, 0)
        refine aw_if_eq (pc := 43) (tgt := 50) dX7_readText_43 (by decide) (fun c12 => ?_) (fun c12 => ?_)
        · replace g := g.1 c12
          refine aw_iconst (pc := 50) dX7_readText_50 ?_
          refine ax_istore_n (pc := 51) (ls' := [some (.inr (some 104)), some (.inl 0)]) dX7_readText_51 (Nat.le_of_ble_eq_true rfl) rfl ?_
          refine aw_goto (pc := 52) (tgt := 15) dX7_readText_52 (by decide) ?_
          exact g
        · replace g := g.2 c12
          refine aw_iconst (pc := 46) dX7_readText_46 ?_
          refine aw_goto (pc := 47) (tgt := 51) dX7_readText_47 (by decide) ?_
          refine ax_istore_n (pc := 51) (ls' := [some (.inr (some 104)), some (.inl 1)]) dX7_readText_51 (Nat.le_of_ble_eq_true rfl) rfl ?_
          refine aw_goto (pc := 52) (tgt := 15) dX7_readText_52 (by decide) ?_
          exact g
set_option maxRecDepth 100000 in
set_option maxHeartbeats 4000000 in
theorem vc_X7_whyNot {d : Nat} {Q : Option Int → AH → Prop} {h : AH} {x1 x2 : Int} (hd : 1 ≤ d) (hL : QZ h)
  (g :
    ((¬ x1 = 43 → (
      ((x1 = 45 → (
        AM (d - 1) m_X7_cardWith [(.inr (some 104)), (.inl x2)] h (fun r h3 => 
          ∃ v4, r = some v4 ∧ SS h h3 ∧
          ((¬ v4 = -5 → (
            Q (some 0) h3
          )) ∧
          (¬ (¬ v4 = -5) → (
            Q (some (-1)) h3
          ))))
      )) ∧
      (¬ (x1 = 45) → (
        ((¬ x1 = 122 → (
          Q (some 0) h
        )) ∧
        (¬ (¬ x1 = 122) → (
          AM (d - 1) m_X7_cardWith [(.inr (some 104)), (.inl x2)] h (fun r h7 => 
            ∃ v8, r = some v8 ∧ SS h h7 ∧
            ((¬ v8 = -5 → (
              Q (some 0) h7
            )) ∧
            (¬ (¬ v8 = -5) → (
              Q (some (-1)) h7
            ))))
        )))
      )))
    )) ∧
    (¬ (¬ x1 = 43) → (
      AM (d - 1) m_X7_whyNotPut [(.inr (some 104)), (.inl x2)] h (fun r h10 => 
        ∃ v11, r = some v11 ∧ SS h h10 ∧
        Q (some v11) h10)
    )))) :
  AM d m_X7_whyNot [(.inr (some 104)), (.inl x1), (.inl x2)] h Q := by
  refine am_body mo_X7_whyNot (Nat.le_of_ble_eq_true rfl) ?_
  show AW m_X7_whyNot d none Q 0 [some (.inr (some 104)), some (.inl x1), some (.inl x2)] [] h (0, 0)
  obtain ⟨ko104, ro104_z, ko104_z, ro104_spare, ko104_spare, ro104_past, ko104_past, ro104_kept, ko104_kept, ro104_text, ko104_text, ro104_stack, ko104_stack, ro104_drew, ko104_drew, ro104_drawn, ko104_drawn, ro104_signs, ko104_signs, ro104_numbers, ko104_numbers⟩ := id hL
  refine aw_iload_n (pc := 0) dX7_whyNot_0 rfl ?_
  refine aw_bipush (pc := 1) dX7_whyNot_1 ?_
  refine aw_icmp_ne (pc := 3) (tgt := 14) dX7_whyNot_3 (by decide) (fun c1 => ?_) (fun c1 => ?_)
  · replace g := g.1 c1
    refine aw_iload_n (pc := 14) dX7_whyNot_14 rfl ?_
    refine aw_bipush (pc := 15) dX7_whyNot_15 ?_
    refine aw_icmp_eq (pc := 17) (tgt := 26) dX7_whyNot_17 (by decide) (fun c2 => ?_) (fun c2 => ?_)
    · replace g := g.1 c2
      refine aw_aload_n (pc := 26) dX7_whyNot_26 rfl ?_
      refine aw_iload_n (pc := 27) dX7_whyNot_27 rfl ?_
      refine aw_invV (pc := 28) (md' := m_X7_cardWith) (ci := 7) (as := [(.inl x2)]) dX7_whyNot_28 mo_X7_cardWith im_X7_cardWith se_X7_cardWith ml_X7_67 rfl ko104 rfl hd (Nat.le_of_ble_eq_true rfl) (Nat.le_of_ble_eq_true rfl) (Nat.le_of_ble_eq_true rfl) ?_
      refine am_mono g (fun _ h3 _ ok_h3 g => ?_)
      obtain ⟨v4, rfl, ss_h3, g⟩ := g
      replace hL := QZ.ss hL ss_h3
      obtain ⟨ko104, ro104_z, ko104_z, ro104_spare, ko104_spare, ro104_past, ko104_past, ro104_kept, ko104_kept, ro104_text, ko104_text, ro104_stack, ko104_stack, ro104_drew, ko104_drew, ro104_drawn, ko104_drawn, ro104_signs, ko104_signs, ro104_numbers, ko104_numbers⟩ := id hL
      show AW m_X7_whyNot d none Q 31 [some (.inr (some 104)), some (.inl x1), some (.inl x2)] [(.inl v4)] h3 (0, 0)
      refine aw_bipush (pc := 31) dX7_whyNot_31 ?_
      refine aw_icmp_ne (pc := 33) (tgt := 40) dX7_whyNot_33 (by decide) (fun c5 => ?_) (fun c5 => ?_)
      · replace g := g.1 c5
        refine aw_iconst (pc := 40) dX7_whyNot_40 ?_
        exact ax_ireturn (pc := 41) dX7_whyNot_41 rfl g (by decide) (by decide)
      · replace g := g.2 c5
        refine aw_iconst (pc := 36) dX7_whyNot_36 ?_
        refine aw_goto (pc := 37) (tgt := 41) dX7_whyNot_37 (by decide) ?_
        exact ax_ireturn (pc := 41) dX7_whyNot_41 rfl g (by decide) (by decide)
    · replace g := g.2 c2
      refine aw_iload_n (pc := 20) dX7_whyNot_20 rfl ?_
      refine aw_bipush (pc := 21) dX7_whyNot_21 ?_
      refine aw_icmp_ne (pc := 23) (tgt := 40) dX7_whyNot_23 (by decide) (fun c6 => ?_) (fun c6 => ?_)
      · replace g := g.1 c6
        refine aw_iconst (pc := 40) dX7_whyNot_40 ?_
        exact ax_ireturn (pc := 41) dX7_whyNot_41 rfl g (by decide) (by decide)
      · replace g := g.2 c6
        refine aw_aload_n (pc := 26) dX7_whyNot_26 rfl ?_
        refine aw_iload_n (pc := 27) dX7_whyNot_27 rfl ?_
        refine aw_invV (pc := 28) (md' := m_X7_cardWith) (ci := 7) (as := [(.inl x2)]) dX7_whyNot_28 mo_X7_cardWith im_X7_cardWith se_X7_cardWith ml_X7_67 rfl ko104 rfl hd (Nat.le_of_ble_eq_true rfl) (Nat.le_of_ble_eq_true rfl) (Nat.le_of_ble_eq_true rfl) ?_
        refine am_mono g (fun _ h7 _ ok_h7 g => ?_)
        obtain ⟨v8, rfl, ss_h7, g⟩ := g
        replace hL := QZ.ss hL ss_h7
        obtain ⟨ko104, ro104_z, ko104_z, ro104_spare, ko104_spare, ro104_past, ko104_past, ro104_kept, ko104_kept, ro104_text, ko104_text, ro104_stack, ko104_stack, ro104_drew, ko104_drew, ro104_drawn, ko104_drawn, ro104_signs, ko104_signs, ro104_numbers, ko104_numbers⟩ := id hL
        show AW m_X7_whyNot d none Q 31 [some (.inr (some 104)), some (.inl x1), some (.inl x2)] [(.inl v8)] h7 (0, 0)
        refine aw_bipush (pc := 31) dX7_whyNot_31 ?_
        refine aw_icmp_ne (pc := 33) (tgt := 40) dX7_whyNot_33 (by decide) (fun c9 => ?_) (fun c9 => ?_)
        · replace g := g.1 c9
          refine aw_iconst (pc := 40) dX7_whyNot_40 ?_
          exact ax_ireturn (pc := 41) dX7_whyNot_41 rfl g (by decide) (by decide)
        · replace g := g.2 c9
          refine aw_iconst (pc := 36) dX7_whyNot_36 ?_
          refine aw_goto (pc := 37) (tgt := 41) dX7_whyNot_37 (by decide) ?_
          exact ax_ireturn (pc := 41) dX7_whyNot_41 rfl g (by decide) (by decide)
  · replace g := g.2 c1
    refine aw_aload_n (pc := 6) dX7_whyNot_6 rfl ?_
    refine aw_iload_n (pc := 7) dX7_whyNot_7 rfl ?_
    refine aw_invV (pc := 8) (md' := m_X7_whyNotPut) (ci := 7) (as := [(.inl x2)]) dX7_whyNot_8 mo_X7_whyNotPut im_X7_whyNotPut se_X7_whyNotPut ml_X7_75 rfl ko104 rfl hd (Nat.le_of_ble_eq_true rfl) (Nat.le_of_ble_eq_true rfl) (Nat.le_of_ble_eq_true rfl) ?_
    refine am_mono g (fun _ h10 _ ok_h10 g => ?_)
    obtain ⟨v11, rfl, ss_h10, g⟩ := g
    replace hL := QZ.ss hL ss_h10
    obtain ⟨ko104, ro104_z, ko104_z, ro104_spare, ko104_spare, ro104_past, ko104_past, ro104_kept, ko104_kept, ro104_text, ko104_text, ro104_stack, ko104_stack, ro104_drew, ko104_drew, ro104_drawn, ko104_drawn, ro104_signs, ko104_signs, ro104_numbers, ko104_numbers⟩ := id hL
    show AW m_X7_whyNot d none Q 11 [some (.inr (some 104)), some (.inl x1), some (.inl x2)] [(.inl v11)] h10 (0, 0)
    refine aw_goto (pc := 11) (tgt := 41) dX7_whyNot_11 (by decide) ?_
    exact ax_ireturn (pc := 41) dX7_whyNot_41 rfl g (by decide) (by decide)
set_option maxRecDepth 100000 in
set_option maxHeartbeats 4000000 in
theorem vc_X7_carryOut {d : Nat} {Q : Option Int → AH → Prop} {h : AH} {x1 x2 : Int} (hd : 1 ≤ d) (hL : QZ h)
  (g :
    ((x1 = 43 → (
      AM (d - 1) m_X7_putNow [(.inr (some 104)), (.inl x2)] h (fun r h2 => 
        r = none ∧ SS h h2 ∧
        Q none h2)
    )) ∧
    ((x1 = 45 → (
      AM (d - 1) m_X7_cardWith [(.inr (some 104)), (.inl x2)] h (fun r h4 => 
        ∃ v5, r = some v5 ∧ SS h h4 ∧
        AM (d - 1) m_X7_takeNow [(.inr (some 104)), (.inl v5)] h4 (fun r h6 => 
          r = none ∧ SS h4 h6 ∧
          Q none h6))
    )) ∧
    ((x1 = 97 → (
      AM (d - 1) m_X7_wakeNow [(.inr (some 104))] h (fun r h8 => 
        r = none ∧ SS h h8 ∧
        Q none h8)
    )) ∧
    ((x1 = 102 → (
      AM (d - 1) m_X7_frameNow [(.inr (some 104)), (.inl x2)] h (fun r h10 => 
        r = none ∧ SS h h10 ∧
        Q none h10)
    )) ∧
    ((x1 = 122 → (
      AM (d - 1) m_X7_cardWith [(.inr (some 104)), (.inl x2)] h (fun r h12 => 
        ∃ v13, r = some v13 ∧ SS h h12 ∧
        AM (d - 1) m_X7_lay [(.inr (some 104)), (.inl v13), (.inl 1), (.inl 0)] h12 (fun r h14 => 
          r = none ∧ SS h12 h14 ∧
          Q none h14))
    )) ∧
    (((¬ x1 = 43 ∧ ¬ x1 = 45 ∧ ¬ x1 = 97 ∧ ¬ x1 = 102 ∧ ¬ x1 = 122) → (
      ((¬ x1 = 118 → (
        AM (d - 1) m_X7_walkNow [(.inr (some 104)), (.inl 0)] h (fun r h16 => 
          r = none ∧ SS h h16 ∧
          Q none h16)
      )) ∧
      (¬ (¬ x1 = 118) → (
        AM (d - 1) m_X7_walkNow [(.inr (some 104)), (.inl 1)] h (fun r h17 => 
          r = none ∧ SS h h17 ∧
          Q none h17)
      )))
    ))))))))) :
  AM d m_X7_carryOut [(.inr (some 104)), (.inl x1), (.inl x2)] h Q := by
  refine am_body mo_X7_carryOut (Nat.le_of_ble_eq_true rfl) ?_
  show AW m_X7_carryOut d none Q 0 [some (.inr (some 104)), some (.inl x1), some (.inl x2)] [] h (0, 0)
  obtain ⟨ko104, ro104_z, ko104_z, ro104_spare, ko104_spare, ro104_past, ko104_past, ro104_kept, ko104_kept, ro104_text, ko104_text, ro104_stack, ko104_stack, ro104_drew, ko104_drew, ro104_drawn, ko104_drawn, ro104_signs, ko104_signs, ro104_numbers, ko104_numbers⟩ := id hL
  refine aw_iload_n (pc := 0) dX7_carryOut_0 rfl ?_
  by_cases c1 : x1 = 43
  · replace g := g.1 c1
    refine aw_lookup (pc := 1) (tgt := 52) (off := 51) dX7_carryOut_1 (by decide) (by rw [c1]; rfl) (by decide) ?_
    refine aw_aload_n (pc := 52) dX7_carryOut_52 rfl ?_
    refine aw_iload_n (pc := 53) dX7_carryOut_53 rfl ?_
    refine aw_invV (pc := 54) (md' := m_X7_putNow) (ci := 7) (as := [(.inl x2)]) dX7_carryOut_54 mo_X7_putNow im_X7_putNow se_X7_putNow ml_X7_78 rfl ko104 rfl hd (Nat.le_of_ble_eq_true rfl) (Nat.le_of_ble_eq_true rfl) (Nat.le_of_ble_eq_true rfl) ?_
    refine am_mono g (fun _ h2 _ ok_h2 g => ?_)
    obtain ⟨rfl, ss_h2, g⟩ := g
    replace hL := QZ.ss hL ss_h2
    obtain ⟨ko104, ro104_z, ko104_z, ro104_spare, ko104_spare, ro104_past, ko104_past, ro104_kept, ko104_kept, ro104_text, ko104_text, ro104_stack, ko104_stack, ro104_drew, ko104_drew, ro104_drawn, ko104_drawn, ro104_signs, ko104_signs, ro104_numbers, ko104_numbers⟩ := id hL
    show AW m_X7_carryOut d none Q 57 [some (.inr (some 104)), some (.inl x1), some (.inl x2)] [] h2 (0, 0)
    refine aw_goto (pc := 57) (tgt := 116) dX7_carryOut_57 (by decide) ?_
    exact aw_return (pc := 116) dX7_carryOut_116 rfl g (by decide) (by decide)
  replace g := g.2
  by_cases c3 : x1 = 45
  · replace g := g.1 c3
    refine aw_lookup (pc := 1) (tgt := 60) (off := 59) dX7_carryOut_1 (by decide) (by rw [c3]; rfl) (by decide) ?_
    refine aw_aload_n (pc := 60) dX7_carryOut_60 rfl ?_
    refine aw_aload_n (pc := 61) dX7_carryOut_61 rfl ?_
    refine aw_iload_n (pc := 62) dX7_carryOut_62 rfl ?_
    refine aw_invV (pc := 63) (md' := m_X7_cardWith) (ci := 7) (as := [(.inl x2)]) dX7_carryOut_63 mo_X7_cardWith im_X7_cardWith se_X7_cardWith ml_X7_67 rfl ko104 rfl hd (Nat.le_of_ble_eq_true rfl) (Nat.le_of_ble_eq_true rfl) (Nat.le_of_ble_eq_true rfl) ?_
    refine am_mono g (fun _ h4 _ ok_h4 g => ?_)
    obtain ⟨v5, rfl, ss_h4, g⟩ := g
    replace hL := QZ.ss hL ss_h4
    obtain ⟨ko104, ro104_z, ko104_z, ro104_spare, ko104_spare, ro104_past, ko104_past, ro104_kept, ko104_kept, ro104_text, ko104_text, ro104_stack, ko104_stack, ro104_drew, ko104_drew, ro104_drawn, ko104_drawn, ro104_signs, ko104_signs, ro104_numbers, ko104_numbers⟩ := id hL
    show AW m_X7_carryOut d none Q 66 [some (.inr (some 104)), some (.inl x1), some (.inl x2)] [(.inl v5), (.inr (some 104))] h4 (0, 0)
    refine aw_invV (pc := 66) (md' := m_X7_takeNow) (ci := 7) (as := [(.inl v5)]) dX7_carryOut_66 mo_X7_takeNow im_X7_takeNow se_X7_takeNow ml_X7_82 rfl ko104 rfl hd (Nat.le_of_ble_eq_true rfl) (Nat.le_of_ble_eq_true rfl) (Nat.le_of_ble_eq_true rfl) ?_
    refine am_mono g (fun _ h6 _ ok_h6 g => ?_)
    obtain ⟨rfl, ss_h6, g⟩ := g
    replace hL := QZ.ss hL ss_h6
    obtain ⟨ko104, ro104_z, ko104_z, ro104_spare, ko104_spare, ro104_past, ko104_past, ro104_kept, ko104_kept, ro104_text, ko104_text, ro104_stack, ko104_stack, ro104_drew, ko104_drew, ro104_drawn, ko104_drawn, ro104_signs, ko104_signs, ro104_numbers, ko104_numbers⟩ := id hL
    show AW m_X7_carryOut d none Q 69 [some (.inr (some 104)), some (.inl x1), some (.inl x2)] [] h6 (0, 0)
    refine aw_goto (pc := 69) (tgt := 116) dX7_carryOut_69 (by decide) ?_
    exact aw_return (pc := 116) dX7_carryOut_116 rfl g (by decide) (by decide)
  replace g := g.2
  by_cases c7 : x1 = 97
  · replace g := g.1 c7
    refine aw_lookup (pc := 1) (tgt := 86) (off := 85) dX7_carryOut_1 (by decide) (by rw [c7]; rfl) (by decide) ?_
    refine aw_aload_n (pc := 86) dX7_carryOut_86 rfl ?_
    refine aw_invV (pc := 87) (md' := m_X7_wakeNow) (ci := 7) (as := []) dX7_carryOut_87 mo_X7_wakeNow im_X7_wakeNow se_X7_wakeNow ml_X7_89 rfl ko104 rfl hd (Nat.le_of_ble_eq_true rfl) (Nat.le_of_ble_eq_true rfl) (Nat.le_of_ble_eq_true rfl) ?_
    refine am_mono g (fun _ h8 _ ok_h8 g => ?_)
    obtain ⟨rfl, ss_h8, g⟩ := g
    replace hL := QZ.ss hL ss_h8
    obtain ⟨ko104, ro104_z, ko104_z, ro104_spare, ko104_spare, ro104_past, ko104_past, ro104_kept, ko104_kept, ro104_text, ko104_text, ro104_stack, ko104_stack, ro104_drew, ko104_drew, ro104_drawn, ko104_drawn, ro104_signs, ko104_signs, ro104_numbers, ko104_numbers⟩ := id hL
    show AW m_X7_carryOut d none Q 90 [some (.inr (some 104)), some (.inl x1), some (.inl x2)] [] h8 (0, 0)
    refine aw_goto (pc := 90) (tgt := 116) dX7_carryOut_90 (by decide) ?_
    exact aw_return (pc := 116) dX7_carryOut_116 rfl g (by decide) (by decide)
  replace g := g.2
  by_cases c9 : x1 = 102
  · replace g := g.1 c9
    refine aw_lookup (pc := 1) (tgt := 93) (off := 92) dX7_carryOut_1 (by decide) (by rw [c9]; rfl) (by decide) ?_
    refine aw_aload_n (pc := 93) dX7_carryOut_93 rfl ?_
    refine aw_iload_n (pc := 94) dX7_carryOut_94 rfl ?_
    refine aw_invV (pc := 95) (md' := m_X7_frameNow) (ci := 7) (as := [(.inl x2)]) dX7_carryOut_95 mo_X7_frameNow im_X7_frameNow se_X7_frameNow ml_X7_153 rfl ko104 rfl hd (Nat.le_of_ble_eq_true rfl) (Nat.le_of_ble_eq_true rfl) (Nat.le_of_ble_eq_true rfl) ?_
    refine am_mono g (fun _ h10 _ ok_h10 g => ?_)
    obtain ⟨rfl, ss_h10, g⟩ := g
    replace hL := QZ.ss hL ss_h10
    obtain ⟨ko104, ro104_z, ko104_z, ro104_spare, ko104_spare, ro104_past, ko104_past, ro104_kept, ko104_kept, ro104_text, ko104_text, ro104_stack, ko104_stack, ro104_drew, ko104_drew, ro104_drawn, ko104_drawn, ro104_signs, ko104_signs, ro104_numbers, ko104_numbers⟩ := id hL
    show AW m_X7_carryOut d none Q 98 [some (.inr (some 104)), some (.inl x1), some (.inl x2)] [] h10 (0, 0)
    refine aw_goto (pc := 98) (tgt := 116) dX7_carryOut_98 (by decide) ?_
    exact aw_return (pc := 116) dX7_carryOut_116 rfl g (by decide) (by decide)
  replace g := g.2
  by_cases c11 : x1 = 122
  · replace g := g.1 c11
    refine aw_lookup (pc := 1) (tgt := 72) (off := 71) dX7_carryOut_1 (by decide) (by rw [c11]; rfl) (by decide) ?_
    refine aw_aload_n (pc := 72) dX7_carryOut_72 rfl ?_
    refine aw_aload_n (pc := 73) dX7_carryOut_73 rfl ?_
    refine aw_iload_n (pc := 74) dX7_carryOut_74 rfl ?_
    refine aw_invV (pc := 75) (md' := m_X7_cardWith) (ci := 7) (as := [(.inl x2)]) dX7_carryOut_75 mo_X7_cardWith im_X7_cardWith se_X7_cardWith ml_X7_67 rfl ko104 rfl hd (Nat.le_of_ble_eq_true rfl) (Nat.le_of_ble_eq_true rfl) (Nat.le_of_ble_eq_true rfl) ?_
    refine am_mono g (fun _ h12 _ ok_h12 g => ?_)
    obtain ⟨v13, rfl, ss_h12, g⟩ := g
    replace hL := QZ.ss hL ss_h12
    obtain ⟨ko104, ro104_z, ko104_z, ro104_spare, ko104_spare, ro104_past, ko104_past, ro104_kept, ko104_kept, ro104_text, ko104_text, ro104_stack, ko104_stack, ro104_drew, ko104_drew, ro104_drawn, ko104_drawn, ro104_signs, ko104_signs, ro104_numbers, ko104_numbers⟩ := id hL
    show AW m_X7_carryOut d none Q 78 [some (.inr (some 104)), some (.inl x1), some (.inl x2)] [(.inl v13), (.inr (some 104))] h12 (0, 0)
    refine aw_iconst (pc := 78) dX7_carryOut_78 ?_
    refine aw_iconst (pc := 79) dX7_carryOut_79 ?_
    refine aw_invV (pc := 80) (md' := m_X7_lay) (ci := 7) (as := [(.inl v13), (.inl 1), (.inl 0)]) dX7_carryOut_80 mo_X7_lay im_X7_lay se_X7_lay ml_X7_71 rfl ko104 rfl hd (Nat.le_of_ble_eq_true rfl) (Nat.le_of_ble_eq_true rfl) (Nat.le_of_ble_eq_true rfl) ?_
    refine am_mono g (fun _ h14 _ ok_h14 g => ?_)
    obtain ⟨rfl, ss_h14, g⟩ := g
    replace hL := QZ.ss hL ss_h14
    obtain ⟨ko104, ro104_z, ko104_z, ro104_spare, ko104_spare, ro104_past, ko104_past, ro104_kept, ko104_kept, ro104_text, ko104_text, ro104_stack, ko104_stack, ro104_drew, ko104_drew, ro104_drawn, ko104_drawn, ro104_signs, ko104_signs, ro104_numbers, ko104_numbers⟩ := id hL
    show AW m_X7_carryOut d none Q 83 [some (.inr (some 104)), some (.inl x1), some (.inl x2)] [] h14 (0, 0)
    refine aw_goto (pc := 83) (tgt := 116) dX7_carryOut_83 (by decide) ?_
    exact aw_return (pc := 116) dX7_carryOut_116 rfl g (by decide) (by decide)
  replace g := g.2
  replace g := g ⟨c1, c3, c7, c9, c11⟩
  refine aw_lookup (pc := 1) (tgt := 101) (off := 100) dX7_carryOut_1 (by decide) (by simp [Op.lookupswitch.offset_cons, Op.lookupswitch.offset_nil, Ne.symm c1, Ne.symm c3, Ne.symm c7, Ne.symm c9, Ne.symm c11]; done) (by decide) ?_
  refine aw_aload_n (pc := 101) dX7_carryOut_101 rfl ?_
  refine aw_iload_n (pc := 102) dX7_carryOut_102 rfl ?_
  refine aw_bipush (pc := 103) dX7_carryOut_103 ?_
  refine aw_icmp_ne (pc := 105) (tgt := 112) dX7_carryOut_105 (by decide) (fun c15 => ?_) (fun c15 => ?_)
  · replace g := g.1 c15
    refine aw_iconst (pc := 112) dX7_carryOut_112 ?_
    refine aw_invV (pc := 113) (md' := m_X7_walkNow) (ci := 7) (as := [(.inl 0)]) dX7_carryOut_113 mo_X7_walkNow im_X7_walkNow se_X7_walkNow ml_X7_135 rfl ko104 rfl hd (Nat.le_of_ble_eq_true rfl) (Nat.le_of_ble_eq_true rfl) (Nat.le_of_ble_eq_true rfl) ?_
    refine am_mono g (fun _ h16 _ ok_h16 g => ?_)
    obtain ⟨rfl, ss_h16, g⟩ := g
    replace hL := QZ.ss hL ss_h16
    obtain ⟨ko104, ro104_z, ko104_z, ro104_spare, ko104_spare, ro104_past, ko104_past, ro104_kept, ko104_kept, ro104_text, ko104_text, ro104_stack, ko104_stack, ro104_drew, ko104_drew, ro104_drawn, ko104_drawn, ro104_signs, ko104_signs, ro104_numbers, ko104_numbers⟩ := id hL
    show AW m_X7_carryOut d none Q 116 [some (.inr (some 104)), some (.inl x1), some (.inl x2)] [] h16 (0, 0)
    exact aw_return (pc := 116) dX7_carryOut_116 rfl g (by decide) (by decide)
  · replace g := g.2 c15
    refine aw_iconst (pc := 108) dX7_carryOut_108 ?_
    refine aw_goto (pc := 109) (tgt := 113) dX7_carryOut_109 (by decide) ?_
    refine aw_invV (pc := 113) (md' := m_X7_walkNow) (ci := 7) (as := [(.inl 1)]) dX7_carryOut_113 mo_X7_walkNow im_X7_walkNow se_X7_walkNow ml_X7_135 rfl ko104 rfl hd (Nat.le_of_ble_eq_true rfl) (Nat.le_of_ble_eq_true rfl) (Nat.le_of_ble_eq_true rfl) ?_
    refine am_mono g (fun _ h17 _ ok_h17 g => ?_)
    obtain ⟨rfl, ss_h17, g⟩ := g
    replace hL := QZ.ss hL ss_h17
    obtain ⟨ko104, ro104_z, ko104_z, ro104_spare, ko104_spare, ro104_past, ko104_past, ro104_kept, ko104_kept, ro104_text, ko104_text, ro104_stack, ko104_stack, ro104_drew, ko104_drew, ro104_drawn, ko104_drawn, ro104_signs, ko104_signs, ro104_numbers, ko104_numbers⟩ := id hL
    show AW m_X7_carryOut d none Q 116 [some (.inr (some 104)), some (.inl x1), some (.inl x2)] [] h17 (0, 0)
    exact aw_return (pc := 116) dX7_carryOut_116 rfl g (by decide) (by decide)
set_option maxRecDepth 100000 in
set_option maxHeartbeats 4000000 in
theorem vc_X7_perform {d : Nat} {Q : Option Int → AH → Prop} {h : AH}  (hd : 1 ≤ d) (hL : QZ h)
  (g :
    AM (d - 1) m_X7_readText [(.inr (some 104))] h (fun r h1 => 
      ∃ v2, r = some v2 ∧ SS h h1 ∧
      ((¬ v2 = 0 → (
        AM (d - 1) m_X7_copyState [(.inr (some 105)), (.inl 0), (.inr (some 106)), (.inl 0)] h1 (fun r h4 => 
          r = none ∧ SS h1 h4 ∧
          AW m_X7_perform d none Q 30 [some (.inr (some 104)), some (.inl 0), none] [] h4 (0, 0))
      )) ∧
      (¬ (¬ v2 = 0) → (
        (rg ((-100) - (hi h1 104 19))) ∧
        Q (some ((-100) - (hi h1 104 19))) h1
      ))))) :
  AM d m_X7_perform [(.inr (some 104))] h Q := by
  refine am_body mo_X7_perform (Nat.le_of_ble_eq_true rfl) ?_
  show AW m_X7_perform d none Q 0 [some (.inr (some 104)), none, none] [] h (0, 0)
  obtain ⟨ko104, ro104_z, ko104_z, ro104_spare, ko104_spare, ro104_past, ko104_past, ro104_kept, ko104_kept, ro104_text, ko104_text, ro104_stack, ko104_stack, ro104_drew, ko104_drew, ro104_drawn, ko104_drawn, ro104_signs, ko104_signs, ro104_numbers, ko104_numbers⟩ := id hL
  refine aw_aload_n (pc := 0) dX7_perform_0 rfl ?_
  refine aw_invV (pc := 1) (md' := m_X7_readText) (ci := 7) (as := []) dX7_perform_1 mo_X7_readText im_X7_readText se_X7_readText ml_X7_185 rfl ko104 rfl hd (Nat.le_of_ble_eq_true rfl) (Nat.le_of_ble_eq_true rfl) (Nat.le_of_ble_eq_true rfl) ?_
  refine am_mono g (fun _ h1 _ ok_h1 g => ?_)
  obtain ⟨v2, rfl, ss_h1, g⟩ := g
  replace hL := QZ.ss hL ss_h1
  obtain ⟨ko104, ro104_z, ko104_z, ro104_spare, ko104_spare, ro104_past, ko104_past, ro104_kept, ko104_kept, ro104_text, ko104_text, ro104_stack, ko104_stack, ro104_drew, ko104_drew, ro104_drawn, ko104_drawn, ro104_signs, ko104_signs, ro104_numbers, ko104_numbers⟩ := id hL
  show AW m_X7_perform d none Q 4 [some (.inr (some 104)), none, none] [(.inl v2)] h1 (0, 0)
  refine aw_if_ne (pc := 4) (tgt := 15) dX7_perform_4 (by decide) (fun c3 => ?_) (fun c3 => ?_)
  · replace g := g.1 c3
    refine aw_aload_n (pc := 15) dX7_perform_15 rfl ?_
    refine aw_getr (pc := 16) (r := some 105) dX7_perform_16 fl_X7_7 (by decide) rfl ko104 ro104_z ?_
    refine aw_iconst (pc := 19) dX7_perform_19 ?_
    refine aw_aload_n (pc := 20) dX7_perform_20 rfl ?_
    refine aw_getr (pc := 21) (r := some 106) dX7_perform_21 fl_X7_13 (by decide) rfl ko104 ro104_spare ?_
    refine aw_iconst (pc := 24) dX7_perform_24 ?_
    refine aw_invS (pc := 25) (md' := m_X7_copyState) (as := [(.inr (some 105)), (.inl 0), (.inr (some 106)), (.inl 0)]) dX7_perform_25 mo_X7_copyState sm_X7_copyState ml_X7_48 rfl rfl hd (Nat.le_of_ble_eq_true rfl) (Nat.le_of_ble_eq_true rfl) (Nat.le_of_ble_eq_true rfl) ?_
    refine am_mono g (fun _ h4 _ ok_h4 g => ?_)
    obtain ⟨rfl, ss_h4, g⟩ := g
    replace hL := QZ.ss hL ss_h4
    obtain ⟨ko104, ro104_z, ko104_z, ro104_spare, ko104_spare, ro104_past, ko104_past, ro104_kept, ko104_kept, ro104_text, ko104_text, ro104_stack, ko104_stack, ro104_drew, ko104_drew, ro104_drawn, ko104_drawn, ro104_signs, ko104_signs, ro104_numbers, ko104_numbers⟩ := id hL
    show AW m_X7_perform d none Q 28 [some (.inr (some 104)), none, none] [] h4 (0, 0)
    refine aw_iconst (pc := 28) dX7_perform_28 ?_
    refine ax_istore_n (pc := 29) (ls' := [some (.inr (some 104)), some (.inl 0), none]) dX7_perform_29 (Nat.le_of_ble_eq_true rfl) rfl ?_
    exact g
  · replace g := g.2 c3
    refine aw_bipush (pc := 7) dX7_perform_7 ?_
    refine aw_aload_n (pc := 9) dX7_perform_9 rfl ?_
    refine ax_geti (pc := 10) (v := hi h1 104 19) dX7_perform_10 fl_X7_166 (by decide) rfl ko104 rfl ?_
    obtain ⟨s5, g⟩ := g
    refine ax_isub (pc := 13) (v := (-100) - (hi h1 104 19)) dX7_perform_13 s5 rfl ?_
    exact ax_ireturn (pc := 14) dX7_perform_14 rfl g (by decide) (by decide)
set_option maxRecDepth 100000 in
set_option maxHeartbeats 4000000 in
theorem vc_X7_perform_30 {d : Nat} {Q : Option Int → AH → Prop} {h : AH} {x1 : Int} (hd : 1 ≤ d) (hL : QZ h)
  (g :
    ((hi h 104 18 ≤ x1 → (
      AM (d - 1) m_X7_recordRow [(.inr (some 104)), (.inr (some 106))] h (fun r h7 => 
        r = none ∧ SS h h7 ∧
        Q (some (hi h7 104 18)) h7)
    )) ∧
    (¬ (hi h 104 18 ≤ x1) → (
      (0 ≤ x1 ∧ x1 < 31) ∧
      AM (d - 1) m_X7_whyNot [(.inr (some 104)), (.inl (hi h 113 x1)), (.inl (hi h 114 x1))] h (fun r h9 => 
        ∃ v10, r = some v10 ∧ SS h h9 ∧
        ((0 ≤ v10 → (
          AM (d - 1) m_X7_carryOut [(.inr (some 104)), (.inl (hi h9 113 x1)), (.inl (hi h9 114 x1))] h9 (fun r h12 => 
            r = none ∧ SS h9 h12 ∧
            (rg (x1 + 1)) ∧
            AW m_X7_perform d none Q 30 [some (.inr (some 104)), some (.inl (x1 + 1)), none] [] h12 (0, 0))
        )) ∧
        (¬ (0 ≤ v10) → (
          AM (d - 1) m_X7_copyState [(.inr (some 106)), (.inl 0), (.inr (some 105)), (.inl 0)] h9 (fun r h14 => 
            r = none ∧ SS h9 h14 ∧
            Q (some v10) h14)
        ))))
    )))) :
  AW m_X7_perform d none Q 30 [some (.inr (some 104)), some (.inl x1), none] [] h (0, 0) := by
  obtain ⟨ko104, ro104_z, ko104_z, ro104_spare, ko104_spare, ro104_past, ko104_past, ro104_kept, ko104_kept, ro104_text, ko104_text, ro104_stack, ko104_stack, ro104_drew, ko104_drew, ro104_drawn, ko104_drawn, ro104_signs, ko104_signs, ro104_numbers, ko104_numbers⟩ := id hL
  refine aw_iload_n (pc := 30) dX7_perform_30 rfl ?_
  refine aw_aload_n (pc := 31) dX7_perform_31 rfl ?_
  refine ax_geti (pc := 32) (v := hi h 104 18) dX7_perform_32 fl_X7_175 (by decide) rfl ko104 rfl ?_
  refine aw_icmp_ge (pc := 35) (tgt := 96) dX7_perform_35 (by decide) (fun c6 => ?_) (fun c6 => ?_)
  · replace g := g.1 c6
    refine aw_aload_n (pc := 96) dX7_perform_96 rfl ?_
    refine aw_aload_n (pc := 97) dX7_perform_97 rfl ?_
    refine aw_getr (pc := 98) (r := some 106) dX7_perform_98 fl_X7_13 (by decide) rfl ko104 ro104_spare ?_
    refine aw_invV (pc := 101) (md' := m_X7_recordRow) (ci := 7) (as := [(.inr (some 106))]) dX7_perform_101 mo_X7_recordRow im_X7_recordRow se_X7_recordRow ml_X7_52 rfl ko104 rfl hd (Nat.le_of_ble_eq_true rfl) (Nat.le_of_ble_eq_true rfl) (Nat.le_of_ble_eq_true rfl) ?_
    refine am_mono g (fun _ h7 _ ok_h7 g => ?_)
    obtain ⟨rfl, ss_h7, g⟩ := g
    replace hL := QZ.ss hL ss_h7
    obtain ⟨ko104, ro104_z, ko104_z, ro104_spare, ko104_spare, ro104_past, ko104_past, ro104_kept, ko104_kept, ro104_text, ko104_text, ro104_stack, ko104_stack, ro104_drew, ko104_drew, ro104_drawn, ko104_drawn, ro104_signs, ko104_signs, ro104_numbers, ko104_numbers⟩ := id hL
    show AW m_X7_perform d none Q 104 [some (.inr (some 104)), some (.inl x1), none] [] h7 (0, 0)
    refine aw_aload_n (pc := 104) dX7_perform_104 rfl ?_
    refine ax_geti (pc := 105) (v := hi h7 104 18) dX7_perform_105 fl_X7_175 (by decide) rfl ko104 rfl ?_
    exact ax_ireturn (pc := 108) dX7_perform_108 rfl g (by decide) (by decide)
  · replace g := g.2 c6
    refine aw_aload_n (pc := 38) dX7_perform_38 rfl ?_
    refine aw_aload_n (pc := 39) dX7_perform_39 rfl ?_
    refine aw_getr (pc := 40) (r := some 113) dX7_perform_40 fl_X7_34 (by decide) rfl ko104 ro104_signs ?_
    refine aw_iload_n (pc := 43) dX7_perform_43 rfl ?_
    obtain ⟨s8, g⟩ := g
    refine ax_iaload (pc := 44) (n := 31) (v := hi h 113 x1) dX7_perform_44 ko104_signs s8 rfl ?_
    refine aw_aload_n (pc := 45) dX7_perform_45 rfl ?_
    refine aw_getr (pc := 46) (r := some 114) dX7_perform_46 fl_X7_37 (by decide) rfl ko104 ro104_numbers ?_
    refine aw_iload_n (pc := 49) dX7_perform_49 rfl ?_
    refine ax_iaload (pc := 50) (n := 31) (v := hi h 114 x1) dX7_perform_50 ko104_numbers s8 rfl ?_
    refine aw_invV (pc := 51) (md' := m_X7_whyNot) (ci := 7) (as := [(.inl (hi h 113 x1)), (.inl (hi h 114 x1))]) dX7_perform_51 mo_X7_whyNot im_X7_whyNot se_X7_whyNot ml_X7_188 rfl ko104 rfl hd (Nat.le_of_ble_eq_true rfl) (Nat.le_of_ble_eq_true rfl) (Nat.le_of_ble_eq_true rfl) ?_
    refine am_mono g (fun _ h9 _ ok_h9 g => ?_)
    obtain ⟨v10, rfl, ss_h9, g⟩ := g
    replace hL := QZ.ss hL ss_h9
    obtain ⟨ko104, ro104_z, ko104_z, ro104_spare, ko104_spare, ro104_past, ko104_past, ro104_kept, ko104_kept, ro104_text, ko104_text, ro104_stack, ko104_stack, ro104_drew, ko104_drew, ro104_drawn, ko104_drawn, ro104_signs, ko104_signs, ro104_numbers, ko104_numbers⟩ := id hL
    show AW m_X7_perform d none Q 54 [some (.inr (some 104)), some (.inl x1), none] [(.inl v10)] h9 (0, 0)
    refine ax_istore_n (pc := 54) (ls' := [some (.inr (some 104)), some (.inl x1), some (.inl v10)]) dX7_perform_54 (Nat.le_of_ble_eq_true rfl) rfl ?_
    refine aw_iload_n (pc := 55) dX7_perform_55 rfl ?_
    refine aw_if_ge (pc := 56) (tgt := 74) dX7_perform_56 (by decide) (fun c11 => ?_) (fun c11 => ?_)
    · replace g := g.1 c11
      refine aw_aload_n (pc := 74) dX7_perform_74 rfl ?_
      refine aw_aload_n (pc := 75) dX7_perform_75 rfl ?_
      refine aw_getr (pc := 76) (r := some 113) dX7_perform_76 fl_X7_34 (by decide) rfl ko104 ro104_signs ?_
      refine aw_iload_n (pc := 79) dX7_perform_79 rfl ?_
      refine ax_iaload (pc := 80) (n := 31) (v := hi h9 113 x1) dX7_perform_80 ko104_signs s8 rfl ?_
      refine aw_aload_n (pc := 81) dX7_perform_81 rfl ?_
      refine aw_getr (pc := 82) (r := some 114) dX7_perform_82 fl_X7_37 (by decide) rfl ko104 ro104_numbers ?_
      refine aw_iload_n (pc := 85) dX7_perform_85 rfl ?_
      refine ax_iaload (pc := 86) (n := 31) (v := hi h9 114 x1) dX7_perform_86 ko104_numbers s8 rfl ?_
      refine aw_invV (pc := 87) (md' := m_X7_carryOut) (ci := 7) (as := [(.inl (hi h9 113 x1)), (.inl (hi h9 114 x1))]) dX7_perform_87 mo_X7_carryOut im_X7_carryOut se_X7_carryOut ml_X7_191 rfl ko104 rfl hd (Nat.le_of_ble_eq_true rfl) (Nat.le_of_ble_eq_true rfl) (Nat.le_of_ble_eq_true rfl) ?_
      refine am_mono g (fun _ h12 _ ok_h12 g => ?_)
      obtain ⟨rfl, ss_h12, g⟩ := g
      replace hL := QZ.ss hL ss_h12
      obtain ⟨ko104, ro104_z, ko104_z, ro104_spare, ko104_spare, ro104_past, ko104_past, ro104_kept, ko104_kept, ro104_text, ko104_text, ro104_stack, ko104_stack, ro104_drew, ko104_drew, ro104_drawn, ko104_drawn, ro104_signs, ko104_signs, ro104_numbers, ko104_numbers⟩ := id hL
      show AW m_X7_perform d none Q 90 [some (.inr (some 104)), some (.inl x1), some (.inl v10)] [] h12 (0, 0)
      obtain ⟨s13, g⟩ := g
      refine ax_iinc (pc := 90) (v' := x1 + 1) (ls' := [some (.inr (some 104)), some (.inl (x1 + 1)), some (.inl v10)]) dX7_perform_90 rfl s13 rfl rfl ?_
      refine aw_goto (pc := 93) (tgt := 30) dX7_perform_93 (by decide) ?_
      exact aw_fewer (show subl [some (.inr (some 104)), some (.inl (x1 + 1)), none] [some (.inr (some 104)), some (.inl (x1 + 1)), some (.inl v10)] from (And.intro rfl (And.intro rfl trivial))) g
    · replace g := g.2 c11
      refine aw_aload_n (pc := 59) dX7_perform_59 rfl ?_
      refine aw_getr (pc := 60) (r := some 106) dX7_perform_60 fl_X7_13 (by decide) rfl ko104 ro104_spare ?_
      refine aw_iconst (pc := 63) dX7_perform_63 ?_
      refine aw_aload_n (pc := 64) dX7_perform_64 rfl ?_
      refine aw_getr (pc := 65) (r := some 105) dX7_perform_65 fl_X7_7 (by decide) rfl ko104 ro104_z ?_
      refine aw_iconst (pc := 68) dX7_perform_68 ?_
      refine aw_invS (pc := 69) (md' := m_X7_copyState) (as := [(.inr (some 106)), (.inl 0), (.inr (some 105)), (.inl 0)]) dX7_perform_69 mo_X7_copyState sm_X7_copyState ml_X7_48 rfl rfl hd (Nat.le_of_ble_eq_true rfl) (Nat.le_of_ble_eq_true rfl) (Nat.le_of_ble_eq_true rfl) ?_
      refine am_mono g (fun _ h14 _ ok_h14 g => ?_)
      obtain ⟨rfl, ss_h14, g⟩ := g
      replace hL := QZ.ss hL ss_h14
      obtain ⟨ko104, ro104_z, ko104_z, ro104_spare, ko104_spare, ro104_past, ko104_past, ro104_kept, ko104_kept, ro104_text, ko104_text, ro104_stack, ko104_stack, ro104_drew, ko104_drew, ro104_drawn, ko104_drawn, ro104_signs, ko104_signs, ro104_numbers, ko104_numbers⟩ := id hL
      show AW m_X7_perform d none Q 72 [some (.inr (some 104)), some (.inl x1), some (.inl v10)] [] h14 (0, 0)
      refine aw_iload_n (pc := 72) dX7_perform_72 rfl ?_
      exact ax_ireturn (pc := 73) dX7_perform_73 rfl g (by decide) (by decide)
set_option maxRecDepth 100000 in
set_option maxHeartbeats 4000000 in
theorem vc_X7_card {d : Nat} {Q : Option Int → AH → Prop} {h : AH} {x1 : Int} (hd : 1 ≤ d) (hL : QZ h)
  (g :
    ((0 ≤ x1 → (
      ((hi h 105 0 ≤ x1 → (
        Q (some (-5)) h
      )) ∧
      (¬ (hi h 105 0 ≤ x1) → (
        AM (d - 1) m_X7_of [(.inr (some 104)), (.inl x1), (.inl 0)] h (fun r h3 => 
          ∃ v4, r = some v4 ∧ SS h h3 ∧
          Q (some v4) h3)
      )))
    )) ∧
    (¬ (0 ≤ x1) → (
      Q (some (-2)) h
    )))) :
  AM d m_X7_card [(.inr (some 104)), (.inl x1)] h Q := by
  refine am_body mo_X7_card (Nat.le_of_ble_eq_true rfl) ?_
  show AW m_X7_card d none Q 0 [some (.inr (some 104)), some (.inl x1)] [] h (0, 0)
  obtain ⟨ko104, ro104_z, ko104_z, ro104_spare, ko104_spare, ro104_past, ko104_past, ro104_kept, ko104_kept, ro104_text, ko104_text, ro104_stack, ko104_stack, ro104_drew, ko104_drew, ro104_drawn, ko104_drawn, ro104_signs, ko104_signs, ro104_numbers, ko104_numbers⟩ := id hL
  refine aw_iload_n (pc := 0) dX7_card_0 rfl ?_
  refine aw_if_ge (pc := 1) (tgt := 9) dX7_card_1 (by decide) (fun c1 => ?_) (fun c1 => ?_)
  · replace g := g.1 c1
    refine aw_iload_n (pc := 9) dX7_card_9 rfl ?_
    refine aw_aload_n (pc := 10) dX7_card_10 rfl ?_
    refine aw_getr (pc := 11) (r := some 105) dX7_card_11 fl_X7_7 (by decide) rfl ko104 ro104_z ?_
    refine aw_iconst (pc := 14) dX7_card_14 ?_
    refine ax_iaload (pc := 15) (n := 293) (v := hi h 105 0) dX7_card_15 ko104_z (by decide) rfl ?_
    refine aw_icmp_ge (pc := 16) (tgt := 28) dX7_card_16 (by decide) (fun c2 => ?_) (fun c2 => ?_)
    · replace g := g.1 c2
      refine aw_bipush (pc := 28) dX7_card_28 ?_
      exact ax_ireturn (pc := 30) dX7_card_30 rfl g (by decide) (by decide)
    · replace g := g.2 c2
      refine aw_aload_n (pc := 19) dX7_card_19 rfl ?_
      refine aw_iload_n (pc := 20) dX7_card_20 rfl ?_
      refine aw_iconst (pc := 21) dX7_card_21 ?_
      refine aw_invV (pc := 22) (md' := m_X7_of) (ci := 7) (as := [(.inl x1), (.inl 0)]) dX7_card_22 mo_X7_of im_X7_of se_X7_of ml_X7_40 rfl ko104 rfl hd (Nat.le_of_ble_eq_true rfl) (Nat.le_of_ble_eq_true rfl) (Nat.le_of_ble_eq_true rfl) ?_
      refine am_mono g (fun _ h3 _ ok_h3 g => ?_)
      obtain ⟨v4, rfl, ss_h3, g⟩ := g
      replace hL := QZ.ss hL ss_h3
      obtain ⟨ko104, ro104_z, ko104_z, ro104_spare, ko104_spare, ro104_past, ko104_past, ro104_kept, ko104_kept, ro104_text, ko104_text, ro104_stack, ko104_stack, ro104_drew, ko104_drew, ro104_drawn, ko104_drawn, ro104_signs, ko104_signs, ro104_numbers, ko104_numbers⟩ := id hL
      show AW m_X7_card d none Q 25 [some (.inr (some 104)), some (.inl x1)] [(.inl v4)] h3 (0, 0)
      refine aw_goto (pc := 25) (tgt := 30) dX7_card_25 (by decide) ?_
      exact ax_ireturn (pc := 30) dX7_card_30 rfl g (by decide) (by decide)
  · replace g := g.2 c1
    refine aw_bipush (pc := 4) dX7_card_4 ?_
    refine aw_goto (pc := 6) (tgt := 30) dX7_card_6 (by decide) ?_
    exact ax_ireturn (pc := 30) dX7_card_30 rfl g (by decide) (by decide)
set_option maxRecDepth 100000 in
set_option maxHeartbeats 4000000 in
theorem vc_X7_shares {d : Nat} {Q : Option Int → AH → Prop} {h : AH} {x1 : Int} (hd : 1 ≤ d) (hL : QZ h)
  (g :
    AW m_X7_shares d none Q 5 [some (.inr (some 104)), some (.inl x1), some (.inl (-5)), some (.inl 0), none] [] h (0, 0)) :
  AM d m_X7_shares [(.inr (some 104)), (.inl x1)] h Q := by
  refine am_body mo_X7_shares (Nat.le_of_ble_eq_true rfl) ?_
  show AW m_X7_shares d none Q 0 [some (.inr (some 104)), some (.inl x1), none, none, none] [] h (0, 0)
  obtain ⟨ko104, ro104_z, ko104_z, ro104_spare, ko104_spare, ro104_past, ko104_past, ro104_kept, ko104_kept, ro104_text, ko104_text, ro104_stack, ko104_stack, ro104_drew, ko104_drew, ro104_drawn, ko104_drawn, ro104_signs, ko104_signs, ro104_numbers, ko104_numbers⟩ := id hL
  refine aw_bipush (pc := 0) dX7_shares_0 ?_
  refine ax_istore_n (pc := 2) (ls' := [some (.inr (some 104)), some (.inl x1), some (.inl (-5)), none, none]) dX7_shares_2 (Nat.le_of_ble_eq_true rfl) rfl ?_
  refine aw_iconst (pc := 3) dX7_shares_3 ?_
  refine ax_istore_n (pc := 4) (ls' := [some (.inr (some 104)), some (.inl x1), some (.inl (-5)), some (.inl 0), none]) dX7_shares_4 (Nat.le_of_ble_eq_true rfl) rfl ?_
  exact g
set_option maxRecDepth 100000 in
set_option maxHeartbeats 4000000 in
theorem vc_X7_shares_5 {d : Nat} {Q : Option Int → AH → Prop} {h : AH} {x1 x2 x3 : Int} (hd : 1 ≤ d) (hL : QZ h)
  (g :
    ((hi h 105 0 ≤ x3 → (
      Q (some x2) h
    )) ∧
    (¬ (hi h 105 0 ≤ x3) → (
      AW m_X7_shares d none Q 18 [some (.inr (some 104)), some (.inl x1), some (.inl x2), some (.inl x3), some (.inl 0)] [] h (0, 0)
    )))) :
  AW m_X7_shares d none Q 5 [some (.inr (some 104)), some (.inl x1), some (.inl x2), some (.inl x3), none] [] h (0, 0) := by
  obtain ⟨ko104, ro104_z, ko104_z, ro104_spare, ko104_spare, ro104_past, ko104_past, ro104_kept, ko104_kept, ro104_text, ko104_text, ro104_stack, ko104_stack, ro104_drew, ko104_drew, ro104_drawn, ko104_drawn, ro104_signs, ko104_signs, ro104_numbers, ko104_numbers⟩ := id hL
  refine aw_iload_n (pc := 5) dX7_shares_5 rfl ?_
  refine aw_aload_n (pc := 6) dX7_shares_6 rfl ?_
  refine aw_getr (pc := 7) (r := some 105) dX7_shares_7 fl_X7_7 (by decide) rfl ko104 ro104_z ?_
  refine aw_iconst (pc := 10) dX7_shares_10 ?_
  refine ax_iaload (pc := 11) (n := 293) (v := hi h 105 0) dX7_shares_11 ko104_z (by decide) rfl ?_
  refine aw_icmp_ge (pc := 12) (tgt := 81) dX7_shares_12 (by decide) (fun c1 => ?_) (fun c1 => ?_)
  · replace g := g.1 c1
    refine aw_iload_n (pc := 81) dX7_shares_81 rfl ?_
    exact ax_ireturn (pc := 82) dX7_shares_82 rfl g (by decide) (by decide)
  · replace g := g.2 c1
    refine aw_iconst (pc := 15) dX7_shares_15 ?_
    refine ax_istore (pc := 16) (ls' := [some (.inr (some 104)), some (.inl x1), some (.inl x2), some (.inl x3), some (.inl 0)]) dX7_shares_16 (Nat.le_of_ble_eq_true rfl) rfl ?_
    exact g
set_option maxRecDepth 100000 in
set_option maxHeartbeats 4000000 in
theorem vc_X7_shares_18 {d : Nat} {Q : Option Int → AH → Prop} {h : AH} {x1 x2 x3 x4 : Int} (hd : 1 ≤ d) (hL : QZ h)
  (g :
    ((x3 = x1 → (
      (rg (x3 + 1)) ∧
      AW m_X7_shares d none Q 5 [some (.inr (some 104)), some (.inl x1), some (.inl x2), some (.inl (x3 + 1)), none] [] h (0, 0)
    )) ∧
    (¬ (x3 = x1) → (
      AM (d - 1) m_X7_of [(.inr (some 104)), (.inl x3), (.inl 0)] h (fun r h5 => 
        ∃ v6, r = some v6 ∧ SS h h5 ∧
        (rg (x4 + 1)) ∧
        AM (d - 1) m_X7_of [(.inr (some 104)), (.inl x1), (.inl 0)] h5 (fun r h8 => 
          ∃ v9, r = some v9 ∧ SS h5 h8 ∧
          (rg (7 - x4)) ∧
          AM (d - 1) m_X7_begins [(.inl v6), (.inl (x4 + 1)), (.inl (sr v9 (7 - x4)))] h8 (fun r h11 => 
            ∃ v12, r = some v12 ∧ SS h8 h11 ∧
            ((v12 = 0 → (
              ((x4 ≤ x2 → (
                (rg (x3 + 1)) ∧
                AW m_X7_shares d none Q 5 [some (.inr (some 104)), some (.inl x1), some (.inl x2), some (.inl (x3 + 1)), none] [] h11 (0, 0)
              )) ∧
              (¬ (x4 ≤ x2) → (
                (rg (x3 + 1)) ∧
                AW m_X7_shares d none Q 5 [some (.inr (some 104)), some (.inl x1), some (.inl x4), some (.inl (x3 + 1)), none] [] h11 (0, 0)
              )))
            )) ∧
            (¬ (v12 = 0) → (
              AW m_X7_shares d none Q 18 [some (.inr (some 104)), some (.inl x1), some (.inl x2), some (.inl x3), some (.inl (x4 + 1))] [] h11 (0, 0)
            ))))))
    )))) :
  AW m_X7_shares d none Q 18 [some (.inr (some 104)), some (.inl x1), some (.inl x2), some (.inl x3), some (.inl x4)] [] h (0, 0) := by
  obtain ⟨ko104, ro104_z, ko104_z, ro104_spare, ko104_spare, ro104_past, ko104_past, ro104_kept, ko104_kept, ro104_text, ko104_text, ro104_stack, ko104_stack, ro104_drew, ko104_drew, ro104_drawn, ko104_drawn, ro104_signs, ko104_signs, ro104_numbers, ko104_numbers⟩ := id hL
  refine aw_iload_n (pc := 18) dX7_shares_18 rfl ?_
  refine aw_iload_n (pc := 19) dX7_shares_19 rfl ?_
  refine aw_icmp_eq (pc := 20) (tgt := 57) dX7_shares_20 (by decide) (fun c2 => ?_) (fun c2 => ?_)
  · replace g := g.1 c2
    refine aw_iload_n (pc := 57) dX7_shares_57 rfl ?_
    refine aw_iload_n (pc := 58) dX7_shares_58 rfl ?_
    refine aw_icmp_eq (pc := 59) (tgt := 73) dX7_shares_59 (by decide) (fun c3 => ?_) (fun c3 => False.elim (by omega))
    refine aw_iload_n (pc := 73) dX7_shares_73 rfl ?_
    refine ax_istore_n (pc := 74) (ls' := [some (.inr (some 104)), some (.inl x1), some (.inl x2), some (.inl x3), some (.inl x4)]) dX7_shares_74 (Nat.le_of_ble_eq_true rfl) rfl ?_
    obtain ⟨s4, g⟩ := g
    refine ax_iinc (pc := 75) (v' := x3 + 1) (ls' := [some (.inr (some 104)), some (.inl x1), some (.inl x2), some (.inl (x3 + 1)), some (.inl x4)]) dX7_shares_75 rfl s4 rfl rfl ?_
    refine aw_goto (pc := 78) (tgt := 5) dX7_shares_78 (by decide) ?_
    exact aw_fewer (show subl [some (.inr (some 104)), some (.inl x1), some (.inl x2), some (.inl (x3 + 1)), none] [some (.inr (some 104)), some (.inl x1), some (.inl x2), some (.inl (x3 + 1)), some (.inl x4)] from (And.intro rfl (And.intro rfl (And.intro rfl (And.intro rfl trivial))))) g
  · replace g := g.2 c2
    refine aw_aload_n (pc := 23) dX7_shares_23 rfl ?_
    refine aw_iload_n (pc := 24) dX7_shares_24 rfl ?_
    refine aw_iconst (pc := 25) dX7_shares_25 ?_
    refine aw_invV (pc := 26) (md' := m_X7_of) (ci := 7) (as := [(.inl x3), (.inl 0)]) dX7_shares_26 mo_X7_of im_X7_of se_X7_of ml_X7_40 rfl ko104 rfl hd (Nat.le_of_ble_eq_true rfl) (Nat.le_of_ble_eq_true rfl) (Nat.le_of_ble_eq_true rfl) ?_
    refine am_mono g (fun _ h5 _ ok_h5 g => ?_)
    obtain ⟨v6, rfl, ss_h5, g⟩ := g
    replace hL := QZ.ss hL ss_h5
    obtain ⟨ko104, ro104_z, ko104_z, ro104_spare, ko104_spare, ro104_past, ko104_past, ro104_kept, ko104_kept, ro104_text, ko104_text, ro104_stack, ko104_stack, ro104_drew, ko104_drew, ro104_drawn, ko104_drawn, ro104_signs, ko104_signs, ro104_numbers, ko104_numbers⟩ := id hL
    show AW m_X7_shares d none Q 29 [some (.inr (some 104)), some (.inl x1), some (.inl x2), some (.inl x3), some (.inl x4)] [(.inl v6)] h5 (0, 0)
    refine aw_iload (pc := 29) dX7_shares_29 rfl ?_
    refine aw_iconst (pc := 31) dX7_shares_31 ?_
    obtain ⟨s7, g⟩ := g
    refine ax_iadd (pc := 32) (v := x4 + 1) dX7_shares_32 s7 rfl ?_
    refine aw_aload_n (pc := 33) dX7_shares_33 rfl ?_
    refine aw_iload_n (pc := 34) dX7_shares_34 rfl ?_
    refine aw_iconst (pc := 35) dX7_shares_35 ?_
    refine aw_invV (pc := 36) (md' := m_X7_of) (ci := 7) (as := [(.inl x1), (.inl 0)]) dX7_shares_36 mo_X7_of im_X7_of se_X7_of ml_X7_40 rfl ko104 rfl hd (Nat.le_of_ble_eq_true rfl) (Nat.le_of_ble_eq_true rfl) (Nat.le_of_ble_eq_true rfl) ?_
    refine am_mono g (fun _ h8 _ ok_h8 g => ?_)
    obtain ⟨v9, rfl, ss_h8, g⟩ := g
    replace hL := QZ.ss hL ss_h8
    obtain ⟨ko104, ro104_z, ko104_z, ro104_spare, ko104_spare, ro104_past, ko104_past, ro104_kept, ko104_kept, ro104_text, ko104_text, ro104_stack, ko104_stack, ro104_drew, ko104_drew, ro104_drawn, ko104_drawn, ro104_signs, ko104_signs, ro104_numbers, ko104_numbers⟩ := id hL
    show AW m_X7_shares d none Q 39 [some (.inr (some 104)), some (.inl x1), some (.inl x2), some (.inl x3), some (.inl x4)] [(.inl v9), (.inl (x4 + 1)), (.inl v6)] h8 (0, 0)
    refine aw_bipush (pc := 39) dX7_shares_39 ?_
    refine aw_iload (pc := 41) dX7_shares_41 rfl ?_
    obtain ⟨s10, g⟩ := g
    refine ax_isub (pc := 43) (v := 7 - x4) dX7_shares_43 s10 rfl ?_
    refine aw_ishr (pc := 44) dX7_shares_44 ?_
    refine aw_invS (pc := 45) (md' := m_X7_begins) (as := [(.inl v6), (.inl (x4 + 1)), (.inl (sr v9 (7 - x4)))]) dX7_shares_45 mo_X7_begins sm_X7_begins ml_X7_116 rfl rfl hd (Nat.le_of_ble_eq_true rfl) (Nat.le_of_ble_eq_true rfl) (Nat.le_of_ble_eq_true rfl) ?_
    refine am_mono g (fun _ h11 _ ok_h11 g => ?_)
    obtain ⟨v12, rfl, ss_h11, g⟩ := g
    replace hL := QZ.ss hL ss_h11
    obtain ⟨ko104, ro104_z, ko104_z, ro104_spare, ko104_spare, ro104_past, ko104_past, ro104_kept, ko104_kept, ro104_text, ko104_text, ro104_stack, ko104_stack, ro104_drew, ko104_drew, ro104_drawn, ko104_drawn, ro104_signs, ko104_signs, ro104_numbers, ko104_numbers⟩ := id hL
    show AW m_X7_shares d none Q 48 [some (.inr (some 104)), some (.inl x1), some (.inl x2), some (.inl x3), some (.inl x4)] [(.inl v12)] h11 (0, 0)
    refine aw_if_eq (pc := 48) (tgt := 57) dX7_shares_48 (by decide) (fun c13 => ?_) (fun c13 => ?_)
    · replace g := g.1 c13
      refine aw_iload_n (pc := 57) dX7_shares_57 rfl ?_
      refine aw_iload_n (pc := 58) dX7_shares_58 rfl ?_
      refine aw_icmp_eq (pc := 59) (tgt := 73) dX7_shares_59 (by decide) (fun c14 => False.elim (by omega)) (fun c14 => ?_)
      refine aw_iload (pc := 62) dX7_shares_62 rfl ?_
      refine aw_iload_n (pc := 64) dX7_shares_64 rfl ?_
      refine aw_icmp_le (pc := 65) (tgt := 73) dX7_shares_65 (by decide) (fun c15 => ?_) (fun c15 => ?_)
      · replace g := g.1 c15
        refine aw_iload_n (pc := 73) dX7_shares_73 rfl ?_
        refine ax_istore_n (pc := 74) (ls' := [some (.inr (some 104)), some (.inl x1), some (.inl x2), some (.inl x3), some (.inl x4)]) dX7_shares_74 (Nat.le_of_ble_eq_true rfl) rfl ?_
        obtain ⟨s16, g⟩ := g
        refine ax_iinc (pc := 75) (v' := x3 + 1) (ls' := [some (.inr (some 104)), some (.inl x1), some (.inl x2), some (.inl (x3 + 1)), some (.inl x4)]) dX7_shares_75 rfl s16 rfl rfl ?_
        refine aw_goto (pc := 78) (tgt := 5) dX7_shares_78 (by decide) ?_
        exact aw_fewer (show subl [some (.inr (some 104)), some (.inl x1), some (.inl x2), some (.inl (x3 + 1)), none] [some (.inr (some 104)), some (.inl x1), some (.inl x2), some (.inl (x3 + 1)), some (.inl x4)] from (And.intro rfl (And.intro rfl (And.intro rfl (And.intro rfl trivial))))) g
      · replace g := g.2 c15
        refine aw_iload (pc := 68) dX7_shares_68 rfl ?_
        refine aw_goto (pc := 70) (tgt := 74) dX7_shares_70 (by decide) ?_
        refine ax_istore_n (pc := 74) (ls' := [some (.inr (some 104)), some (.inl x1), some (.inl x4), some (.inl x3), some (.inl x4)]) dX7_shares_74 (Nat.le_of_ble_eq_true rfl) rfl ?_
        obtain ⟨s17, g⟩ := g
        refine ax_iinc (pc := 75) (v' := x3 + 1) (ls' := [some (.inr (some 104)), some (.inl x1), some (.inl x4), some (.inl (x3 + 1)), some (.inl x4)]) dX7_shares_75 rfl s17 rfl rfl ?_
        refine aw_goto (pc := 78) (tgt := 5) dX7_shares_78 (by decide) ?_
        exact aw_fewer (show subl [some (.inr (some 104)), some (.inl x1), some (.inl x4), some (.inl (x3 + 1)), none] [some (.inr (some 104)), some (.inl x1), some (.inl x4), some (.inl (x3 + 1)), some (.inl x4)] from (And.intro rfl (And.intro rfl (And.intro rfl (And.intro rfl trivial))))) g
    · replace g := g.2 c13
      refine ax_iinc (pc := 51) (v' := x4 + 1) (ls' := [some (.inr (some 104)), some (.inl x1), some (.inl x2), some (.inl x3), some (.inl (x4 + 1))]) dX7_shares_51 rfl s7 rfl rfl ?_
      refine aw_goto (pc := 54) (tgt := 18) dX7_shares_54 (by decide) ?_
      exact g
set_option maxRecDepth 100000 in
set_option maxHeartbeats 4000000 in
theorem vc_X7_ofCard {d : Nat} {Q : Option Int → AH → Prop} {h : AH} {x1 x2 : Int} (hd : 1 ≤ d) (hL : QZ h)
  (g :
    AM (d - 1) m_X7_cardWith [(.inr (some 104)), (.inl x1)] h (fun r h1 => 
      ∃ v2, r = some v2 ∧ SS h h1 ∧
      ((¬ v2 = -5 → (
        AM (d - 1) m_X7_in [(.inl x2), (.inl 0), (.inl 3)] h1 (fun r h4 => 
          ∃ v5, r = some v5 ∧ SS h1 h4 ∧
          ((¬ v5 = 0 → (
            ((¬ x2 = 3 → (
              (rg (1 + x2)) ∧
              AM (d - 1) m_X7_of [(.inr (some 104)), (.inl v2), (.inl (1 + x2))] h4 (fun r h9 => 
                ∃ v10, r = some v10 ∧ SS h4 h9 ∧
                Q (some v10) h9)
            )) ∧
            (¬ (¬ x2 = 3) → (
              AM (d - 1) m_X7_shares [(.inr (some 104)), (.inl v2)] h4 (fun r h11 => 
                ∃ v12, r = some v12 ∧ SS h4 h11 ∧
                Q (some v12) h11)
            )))
          )) ∧
          (¬ (¬ v5 = 0) → (
            Q (some (-2)) h4
          ))))
      )) ∧
      (¬ (¬ v2 = -5) → (
        Q (some (-1)) h1
      ))))) :
  AM d m_X7_ofCard [(.inr (some 104)), (.inl x1), (.inl x2)] h Q := by
  refine am_body mo_X7_ofCard (Nat.le_of_ble_eq_true rfl) ?_
  show AW m_X7_ofCard d none Q 0 [some (.inr (some 104)), some (.inl x1), some (.inl x2), none] [] h (0, 0)
  obtain ⟨ko104, ro104_z, ko104_z, ro104_spare, ko104_spare, ro104_past, ko104_past, ro104_kept, ko104_kept, ro104_text, ko104_text, ro104_stack, ko104_stack, ro104_drew, ko104_drew, ro104_drawn, ko104_drawn, ro104_signs, ko104_signs, ro104_numbers, ko104_numbers⟩ := id hL
  refine aw_aload_n (pc := 0) dX7_ofCard_0 rfl ?_
  refine aw_iload_n (pc := 1) dX7_ofCard_1 rfl ?_
  refine aw_invV (pc := 2) (md' := m_X7_cardWith) (ci := 7) (as := [(.inl x1)]) dX7_ofCard_2 mo_X7_cardWith im_X7_cardWith se_X7_cardWith ml_X7_67 rfl ko104 rfl hd (Nat.le_of_ble_eq_true rfl) (Nat.le_of_ble_eq_true rfl) (Nat.le_of_ble_eq_true rfl) ?_
  refine am_mono g (fun _ h1 _ ok_h1 g => ?_)
  obtain ⟨v2, rfl, ss_h1, g⟩ := g
  replace hL := QZ.ss hL ss_h1
  obtain ⟨ko104, ro104_z, ko104_z, ro104_spare, ko104_spare, ro104_past, ko104_past, ro104_kept, ko104_kept, ro104_text, ko104_text, ro104_stack, ko104_stack, ro104_drew, ko104_drew, ro104_drawn, ko104_drawn, ro104_signs, ko104_signs, ro104_numbers, ko104_numbers⟩ := id hL
  show AW m_X7_ofCard d none Q 5 [some (.inr (some 104)), some (.inl x1), some (.inl x2), none] [(.inl v2)] h1 (0, 0)
  refine ax_istore_n (pc := 5) (ls' := [some (.inr (some 104)), some (.inl x1), some (.inl x2), some (.inl v2)]) dX7_ofCard_5 (Nat.le_of_ble_eq_true rfl) rfl ?_
  refine aw_iload_n (pc := 6) dX7_ofCard_6 rfl ?_
  refine aw_bipush (pc := 7) dX7_ofCard_7 ?_
  refine aw_icmp_ne (pc := 9) (tgt := 14) dX7_ofCard_9 (by decide) (fun c3 => ?_) (fun c3 => ?_)
  · replace g := g.1 c3
    refine aw_iload_n (pc := 14) dX7_ofCard_14 rfl ?_
    refine aw_iconst (pc := 15) dX7_ofCard_15 ?_
    refine aw_iconst (pc := 16) dX7_ofCard_16 ?_
    refine aw_invS (pc := 17) (md' := m_X7_in) (as := [(.inl x2), (.inl 0), (.inl 3)]) dX7_ofCard_17 mo_X7_in sm_X7_in ml_X7_63 rfl rfl hd (Nat.le_of_ble_eq_true rfl) (Nat.le_of_ble_eq_true rfl) (Nat.le_of_ble_eq_true rfl) ?_
    refine am_mono g (fun _ h4 _ ok_h4 g => ?_)
    obtain ⟨v5, rfl, ss_h4, g⟩ := g
    replace hL := QZ.ss hL ss_h4
    obtain ⟨ko104, ro104_z, ko104_z, ro104_spare, ko104_spare, ro104_past, ko104_past, ro104_kept, ko104_kept, ro104_text, ko104_text, ro104_stack, ko104_stack, ro104_drew, ko104_drew, ro104_drawn, ko104_drawn, ro104_signs, ko104_signs, ro104_numbers, ko104_numbers⟩ := id hL
    show AW m_X7_ofCard d none Q 20 [some (.inr (some 104)), some (.inl x1), some (.inl x2), some (.inl v2)] [(.inl v5)] h4 (0, 0)
    refine aw_if_ne (pc := 20) (tgt := 26) dX7_ofCard_20 (by decide) (fun c6 => ?_) (fun c6 => ?_)
    · replace g := g.1 c6
      refine aw_iload_n (pc := 26) dX7_ofCard_26 rfl ?_
      refine aw_iconst (pc := 27) dX7_ofCard_27 ?_
      refine aw_icmp_ne (pc := 28) (tgt := 39) dX7_ofCard_28 (by decide) (fun c7 => ?_) (fun c7 => ?_)
      · replace g := g.1 c7
        refine aw_aload_n (pc := 39) dX7_ofCard_39 rfl ?_
        refine aw_iload_n (pc := 40) dX7_ofCard_40 rfl ?_
        refine aw_iconst (pc := 41) dX7_ofCard_41 ?_
        refine aw_iload_n (pc := 42) dX7_ofCard_42 rfl ?_
        obtain ⟨s8, g⟩ := g
        refine ax_iadd (pc := 43) (v := 1 + x2) dX7_ofCard_43 s8 rfl ?_
        refine aw_invV (pc := 44) (md' := m_X7_of) (ci := 7) (as := [(.inl v2), (.inl (1 + x2))]) dX7_ofCard_44 mo_X7_of im_X7_of se_X7_of ml_X7_40 rfl ko104 rfl hd (Nat.le_of_ble_eq_true rfl) (Nat.le_of_ble_eq_true rfl) (Nat.le_of_ble_eq_true rfl) ?_
        refine am_mono g (fun _ h9 _ ok_h9 g => ?_)
        obtain ⟨v10, rfl, ss_h9, g⟩ := g
        replace hL := QZ.ss hL ss_h9
        obtain ⟨ko104, ro104_z, ko104_z, ro104_spare, ko104_spare, ro104_past, ko104_past, ro104_kept, ko104_kept, ro104_text, ko104_text, ro104_stack, ko104_stack, ro104_drew, ko104_drew, ro104_drawn, ko104_drawn, ro104_signs, ko104_signs, ro104_numbers, ko104_numbers⟩ := id hL
        show AW m_X7_ofCard d none Q 47 [some (.inr (some 104)), some (.inl x1), some (.inl x2), some (.inl v2)] [(.inl v10)] h9 (0, 0)
        exact ax_ireturn (pc := 47) dX7_ofCard_47 rfl g (by decide) (by decide)
      · replace g := g.2 c7
        refine aw_aload_n (pc := 31) dX7_ofCard_31 rfl ?_
        refine aw_iload_n (pc := 32) dX7_ofCard_32 rfl ?_
        refine aw_invV (pc := 33) (md' := m_X7_shares) (ci := 7) (as := [(.inl v2)]) dX7_ofCard_33 mo_X7_shares im_X7_shares se_X7_shares ml_X7_195 rfl ko104 rfl hd (Nat.le_of_ble_eq_true rfl) (Nat.le_of_ble_eq_true rfl) (Nat.le_of_ble_eq_true rfl) ?_
        refine am_mono g (fun _ h11 _ ok_h11 g => ?_)
        obtain ⟨v12, rfl, ss_h11, g⟩ := g
        replace hL := QZ.ss hL ss_h11
        obtain ⟨ko104, ro104_z, ko104_z, ro104_spare, ko104_spare, ro104_past, ko104_past, ro104_kept, ko104_kept, ro104_text, ko104_text, ro104_stack, ko104_stack, ro104_drew, ko104_drew, ro104_drawn, ko104_drawn, ro104_signs, ko104_signs, ro104_numbers, ko104_numbers⟩ := id hL
        show AW m_X7_ofCard d none Q 36 [some (.inr (some 104)), some (.inl x1), some (.inl x2), some (.inl v2)] [(.inl v12)] h11 (0, 0)
        refine aw_goto (pc := 36) (tgt := 47) dX7_ofCard_36 (by decide) ?_
        exact ax_ireturn (pc := 47) dX7_ofCard_47 rfl g (by decide) (by decide)
    · replace g := g.2 c6
      refine aw_bipush (pc := 23) dX7_ofCard_23 ?_
      exact ax_ireturn (pc := 25) dX7_ofCard_25 rfl g (by decide) (by decide)
  · replace g := g.2 c3
    refine aw_iconst (pc := 12) dX7_ofCard_12 ?_
    exact ax_ireturn (pc := 13) dX7_ofCard_13 rfl g (by decide) (by decide)
set_option maxRecDepth 100000 in
set_option maxHeartbeats 4000000 in
theorem vc_X7_told {d : Nat} {Q : Option Int → AH → Prop} {h : AH} {x1 : Int} (hL : QZ h)
  (g :
    ((0 ≤ x1 → (
      ((hi h 105 1 ≤ x1 → (
        Q (some (-5)) h
      )) ∧
      (¬ (hi h 105 1 ≤ x1) → (
        (rg (93 + x1)) ∧
        (0 ≤ 93 + x1 ∧ 93 + x1 < 293) ∧
        Q (some (hi h 105 (93 + x1))) h
      )))
    )) ∧
    (¬ (0 ≤ x1) → (
      Q (some (-2)) h
    )))) :
  AM d m_X7_told [(.inr (some 104)), (.inl x1)] h Q := by
  refine am_body mo_X7_told (Nat.le_of_ble_eq_true rfl) ?_
  show AW m_X7_told d none Q 0 [some (.inr (some 104)), some (.inl x1)] [] h (0, 0)
  obtain ⟨ko104, ro104_z, ko104_z, ro104_spare, ko104_spare, ro104_past, ko104_past, ro104_kept, ko104_kept, ro104_text, ko104_text, ro104_stack, ko104_stack, ro104_drew, ko104_drew, ro104_drawn, ko104_drawn, ro104_signs, ko104_signs, ro104_numbers, ko104_numbers⟩ := id hL
  refine aw_iload_n (pc := 0) dX7_told_0 rfl ?_
  refine aw_if_ge (pc := 1) (tgt := 9) dX7_told_1 (by decide) (fun c1 => ?_) (fun c1 => ?_)
  · replace g := g.1 c1
    refine aw_iload_n (pc := 9) dX7_told_9 rfl ?_
    refine aw_aload_n (pc := 10) dX7_told_10 rfl ?_
    refine aw_getr (pc := 11) (r := some 105) dX7_told_11 fl_X7_7 (by decide) rfl ko104 ro104_z ?_
    refine aw_iconst (pc := 14) dX7_told_14 ?_
    refine ax_iaload (pc := 15) (n := 293) (v := hi h 105 1) dX7_told_15 ko104_z (by decide) rfl ?_
    refine aw_icmp_ge (pc := 16) (tgt := 31) dX7_told_16 (by decide) (fun c2 => ?_) (fun c2 => ?_)
    · replace g := g.1 c2
      refine aw_bipush (pc := 31) dX7_told_31 ?_
      exact ax_ireturn (pc := 33) dX7_told_33 rfl g (by decide) (by decide)
    · replace g := g.2 c2
      refine aw_aload_n (pc := 19) dX7_told_19 rfl ?_
      refine aw_getr (pc := 20) (r := some 105) dX7_told_20 fl_X7_7 (by decide) rfl ko104 ro104_z ?_
      refine aw_bipush (pc := 23) dX7_told_23 ?_
      refine aw_iload_n (pc := 25) dX7_told_25 rfl ?_
      obtain ⟨s3, g⟩ := g
      refine ax_iadd (pc := 26) (v := 93 + x1) dX7_told_26 s3 rfl ?_
      obtain ⟨s4, g⟩ := g
      refine ax_iaload (pc := 27) (n := 293) (v := hi h 105 (93 + x1)) dX7_told_27 ko104_z s4 rfl ?_
      refine aw_goto (pc := 28) (tgt := 33) dX7_told_28 (by decide) ?_
      exact ax_ireturn (pc := 33) dX7_told_33 rfl g (by decide) (by decide)
  · replace g := g.2 c1
    refine aw_bipush (pc := 4) dX7_told_4 ?_
    refine aw_goto (pc := 6) (tgt := 33) dX7_told_6 (by decide) ?_
    exact ax_ireturn (pc := 33) dX7_told_33 rfl g (by decide) (by decide)
set_option maxRecDepth 100000 in
set_option maxHeartbeats 4000000 in
theorem vc_X7_leaving {d : Nat} {Q : Option Int → AH → Prop} {h : AH}  (hd : 1 ≤ d) (hL : QZ h)
  (g :
    AW m_X7_leaving d none Q 4 [some (.inr (some 104)), some (.inl 0), some (.inl 0)] [] h (0, 0)) :
  AM d m_X7_leaving [(.inr (some 104))] h Q := by
  refine am_body mo_X7_leaving (Nat.le_of_ble_eq_true rfl) ?_
  show AW m_X7_leaving d none Q 0 [some (.inr (some 104)), none, none] [] h (0, 0)
  obtain ⟨ko104, ro104_z, ko104_z, ro104_spare, ko104_spare, ro104_past, ko104_past, ro104_kept, ko104_kept, ro104_text, ko104_text, ro104_stack, ko104_stack, ro104_drew, ko104_drew, ro104_drawn, ko104_drawn, ro104_signs, ko104_signs, ro104_numbers, ko104_numbers⟩ := id hL
  refine aw_iconst (pc := 0) dX7_leaving_0 ?_
  refine ax_istore_n (pc := 1) (ls' := [some (.inr (some 104)), some (.inl 0), none]) dX7_leaving_1 (Nat.le_of_ble_eq_true rfl) rfl ?_
  refine aw_iconst (pc := 2) dX7_leaving_2 ?_
  refine ax_istore_n (pc := 3) (ls' := [some (.inr (some 104)), some (.inl 0), some (.inl 0)]) dX7_leaving_3 (Nat.le_of_ble_eq_true rfl) rfl ?_
  exact g
set_option maxRecDepth 100000 in
set_option maxHeartbeats 4000000 in
theorem vc_X7_leaving_4 {d : Nat} {Q : Option Int → AH → Prop} {h : AH} {x1 x2 : Int} (hd : 1 ≤ d) (hL : QZ h)
  (g :
    ((hi h 105 0 ≤ x2 → (
      Q (some x1) h
    )) ∧
    (¬ (hi h 105 0 ≤ x2) → (
      AM (d - 1) m_X7_of [(.inr (some 104)), (.inl x2), (.inl 2)] h (fun r h2 => 
        ∃ v3, r = some v3 ∧ SS h h2 ∧
        ((v3 ≤ 0 → (
          (rg (x1 + 0)) ∧
          (rg (x2 + 1)) ∧
          AW m_X7_leaving d none Q 4 [some (.inr (some 104)), some (.inl (x1 + 0)), some (.inl (x2 + 1))] [] h2 (0, 0)
        )) ∧
        (¬ (v3 ≤ 0) → (
          (rg (x1 + 1)) ∧
          (rg (x2 + 1)) ∧
          AW m_X7_leaving d none Q 4 [some (.inr (some 104)), some (.inl (x1 + 1)), some (.inl (x2 + 1))] [] h2 (0, 0)
        ))))
    )))) :
  AW m_X7_leaving d none Q 4 [some (.inr (some 104)), some (.inl x1), some (.inl x2)] [] h (0, 0) := by
  obtain ⟨ko104, ro104_z, ko104_z, ro104_spare, ko104_spare, ro104_past, ko104_past, ro104_kept, ko104_kept, ro104_text, ko104_text, ro104_stack, ko104_stack, ro104_drew, ko104_drew, ro104_drawn, ko104_drawn, ro104_signs, ko104_signs, ro104_numbers, ko104_numbers⟩ := id hL
  refine aw_iload_n (pc := 4) dX7_leaving_4 rfl ?_
  refine aw_aload_n (pc := 5) dX7_leaving_5 rfl ?_
  refine aw_getr (pc := 6) (r := some 105) dX7_leaving_6 fl_X7_7 (by decide) rfl ko104 ro104_z ?_
  refine aw_iconst (pc := 9) dX7_leaving_9 ?_
  refine ax_iaload (pc := 10) (n := 293) (v := hi h 105 0) dX7_leaving_10 ko104_z (by decide) rfl ?_
  refine aw_icmp_ge (pc := 11) (tgt := 37) dX7_leaving_11 (by decide) (fun c1 => ?_) (fun c1 => ?_)
  · replace g := g.1 c1
    refine aw_iload_n (pc := 37) dX7_leaving_37 rfl ?_
    exact ax_ireturn (pc := 38) dX7_leaving_38 rfl g (by decide) (by decide)
  · replace g := g.2 c1
    refine aw_iload_n (pc := 14) dX7_leaving_14 rfl ?_
    refine aw_aload_n (pc := 15) dX7_leaving_15 rfl ?_
    refine aw_iload_n (pc := 16) dX7_leaving_16 rfl ?_
    refine aw_iconst (pc := 17) dX7_leaving_17 ?_
    refine aw_invV (pc := 18) (md' := m_X7_of) (ci := 7) (as := [(.inl x2), (.inl 2)]) dX7_leaving_18 mo_X7_of im_X7_of se_X7_of ml_X7_40 rfl ko104 rfl hd (Nat.le_of_ble_eq_true rfl) (Nat.le_of_ble_eq_true rfl) (Nat.le_of_ble_eq_true rfl) ?_
    refine am_mono g (fun _ h2 _ ok_h2 g => ?_)
    obtain ⟨v3, rfl, ss_h2, g⟩ := g
    replace hL := QZ.ss hL ss_h2
    obtain ⟨ko104, ro104_z, ko104_z, ro104_spare, ko104_spare, ro104_past, ko104_past, ro104_kept, ko104_kept, ro104_text, ko104_text, ro104_stack, ko104_stack, ro104_drew, ko104_drew, ro104_drawn, ko104_drawn, ro104_signs, ko104_signs, ro104_numbers, ko104_numbers⟩ := id hL
    show AW m_X7_leaving d none Q 21 [some (.inr (some 104)), some (.inl x1), some (.inl x2)] [(.inl v3), (.inl x1)] h2 (0, 0)
    refine aw_if_le (pc := 21) (tgt := 28) dX7_leaving_21 (by decide) (fun c4 => ?_) (fun c4 => ?_)
    · replace g := g.1 c4
      refine aw_iconst (pc := 28) dX7_leaving_28 ?_
      obtain ⟨s5, g⟩ := g
      refine ax_iadd (pc := 29) (v := x1 + 0) dX7_leaving_29 s5 rfl ?_
      refine ax_istore_n (pc := 30) (ls' := [some (.inr (some 104)), some (.inl (x1 + 0)), some (.inl x2)]) dX7_leaving_30 (Nat.le_of_ble_eq_true rfl) rfl ?_
      obtain ⟨s6, g⟩ := g
      refine ax_iinc (pc := 31) (v' := x2 + 1) (ls' := [some (.inr (some 104)), some (.inl (x1 + 0)), some (.inl (x2 + 1))]) dX7_leaving_31 rfl s6 rfl rfl ?_
      refine aw_goto (pc := 34) (tgt := 4) dX7_leaving_34 (by decide) ?_
      exact g
    · replace g := g.2 c4
      refine aw_iconst (pc := 24) dX7_leaving_24 ?_
      refine aw_goto (pc := 25) (tgt := 29) dX7_leaving_25 (by decide) ?_
      obtain ⟨s7, g⟩ := g
      refine ax_iadd (pc := 29) (v := x1 + 1) dX7_leaving_29 s7 rfl ?_
      refine ax_istore_n (pc := 30) (ls' := [some (.inr (some 104)), some (.inl (x1 + 1)), some (.inl x2)]) dX7_leaving_30 (Nat.le_of_ble_eq_true rfl) rfl ?_
      obtain ⟨s8, g⟩ := g
      refine ax_iinc (pc := 31) (v' := x2 + 1) (ls' := [some (.inr (some 104)), some (.inl (x1 + 1)), some (.inl (x2 + 1))]) dX7_leaving_31 rfl s8 rfl rfl ?_
      refine aw_goto (pc := 34) (tgt := 4) dX7_leaving_34 (by decide) ?_
      exact g
set_option maxRecDepth 100000 in
set_option maxHeartbeats 4000000 in
theorem vc_X7_total {d : Nat} {Q : Option Int → AH → Prop} {h : AH} {x1 : Int} (hd : 1 ≤ d) (hL : QZ h)
  (g :
    (((x1 < 0 ∨ 16 < x1) → (
      Q (some (-2)) h
    )) ∧
    (((x1 = 0) → (
      Q (some (hi h 105 0)) h
    )) ∧
    (((x1 = 1) → (
      AM (d - 1) m_X7_awake [(.inr (some 104))] h (fun r h4 => 
        ∃ v5, r = some v5 ∧ SS h h4 ∧
        Q (some v5) h4)
    )) ∧
    (((x1 = 2) → (
      AM (d - 1) m_X7_leaving [(.inr (some 104))] h (fun r h7 => 
        ∃ v8, r = some v8 ∧ SS h h7 ∧
        Q (some v8) h7)
    )) ∧
    (((x1 = 3) → (
      Q (some (hi h 105 1)) h
    )) ∧
    (((x1 = 4 ∨ x1 = 5 ∨ x1 = 6 ∨ x1 = 7 ∨ x1 = 8 ∨ x1 = 9 ∨ x1 = 10) → (
      (rg (5 + x1)) ∧
      (rg ((5 + x1) - 4)) ∧
      (0 ≤ (5 + x1) - 4 ∧ (5 + x1) - 4 < 293) ∧
      Q (some (hi h 105 ((5 + x1) - 4))) h
    )) ∧
    (((x1 = 11 ∨ x1 = 12) → (
      (rg (2 + x1)) ∧
      (rg ((2 + x1) - 11)) ∧
      (0 ≤ (2 + x1) - 11 ∧ (2 + x1) - 11 < 293) ∧
      Q (some (hi h 105 ((2 + x1) - 11))) h
    )) ∧
    (((x1 = 13) → (
      Q (some (hi h 105 4)) h
    )) ∧
    (((x1 = 14) → (
      Q (some (hi h 105 12)) h
    )) ∧
    (((x1 = 15) → (
      Q (some (hi h 104 3)) h
    )) ∧
    (((x1 = 16) → (
      Q (some (hi h 104 7)) h
    )))))))))))))) :
  AM d m_X7_total [(.inr (some 104)), (.inl x1)] h Q := by
  refine am_body mo_X7_total (Nat.le_of_ble_eq_true rfl) ?_
  show AW m_X7_total d none Q 0 [some (.inr (some 104)), some (.inl x1)] [] h (0, 0)
  obtain ⟨ko104, ro104_z, ko104_z, ro104_spare, ko104_spare, ro104_past, ko104_past, ro104_kept, ko104_kept, ro104_text, ko104_text, ro104_stack, ko104_stack, ro104_drew, ko104_drew, ro104_drawn, ko104_drawn, ro104_signs, ko104_signs, ro104_numbers, ko104_numbers⟩ := id hL
  refine aw_iload_n (pc := 0) dX7_total_0 rfl ?_
  by_cases c1 : x1 < 0 ∨ 16 < x1
  · replace g := g.1 (by omega)
    refine aw_tblOut (pc := 1) (tgt := 156) dX7_total_1 c1 (by decide) ?_
    refine aw_bipush (pc := 156) dX7_total_156 ?_
    exact ax_ireturn (pc := 158) dX7_total_158 rfl g (by decide) (by decide)
  · replace g := g.2
    by_cases c2 : x1 = 0
    · replace g := g.1 c2
      refine aw_tblIn (pc := 1) (tgt := 84) (off := 83) dX7_total_1 (by omega) (by omega) (by rw [c2]; rfl) (by decide) ?_
      refine aw_aload_n (pc := 84) dX7_total_84 rfl ?_
      refine aw_getr (pc := 85) (r := some 105) dX7_total_85 fl_X7_7 (by decide) rfl ko104 ro104_z ?_
      refine aw_iconst (pc := 88) dX7_total_88 ?_
      refine ax_iaload (pc := 89) (n := 293) (v := hi h 105 0) dX7_total_89 ko104_z (by decide) rfl ?_
      exact ax_ireturn (pc := 90) dX7_total_90 rfl g (by decide) (by decide)
    replace g := g.2
    by_cases c3 : x1 = 1
    · replace g := g.1 c3
      refine aw_tblIn (pc := 1) (tgt := 91) (off := 90) dX7_total_1 (by omega) (by omega) (by rw [c3]; rfl) (by decide) ?_
      refine aw_aload_n (pc := 91) dX7_total_91 rfl ?_
      refine aw_invV (pc := 92) (md' := m_X7_awake) (ci := 7) (as := []) dX7_total_92 mo_X7_awake im_X7_awake se_X7_awake ml_X7_85 rfl ko104 rfl hd (Nat.le_of_ble_eq_true rfl) (Nat.le_of_ble_eq_true rfl) (Nat.le_of_ble_eq_true rfl) ?_
      refine am_mono g (fun _ h4 _ ok_h4 g => ?_)
      obtain ⟨v5, rfl, ss_h4, g⟩ := g
      replace hL := QZ.ss hL ss_h4
      obtain ⟨ko104, ro104_z, ko104_z, ro104_spare, ko104_spare, ro104_past, ko104_past, ro104_kept, ko104_kept, ro104_text, ko104_text, ro104_stack, ko104_stack, ro104_drew, ko104_drew, ro104_drawn, ko104_drawn, ro104_signs, ko104_signs, ro104_numbers, ko104_numbers⟩ := id hL
      show AW m_X7_total d none Q 95 [some (.inr (some 104)), some (.inl x1)] [(.inl v5)] h4 (0, 0)
      exact ax_ireturn (pc := 95) dX7_total_95 rfl g (by decide) (by decide)
    replace g := g.2
    by_cases c6 : x1 = 2
    · replace g := g.1 c6
      refine aw_tblIn (pc := 1) (tgt := 96) (off := 95) dX7_total_1 (by omega) (by omega) (by rw [c6]; rfl) (by decide) ?_
      refine aw_aload_n (pc := 96) dX7_total_96 rfl ?_
      refine aw_invV (pc := 97) (md' := m_X7_leaving) (ci := 7) (as := []) dX7_total_97 mo_X7_leaving im_X7_leaving se_X7_leaving ml_X7_198 rfl ko104 rfl hd (Nat.le_of_ble_eq_true rfl) (Nat.le_of_ble_eq_true rfl) (Nat.le_of_ble_eq_true rfl) ?_
      refine am_mono g (fun _ h7 _ ok_h7 g => ?_)
      obtain ⟨v8, rfl, ss_h7, g⟩ := g
      replace hL := QZ.ss hL ss_h7
      obtain ⟨ko104, ro104_z, ko104_z, ro104_spare, ko104_spare, ro104_past, ko104_past, ro104_kept, ko104_kept, ro104_text, ko104_text, ro104_stack, ko104_stack, ro104_drew, ko104_drew, ro104_drawn, ko104_drawn, ro104_signs, ko104_signs, ro104_numbers, ko104_numbers⟩ := id hL
      show AW m_X7_total d none Q 100 [some (.inr (some 104)), some (.inl x1)] [(.inl v8)] h7 (0, 0)
      exact ax_ireturn (pc := 100) dX7_total_100 rfl g (by decide) (by decide)
    replace g := g.2
    by_cases c9 : x1 = 3
    · replace g := g.1 c9
      refine aw_tblIn (pc := 1) (tgt := 101) (off := 100) dX7_total_1 (by omega) (by omega) (by rw [c9]; rfl) (by decide) ?_
      refine aw_aload_n (pc := 101) dX7_total_101 rfl ?_
      refine aw_getr (pc := 102) (r := some 105) dX7_total_102 fl_X7_7 (by decide) rfl ko104 ro104_z ?_
      refine aw_iconst (pc := 105) dX7_total_105 ?_
      refine ax_iaload (pc := 106) (n := 293) (v := hi h 105 1) dX7_total_106 ko104_z (by decide) rfl ?_
      exact ax_ireturn (pc := 107) dX7_total_107 rfl g (by decide) (by decide)
    replace g := g.2
    by_cases c10 : x1 = 4 ∨ x1 = 5 ∨ x1 = 6 ∨ x1 = 7 ∨ x1 = 8 ∨ x1 = 9 ∨ x1 = 10
    · replace g := g.1 c10
      refine aw_tblIn (pc := 1) (tgt := 108) (off := 107) dX7_total_1 (by omega) (by omega) (by rcases c10 with z | z | z | z | z | z | z <;> (rw [z]; rfl)) (by decide) ?_
      refine aw_aload_n (pc := 108) dX7_total_108 rfl ?_
      refine aw_getr (pc := 109) (r := some 105) dX7_total_109 fl_X7_7 (by decide) rfl ko104 ro104_z ?_
      refine aw_iconst (pc := 112) dX7_total_112 ?_
      refine aw_iload_n (pc := 113) dX7_total_113 rfl ?_
      obtain ⟨s11, g⟩ := g
      refine ax_iadd (pc := 114) (v := 5 + x1) dX7_total_114 s11 rfl ?_
      refine aw_iconst (pc := 115) dX7_total_115 ?_
      obtain ⟨s12, g⟩ := g
      refine ax_isub (pc := 116) (v := (5 + x1) - 4) dX7_total_116 s12 rfl ?_
      obtain ⟨s13, g⟩ := g
      refine ax_iaload (pc := 117) (n := 293) (v := hi h 105 ((5 + x1) - 4)) dX7_total_117 ko104_z s13 rfl ?_
      exact ax_ireturn (pc := 118) dX7_total_118 rfl g (by decide) (by decide)
    replace g := g.2
    by_cases c14 : x1 = 11 ∨ x1 = 12
    · replace g := g.1 c14
      refine aw_tblIn (pc := 1) (tgt := 119) (off := 118) dX7_total_1 (by omega) (by omega) (by rcases c14 with z | z <;> (rw [z]; rfl)) (by decide) ?_
      refine aw_aload_n (pc := 119) dX7_total_119 rfl ?_
      refine aw_getr (pc := 120) (r := some 105) dX7_total_120 fl_X7_7 (by decide) rfl ko104 ro104_z ?_
      refine aw_iconst (pc := 123) dX7_total_123 ?_
      refine aw_iload_n (pc := 124) dX7_total_124 rfl ?_
      obtain ⟨s15, g⟩ := g
      refine ax_iadd (pc := 125) (v := 2 + x1) dX7_total_125 s15 rfl ?_
      refine aw_bipush (pc := 126) dX7_total_126 ?_
      obtain ⟨s16, g⟩ := g
      refine ax_isub (pc := 128) (v := (2 + x1) - 11) dX7_total_128 s16 rfl ?_
      obtain ⟨s17, g⟩ := g
      refine ax_iaload (pc := 129) (n := 293) (v := hi h 105 ((2 + x1) - 11)) dX7_total_129 ko104_z s17 rfl ?_
      exact ax_ireturn (pc := 130) dX7_total_130 rfl g (by decide) (by decide)
    replace g := g.2
    by_cases c18 : x1 = 13
    · replace g := g.1 c18
      refine aw_tblIn (pc := 1) (tgt := 131) (off := 130) dX7_total_1 (by omega) (by omega) (by rw [c18]; rfl) (by decide) ?_
      refine aw_aload_n (pc := 131) dX7_total_131 rfl ?_
      refine aw_getr (pc := 132) (r := some 105) dX7_total_132 fl_X7_7 (by decide) rfl ko104 ro104_z ?_
      refine aw_iconst (pc := 135) dX7_total_135 ?_
      refine ax_iaload (pc := 136) (n := 293) (v := hi h 105 4) dX7_total_136 ko104_z (by decide) rfl ?_
      exact ax_ireturn (pc := 137) dX7_total_137 rfl g (by decide) (by decide)
    replace g := g.2
    by_cases c19 : x1 = 14
    · replace g := g.1 c19
      refine aw_tblIn (pc := 1) (tgt := 138) (off := 137) dX7_total_1 (by omega) (by omega) (by rw [c19]; rfl) (by decide) ?_
      refine aw_aload_n (pc := 138) dX7_total_138 rfl ?_
      refine aw_getr (pc := 139) (r := some 105) dX7_total_139 fl_X7_7 (by decide) rfl ko104 ro104_z ?_
      refine aw_bipush (pc := 142) dX7_total_142 ?_
      refine ax_iaload (pc := 144) (n := 293) (v := hi h 105 12) dX7_total_144 ko104_z (by decide) rfl ?_
      exact ax_ireturn (pc := 145) dX7_total_145 rfl g (by decide) (by decide)
    replace g := g.2
    by_cases c20 : x1 = 15
    · replace g := g.1 c20
      refine aw_tblIn (pc := 1) (tgt := 146) (off := 145) dX7_total_1 (by omega) (by omega) (by rw [c20]; rfl) (by decide) ?_
      refine aw_aload_n (pc := 146) dX7_total_146 rfl ?_
      refine ax_geti (pc := 147) (v := hi h 104 3) dX7_total_147 fl_X7_44 (by decide) rfl ko104 rfl ?_
      exact ax_ireturn (pc := 150) dX7_total_150 rfl g (by decide) (by decide)
    replace g := g.2
    have c21 : x1 = 16 := by omega
    replace g := g c21
    refine aw_tblIn (pc := 1) (tgt := 151) (off := 150) dX7_total_1 (by omega) (by omega) (by rw [c21]; rfl) (by decide) ?_
    refine aw_aload_n (pc := 151) dX7_total_151 rfl ?_
    refine ax_geti (pc := 152) (v := hi h 104 7) dX7_total_152 fl_X7_163 (by decide) rfl ko104 rfl ?_
    exact ax_ireturn (pc := 155) dX7_total_155 rfl g (by decide) (by decide)
set_option maxRecDepth 100000 in
set_option maxHeartbeats 4000000 in
theorem vc_X7_withBeginning {d : Nat} {Q : Option Int → AH → Prop} {h : AH} {x1 x2 : Int} (hd : 1 ≤ d) (hL : QZ h)
  (g :
    AW m_X7_withBeginning d none Q 5 [some (.inr (some 104)), some (.inl x1), some (.inl x2), some (.inl 0), some (.inl 0)] [] h (0, 0)) :
  AM d m_X7_withBeginning [(.inr (some 104)), (.inl x1), (.inl x2)] h Q := by
  refine am_body mo_X7_withBeginning (Nat.le_of_ble_eq_true rfl) ?_
  show AW m_X7_withBeginning d none Q 0 [some (.inr (some 104)), some (.inl x1), some (.inl x2), none, none] [] h (0, 0)
  obtain ⟨ko104, ro104_z, ko104_z, ro104_spare, ko104_spare, ro104_past, ko104_past, ro104_kept, ko104_kept, ro104_text, ko104_text, ro104_stack, ko104_stack, ro104_drew, ko104_drew, ro104_drawn, ko104_drawn, ro104_signs, ko104_signs, ro104_numbers, ko104_numbers⟩ := id hL
  refine aw_iconst (pc := 0) dX7_withBeginning_0 ?_
  refine ax_istore_n (pc := 1) (ls' := [some (.inr (some 104)), some (.inl x1), some (.inl x2), some (.inl 0), none]) dX7_withBeginning_1 (Nat.le_of_ble_eq_true rfl) rfl ?_
  refine aw_iconst (pc := 2) dX7_withBeginning_2 ?_
  refine ax_istore (pc := 3) (ls' := [some (.inr (some 104)), some (.inl x1), some (.inl x2), some (.inl 0), some (.inl 0)]) dX7_withBeginning_3 (Nat.le_of_ble_eq_true rfl) rfl ?_
  exact g
set_option maxRecDepth 100000 in
set_option maxHeartbeats 4000000 in
theorem vc_X7_withBeginning_5 {d : Nat} {Q : Option Int → AH → Prop} {h : AH} {x1 x2 x3 x4 : Int} (hd : 1 ≤ d) (hL : QZ h)
  (g :
    ((hi h 105 0 ≤ x4 → (
      Q (some x3) h
    )) ∧
    (¬ (hi h 105 0 ≤ x4) → (
      AM (d - 1) m_X7_of [(.inr (some 104)), (.inl x4), (.inl 1)] h (fun r h2 => 
        ∃ v3, r = some v3 ∧ SS h h2 ∧
        ((¬ v3 = 1 → (
          (rg (x3 + 0)) ∧
          (rg (x4 + 1)) ∧
          AW m_X7_withBeginning d none Q 5 [some (.inr (some 104)), some (.inl x1), some (.inl x2), some (.inl (x3 + 0)), some (.inl (x4 + 1))] [] h2 (0, 0)
        )) ∧
        (¬ (¬ v3 = 1) → (
          AM (d - 1) m_X7_of [(.inr (some 104)), (.inl x4), (.inl 0)] h2 (fun r h7 => 
            ∃ v8, r = some v8 ∧ SS h2 h7 ∧
            AM (d - 1) m_X7_begins [(.inl v8), (.inl x1), (.inl x2)] h7 (fun r h9 => 
              ∃ v10, r = some v10 ∧ SS h7 h9 ∧
              ((v10 = 0 → (
                (rg (x3 + 0)) ∧
                (rg (x4 + 1)) ∧
                AW m_X7_withBeginning d none Q 5 [some (.inr (some 104)), some (.inl x1), some (.inl x2), some (.inl (x3 + 0)), some (.inl (x4 + 1))] [] h9 (0, 0)
              )) ∧
              (¬ (v10 = 0) → (
                (rg (x3 + 1)) ∧
                (rg (x4 + 1)) ∧
                AW m_X7_withBeginning d none Q 5 [some (.inr (some 104)), some (.inl x1), some (.inl x2), some (.inl (x3 + 1)), some (.inl (x4 + 1))] [] h9 (0, 0)
              )))))
        ))))
    )))) :
  AW m_X7_withBeginning d none Q 5 [some (.inr (some 104)), some (.inl x1), some (.inl x2), some (.inl x3), some (.inl x4)] [] h (0, 0) := by
  obtain ⟨ko104, ro104_z, ko104_z, ro104_spare, ko104_spare, ro104_past, ko104_past, ro104_kept, ko104_kept, ro104_text, ko104_text, ro104_stack, ko104_stack, ro104_drew, ko104_drew, ro104_drawn, ko104_drawn, ro104_signs, ko104_signs, ro104_numbers, ko104_numbers⟩ := id hL
  refine aw_iload (pc := 5) dX7_withBeginning_5 rfl ?_
  refine aw_aload_n (pc := 7) dX7_withBeginning_7 rfl ?_
  refine aw_getr (pc := 8) (r := some 105) dX7_withBeginning_8 fl_X7_7 (by decide) rfl ko104 ro104_z ?_
  refine aw_iconst (pc := 11) dX7_withBeginning_11 ?_
  refine ax_iaload (pc := 12) (n := 293) (v := hi h 105 0) dX7_withBeginning_12 ko104_z (by decide) rfl ?_
  refine aw_icmp_ge (pc := 13) (tgt := 56) dX7_withBeginning_13 (by decide) (fun c1 => ?_) (fun c1 => ?_)
  · replace g := g.1 c1
    refine aw_iload_n (pc := 56) dX7_withBeginning_56 rfl ?_
    exact ax_ireturn (pc := 57) dX7_withBeginning_57 rfl g (by decide) (by decide)
  · replace g := g.2 c1
    refine aw_iload_n (pc := 16) dX7_withBeginning_16 rfl ?_
    refine aw_aload_n (pc := 17) dX7_withBeginning_17 rfl ?_
    refine aw_iload (pc := 18) dX7_withBeginning_18 rfl ?_
    refine aw_iconst (pc := 20) dX7_withBeginning_20 ?_
    refine aw_invV (pc := 21) (md' := m_X7_of) (ci := 7) (as := [(.inl x4), (.inl 1)]) dX7_withBeginning_21 mo_X7_of im_X7_of se_X7_of ml_X7_40 rfl ko104 rfl hd (Nat.le_of_ble_eq_true rfl) (Nat.le_of_ble_eq_true rfl) (Nat.le_of_ble_eq_true rfl) ?_
    refine am_mono g (fun _ h2 _ ok_h2 g => ?_)
    obtain ⟨v3, rfl, ss_h2, g⟩ := g
    replace hL := QZ.ss hL ss_h2
    obtain ⟨ko104, ro104_z, ko104_z, ro104_spare, ko104_spare, ro104_past, ko104_past, ro104_kept, ko104_kept, ro104_text, ko104_text, ro104_stack, ko104_stack, ro104_drew, ko104_drew, ro104_drawn, ko104_drawn, ro104_signs, ko104_signs, ro104_numbers, ko104_numbers⟩ := id hL
    show AW m_X7_withBeginning d none Q 24 [some (.inr (some 104)), some (.inl x1), some (.inl x2), some (.inl x3), some (.inl x4)] [(.inl v3), (.inl x3)] h2 (0, 0)
    refine aw_iconst (pc := 24) dX7_withBeginning_24 ?_
    refine aw_icmp_ne (pc := 25) (tgt := 47) dX7_withBeginning_25 (by decide) (fun c4 => ?_) (fun c4 => ?_)
    · replace g := g.1 c4
      refine aw_iconst (pc := 47) dX7_withBeginning_47 ?_
      obtain ⟨s5, g⟩ := g
      refine ax_iadd (pc := 48) (v := x3 + 0) dX7_withBeginning_48 s5 rfl ?_
      refine ax_istore_n (pc := 49) (ls' := [some (.inr (some 104)), some (.inl x1), some (.inl x2), some (.inl (x3 + 0)), some (.inl x4)]) dX7_withBeginning_49 (Nat.le_of_ble_eq_true rfl) rfl ?_
      obtain ⟨s6, g⟩ := g
      refine ax_iinc (pc := 50) (v' := x4 + 1) (ls' := [some (.inr (some 104)), some (.inl x1), some (.inl x2), some (.inl (x3 + 0)), some (.inl (x4 + 1))]) dX7_withBeginning_50 rfl s6 rfl rfl ?_
      refine aw_goto (pc := 53) (tgt := 5) dX7_withBeginning_53 (by decide) ?_
      exact g
    · replace g := g.2 c4
      refine aw_aload_n (pc := 28) dX7_withBeginning_28 rfl ?_
      refine aw_iload (pc := 29) dX7_withBeginning_29 rfl ?_
      refine aw_iconst (pc := 31) dX7_withBeginning_31 ?_
      refine aw_invV (pc := 32) (md' := m_X7_of) (ci := 7) (as := [(.inl x4), (.inl 0)]) dX7_withBeginning_32 mo_X7_of im_X7_of se_X7_of ml_X7_40 rfl ko104 rfl hd (Nat.le_of_ble_eq_true rfl) (Nat.le_of_ble_eq_true rfl) (Nat.le_of_ble_eq_true rfl) ?_
      refine am_mono g (fun _ h7 _ ok_h7 g => ?_)
      obtain ⟨v8, rfl, ss_h7, g⟩ := g
      replace hL := QZ.ss hL ss_h7
      obtain ⟨ko104, ro104_z, ko104_z, ro104_spare, ko104_spare, ro104_past, ko104_past, ro104_kept, ko104_kept, ro104_text, ko104_text, ro104_stack, ko104_stack, ro104_drew, ko104_drew, ro104_drawn, ko104_drawn, ro104_signs, ko104_signs, ro104_numbers, ko104_numbers⟩ := id hL
      show AW m_X7_withBeginning d none Q 35 [some (.inr (some 104)), some (.inl x1), some (.inl x2), some (.inl x3), some (.inl x4)] [(.inl v8), (.inl x3)] h7 (0, 0)
      refine aw_iload_n (pc := 35) dX7_withBeginning_35 rfl ?_
      refine aw_iload_n (pc := 36) dX7_withBeginning_36 rfl ?_
      refine aw_invS (pc := 37) (md' := m_X7_begins) (as := [(.inl v8), (.inl x1), (.inl x2)]) dX7_withBeginning_37 mo_X7_begins sm_X7_begins ml_X7_116 rfl rfl hd (Nat.le_of_ble_eq_true rfl) (Nat.le_of_ble_eq_true rfl) (Nat.le_of_ble_eq_true rfl) ?_
      refine am_mono g (fun _ h9 _ ok_h9 g => ?_)
      obtain ⟨v10, rfl, ss_h9, g⟩ := g
      replace hL := QZ.ss hL ss_h9
      obtain ⟨ko104, ro104_z, ko104_z, ro104_spare, ko104_spare, ro104_past, ko104_past, ro104_kept, ko104_kept, ro104_text, ko104_text, ro104_stack, ko104_stack, ro104_drew, ko104_drew, ro104_drawn, ko104_drawn, ro104_signs, ko104_signs, ro104_numbers, ko104_numbers⟩ := id hL
      show AW m_X7_withBeginning d none Q 40 [some (.inr (some 104)), some (.inl x1), some (.inl x2), some (.inl x3), some (.inl x4)] [(.inl v10), (.inl x3)] h9 (0, 0)
      refine aw_if_eq (pc := 40) (tgt := 47) dX7_withBeginning_40 (by decide) (fun c11 => ?_) (fun c11 => ?_)
      · replace g := g.1 c11
        refine aw_iconst (pc := 47) dX7_withBeginning_47 ?_
        obtain ⟨s12, g⟩ := g
        refine ax_iadd (pc := 48) (v := x3 + 0) dX7_withBeginning_48 s12 rfl ?_
        refine ax_istore_n (pc := 49) (ls' := [some (.inr (some 104)), some (.inl x1), some (.inl x2), some (.inl (x3 + 0)), some (.inl x4)]) dX7_withBeginning_49 (Nat.le_of_ble_eq_true rfl) rfl ?_
        obtain ⟨s13, g⟩ := g
        refine ax_iinc (pc := 50) (v' := x4 + 1) (ls' := [some (.inr (some 104)), some (.inl x1), some (.inl x2), some (.inl (x3 + 0)), some (.inl (x4 + 1))]) dX7_withBeginning_50 rfl s13 rfl rfl ?_
        refine aw_goto (pc := 53) (tgt := 5) dX7_withBeginning_53 (by decide) ?_
        exact g
      · replace g := g.2 c11
        refine aw_iconst (pc := 43) dX7_withBeginning_43 ?_
        refine aw_goto (pc := 44) (tgt := 48) dX7_withBeginning_44 (by decide) ?_
        obtain ⟨s14, g⟩ := g
        refine ax_iadd (pc := 48) (v := x3 + 1) dX7_withBeginning_48 s14 rfl ?_
        refine ax_istore_n (pc := 49) (ls' := [some (.inr (some 104)), some (.inl x1), some (.inl x2), some (.inl (x3 + 1)), some (.inl x4)]) dX7_withBeginning_49 (Nat.le_of_ble_eq_true rfl) rfl ?_
        obtain ⟨s15, g⟩ := g
        refine ax_iinc (pc := 50) (v' := x4 + 1) (ls' := [some (.inr (some 104)), some (.inl x1), some (.inl x2), some (.inl (x3 + 1)), some (.inl (x4 + 1))]) dX7_withBeginning_50 rfl s15 rfl rfl ?_
        refine aw_goto (pc := 53) (tgt := 5) dX7_withBeginning_53 (by decide) ?_
        exact g
set_option maxRecDepth 100000 in
set_option maxHeartbeats 4000000 in
theorem vc_X7_count {d : Nat} {Q : Option Int → AH → Prop} {h : AH} {x1 x2 : Int} (hd : 1 ≤ d) (hL : QZ h)
  (g :
    AM (d - 1) m_X7_isBeginning [(.inl x1), (.inl x2)] h (fun r h1 => 
      ∃ v2, r = some v2 ∧ SS h h1 ∧
      ((v2 = 0 → (
        Q (some (-2)) h1
      )) ∧
      (¬ (v2 = 0) → (
        AM (d - 1) m_X7_withBeginning [(.inr (some 104)), (.inl x1), (.inl x2)] h1 (fun r h4 => 
          ∃ v5, r = some v5 ∧ SS h1 h4 ∧
          Q (some v5) h4)
      ))))) :
  AM d m_X7_count [(.inr (some 104)), (.inl x1), (.inl x2)] h Q := by
  refine am_body mo_X7_count (Nat.le_of_ble_eq_true rfl) ?_
  show AW m_X7_count d none Q 0 [some (.inr (some 104)), some (.inl x1), some (.inl x2)] [] h (0, 0)
  obtain ⟨ko104, ro104_z, ko104_z, ro104_spare, ko104_spare, ro104_past, ko104_past, ro104_kept, ko104_kept, ro104_text, ko104_text, ro104_stack, ko104_stack, ro104_drew, ko104_drew, ro104_drawn, ko104_drawn, ro104_signs, ko104_signs, ro104_numbers, ko104_numbers⟩ := id hL
  refine aw_iload_n (pc := 0) dX7_count_0 rfl ?_
  refine aw_iload_n (pc := 1) dX7_count_1 rfl ?_
  refine aw_invS (pc := 2) (md' := m_X7_isBeginning) (as := [(.inl x1), (.inl x2)]) dX7_count_2 mo_X7_isBeginning sm_X7_isBeginning ml_X7_125 rfl rfl hd (Nat.le_of_ble_eq_true rfl) (Nat.le_of_ble_eq_true rfl) (Nat.le_of_ble_eq_true rfl) ?_
  refine am_mono g (fun _ h1 _ ok_h1 g => ?_)
  obtain ⟨v2, rfl, ss_h1, g⟩ := g
  replace hL := QZ.ss hL ss_h1
  obtain ⟨ko104, ro104_z, ko104_z, ro104_spare, ko104_spare, ro104_past, ko104_past, ro104_kept, ko104_kept, ro104_text, ko104_text, ro104_stack, ko104_stack, ro104_drew, ko104_drew, ro104_drawn, ko104_drawn, ro104_signs, ko104_signs, ro104_numbers, ko104_numbers⟩ := id hL
  show AW m_X7_count d none Q 5 [some (.inr (some 104)), some (.inl x1), some (.inl x2)] [(.inl v2)] h1 (0, 0)
  refine aw_if_eq (pc := 5) (tgt := 17) dX7_count_5 (by decide) (fun c3 => ?_) (fun c3 => ?_)
  · replace g := g.1 c3
    refine aw_bipush (pc := 17) dX7_count_17 ?_
    exact ax_ireturn (pc := 19) dX7_count_19 rfl g (by decide) (by decide)
  · replace g := g.2 c3
    refine aw_aload_n (pc := 8) dX7_count_8 rfl ?_
    refine aw_iload_n (pc := 9) dX7_count_9 rfl ?_
    refine aw_iload_n (pc := 10) dX7_count_10 rfl ?_
    refine aw_invV (pc := 11) (md' := m_X7_withBeginning) (ci := 7) (as := [(.inl x1), (.inl x2)]) dX7_count_11 mo_X7_withBeginning im_X7_withBeginning se_X7_withBeginning ml_X7_201 rfl ko104 rfl hd (Nat.le_of_ble_eq_true rfl) (Nat.le_of_ble_eq_true rfl) (Nat.le_of_ble_eq_true rfl) ?_
    refine am_mono g (fun _ h4 _ ok_h4 g => ?_)
    obtain ⟨v5, rfl, ss_h4, g⟩ := g
    replace hL := QZ.ss hL ss_h4
    obtain ⟨ko104, ro104_z, ko104_z, ro104_spare, ko104_spare, ro104_past, ko104_past, ro104_kept, ko104_kept, ro104_text, ko104_text, ro104_stack, ko104_stack, ro104_drew, ko104_drew, ro104_drawn, ko104_drawn, ro104_signs, ko104_signs, ro104_numbers, ko104_numbers⟩ := id hL
    show AW m_X7_count d none Q 14 [some (.inr (some 104)), some (.inl x1), some (.inl x2)] [(.inl v5)] h4 (0, 0)
    refine aw_goto (pc := 14) (tgt := 19) dX7_count_14 (by decide) ?_
    exact ax_ireturn (pc := 19) dX7_count_19 rfl g (by decide) (by decide)
set_option maxRecDepth 100000 in
set_option maxHeartbeats 4000000 in
theorem vc_X7_walkTakes {d : Nat} {Q : Option Int → AH → Prop} {h : AH} {x1 x2 : Int} (hd : 1 ≤ d) (hL : QZ h)
  (g :
    AM (d - 1) m_X7_in [(.inl x2), (.inl 0), (.inl 4)] h (fun r h1 => 
      ∃ v2, r = some v2 ∧ SS h h1 ∧
      ((¬ v2 = 0 → (
        AM (d - 1) m_X7_copyState [(.inr (some 105)), (.inl 0), (.inr (some 106)), (.inl 0)] h1 (fun r h4 => 
          r = none ∧ SS h1 h4 ∧
          AM (d - 1) m_X7_walkNow [(.inr (some 104)), (.inl x1)] h4 (fun r h5 => 
            r = none ∧ SS h4 h5 ∧
            ((¬ x2 = 0 → (
              ((¬ x2 = 1 → (
                ((¬ x2 = 2 → (
                  AM (d - 1) m_X7_copyState [(.inr (some 106)), (.inl 0), (.inr (some 105)), (.inl 0)] h5 (fun r h9 => 
                    r = none ∧ SS h5 h9 ∧
                    ((¬ x2 = 4 → (
                      Q (some (w ((hi h5 105 9) - (hi h5 106 9)))) h9
                    )) ∧
                    (¬ (¬ x2 = 4) → (
                      Q (some (hi h9 104 13)) h9
                    ))))
                )) ∧
                (¬ (¬ x2 = 2) → (
                  AM (d - 1) m_X7_copyState [(.inr (some 106)), (.inl 0), (.inr (some 105)), (.inl 0)] h5 (fun r h11 => 
                    r = none ∧ SS h5 h11 ∧
                    Q (some (w ((hi h5 105 8) - (hi h5 106 8)))) h11)
                )))
              )) ∧
              (¬ (¬ x2 = 1) → (
                AM (d - 1) m_X7_copyState [(.inr (some 106)), (.inl 0), (.inr (some 105)), (.inl 0)] h5 (fun r h13 => 
                  r = none ∧ SS h5 h13 ∧
                  Q (some (w ((hi h5 105 10) - (hi h5 106 10)))) h13)
              )))
            )) ∧
            (¬ (¬ x2 = 0) → (
              AM (d - 1) m_X7_copyState [(.inr (some 106)), (.inl 0), (.inr (some 105)), (.inl 0)] h5 (fun r h15 => 
                r = none ∧ SS h5 h15 ∧
                Q (some (w ((hi h5 105 5) - (hi h5 106 5)))) h15)
            )))))
      )) ∧
      (¬ (¬ v2 = 0) → (
        Q (some (-2)) h1
      ))))) :
  AM d m_X7_walkTakes [(.inr (some 104)), (.inl x1), (.inl x2)] h Q := by
  refine am_body mo_X7_walkTakes (Nat.le_of_ble_eq_true rfl) ?_
  show AW m_X7_walkTakes d none Q 0 [some (.inr (some 104)), some (.inl x1), some (.inl x2), none, none] [] h (0, 0)
  obtain ⟨ko104, ro104_z, ko104_z, ro104_spare, ko104_spare, ro104_past, ko104_past, ro104_kept, ko104_kept, ro104_text, ko104_text, ro104_stack, ko104_stack, ro104_drew, ko104_drew, ro104_drawn, ko104_drawn, ro104_signs, ko104_signs, ro104_numbers, ko104_numbers⟩ := id hL
  refine aw_iload_n (pc := 0) dX7_walkTakes_0 rfl ?_
  refine aw_iconst (pc := 1) dX7_walkTakes_1 ?_
  refine aw_iconst (pc := 2) dX7_walkTakes_2 ?_
  refine aw_invS (pc := 3) (md' := m_X7_in) (as := [(.inl x2), (.inl 0), (.inl 4)]) dX7_walkTakes_3 mo_X7_in sm_X7_in ml_X7_63 rfl rfl hd (Nat.le_of_ble_eq_true rfl) (Nat.le_of_ble_eq_true rfl) (Nat.le_of_ble_eq_true rfl) ?_
  refine am_mono g (fun _ h1 _ ok_h1 g => ?_)
  obtain ⟨v2, rfl, ss_h1, g⟩ := g
  replace hL := QZ.ss hL ss_h1
  obtain ⟨ko104, ro104_z, ko104_z, ro104_spare, ko104_spare, ro104_past, ko104_past, ro104_kept, ko104_kept, ro104_text, ko104_text, ro104_stack, ko104_stack, ro104_drew, ko104_drew, ro104_drawn, ko104_drawn, ro104_signs, ko104_signs, ro104_numbers, ko104_numbers⟩ := id hL
  show AW m_X7_walkTakes d none Q 6 [some (.inr (some 104)), some (.inl x1), some (.inl x2), none, none] [(.inl v2)] h1 (0, 0)
  refine aw_if_ne (pc := 6) (tgt := 12) dX7_walkTakes_6 (by decide) (fun c3 => ?_) (fun c3 => ?_)
  · replace g := g.1 c3
    refine aw_aload_n (pc := 12) dX7_walkTakes_12 rfl ?_
    refine aw_getr (pc := 13) (r := some 105) dX7_walkTakes_13 fl_X7_7 (by decide) rfl ko104 ro104_z ?_
    refine aw_iconst (pc := 16) dX7_walkTakes_16 ?_
    refine aw_aload_n (pc := 17) dX7_walkTakes_17 rfl ?_
    refine aw_getr (pc := 18) (r := some 106) dX7_walkTakes_18 fl_X7_13 (by decide) rfl ko104 ro104_spare ?_
    refine aw_iconst (pc := 21) dX7_walkTakes_21 ?_
    refine aw_invS (pc := 22) (md' := m_X7_copyState) (as := [(.inr (some 105)), (.inl 0), (.inr (some 106)), (.inl 0)]) dX7_walkTakes_22 mo_X7_copyState sm_X7_copyState ml_X7_48 rfl rfl hd (Nat.le_of_ble_eq_true rfl) (Nat.le_of_ble_eq_true rfl) (Nat.le_of_ble_eq_true rfl) ?_
    refine am_mono g (fun _ h4 _ ok_h4 g => ?_)
    obtain ⟨rfl, ss_h4, g⟩ := g
    replace hL := QZ.ss hL ss_h4
    obtain ⟨ko104, ro104_z, ko104_z, ro104_spare, ko104_spare, ro104_past, ko104_past, ro104_kept, ko104_kept, ro104_text, ko104_text, ro104_stack, ko104_stack, ro104_drew, ko104_drew, ro104_drawn, ko104_drawn, ro104_signs, ko104_signs, ro104_numbers, ko104_numbers⟩ := id hL
    show AW m_X7_walkTakes d none Q 25 [some (.inr (some 104)), some (.inl x1), some (.inl x2), none, none] [] h4 (0, 0)
    refine aw_aload_n (pc := 25) dX7_walkTakes_25 rfl ?_
    refine aw_iload_n (pc := 26) dX7_walkTakes_26 rfl ?_
    refine aw_invV (pc := 27) (md' := m_X7_walkNow) (ci := 7) (as := [(.inl x1)]) dX7_walkTakes_27 mo_X7_walkNow im_X7_walkNow se_X7_walkNow ml_X7_135 rfl ko104 rfl hd (Nat.le_of_ble_eq_true rfl) (Nat.le_of_ble_eq_true rfl) (Nat.le_of_ble_eq_true rfl) ?_
    refine am_mono g (fun _ h5 _ ok_h5 g => ?_)
    obtain ⟨rfl, ss_h5, g⟩ := g
    replace hL := QZ.ss hL ss_h5
    obtain ⟨ko104, ro104_z, ko104_z, ro104_spare, ko104_spare, ro104_past, ko104_past, ro104_kept, ko104_kept, ro104_text, ko104_text, ro104_stack, ko104_stack, ro104_drew, ko104_drew, ro104_drawn, ko104_drawn, ro104_signs, ko104_signs, ro104_numbers, ko104_numbers⟩ := id hL
    show AW m_X7_walkTakes d none Q 30 [some (.inr (some 104)), some (.inl x1), some (.inl x2), none, none] [] h5 (0, 0)
    refine aw_iload_n (pc := 30) dX7_walkTakes_30 rfl ?_
    refine aw_if_ne (pc := 31) (tgt := 38) dX7_walkTakes_31 (by decide) (fun c6 => ?_) (fun c6 => ?_)
    · replace g := g.1 c6
      refine aw_iload_n (pc := 38) dX7_walkTakes_38 rfl ?_
      refine aw_iconst (pc := 39) dX7_walkTakes_39 ?_
      refine aw_icmp_ne (pc := 40) (tgt := 48) dX7_walkTakes_40 (by decide) (fun c7 => ?_) (fun c7 => ?_)
      · replace g := g.1 c7
        refine aw_iload_n (pc := 48) dX7_walkTakes_48 rfl ?_
        refine aw_iconst (pc := 49) dX7_walkTakes_49 ?_
        refine aw_icmp_ne (pc := 50) (tgt := 58) dX7_walkTakes_50 (by decide) (fun c8 => ?_) (fun c8 => ?_)
        · replace g := g.1 c8
          refine aw_bipush (pc := 58) dX7_walkTakes_58 ?_
          refine ax_istore_n (pc := 60) (ls' := [some (.inr (some 104)), some (.inl x1), some (.inl x2), some (.inl 9), none]) dX7_walkTakes_60 (Nat.le_of_ble_eq_true rfl) rfl ?_
          refine aw_aload_n (pc := 61) dX7_walkTakes_61 rfl ?_
          refine aw_getr (pc := 62) (r := some 105) dX7_walkTakes_62 fl_X7_7 (by decide) rfl ko104 ro104_z ?_
          refine aw_iload_n (pc := 65) dX7_walkTakes_65 rfl ?_
          refine ax_iaload (pc := 66) (n := 293) (v := hi h5 105 9) dX7_walkTakes_66 ko104_z (by decide) rfl ?_
          refine aw_aload_n (pc := 67) dX7_walkTakes_67 rfl ?_
          refine aw_getr (pc := 68) (r := some 106) dX7_walkTakes_68 fl_X7_13 (by decide) rfl ko104 ro104_spare ?_
          refine aw_iload_n (pc := 71) dX7_walkTakes_71 rfl ?_
          refine ax_iaload (pc := 72) (n := 293) (v := hi h5 106 9) dX7_walkTakes_72 ko104_spare (by decide) rfl ?_
          refine aw_isub_w (pc := 73) dX7_walkTakes_73 ?_
          refine ax_istore (pc := 74) (ls' := [some (.inr (some 104)), some (.inl x1), some (.inl x2), some (.inl 9), some (.inl (w ((hi h5 105 9) - (hi h5 106 9))))]) dX7_walkTakes_74 (Nat.le_of_ble_eq_true rfl) rfl ?_
          refine aw_aload_n (pc := 76) dX7_walkTakes_76 rfl ?_
          refine aw_getr (pc := 77) (r := some 106) dX7_walkTakes_77 fl_X7_13 (by decide) rfl ko104 ro104_spare ?_
          refine aw_iconst (pc := 80) dX7_walkTakes_80 ?_
          refine aw_aload_n (pc := 81) dX7_walkTakes_81 rfl ?_
          refine aw_getr (pc := 82) (r := some 105) dX7_walkTakes_82 fl_X7_7 (by decide) rfl ko104 ro104_z ?_
          refine aw_iconst (pc := 85) dX7_walkTakes_85 ?_
          refine aw_invS (pc := 86) (md' := m_X7_copyState) (as := [(.inr (some 106)), (.inl 0), (.inr (some 105)), (.inl 0)]) dX7_walkTakes_86 mo_X7_copyState sm_X7_copyState ml_X7_48 rfl rfl hd (Nat.le_of_ble_eq_true rfl) (Nat.le_of_ble_eq_true rfl) (Nat.le_of_ble_eq_true rfl) ?_
          refine am_mono g (fun _ h9 _ ok_h9 g => ?_)
          obtain ⟨rfl, ss_h9, g⟩ := g
          replace hL := QZ.ss hL ss_h9
          obtain ⟨ko104, ro104_z, ko104_z, ro104_spare, ko104_spare, ro104_past, ko104_past, ro104_kept, ko104_kept, ro104_text, ko104_text, ro104_stack, ko104_stack, ro104_drew, ko104_drew, ro104_drawn, ko104_drawn, ro104_signs, ko104_signs, ro104_numbers, ko104_numbers⟩ := id hL
          show AW m_X7_walkTakes d none Q 89 [some (.inr (some 104)), some (.inl x1), some (.inl x2), some (.inl 9), some (.inl (w ((hi h5 105 9) - (hi h5 106 9))))] [] h9 (0, 0)
          refine aw_iload_n (pc := 89) dX7_walkTakes_89 rfl ?_
          refine aw_iconst (pc := 90) dX7_walkTakes_90 ?_
          refine aw_icmp_ne (pc := 91) (tgt := 101) dX7_walkTakes_91 (by decide) (fun c10 => ?_) (fun c10 => ?_)
          · replace g := g.1 c10
            refine aw_iload (pc := 101) dX7_walkTakes_101 rfl ?_
            exact ax_ireturn (pc := 103) dX7_walkTakes_103 rfl g (by decide) (by decide)
          · replace g := g.2 c10
            refine aw_aload_n (pc := 94) dX7_walkTakes_94 rfl ?_
            refine ax_geti (pc := 95) (v := hi h9 104 13) dX7_walkTakes_95 fl_X7_132 (by decide) rfl ko104 rfl ?_
            refine aw_goto (pc := 98) (tgt := 103) dX7_walkTakes_98 (by decide) ?_
            exact ax_ireturn (pc := 103) dX7_walkTakes_103 rfl g (by decide) (by decide)
        · replace g := g.2 c8
          refine aw_bipush (pc := 53) dX7_walkTakes_53 ?_
          refine aw_goto (pc := 55) (tgt := 60) dX7_walkTakes_55 (by decide) ?_
          refine ax_istore_n (pc := 60) (ls' := [some (.inr (some 104)), some (.inl x1), some (.inl x2), some (.inl 8), none]) dX7_walkTakes_60 (Nat.le_of_ble_eq_true rfl) rfl ?_
          refine aw_aload_n (pc := 61) dX7_walkTakes_61 rfl ?_
          refine aw_getr (pc := 62) (r := some 105) dX7_walkTakes_62 fl_X7_7 (by decide) rfl ko104 ro104_z ?_
          refine aw_iload_n (pc := 65) dX7_walkTakes_65 rfl ?_
          refine ax_iaload (pc := 66) (n := 293) (v := hi h5 105 8) dX7_walkTakes_66 ko104_z (by decide) rfl ?_
          refine aw_aload_n (pc := 67) dX7_walkTakes_67 rfl ?_
          refine aw_getr (pc := 68) (r := some 106) dX7_walkTakes_68 fl_X7_13 (by decide) rfl ko104 ro104_spare ?_
          refine aw_iload_n (pc := 71) dX7_walkTakes_71 rfl ?_
          refine ax_iaload (pc := 72) (n := 293) (v := hi h5 106 8) dX7_walkTakes_72 ko104_spare (by decide) rfl ?_
          refine aw_isub_w (pc := 73) dX7_walkTakes_73 ?_
          refine ax_istore (pc := 74) (ls' := [some (.inr (some 104)), some (.inl x1), some (.inl x2), some (.inl 8), some (.inl (w ((hi h5 105 8) - (hi h5 106 8))))]) dX7_walkTakes_74 (Nat.le_of_ble_eq_true rfl) rfl ?_
          refine aw_aload_n (pc := 76) dX7_walkTakes_76 rfl ?_
          refine aw_getr (pc := 77) (r := some 106) dX7_walkTakes_77 fl_X7_13 (by decide) rfl ko104 ro104_spare ?_
          refine aw_iconst (pc := 80) dX7_walkTakes_80 ?_
          refine aw_aload_n (pc := 81) dX7_walkTakes_81 rfl ?_
          refine aw_getr (pc := 82) (r := some 105) dX7_walkTakes_82 fl_X7_7 (by decide) rfl ko104 ro104_z ?_
          refine aw_iconst (pc := 85) dX7_walkTakes_85 ?_
          refine aw_invS (pc := 86) (md' := m_X7_copyState) (as := [(.inr (some 106)), (.inl 0), (.inr (some 105)), (.inl 0)]) dX7_walkTakes_86 mo_X7_copyState sm_X7_copyState ml_X7_48 rfl rfl hd (Nat.le_of_ble_eq_true rfl) (Nat.le_of_ble_eq_true rfl) (Nat.le_of_ble_eq_true rfl) ?_
          refine am_mono g (fun _ h11 _ ok_h11 g => ?_)
          obtain ⟨rfl, ss_h11, g⟩ := g
          replace hL := QZ.ss hL ss_h11
          obtain ⟨ko104, ro104_z, ko104_z, ro104_spare, ko104_spare, ro104_past, ko104_past, ro104_kept, ko104_kept, ro104_text, ko104_text, ro104_stack, ko104_stack, ro104_drew, ko104_drew, ro104_drawn, ko104_drawn, ro104_signs, ko104_signs, ro104_numbers, ko104_numbers⟩ := id hL
          show AW m_X7_walkTakes d none Q 89 [some (.inr (some 104)), some (.inl x1), some (.inl x2), some (.inl 8), some (.inl (w ((hi h5 105 8) - (hi h5 106 8))))] [] h11 (0, 0)
          refine aw_iload_n (pc := 89) dX7_walkTakes_89 rfl ?_
          refine aw_iconst (pc := 90) dX7_walkTakes_90 ?_
          refine aw_icmp_ne (pc := 91) (tgt := 101) dX7_walkTakes_91 (by decide) (fun c12 => ?_) (fun c12 => False.elim (by omega))
          refine aw_iload (pc := 101) dX7_walkTakes_101 rfl ?_
          exact ax_ireturn (pc := 103) dX7_walkTakes_103 rfl g (by decide) (by decide)
      · replace g := g.2 c7
        refine aw_bipush (pc := 43) dX7_walkTakes_43 ?_
        refine aw_goto (pc := 45) (tgt := 60) dX7_walkTakes_45 (by decide) ?_
        refine ax_istore_n (pc := 60) (ls' := [some (.inr (some 104)), some (.inl x1), some (.inl x2), some (.inl 10), none]) dX7_walkTakes_60 (Nat.le_of_ble_eq_true rfl) rfl ?_
        refine aw_aload_n (pc := 61) dX7_walkTakes_61 rfl ?_
        refine aw_getr (pc := 62) (r := some 105) dX7_walkTakes_62 fl_X7_7 (by decide) rfl ko104 ro104_z ?_
        refine aw_iload_n (pc := 65) dX7_walkTakes_65 rfl ?_
        refine ax_iaload (pc := 66) (n := 293) (v := hi h5 105 10) dX7_walkTakes_66 ko104_z (by decide) rfl ?_
        refine aw_aload_n (pc := 67) dX7_walkTakes_67 rfl ?_
        refine aw_getr (pc := 68) (r := some 106) dX7_walkTakes_68 fl_X7_13 (by decide) rfl ko104 ro104_spare ?_
        refine aw_iload_n (pc := 71) dX7_walkTakes_71 rfl ?_
        refine ax_iaload (pc := 72) (n := 293) (v := hi h5 106 10) dX7_walkTakes_72 ko104_spare (by decide) rfl ?_
        refine aw_isub_w (pc := 73) dX7_walkTakes_73 ?_
        refine ax_istore (pc := 74) (ls' := [some (.inr (some 104)), some (.inl x1), some (.inl x2), some (.inl 10), some (.inl (w ((hi h5 105 10) - (hi h5 106 10))))]) dX7_walkTakes_74 (Nat.le_of_ble_eq_true rfl) rfl ?_
        refine aw_aload_n (pc := 76) dX7_walkTakes_76 rfl ?_
        refine aw_getr (pc := 77) (r := some 106) dX7_walkTakes_77 fl_X7_13 (by decide) rfl ko104 ro104_spare ?_
        refine aw_iconst (pc := 80) dX7_walkTakes_80 ?_
        refine aw_aload_n (pc := 81) dX7_walkTakes_81 rfl ?_
        refine aw_getr (pc := 82) (r := some 105) dX7_walkTakes_82 fl_X7_7 (by decide) rfl ko104 ro104_z ?_
        refine aw_iconst (pc := 85) dX7_walkTakes_85 ?_
        refine aw_invS (pc := 86) (md' := m_X7_copyState) (as := [(.inr (some 106)), (.inl 0), (.inr (some 105)), (.inl 0)]) dX7_walkTakes_86 mo_X7_copyState sm_X7_copyState ml_X7_48 rfl rfl hd (Nat.le_of_ble_eq_true rfl) (Nat.le_of_ble_eq_true rfl) (Nat.le_of_ble_eq_true rfl) ?_
        refine am_mono g (fun _ h13 _ ok_h13 g => ?_)
        obtain ⟨rfl, ss_h13, g⟩ := g
        replace hL := QZ.ss hL ss_h13
        obtain ⟨ko104, ro104_z, ko104_z, ro104_spare, ko104_spare, ro104_past, ko104_past, ro104_kept, ko104_kept, ro104_text, ko104_text, ro104_stack, ko104_stack, ro104_drew, ko104_drew, ro104_drawn, ko104_drawn, ro104_signs, ko104_signs, ro104_numbers, ko104_numbers⟩ := id hL
        show AW m_X7_walkTakes d none Q 89 [some (.inr (some 104)), some (.inl x1), some (.inl x2), some (.inl 10), some (.inl (w ((hi h5 105 10) - (hi h5 106 10))))] [] h13 (0, 0)
        refine aw_iload_n (pc := 89) dX7_walkTakes_89 rfl ?_
        refine aw_iconst (pc := 90) dX7_walkTakes_90 ?_
        refine aw_icmp_ne (pc := 91) (tgt := 101) dX7_walkTakes_91 (by decide) (fun c14 => ?_) (fun c14 => False.elim (by omega))
        refine aw_iload (pc := 101) dX7_walkTakes_101 rfl ?_
        exact ax_ireturn (pc := 103) dX7_walkTakes_103 rfl g (by decide) (by decide)
    · replace g := g.2 c6
      refine aw_iconst (pc := 34) dX7_walkTakes_34 ?_
      refine aw_goto (pc := 35) (tgt := 60) dX7_walkTakes_35 (by decide) ?_
      refine ax_istore_n (pc := 60) (ls' := [some (.inr (some 104)), some (.inl x1), some (.inl x2), some (.inl 5), none]) dX7_walkTakes_60 (Nat.le_of_ble_eq_true rfl) rfl ?_
      refine aw_aload_n (pc := 61) dX7_walkTakes_61 rfl ?_
      refine aw_getr (pc := 62) (r := some 105) dX7_walkTakes_62 fl_X7_7 (by decide) rfl ko104 ro104_z ?_
      refine aw_iload_n (pc := 65) dX7_walkTakes_65 rfl ?_
      refine ax_iaload (pc := 66) (n := 293) (v := hi h5 105 5) dX7_walkTakes_66 ko104_z (by decide) rfl ?_
      refine aw_aload_n (pc := 67) dX7_walkTakes_67 rfl ?_
      refine aw_getr (pc := 68) (r := some 106) dX7_walkTakes_68 fl_X7_13 (by decide) rfl ko104 ro104_spare ?_
      refine aw_iload_n (pc := 71) dX7_walkTakes_71 rfl ?_
      refine ax_iaload (pc := 72) (n := 293) (v := hi h5 106 5) dX7_walkTakes_72 ko104_spare (by decide) rfl ?_
      refine aw_isub_w (pc := 73) dX7_walkTakes_73 ?_
      refine ax_istore (pc := 74) (ls' := [some (.inr (some 104)), some (.inl x1), some (.inl x2), some (.inl 5), some (.inl (w ((hi h5 105 5) - (hi h5 106 5))))]) dX7_walkTakes_74 (Nat.le_of_ble_eq_true rfl) rfl ?_
      refine aw_aload_n (pc := 76) dX7_walkTakes_76 rfl ?_
      refine aw_getr (pc := 77) (r := some 106) dX7_walkTakes_77 fl_X7_13 (by decide) rfl ko104 ro104_spare ?_
      refine aw_iconst (pc := 80) dX7_walkTakes_80 ?_
      refine aw_aload_n (pc := 81) dX7_walkTakes_81 rfl ?_
      refine aw_getr (pc := 82) (r := some 105) dX7_walkTakes_82 fl_X7_7 (by decide) rfl ko104 ro104_z ?_
      refine aw_iconst (pc := 85) dX7_walkTakes_85 ?_
      refine aw_invS (pc := 86) (md' := m_X7_copyState) (as := [(.inr (some 106)), (.inl 0), (.inr (some 105)), (.inl 0)]) dX7_walkTakes_86 mo_X7_copyState sm_X7_copyState ml_X7_48 rfl rfl hd (Nat.le_of_ble_eq_true rfl) (Nat.le_of_ble_eq_true rfl) (Nat.le_of_ble_eq_true rfl) ?_
      refine am_mono g (fun _ h15 _ ok_h15 g => ?_)
      obtain ⟨rfl, ss_h15, g⟩ := g
      replace hL := QZ.ss hL ss_h15
      obtain ⟨ko104, ro104_z, ko104_z, ro104_spare, ko104_spare, ro104_past, ko104_past, ro104_kept, ko104_kept, ro104_text, ko104_text, ro104_stack, ko104_stack, ro104_drew, ko104_drew, ro104_drawn, ko104_drawn, ro104_signs, ko104_signs, ro104_numbers, ko104_numbers⟩ := id hL
      show AW m_X7_walkTakes d none Q 89 [some (.inr (some 104)), some (.inl x1), some (.inl x2), some (.inl 5), some (.inl (w ((hi h5 105 5) - (hi h5 106 5))))] [] h15 (0, 0)
      refine aw_iload_n (pc := 89) dX7_walkTakes_89 rfl ?_
      refine aw_iconst (pc := 90) dX7_walkTakes_90 ?_
      refine aw_icmp_ne (pc := 91) (tgt := 101) dX7_walkTakes_91 (by decide) (fun c16 => ?_) (fun c16 => False.elim (by omega))
      refine aw_iload (pc := 101) dX7_walkTakes_101 rfl ?_
      exact ax_ireturn (pc := 103) dX7_walkTakes_103 rfl g (by decide) (by decide)
  · replace g := g.2 c3
    refine aw_bipush (pc := 9) dX7_walkTakes_9 ?_
    exact ax_ireturn (pc := 11) dX7_walkTakes_11 rfl g (by decide) (by decide)
set_option maxRecDepth 100000 in
set_option maxHeartbeats 4000000 in
theorem vc_X7_roundsTake {d : Nat} {Q : Option Int → AH → Prop} {h : AH} {x1 x2 : Int} (hd : 1 ≤ d) (hL : QZ h)
  (g :
    AM (d - 1) m_X7_isSlots [(.inl x1)] h (fun r h1 => 
      ∃ v2, r = some v2 ∧ SS h h1 ∧
      ((v2 = 0 → (
        Q (some (-2)) h1
      )) ∧
      (¬ (v2 = 0) → (
        AM (d - 1) m_X7_in [(.inl x2), (.inl 0), (.inl 4)] h1 (fun r h4 => 
          ∃ v5, r = some v5 ∧ SS h1 h4 ∧
          ((¬ v5 = 0 → (
            AM (d - 1) m_X7_copyState [(.inr (some 105)), (.inl 0), (.inr (some 106)), (.inl 0)] h4 (fun r h7 => 
              r = none ∧ SS h4 h7 ∧
              AM (d - 1) m_X7_roundsNow [(.inr (some 104)), (.inl x1)] h7 (fun r h8 => 
                ∃ v9, r = some v9 ∧ SS h7 h8 ∧
                ((¬ x2 = 0 → (
                  ((¬ x2 = 1 → (
                    ((¬ x2 = 2 → (
                      ((¬ x2 = 3 → (
                        AM (d - 1) m_X7_copyState [(.inr (some 106)), (.inl 0), (.inr (some 105)), (.inl 0)] h8 (fun r h14 => 
                          r = none ∧ SS h8 h14 ∧
                          Q (some (w ((hi h8 105 6) - (hi h8 106 6)))) h14)
                      )) ∧
                      (¬ (¬ x2 = 3) → (
                        AM (d - 1) m_X7_copyState [(.inr (some 106)), (.inl 0), (.inr (some 105)), (.inl 0)] h8 (fun r h15 => 
                          r = none ∧ SS h8 h15 ∧
                          Q (some (w ((hi h8 105 9) - (hi h8 106 9)))) h15)
                      )))
                    )) ∧
                    (¬ (¬ x2 = 2) → (
                      AM (d - 1) m_X7_copyState [(.inr (some 106)), (.inl 0), (.inr (some 105)), (.inl 0)] h8 (fun r h16 => 
                        r = none ∧ SS h8 h16 ∧
                        Q (some (w ((hi h8 105 8) - (hi h8 106 8)))) h16)
                    )))
                  )) ∧
                  (¬ (¬ x2 = 1) → (
                    AM (d - 1) m_X7_copyState [(.inr (some 106)), (.inl 0), (.inr (some 105)), (.inl 0)] h8 (fun r h17 => 
                      r = none ∧ SS h8 h17 ∧
                      Q (some (w ((hi h8 105 10) - (hi h8 106 10)))) h17)
                  )))
                )) ∧
                (¬ (¬ x2 = 0) → (
                  AM (d - 1) m_X7_copyState [(.inr (some 106)), (.inl 0), (.inr (some 105)), (.inl 0)] h8 (fun r h18 => 
                    r = none ∧ SS h8 h18 ∧
                    Q (some (w ((hi h8 105 11) - (hi h8 106 11)))) h18)
                )))))
          )) ∧
          (¬ (¬ v5 = 0) → (
            Q (some (-2)) h4
          ))))
      ))))) :
  AM d m_X7_roundsTake [(.inr (some 104)), (.inl x1), (.inl x2)] h Q := by
  refine am_body mo_X7_roundsTake (Nat.le_of_ble_eq_true rfl) ?_
  show AW m_X7_roundsTake d none Q 0 [some (.inr (some 104)), some (.inl x1), some (.inl x2), none, none] [] h (0, 0)
  obtain ⟨ko104, ro104_z, ko104_z, ro104_spare, ko104_spare, ro104_past, ko104_past, ro104_kept, ko104_kept, ro104_text, ko104_text, ro104_stack, ko104_stack, ro104_drew, ko104_drew, ro104_drawn, ko104_drawn, ro104_signs, ko104_signs, ro104_numbers, ko104_numbers⟩ := id hL
  refine aw_iload_n (pc := 0) dX7_roundsTake_0 rfl ?_
  refine aw_invS (pc := 1) (md' := m_X7_isSlots) (as := [(.inl x1)]) dX7_roundsTake_1 mo_X7_isSlots sm_X7_isSlots ml_X7_149 rfl rfl hd (Nat.le_of_ble_eq_true rfl) (Nat.le_of_ble_eq_true rfl) (Nat.le_of_ble_eq_true rfl) ?_
  refine am_mono g (fun _ h1 _ ok_h1 g => ?_)
  obtain ⟨v2, rfl, ss_h1, g⟩ := g
  replace hL := QZ.ss hL ss_h1
  obtain ⟨ko104, ro104_z, ko104_z, ro104_spare, ko104_spare, ro104_past, ko104_past, ro104_kept, ko104_kept, ro104_text, ko104_text, ro104_stack, ko104_stack, ro104_drew, ko104_drew, ro104_drawn, ko104_drawn, ro104_signs, ko104_signs, ro104_numbers, ko104_numbers⟩ := id hL
  show AW m_X7_roundsTake d none Q 4 [some (.inr (some 104)), some (.inl x1), some (.inl x2), none, none] [(.inl v2)] h1 (0, 0)
  refine aw_if_eq (pc := 4) (tgt := 16) dX7_roundsTake_4 (by decide) (fun c3 => ?_) (fun c3 => ?_)
  · replace g := g.1 c3
    refine aw_bipush (pc := 16) dX7_roundsTake_16 ?_
    exact ax_ireturn (pc := 18) dX7_roundsTake_18 rfl g (by decide) (by decide)
  · replace g := g.2 c3
    refine aw_iload_n (pc := 7) dX7_roundsTake_7 rfl ?_
    refine aw_iconst (pc := 8) dX7_roundsTake_8 ?_
    refine aw_iconst (pc := 9) dX7_roundsTake_9 ?_
    refine aw_invS (pc := 10) (md' := m_X7_in) (as := [(.inl x2), (.inl 0), (.inl 4)]) dX7_roundsTake_10 mo_X7_in sm_X7_in ml_X7_63 rfl rfl hd (Nat.le_of_ble_eq_true rfl) (Nat.le_of_ble_eq_true rfl) (Nat.le_of_ble_eq_true rfl) ?_
    refine am_mono g (fun _ h4 _ ok_h4 g => ?_)
    obtain ⟨v5, rfl, ss_h4, g⟩ := g
    replace hL := QZ.ss hL ss_h4
    obtain ⟨ko104, ro104_z, ko104_z, ro104_spare, ko104_spare, ro104_past, ko104_past, ro104_kept, ko104_kept, ro104_text, ko104_text, ro104_stack, ko104_stack, ro104_drew, ko104_drew, ro104_drawn, ko104_drawn, ro104_signs, ko104_signs, ro104_numbers, ko104_numbers⟩ := id hL
    show AW m_X7_roundsTake d none Q 13 [some (.inr (some 104)), some (.inl x1), some (.inl x2), none, none] [(.inl v5)] h4 (0, 0)
    refine aw_if_ne (pc := 13) (tgt := 19) dX7_roundsTake_13 (by decide) (fun c6 => ?_) (fun c6 => ?_)
    · replace g := g.1 c6
      refine aw_aload_n (pc := 19) dX7_roundsTake_19 rfl ?_
      refine aw_getr (pc := 20) (r := some 105) dX7_roundsTake_20 fl_X7_7 (by decide) rfl ko104 ro104_z ?_
      refine aw_iconst (pc := 23) dX7_roundsTake_23 ?_
      refine aw_aload_n (pc := 24) dX7_roundsTake_24 rfl ?_
      refine aw_getr (pc := 25) (r := some 106) dX7_roundsTake_25 fl_X7_13 (by decide) rfl ko104 ro104_spare ?_
      refine aw_iconst (pc := 28) dX7_roundsTake_28 ?_
      refine aw_invS (pc := 29) (md' := m_X7_copyState) (as := [(.inr (some 105)), (.inl 0), (.inr (some 106)), (.inl 0)]) dX7_roundsTake_29 mo_X7_copyState sm_X7_copyState ml_X7_48 rfl rfl hd (Nat.le_of_ble_eq_true rfl) (Nat.le_of_ble_eq_true rfl) (Nat.le_of_ble_eq_true rfl) ?_
      refine am_mono g (fun _ h7 _ ok_h7 g => ?_)
      obtain ⟨rfl, ss_h7, g⟩ := g
      replace hL := QZ.ss hL ss_h7
      obtain ⟨ko104, ro104_z, ko104_z, ro104_spare, ko104_spare, ro104_past, ko104_past, ro104_kept, ko104_kept, ro104_text, ko104_text, ro104_stack, ko104_stack, ro104_drew, ko104_drew, ro104_drawn, ko104_drawn, ro104_signs, ko104_signs, ro104_numbers, ko104_numbers⟩ := id hL
      show AW m_X7_roundsTake d none Q 32 [some (.inr (some 104)), some (.inl x1), some (.inl x2), none, none] [] h7 (0, 0)
      refine aw_aload_n (pc := 32) dX7_roundsTake_32 rfl ?_
      refine aw_iload_n (pc := 33) dX7_roundsTake_33 rfl ?_
      refine aw_invV (pc := 34) (md' := m_X7_roundsNow) (ci := 7) (as := [(.inl x1)]) dX7_roundsTake_34 mo_X7_roundsNow im_X7_roundsNow se_X7_roundsNow ml_X7_160 rfl ko104 rfl hd (Nat.le_of_ble_eq_true rfl) (Nat.le_of_ble_eq_true rfl) (Nat.le_of_ble_eq_true rfl) ?_
      refine am_mono g (fun _ h8 _ ok_h8 g => ?_)
      obtain ⟨v9, rfl, ss_h8, g⟩ := g
      replace hL := QZ.ss hL ss_h8
      obtain ⟨ko104, ro104_z, ko104_z, ro104_spare, ko104_spare, ro104_past, ko104_past, ro104_kept, ko104_kept, ro104_text, ko104_text, ro104_stack, ko104_stack, ro104_drew, ko104_drew, ro104_drawn, ko104_drawn, ro104_signs, ko104_signs, ro104_numbers, ko104_numbers⟩ := id hL
      show AW m_X7_roundsTake d none Q 37 [some (.inr (some 104)), some (.inl x1), some (.inl x2), none, none] [(.inl v9)] h8 (0, 0)
      refine aw_pop (pc := 37) dX7_roundsTake_37 ?_
      refine aw_iload_n (pc := 38) dX7_roundsTake_38 rfl ?_
      refine aw_if_ne (pc := 39) (tgt := 47) dX7_roundsTake_39 (by decide) (fun c10 => ?_) (fun c10 => ?_)
      · replace g := g.1 c10
        refine aw_iload_n (pc := 47) dX7_roundsTake_47 rfl ?_
        refine aw_iconst (pc := 48) dX7_roundsTake_48 ?_
        refine aw_icmp_ne (pc := 49) (tgt := 57) dX7_roundsTake_49 (by decide) (fun c11 => ?_) (fun c11 => ?_)
        · replace g := g.1 c11
          refine aw_iload_n (pc := 57) dX7_roundsTake_57 rfl ?_
          refine aw_iconst (pc := 58) dX7_roundsTake_58 ?_
          refine aw_icmp_ne (pc := 59) (tgt := 67) dX7_roundsTake_59 (by decide) (fun c12 => ?_) (fun c12 => ?_)
          · replace g := g.1 c12
            refine aw_iload_n (pc := 67) dX7_roundsTake_67 rfl ?_
            refine aw_iconst (pc := 68) dX7_roundsTake_68 ?_
            refine aw_icmp_ne (pc := 69) (tgt := 77) dX7_roundsTake_69 (by decide) (fun c13 => ?_) (fun c13 => ?_)
            · replace g := g.1 c13
              refine aw_bipush (pc := 77) dX7_roundsTake_77 ?_
              refine ax_istore_n (pc := 79) (ls' := [some (.inr (some 104)), some (.inl x1), some (.inl x2), some (.inl 6), none]) dX7_roundsTake_79 (Nat.le_of_ble_eq_true rfl) rfl ?_
              refine aw_aload_n (pc := 80) dX7_roundsTake_80 rfl ?_
              refine aw_getr (pc := 81) (r := some 105) dX7_roundsTake_81 fl_X7_7 (by decide) rfl ko104 ro104_z ?_
              refine aw_iload_n (pc := 84) dX7_roundsTake_84 rfl ?_
              refine ax_iaload (pc := 85) (n := 293) (v := hi h8 105 6) dX7_roundsTake_85 ko104_z (by decide) rfl ?_
              refine aw_aload_n (pc := 86) dX7_roundsTake_86 rfl ?_
              refine aw_getr (pc := 87) (r := some 106) dX7_roundsTake_87 fl_X7_13 (by decide) rfl ko104 ro104_spare ?_
              refine aw_iload_n (pc := 90) dX7_roundsTake_90 rfl ?_
              refine ax_iaload (pc := 91) (n := 293) (v := hi h8 106 6) dX7_roundsTake_91 ko104_spare (by decide) rfl ?_
              refine aw_isub_w (pc := 92) dX7_roundsTake_92 ?_
              refine ax_istore (pc := 93) (ls' := [some (.inr (some 104)), some (.inl x1), some (.inl x2), some (.inl 6), some (.inl (w ((hi h8 105 6) - (hi h8 106 6))))]) dX7_roundsTake_93 (Nat.le_of_ble_eq_true rfl) rfl ?_
              refine aw_aload_n (pc := 95) dX7_roundsTake_95 rfl ?_
              refine aw_getr (pc := 96) (r := some 106) dX7_roundsTake_96 fl_X7_13 (by decide) rfl ko104 ro104_spare ?_
              refine aw_iconst (pc := 99) dX7_roundsTake_99 ?_
              refine aw_aload_n (pc := 100) dX7_roundsTake_100 rfl ?_
              refine aw_getr (pc := 101) (r := some 105) dX7_roundsTake_101 fl_X7_7 (by decide) rfl ko104 ro104_z ?_
              refine aw_iconst (pc := 104) dX7_roundsTake_104 ?_
              refine aw_invS (pc := 105) (md' := m_X7_copyState) (as := [(.inr (some 106)), (.inl 0), (.inr (some 105)), (.inl 0)]) dX7_roundsTake_105 mo_X7_copyState sm_X7_copyState ml_X7_48 rfl rfl hd (Nat.le_of_ble_eq_true rfl) (Nat.le_of_ble_eq_true rfl) (Nat.le_of_ble_eq_true rfl) ?_
              refine am_mono g (fun _ h14 _ ok_h14 g => ?_)
              obtain ⟨rfl, ss_h14, g⟩ := g
              replace hL := QZ.ss hL ss_h14
              obtain ⟨ko104, ro104_z, ko104_z, ro104_spare, ko104_spare, ro104_past, ko104_past, ro104_kept, ko104_kept, ro104_text, ko104_text, ro104_stack, ko104_stack, ro104_drew, ko104_drew, ro104_drawn, ko104_drawn, ro104_signs, ko104_signs, ro104_numbers, ko104_numbers⟩ := id hL
              show AW m_X7_roundsTake d none Q 108 [some (.inr (some 104)), some (.inl x1), some (.inl x2), some (.inl 6), some (.inl (w ((hi h8 105 6) - (hi h8 106 6))))] [] h14 (0, 0)
              refine aw_iload (pc := 108) dX7_roundsTake_108 rfl ?_
              exact ax_ireturn (pc := 110) dX7_roundsTake_110 rfl g (by decide) (by decide)
            · replace g := g.2 c13
              refine aw_bipush (pc := 72) dX7_roundsTake_72 ?_
              refine aw_goto (pc := 74) (tgt := 79) dX7_roundsTake_74 (by decide) ?_
              refine ax_istore_n (pc := 79) (ls' := [some (.inr (some 104)), some (.inl x1), some (.inl x2), some (.inl 9), none]) dX7_roundsTake_79 (Nat.le_of_ble_eq_true rfl) rfl ?_
              refine aw_aload_n (pc := 80) dX7_roundsTake_80 rfl ?_
              refine aw_getr (pc := 81) (r := some 105) dX7_roundsTake_81 fl_X7_7 (by decide) rfl ko104 ro104_z ?_
              refine aw_iload_n (pc := 84) dX7_roundsTake_84 rfl ?_
              refine ax_iaload (pc := 85) (n := 293) (v := hi h8 105 9) dX7_roundsTake_85 ko104_z (by decide) rfl ?_
              refine aw_aload_n (pc := 86) dX7_roundsTake_86 rfl ?_
              refine aw_getr (pc := 87) (r := some 106) dX7_roundsTake_87 fl_X7_13 (by decide) rfl ko104 ro104_spare ?_
              refine aw_iload_n (pc := 90) dX7_roundsTake_90 rfl ?_
              refine ax_iaload (pc := 91) (n := 293) (v := hi h8 106 9) dX7_roundsTake_91 ko104_spare (by decide) rfl ?_
              refine aw_isub_w (pc := 92) dX7_roundsTake_92 ?_
              refine ax_istore (pc := 93) (ls' := [some (.inr (some 104)), some (.inl x1), some (.inl x2), some (.inl 9), some (.inl (w ((hi h8 105 9) - (hi h8 106 9))))]) dX7_roundsTake_93 (Nat.le_of_ble_eq_true rfl) rfl ?_
              refine aw_aload_n (pc := 95) dX7_roundsTake_95 rfl ?_
              refine aw_getr (pc := 96) (r := some 106) dX7_roundsTake_96 fl_X7_13 (by decide) rfl ko104 ro104_spare ?_
              refine aw_iconst (pc := 99) dX7_roundsTake_99 ?_
              refine aw_aload_n (pc := 100) dX7_roundsTake_100 rfl ?_
              refine aw_getr (pc := 101) (r := some 105) dX7_roundsTake_101 fl_X7_7 (by decide) rfl ko104 ro104_z ?_
              refine aw_iconst (pc := 104) dX7_roundsTake_104 ?_
              refine aw_invS (pc := 105) (md' := m_X7_copyState) (as := [(.inr (some 106)), (.inl 0), (.inr (some 105)), (.inl 0)]) dX7_roundsTake_105 mo_X7_copyState sm_X7_copyState ml_X7_48 rfl rfl hd (Nat.le_of_ble_eq_true rfl) (Nat.le_of_ble_eq_true rfl) (Nat.le_of_ble_eq_true rfl) ?_
              refine am_mono g (fun _ h15 _ ok_h15 g => ?_)
              obtain ⟨rfl, ss_h15, g⟩ := g
              replace hL := QZ.ss hL ss_h15
              obtain ⟨ko104, ro104_z, ko104_z, ro104_spare, ko104_spare, ro104_past, ko104_past, ro104_kept, ko104_kept, ro104_text, ko104_text, ro104_stack, ko104_stack, ro104_drew, ko104_drew, ro104_drawn, ko104_drawn, ro104_signs, ko104_signs, ro104_numbers, ko104_numbers⟩ := id hL
              show AW m_X7_roundsTake d none Q 108 [some (.inr (some 104)), some (.inl x1), some (.inl x2), some (.inl 9), some (.inl (w ((hi h8 105 9) - (hi h8 106 9))))] [] h15 (0, 0)
              refine aw_iload (pc := 108) dX7_roundsTake_108 rfl ?_
              exact ax_ireturn (pc := 110) dX7_roundsTake_110 rfl g (by decide) (by decide)
          · replace g := g.2 c12
            refine aw_bipush (pc := 62) dX7_roundsTake_62 ?_
            refine aw_goto (pc := 64) (tgt := 79) dX7_roundsTake_64 (by decide) ?_
            refine ax_istore_n (pc := 79) (ls' := [some (.inr (some 104)), some (.inl x1), some (.inl x2), some (.inl 8), none]) dX7_roundsTake_79 (Nat.le_of_ble_eq_true rfl) rfl ?_
            refine aw_aload_n (pc := 80) dX7_roundsTake_80 rfl ?_
            refine aw_getr (pc := 81) (r := some 105) dX7_roundsTake_81 fl_X7_7 (by decide) rfl ko104 ro104_z ?_
            refine aw_iload_n (pc := 84) dX7_roundsTake_84 rfl ?_
            refine ax_iaload (pc := 85) (n := 293) (v := hi h8 105 8) dX7_roundsTake_85 ko104_z (by decide) rfl ?_
            refine aw_aload_n (pc := 86) dX7_roundsTake_86 rfl ?_
            refine aw_getr (pc := 87) (r := some 106) dX7_roundsTake_87 fl_X7_13 (by decide) rfl ko104 ro104_spare ?_
            refine aw_iload_n (pc := 90) dX7_roundsTake_90 rfl ?_
            refine ax_iaload (pc := 91) (n := 293) (v := hi h8 106 8) dX7_roundsTake_91 ko104_spare (by decide) rfl ?_
            refine aw_isub_w (pc := 92) dX7_roundsTake_92 ?_
            refine ax_istore (pc := 93) (ls' := [some (.inr (some 104)), some (.inl x1), some (.inl x2), some (.inl 8), some (.inl (w ((hi h8 105 8) - (hi h8 106 8))))]) dX7_roundsTake_93 (Nat.le_of_ble_eq_true rfl) rfl ?_
            refine aw_aload_n (pc := 95) dX7_roundsTake_95 rfl ?_
            refine aw_getr (pc := 96) (r := some 106) dX7_roundsTake_96 fl_X7_13 (by decide) rfl ko104 ro104_spare ?_
            refine aw_iconst (pc := 99) dX7_roundsTake_99 ?_
            refine aw_aload_n (pc := 100) dX7_roundsTake_100 rfl ?_
            refine aw_getr (pc := 101) (r := some 105) dX7_roundsTake_101 fl_X7_7 (by decide) rfl ko104 ro104_z ?_
            refine aw_iconst (pc := 104) dX7_roundsTake_104 ?_
            refine aw_invS (pc := 105) (md' := m_X7_copyState) (as := [(.inr (some 106)), (.inl 0), (.inr (some 105)), (.inl 0)]) dX7_roundsTake_105 mo_X7_copyState sm_X7_copyState ml_X7_48 rfl rfl hd (Nat.le_of_ble_eq_true rfl) (Nat.le_of_ble_eq_true rfl) (Nat.le_of_ble_eq_true rfl) ?_
            refine am_mono g (fun _ h16 _ ok_h16 g => ?_)
            obtain ⟨rfl, ss_h16, g⟩ := g
            replace hL := QZ.ss hL ss_h16
            obtain ⟨ko104, ro104_z, ko104_z, ro104_spare, ko104_spare, ro104_past, ko104_past, ro104_kept, ko104_kept, ro104_text, ko104_text, ro104_stack, ko104_stack, ro104_drew, ko104_drew, ro104_drawn, ko104_drawn, ro104_signs, ko104_signs, ro104_numbers, ko104_numbers⟩ := id hL
            show AW m_X7_roundsTake d none Q 108 [some (.inr (some 104)), some (.inl x1), some (.inl x2), some (.inl 8), some (.inl (w ((hi h8 105 8) - (hi h8 106 8))))] [] h16 (0, 0)
            refine aw_iload (pc := 108) dX7_roundsTake_108 rfl ?_
            exact ax_ireturn (pc := 110) dX7_roundsTake_110 rfl g (by decide) (by decide)
        · replace g := g.2 c11
          refine aw_bipush (pc := 52) dX7_roundsTake_52 ?_
          refine aw_goto (pc := 54) (tgt := 79) dX7_roundsTake_54 (by decide) ?_
          refine ax_istore_n (pc := 79) (ls' := [some (.inr (some 104)), some (.inl x1), some (.inl x2), some (.inl 10), none]) dX7_roundsTake_79 (Nat.le_of_ble_eq_true rfl) rfl ?_
          refine aw_aload_n (pc := 80) dX7_roundsTake_80 rfl ?_
          refine aw_getr (pc := 81) (r := some 105) dX7_roundsTake_81 fl_X7_7 (by decide) rfl ko104 ro104_z ?_
          refine aw_iload_n (pc := 84) dX7_roundsTake_84 rfl ?_
          refine ax_iaload (pc := 85) (n := 293) (v := hi h8 105 10) dX7_roundsTake_85 ko104_z (by decide) rfl ?_
          refine aw_aload_n (pc := 86) dX7_roundsTake_86 rfl ?_
          refine aw_getr (pc := 87) (r := some 106) dX7_roundsTake_87 fl_X7_13 (by decide) rfl ko104 ro104_spare ?_
          refine aw_iload_n (pc := 90) dX7_roundsTake_90 rfl ?_
          refine ax_iaload (pc := 91) (n := 293) (v := hi h8 106 10) dX7_roundsTake_91 ko104_spare (by decide) rfl ?_
          refine aw_isub_w (pc := 92) dX7_roundsTake_92 ?_
          refine ax_istore (pc := 93) (ls' := [some (.inr (some 104)), some (.inl x1), some (.inl x2), some (.inl 10), some (.inl (w ((hi h8 105 10) - (hi h8 106 10))))]) dX7_roundsTake_93 (Nat.le_of_ble_eq_true rfl) rfl ?_
          refine aw_aload_n (pc := 95) dX7_roundsTake_95 rfl ?_
          refine aw_getr (pc := 96) (r := some 106) dX7_roundsTake_96 fl_X7_13 (by decide) rfl ko104 ro104_spare ?_
          refine aw_iconst (pc := 99) dX7_roundsTake_99 ?_
          refine aw_aload_n (pc := 100) dX7_roundsTake_100 rfl ?_
          refine aw_getr (pc := 101) (r := some 105) dX7_roundsTake_101 fl_X7_7 (by decide) rfl ko104 ro104_z ?_
          refine aw_iconst (pc := 104) dX7_roundsTake_104 ?_
          refine aw_invS (pc := 105) (md' := m_X7_copyState) (as := [(.inr (some 106)), (.inl 0), (.inr (some 105)), (.inl 0)]) dX7_roundsTake_105 mo_X7_copyState sm_X7_copyState ml_X7_48 rfl rfl hd (Nat.le_of_ble_eq_true rfl) (Nat.le_of_ble_eq_true rfl) (Nat.le_of_ble_eq_true rfl) ?_
          refine am_mono g (fun _ h17 _ ok_h17 g => ?_)
          obtain ⟨rfl, ss_h17, g⟩ := g
          replace hL := QZ.ss hL ss_h17
          obtain ⟨ko104, ro104_z, ko104_z, ro104_spare, ko104_spare, ro104_past, ko104_past, ro104_kept, ko104_kept, ro104_text, ko104_text, ro104_stack, ko104_stack, ro104_drew, ko104_drew, ro104_drawn, ko104_drawn, ro104_signs, ko104_signs, ro104_numbers, ko104_numbers⟩ := id hL
          show AW m_X7_roundsTake d none Q 108 [some (.inr (some 104)), some (.inl x1), some (.inl x2), some (.inl 10), some (.inl (w ((hi h8 105 10) - (hi h8 106 10))))] [] h17 (0, 0)
          refine aw_iload (pc := 108) dX7_roundsTake_108 rfl ?_
          exact ax_ireturn (pc := 110) dX7_roundsTake_110 rfl g (by decide) (by decide)
      · replace g := g.2 c10
        refine aw_bipush (pc := 42) dX7_roundsTake_42 ?_
        refine aw_goto (pc := 44) (tgt := 79) dX7_roundsTake_44 (by decide) ?_
        refine ax_istore_n (pc := 79) (ls' := [some (.inr (some 104)), some (.inl x1), some (.inl x2), some (.inl 11), none]) dX7_roundsTake_79 (Nat.le_of_ble_eq_true rfl) rfl ?_
        refine aw_aload_n (pc := 80) dX7_roundsTake_80 rfl ?_
        refine aw_getr (pc := 81) (r := some 105) dX7_roundsTake_81 fl_X7_7 (by decide) rfl ko104 ro104_z ?_
        refine aw_iload_n (pc := 84) dX7_roundsTake_84 rfl ?_
        refine ax_iaload (pc := 85) (n := 293) (v := hi h8 105 11) dX7_roundsTake_85 ko104_z (by decide) rfl ?_
        refine aw_aload_n (pc := 86) dX7_roundsTake_86 rfl ?_
        refine aw_getr (pc := 87) (r := some 106) dX7_roundsTake_87 fl_X7_13 (by decide) rfl ko104 ro104_spare ?_
        refine aw_iload_n (pc := 90) dX7_roundsTake_90 rfl ?_
        refine ax_iaload (pc := 91) (n := 293) (v := hi h8 106 11) dX7_roundsTake_91 ko104_spare (by decide) rfl ?_
        refine aw_isub_w (pc := 92) dX7_roundsTake_92 ?_
        refine ax_istore (pc := 93) (ls' := [some (.inr (some 104)), some (.inl x1), some (.inl x2), some (.inl 11), some (.inl (w ((hi h8 105 11) - (hi h8 106 11))))]) dX7_roundsTake_93 (Nat.le_of_ble_eq_true rfl) rfl ?_
        refine aw_aload_n (pc := 95) dX7_roundsTake_95 rfl ?_
        refine aw_getr (pc := 96) (r := some 106) dX7_roundsTake_96 fl_X7_13 (by decide) rfl ko104 ro104_spare ?_
        refine aw_iconst (pc := 99) dX7_roundsTake_99 ?_
        refine aw_aload_n (pc := 100) dX7_roundsTake_100 rfl ?_
        refine aw_getr (pc := 101) (r := some 105) dX7_roundsTake_101 fl_X7_7 (by decide) rfl ko104 ro104_z ?_
        refine aw_iconst (pc := 104) dX7_roundsTake_104 ?_
        refine aw_invS (pc := 105) (md' := m_X7_copyState) (as := [(.inr (some 106)), (.inl 0), (.inr (some 105)), (.inl 0)]) dX7_roundsTake_105 mo_X7_copyState sm_X7_copyState ml_X7_48 rfl rfl hd (Nat.le_of_ble_eq_true rfl) (Nat.le_of_ble_eq_true rfl) (Nat.le_of_ble_eq_true rfl) ?_
        refine am_mono g (fun _ h18 _ ok_h18 g => ?_)
        obtain ⟨rfl, ss_h18, g⟩ := g
        replace hL := QZ.ss hL ss_h18
        obtain ⟨ko104, ro104_z, ko104_z, ro104_spare, ko104_spare, ro104_past, ko104_past, ro104_kept, ko104_kept, ro104_text, ko104_text, ro104_stack, ko104_stack, ro104_drew, ko104_drew, ro104_drawn, ko104_drawn, ro104_signs, ko104_signs, ro104_numbers, ko104_numbers⟩ := id hL
        show AW m_X7_roundsTake d none Q 108 [some (.inr (some 104)), some (.inl x1), some (.inl x2), some (.inl 11), some (.inl (w ((hi h8 105 11) - (hi h8 106 11))))] [] h18 (0, 0)
        refine aw_iload (pc := 108) dX7_roundsTake_108 rfl ?_
        exact ax_ireturn (pc := 110) dX7_roundsTake_110 rfl g (by decide) (by decide)
    · replace g := g.2 c6
      refine aw_bipush (pc := 16) dX7_roundsTake_16 ?_
      exact ax_ireturn (pc := 18) dX7_roundsTake_18 rfl g (by decide) (by decide)
set_option maxRecDepth 100000 in
set_option maxHeartbeats 4000000 in
theorem vc_X7_bestFrame {d : Nat} {Q : Option Int → AH → Prop} {h : AH}  (hd : 1 ≤ d) (hL : QZ h)
  (g :
    AM (d - 1) m_X7_copyState [(.inr (some 105)), (.inl 0), (.inr (some 106)), (.inl 0)] h (fun r h1 => 
      r = none ∧ SS h h1 ∧
      AW m_X7_bestFrame d none Q 22 [some (.inr (some 104)), some (.inl 0), some (.inl (-1)), some (.inl 0), some (.inl 1), none, none, none] [] h1 (0, 0))) :
  AM d m_X7_bestFrame [(.inr (some 104))] h Q := by
  refine am_body mo_X7_bestFrame (Nat.le_of_ble_eq_true rfl) ?_
  show AW m_X7_bestFrame d none Q 0 [some (.inr (some 104)), none, none, none, none, none, none, none] [] h (0, 0)
  obtain ⟨ko104, ro104_z, ko104_z, ro104_spare, ko104_spare, ro104_past, ko104_past, ro104_kept, ko104_kept, ro104_text, ko104_text, ro104_stack, ko104_stack, ro104_drew, ko104_drew, ro104_drawn, ko104_drawn, ro104_signs, ko104_signs, ro104_numbers, ko104_numbers⟩ := id hL
  refine aw_iconst (pc := 0) dX7_bestFrame_0 ?_
  refine ax_istore_n (pc := 1) (ls' := [some (.inr (some 104)), some (.inl 0), none, none, none, none, none, none]) dX7_bestFrame_1 (Nat.le_of_ble_eq_true rfl) rfl ?_
  refine aw_iconst (pc := 2) dX7_bestFrame_2 ?_
  refine ax_istore_n (pc := 3) (ls' := [some (.inr (some 104)), some (.inl 0), some (.inl (-1)), none, none, none, none, none]) dX7_bestFrame_3 (Nat.le_of_ble_eq_true rfl) rfl ?_
  refine aw_iconst (pc := 4) dX7_bestFrame_4 ?_
  refine ax_istore_n (pc := 5) (ls' := [some (.inr (some 104)), some (.inl 0), some (.inl (-1)), some (.inl 0), none, none, none, none]) dX7_bestFrame_5 (Nat.le_of_ble_eq_true rfl) rfl ?_
  refine aw_aload_n (pc := 6) dX7_bestFrame_6 rfl ?_
  refine aw_getr (pc := 7) (r := some 105) dX7_bestFrame_7 fl_X7_7 (by decide) rfl ko104 ro104_z ?_
  refine aw_iconst (pc := 10) dX7_bestFrame_10 ?_
  refine aw_aload_n (pc := 11) dX7_bestFrame_11 rfl ?_
  refine aw_getr (pc := 12) (r := some 106) dX7_bestFrame_12 fl_X7_13 (by decide) rfl ko104 ro104_spare ?_
  refine aw_iconst (pc := 15) dX7_bestFrame_15 ?_
  refine aw_invS (pc := 16) (md' := m_X7_copyState) (as := [(.inr (some 105)), (.inl 0), (.inr (some 106)), (.inl 0)]) dX7_bestFrame_16 mo_X7_copyState sm_X7_copyState ml_X7_48 rfl rfl hd (Nat.le_of_ble_eq_true rfl) (Nat.le_of_ble_eq_true rfl) (Nat.le_of_ble_eq_true rfl) ?_
  refine am_mono g (fun _ h1 _ ok_h1 g => ?_)
  obtain ⟨rfl, ss_h1, g⟩ := g
  replace hL := QZ.ss hL ss_h1
  obtain ⟨ko104, ro104_z, ko104_z, ro104_spare, ko104_spare, ro104_past, ko104_past, ro104_kept, ko104_kept, ro104_text, ko104_text, ro104_stack, ko104_stack, ro104_drew, ko104_drew, ro104_drawn, ko104_drawn, ro104_signs, ko104_signs, ro104_numbers, ko104_numbers⟩ := id hL
  show AW m_X7_bestFrame d none Q 19 [some (.inr (some 104)), some (.inl 0), some (.inl (-1)), some (.inl 0), none, none, none, none] [] h1 (0, 0)
  refine aw_iconst (pc := 19) dX7_bestFrame_19 ?_
  refine ax_istore (pc := 20) (ls' := [some (.inr (some 104)), some (.inl 0), some (.inl (-1)), some (.inl 0), some (.inl 1), none, none, none]) dX7_bestFrame_20 (Nat.le_of_ble_eq_true rfl) rfl ?_
  exact g
set_option maxRecDepth 100000 in
set_option maxHeartbeats 4000000 in
theorem vc_X7_bestFrame_22 {d : Nat} {Q : Option Int → AH → Prop} {h : AH} {x1 x2 x3 x4 : Int} (hd : 1 ≤ d) (hL : QZ h)
  (g :
    ((64 < x4 → (
      Q (some x1) h
    )) ∧
    (¬ (64 < x4) → (
      AM (d - 1) m_X7_frameNow [(.inr (some 104)), (.inl x4)] h (fun r h3 => 
        r = none ∧ SS h h3 ∧
        ((x2 < w ((hi h3 105 8) - (hi h3 106 8)) → (
          AM (d - 1) m_X7_copyState [(.inr (some 106)), (.inl 0), (.inr (some 105)), (.inl 0)] h3 (fun r h8 => 
            r = none ∧ SS h3 h8 ∧
            (rg (x4 + 1)) ∧
            AW m_X7_bestFrame d none Q 22 [some (.inr (some 104)), some (.inl x4), some (.inl (w ((hi h3 105 8) - (hi h3 106 8)))), some (.inl (w ((hi h3 105 10) - (hi h3 106 10)))), some (.inl (x4 + 1)), none, none, none] [] h8 (0, 0))
        )) ∧
        (¬ (x2 < w ((hi h3 105 8) - (hi h3 106 8))) → (
          ((¬ w ((hi h3 105 8) - (hi h3 106 8)) = x2 → (
            AM (d - 1) m_X7_copyState [(.inr (some 106)), (.inl 0), (.inr (some 105)), (.inl 0)] h3 (fun r h14 => 
              r = none ∧ SS h3 h14 ∧
              (rg (x4 + 1)) ∧
              AW m_X7_bestFrame d none Q 22 [some (.inr (some 104)), some (.inl x1), some (.inl x2), some (.inl x3), some (.inl (x4 + 1)), none, none, none] [] h14 (0, 0))
          )) ∧
          (¬ (¬ w ((hi h3 105 8) - (hi h3 106 8)) = x2) → (
            ((x3 ≤ w ((hi h3 105 10) - (hi h3 106 10)) → (
              AM (d - 1) m_X7_copyState [(.inr (some 106)), (.inl 0), (.inr (some 105)), (.inl 0)] h3 (fun r h20 => 
                r = none ∧ SS h3 h20 ∧
                (rg (x4 + 1)) ∧
                AW m_X7_bestFrame d none Q 22 [some (.inr (some 104)), some (.inl x1), some (.inl x2), some (.inl x3), some (.inl (x4 + 1)), none, none, none] [] h20 (0, 0))
            )) ∧
            (¬ (x3 ≤ w ((hi h3 105 10) - (hi h3 106 10))) → (
              AM (d - 1) m_X7_copyState [(.inr (some 106)), (.inl 0), (.inr (some 105)), (.inl 0)] h3 (fun r h25 => 
                r = none ∧ SS h3 h25 ∧
                (rg (x4 + 1)) ∧
                AW m_X7_bestFrame d none Q 22 [some (.inr (some 104)), some (.inl x4), some (.inl (w ((hi h3 105 8) - (hi h3 106 8)))), some (.inl (w ((hi h3 105 10) - (hi h3 106 10)))), some (.inl (x4 + 1)), none, none, none] [] h25 (0, 0))
            )))
          )))
        ))))
    )))) :
  AW m_X7_bestFrame d none Q 22 [some (.inr (some 104)), some (.inl x1), some (.inl x2), some (.inl x3), some (.inl x4), none, none, none] [] h (0, 0) := by
  obtain ⟨ko104, ro104_z, ko104_z, ro104_spare, ko104_spare, ro104_past, ko104_past, ro104_kept, ko104_kept, ro104_text, ko104_text, ro104_stack, ko104_stack, ro104_drew, ko104_drew, ro104_drawn, ko104_drawn, ro104_signs, ko104_signs, ro104_numbers, ko104_numbers⟩ := id hL
  refine aw_iload (pc := 22) dX7_bestFrame_22 rfl ?_
  refine aw_bipush (pc := 24) dX7_bestFrame_24 ?_
  refine aw_icmp_gt (pc := 26) (tgt := 149) dX7_bestFrame_26 (by decide) (fun c2 => ?_) (fun c2 => ?_)
  · replace g := g.1 c2
    refine aw_iload_n (pc := 149) dX7_bestFrame_149 rfl ?_
    exact ax_ireturn (pc := 150) dX7_bestFrame_150 rfl g (by decide) (by decide)
  · replace g := g.2 c2
    refine aw_aload_n (pc := 29) dX7_bestFrame_29 rfl ?_
    refine aw_iload (pc := 30) dX7_bestFrame_30 rfl ?_
    refine aw_invV (pc := 32) (md' := m_X7_frameNow) (ci := 7) (as := [(.inl x4)]) dX7_bestFrame_32 mo_X7_frameNow im_X7_frameNow se_X7_frameNow ml_X7_153 rfl ko104 rfl hd (Nat.le_of_ble_eq_true rfl) (Nat.le_of_ble_eq_true rfl) (Nat.le_of_ble_eq_true rfl) ?_
    refine am_mono g (fun _ h3 _ ok_h3 g => ?_)
    obtain ⟨rfl, ss_h3, g⟩ := g
    replace hL := QZ.ss hL ss_h3
    obtain ⟨ko104, ro104_z, ko104_z, ro104_spare, ko104_spare, ro104_past, ko104_past, ro104_kept, ko104_kept, ro104_text, ko104_text, ro104_stack, ko104_stack, ro104_drew, ko104_drew, ro104_drawn, ko104_drawn, ro104_signs, ko104_signs, ro104_numbers, ko104_numbers⟩ := id hL
    show AW m_X7_bestFrame d none Q 35 [some (.inr (some 104)), some (.inl x1), some (.inl x2), some (.inl x3), some (.inl x4), none, none, none] [] h3 (0, 0)
    refine aw_aload_n (pc := 35) dX7_bestFrame_35 rfl ?_
    refine aw_getr (pc := 36) (r := some 105) dX7_bestFrame_36 fl_X7_7 (by decide) rfl ko104 ro104_z ?_
    refine aw_bipush (pc := 39) dX7_bestFrame_39 ?_
    refine ax_iaload (pc := 41) (n := 293) (v := hi h3 105 8) dX7_bestFrame_41 ko104_z (by decide) rfl ?_
    refine aw_aload_n (pc := 42) dX7_bestFrame_42 rfl ?_
    refine aw_getr (pc := 43) (r := some 106) dX7_bestFrame_43 fl_X7_13 (by decide) rfl ko104 ro104_spare ?_
    refine aw_bipush (pc := 46) dX7_bestFrame_46 ?_
    refine ax_iaload (pc := 48) (n := 293) (v := hi h3 106 8) dX7_bestFrame_48 ko104_spare (by decide) rfl ?_
    refine aw_isub_w (pc := 49) dX7_bestFrame_49 ?_
    refine ax_istore (pc := 50) (ls' := [some (.inr (some 104)), some (.inl x1), some (.inl x2), some (.inl x3), some (.inl x4), some (.inl (w ((hi h3 105 8) - (hi h3 106 8)))), none, none]) dX7_bestFrame_50 (Nat.le_of_ble_eq_true rfl) rfl ?_
    refine aw_aload_n (pc := 52) dX7_bestFrame_52 rfl ?_
    refine aw_getr (pc := 53) (r := some 105) dX7_bestFrame_53 fl_X7_7 (by decide) rfl ko104 ro104_z ?_
    refine aw_bipush (pc := 56) dX7_bestFrame_56 ?_
    refine ax_iaload (pc := 58) (n := 293) (v := hi h3 105 10) dX7_bestFrame_58 ko104_z (by decide) rfl ?_
    refine aw_aload_n (pc := 59) dX7_bestFrame_59 rfl ?_
    refine aw_getr (pc := 60) (r := some 106) dX7_bestFrame_60 fl_X7_13 (by decide) rfl ko104 ro104_spare ?_
    refine aw_bipush (pc := 63) dX7_bestFrame_63 ?_
    refine ax_iaload (pc := 65) (n := 293) (v := hi h3 106 10) dX7_bestFrame_65 ko104_spare (by decide) rfl ?_
    refine aw_isub_w (pc := 66) dX7_bestFrame_66 ?_
    refine ax_istore (pc := 67) (ls' := [some (.inr (some 104)), some (.inl x1), some (.inl x2), some (.inl x3), some (.inl x4), some (.inl (w ((hi h3 105 8) - (hi h3 106 8)))), some (.inl (w ((hi h3 105 10) - (hi h3 106 10)))), none]) dX7_bestFrame_67 (Nat.le_of_ble_eq_true rfl) rfl ?_
    refine aw_iload (pc := 69) dX7_bestFrame_69 rfl ?_
    refine aw_iload_n (pc := 71) dX7_bestFrame_71 rfl ?_
    refine aw_icmp_gt (pc := 72) (tgt := 87) dX7_bestFrame_72 (by decide) (fun c4 => ?_) (fun c4 => ?_)
    · replace g := g.1 c4
      refine aw_iconst (pc := 87) dX7_bestFrame_87 ?_
      refine aw_goto (pc := 88) (tgt := 92) dX7_bestFrame_88 (by decide) ?_
      refine ax_istore (pc := 92) (ls' := [some (.inr (some 104)), some (.inl x1), some (.inl x2), some (.inl x3), some (.inl x4), some (.inl (w ((hi h3 105 8) - (hi h3 106 8)))), some (.inl (w ((hi h3 105 10) - (hi h3 106 10)))), some (.inl 1)]) dX7_bestFrame_92 (Nat.le_of_ble_eq_true rfl) rfl ?_
      refine aw_iload (pc := 94) dX7_bestFrame_94 rfl ?_
      refine aw_if_eq (pc := 96) (tgt := 104) dX7_bestFrame_96 (by decide) (fun c5 => False.elim (by omega)) (fun c5 => ?_)
      refine aw_iload (pc := 99) dX7_bestFrame_99 rfl ?_
      refine aw_goto (pc := 101) (tgt := 105) dX7_bestFrame_101 (by decide) ?_
      refine ax_istore_n (pc := 105) (ls' := [some (.inr (some 104)), some (.inl x4), some (.inl x2), some (.inl x3), some (.inl x4), some (.inl (w ((hi h3 105 8) - (hi h3 106 8)))), some (.inl (w ((hi h3 105 10) - (hi h3 106 10)))), some (.inl 1)]) dX7_bestFrame_105 (Nat.le_of_ble_eq_true rfl) rfl ?_
      refine aw_iload (pc := 106) dX7_bestFrame_106 rfl ?_
      refine aw_if_eq (pc := 108) (tgt := 116) dX7_bestFrame_108 (by decide) (fun c6 => False.elim (by omega)) (fun c6 => ?_)
      refine aw_iload (pc := 111) dX7_bestFrame_111 rfl ?_
      refine aw_goto (pc := 113) (tgt := 117) dX7_bestFrame_113 (by decide) ?_
      refine ax_istore_n (pc := 117) (ls' := [some (.inr (some 104)), some (.inl x4), some (.inl (w ((hi h3 105 8) - (hi h3 106 8)))), some (.inl x3), some (.inl x4), some (.inl (w ((hi h3 105 8) - (hi h3 106 8)))), some (.inl (w ((hi h3 105 10) - (hi h3 106 10)))), some (.inl 1)]) dX7_bestFrame_117 (Nat.le_of_ble_eq_true rfl) rfl ?_
      refine aw_iload (pc := 118) dX7_bestFrame_118 rfl ?_
      refine aw_if_eq (pc := 120) (tgt := 128) dX7_bestFrame_120 (by decide) (fun c7 => False.elim (by omega)) (fun c7 => ?_)
      refine aw_iload (pc := 123) dX7_bestFrame_123 rfl ?_
      refine aw_goto (pc := 125) (tgt := 129) dX7_bestFrame_125 (by decide) ?_
      refine ax_istore_n (pc := 129) (ls' := [some (.inr (some 104)), some (.inl x4), some (.inl (w ((hi h3 105 8) - (hi h3 106 8)))), some (.inl (w ((hi h3 105 10) - (hi h3 106 10)))), some (.inl x4), some (.inl (w ((hi h3 105 8) - (hi h3 106 8)))), some (.inl (w ((hi h3 105 10) - (hi h3 106 10)))), some (.inl 1)]) dX7_bestFrame_129 (Nat.le_of_ble_eq_true rfl) rfl ?_
      refine aw_aload_n (pc := 130) dX7_bestFrame_130 rfl ?_
      refine aw_getr (pc := 131) (r := some 106) dX7_bestFrame_131 fl_X7_13 (by decide) rfl ko104 ro104_spare ?_
      refine aw_iconst (pc := 134) dX7_bestFrame_134 ?_
      refine aw_aload_n (pc := 135) dX7_bestFrame_135 rfl ?_
      refine aw_getr (pc := 136) (r := some 105) dX7_bestFrame_136 fl_X7_7 (by decide) rfl ko104 ro104_z ?_
      refine aw_iconst (pc := 139) dX7_bestFrame_139 ?_
      refine aw_invS (pc := 140) (md' := m_X7_copyState) (as := [(.inr (some 106)), (.inl 0), (.inr (some 105)), (.inl 0)]) dX7_bestFrame_140 mo_X7_copyState sm_X7_copyState ml_X7_48 rfl rfl hd (Nat.le_of_ble_eq_true rfl) (Nat.le_of_ble_eq_true rfl) (Nat.le_of_ble_eq_true rfl) ?_
      refine am_mono g (fun _ h8 _ ok_h8 g => ?_)
      obtain ⟨rfl, ss_h8, g⟩ := g
      replace hL := QZ.ss hL ss_h8
      obtain ⟨ko104, ro104_z, ko104_z, ro104_spare, ko104_spare, ro104_past, ko104_past, ro104_kept, ko104_kept, ro104_text, ko104_text, ro104_stack, ko104_stack, ro104_drew, ko104_drew, ro104_drawn, ko104_drawn, ro104_signs, ko104_signs, ro104_numbers, ko104_numbers⟩ := id hL
      show AW m_X7_bestFrame d none Q 143 [some (.inr (some 104)), some (.inl x4), some (.inl (w ((hi h3 105 8) - (hi h3 106 8)))), some (.inl (w ((hi h3 105 10) - (hi h3 106 10)))), some (.inl x4), some (.inl (w ((hi h3 105 8) - (hi h3 106 8)))), some (.inl (w ((hi h3 105 10) - (hi h3 106 10)))), some (.inl 1)] [] h8 (0, 0)
      obtain ⟨s9, g⟩ := g
      refine ax_iinc (pc := 143) (v' := x4 + 1) (ls' := [some (.inr (some 104)), some (.inl x4), some (.inl (w ((hi h3 105 8) - (hi h3 106 8)))), some (.inl (w ((hi h3 105 10) - (hi h3 106 10)))), some (.inl (x4 + 1)), some (.inl (w ((hi h3 105 8) - (hi h3 106 8)))), some (.inl (w ((hi h3 105 10) - (hi h3 106 10)))), some (.inl 1)]) dX7_bestFrame_143 rfl s9 rfl rfl ?_
      refine aw_goto (pc := 146) (tgt := 22) dX7_bestFrame_146 (by decide) ?_
      exact aw_fewer (show subl [some (.inr (some 104)), some (.inl x4), some (.inl (w ((hi h3 105 8) - (hi h3 106 8)))), some (.inl (w ((hi h3 105 10) - (hi h3 106 10)))), some (.inl (x4 + 1)), none, none, none] [some (.inr (some 104)), some (.inl x4), some (.inl (w ((hi h3 105 8) - (hi h3 106 8)))), some (.inl (w ((hi h3 105 10) - (hi h3 106 10)))), some (.inl (x4 + 1)), some (.inl (w ((hi h3 105 8) - (hi h3 106 8)))), some (.inl (w ((hi h3 105 10) - (hi h3 106 10)))), some (.inl 1)] from (And.intro rfl (And.intro rfl (And.intro rfl (And.intro rfl (And.intro rfl trivial)))))) g
    · replace g := g.2 c4
      refine aw_iload (pc := 75) dX7_bestFrame_75 rfl ?_
      refine aw_iload_n (pc := 77) dX7_bestFrame_77 rfl ?_
      refine aw_icmp_ne (pc := 78) (tgt := 91) dX7_bestFrame_78 (by decide) (fun c10 => ?_) (fun c10 => ?_)
      · replace g := g.1 c10
        refine aw_iconst (pc := 91) dX7_bestFrame_91 ?_
        refine ax_istore (pc := 92) (ls' := [some (.inr (some 104)), some (.inl x1), some (.inl x2), some (.inl x3), some (.inl x4), some (.inl (w ((hi h3 105 8) - (hi h3 106 8)))), some (.inl (w ((hi h3 105 10) - (hi h3 106 10)))), some (.inl 0)]) dX7_bestFrame_92 (Nat.le_of_ble_eq_true rfl) rfl ?_
        refine aw_iload (pc := 94) dX7_bestFrame_94 rfl ?_
        refine aw_if_eq (pc := 96) (tgt := 104) dX7_bestFrame_96 (by decide) (fun c11 => ?_) (fun c11 => False.elim (by omega))
        refine aw_iload_n (pc := 104) dX7_bestFrame_104 rfl ?_
        refine ax_istore_n (pc := 105) (ls' := [some (.inr (some 104)), some (.inl x1), some (.inl x2), some (.inl x3), some (.inl x4), some (.inl (w ((hi h3 105 8) - (hi h3 106 8)))), some (.inl (w ((hi h3 105 10) - (hi h3 106 10)))), some (.inl 0)]) dX7_bestFrame_105 (Nat.le_of_ble_eq_true rfl) rfl ?_
        refine aw_iload (pc := 106) dX7_bestFrame_106 rfl ?_
        refine aw_if_eq (pc := 108) (tgt := 116) dX7_bestFrame_108 (by decide) (fun c12 => ?_) (fun c12 => False.elim (by omega))
        refine aw_iload_n (pc := 116) dX7_bestFrame_116 rfl ?_
        refine ax_istore_n (pc := 117) (ls' := [some (.inr (some 104)), some (.inl x1), some (.inl x2), some (.inl x3), some (.inl x4), some (.inl (w ((hi h3 105 8) - (hi h3 106 8)))), some (.inl (w ((hi h3 105 10) - (hi h3 106 10)))), some (.inl 0)]) dX7_bestFrame_117 (Nat.le_of_ble_eq_true rfl) rfl ?_
        refine aw_iload (pc := 118) dX7_bestFrame_118 rfl ?_
        refine aw_if_eq (pc := 120) (tgt := 128) dX7_bestFrame_120 (by decide) (fun c13 => ?_) (fun c13 => False.elim (by omega))
        refine aw_iload_n (pc := 128) dX7_bestFrame_128 rfl ?_
        refine ax_istore_n (pc := 129) (ls' := [some (.inr (some 104)), some (.inl x1), some (.inl x2), some (.inl x3), some (.inl x4), some (.inl (w ((hi h3 105 8) - (hi h3 106 8)))), some (.inl (w ((hi h3 105 10) - (hi h3 106 10)))), some (.inl 0)]) dX7_bestFrame_129 (Nat.le_of_ble_eq_true rfl) rfl ?_
        refine aw_aload_n (pc := 130) dX7_bestFrame_130 rfl ?_
        refine aw_getr (pc := 131) (r := some 106) dX7_bestFrame_131 fl_X7_13 (by decide) rfl ko104 ro104_spare ?_
        refine aw_iconst (pc := 134) dX7_bestFrame_134 ?_
        refine aw_aload_n (pc := 135) dX7_bestFrame_135 rfl ?_
        refine aw_getr (pc := 136) (r := some 105) dX7_bestFrame_136 fl_X7_7 (by decide) rfl ko104 ro104_z ?_
        refine aw_iconst (pc := 139) dX7_bestFrame_139 ?_
        refine aw_invS (pc := 140) (md' := m_X7_copyState) (as := [(.inr (some 106)), (.inl 0), (.inr (some 105)), (.inl 0)]) dX7_bestFrame_140 mo_X7_copyState sm_X7_copyState ml_X7_48 rfl rfl hd (Nat.le_of_ble_eq_true rfl) (Nat.le_of_ble_eq_true rfl) (Nat.le_of_ble_eq_true rfl) ?_
        refine am_mono g (fun _ h14 _ ok_h14 g => ?_)
        obtain ⟨rfl, ss_h14, g⟩ := g
        replace hL := QZ.ss hL ss_h14
        obtain ⟨ko104, ro104_z, ko104_z, ro104_spare, ko104_spare, ro104_past, ko104_past, ro104_kept, ko104_kept, ro104_text, ko104_text, ro104_stack, ko104_stack, ro104_drew, ko104_drew, ro104_drawn, ko104_drawn, ro104_signs, ko104_signs, ro104_numbers, ko104_numbers⟩ := id hL
        show AW m_X7_bestFrame d none Q 143 [some (.inr (some 104)), some (.inl x1), some (.inl x2), some (.inl x3), some (.inl x4), some (.inl (w ((hi h3 105 8) - (hi h3 106 8)))), some (.inl (w ((hi h3 105 10) - (hi h3 106 10)))), some (.inl 0)] [] h14 (0, 0)
        obtain ⟨s15, g⟩ := g
        refine ax_iinc (pc := 143) (v' := x4 + 1) (ls' := [some (.inr (some 104)), some (.inl x1), some (.inl x2), some (.inl x3), some (.inl (x4 + 1)), some (.inl (w ((hi h3 105 8) - (hi h3 106 8)))), some (.inl (w ((hi h3 105 10) - (hi h3 106 10)))), some (.inl 0)]) dX7_bestFrame_143 rfl s15 rfl rfl ?_
        refine aw_goto (pc := 146) (tgt := 22) dX7_bestFrame_146 (by decide) ?_
        exact aw_fewer (show subl [some (.inr (some 104)), some (.inl x1), some (.inl x2), some (.inl x3), some (.inl (x4 + 1)), none, none, none] [some (.inr (some 104)), some (.inl x1), some (.inl x2), some (.inl x3), some (.inl (x4 + 1)), some (.inl (w ((hi h3 105 8) - (hi h3 106 8)))), some (.inl (w ((hi h3 105 10) - (hi h3 106 10)))), some (.inl 0)] from (And.intro rfl (And.intro rfl (And.intro rfl (And.intro rfl (And.intro rfl trivial)))))) g
      · replace g := g.2 c10
        refine aw_iload (pc := 81) dX7_bestFrame_81 rfl ?_
        refine aw_iload_n (pc := 83) dX7_bestFrame_83 rfl ?_
        refine aw_icmp_ge (pc := 84) (tgt := 91) dX7_bestFrame_84 (by decide) (fun c16 => ?_) (fun c16 => ?_)
        · replace g := g.1 c16
          refine aw_iconst (pc := 91) dX7_bestFrame_91 ?_
          refine ax_istore (pc := 92) (ls' := [some (.inr (some 104)), some (.inl x1), some (.inl x2), some (.inl x3), some (.inl x4), some (.inl (w ((hi h3 105 8) - (hi h3 106 8)))), some (.inl (w ((hi h3 105 10) - (hi h3 106 10)))), some (.inl 0)]) dX7_bestFrame_92 (Nat.le_of_ble_eq_true rfl) rfl ?_
          refine aw_iload (pc := 94) dX7_bestFrame_94 rfl ?_
          refine aw_if_eq (pc := 96) (tgt := 104) dX7_bestFrame_96 (by decide) (fun c17 => ?_) (fun c17 => False.elim (by omega))
          refine aw_iload_n (pc := 104) dX7_bestFrame_104 rfl ?_
          refine ax_istore_n (pc := 105) (ls' := [some (.inr (some 104)), some (.inl x1), some (.inl x2), some (.inl x3), some (.inl x4), some (.inl (w ((hi h3 105 8) - (hi h3 106 8)))), some (.inl (w ((hi h3 105 10) - (hi h3 106 10)))), some (.inl 0)]) dX7_bestFrame_105 (Nat.le_of_ble_eq_true rfl) rfl ?_
          refine aw_iload (pc := 106) dX7_bestFrame_106 rfl ?_
          refine aw_if_eq (pc := 108) (tgt := 116) dX7_bestFrame_108 (by decide) (fun c18 => ?_) (fun c18 => False.elim (by omega))
          refine aw_iload_n (pc := 116) dX7_bestFrame_116 rfl ?_
          refine ax_istore_n (pc := 117) (ls' := [some (.inr (some 104)), some (.inl x1), some (.inl x2), some (.inl x3), some (.inl x4), some (.inl (w ((hi h3 105 8) - (hi h3 106 8)))), some (.inl (w ((hi h3 105 10) - (hi h3 106 10)))), some (.inl 0)]) dX7_bestFrame_117 (Nat.le_of_ble_eq_true rfl) rfl ?_
          refine aw_iload (pc := 118) dX7_bestFrame_118 rfl ?_
          refine aw_if_eq (pc := 120) (tgt := 128) dX7_bestFrame_120 (by decide) (fun c19 => ?_) (fun c19 => False.elim (by omega))
          refine aw_iload_n (pc := 128) dX7_bestFrame_128 rfl ?_
          refine ax_istore_n (pc := 129) (ls' := [some (.inr (some 104)), some (.inl x1), some (.inl x2), some (.inl x3), some (.inl x4), some (.inl (w ((hi h3 105 8) - (hi h3 106 8)))), some (.inl (w ((hi h3 105 10) - (hi h3 106 10)))), some (.inl 0)]) dX7_bestFrame_129 (Nat.le_of_ble_eq_true rfl) rfl ?_
          refine aw_aload_n (pc := 130) dX7_bestFrame_130 rfl ?_
          refine aw_getr (pc := 131) (r := some 106) dX7_bestFrame_131 fl_X7_13 (by decide) rfl ko104 ro104_spare ?_
          refine aw_iconst (pc := 134) dX7_bestFrame_134 ?_
          refine aw_aload_n (pc := 135) dX7_bestFrame_135 rfl ?_
          refine aw_getr (pc := 136) (r := some 105) dX7_bestFrame_136 fl_X7_7 (by decide) rfl ko104 ro104_z ?_
          refine aw_iconst (pc := 139) dX7_bestFrame_139 ?_
          refine aw_invS (pc := 140) (md' := m_X7_copyState) (as := [(.inr (some 106)), (.inl 0), (.inr (some 105)), (.inl 0)]) dX7_bestFrame_140 mo_X7_copyState sm_X7_copyState ml_X7_48 rfl rfl hd (Nat.le_of_ble_eq_true rfl) (Nat.le_of_ble_eq_true rfl) (Nat.le_of_ble_eq_true rfl) ?_
          refine am_mono g (fun _ h20 _ ok_h20 g => ?_)
          obtain ⟨rfl, ss_h20, g⟩ := g
          replace hL := QZ.ss hL ss_h20
          obtain ⟨ko104, ro104_z, ko104_z, ro104_spare, ko104_spare, ro104_past, ko104_past, ro104_kept, ko104_kept, ro104_text, ko104_text, ro104_stack, ko104_stack, ro104_drew, ko104_drew, ro104_drawn, ko104_drawn, ro104_signs, ko104_signs, ro104_numbers, ko104_numbers⟩ := id hL
          show AW m_X7_bestFrame d none Q 143 [some (.inr (some 104)), some (.inl x1), some (.inl x2), some (.inl x3), some (.inl x4), some (.inl (w ((hi h3 105 8) - (hi h3 106 8)))), some (.inl (w ((hi h3 105 10) - (hi h3 106 10)))), some (.inl 0)] [] h20 (0, 0)
          obtain ⟨s21, g⟩ := g
          refine ax_iinc (pc := 143) (v' := x4 + 1) (ls' := [some (.inr (some 104)), some (.inl x1), some (.inl x2), some (.inl x3), some (.inl (x4 + 1)), some (.inl (w ((hi h3 105 8) - (hi h3 106 8)))), some (.inl (w ((hi h3 105 10) - (hi h3 106 10)))), some (.inl 0)]) dX7_bestFrame_143 rfl s21 rfl rfl ?_
          refine aw_goto (pc := 146) (tgt := 22) dX7_bestFrame_146 (by decide) ?_
          exact aw_fewer (show subl [some (.inr (some 104)), some (.inl x1), some (.inl x2), some (.inl x3), some (.inl (x4 + 1)), none, none, none] [some (.inr (some 104)), some (.inl x1), some (.inl x2), some (.inl x3), some (.inl (x4 + 1)), some (.inl (w ((hi h3 105 8) - (hi h3 106 8)))), some (.inl (w ((hi h3 105 10) - (hi h3 106 10)))), some (.inl 0)] from (And.intro rfl (And.intro rfl (And.intro rfl (And.intro rfl (And.intro rfl trivial)))))) g
        · replace g := g.2 c16
          refine aw_iconst (pc := 87) dX7_bestFrame_87 ?_
          refine aw_goto (pc := 88) (tgt := 92) dX7_bestFrame_88 (by decide) ?_
          refine ax_istore (pc := 92) (ls' := [some (.inr (some 104)), some (.inl x1), some (.inl x2), some (.inl x3), some (.inl x4), some (.inl (w ((hi h3 105 8) - (hi h3 106 8)))), some (.inl (w ((hi h3 105 10) - (hi h3 106 10)))), some (.inl 1)]) dX7_bestFrame_92 (Nat.le_of_ble_eq_true rfl) rfl ?_
          refine aw_iload (pc := 94) dX7_bestFrame_94 rfl ?_
          refine aw_if_eq (pc := 96) (tgt := 104) dX7_bestFrame_96 (by decide) (fun c22 => False.elim (by omega)) (fun c22 => ?_)
          refine aw_iload (pc := 99) dX7_bestFrame_99 rfl ?_
          refine aw_goto (pc := 101) (tgt := 105) dX7_bestFrame_101 (by decide) ?_
          refine ax_istore_n (pc := 105) (ls' := [some (.inr (some 104)), some (.inl x4), some (.inl x2), some (.inl x3), some (.inl x4), some (.inl (w ((hi h3 105 8) - (hi h3 106 8)))), some (.inl (w ((hi h3 105 10) - (hi h3 106 10)))), some (.inl 1)]) dX7_bestFrame_105 (Nat.le_of_ble_eq_true rfl) rfl ?_
          refine aw_iload (pc := 106) dX7_bestFrame_106 rfl ?_
          refine aw_if_eq (pc := 108) (tgt := 116) dX7_bestFrame_108 (by decide) (fun c23 => False.elim (by omega)) (fun c23 => ?_)
          refine aw_iload (pc := 111) dX7_bestFrame_111 rfl ?_
          refine aw_goto (pc := 113) (tgt := 117) dX7_bestFrame_113 (by decide) ?_
          refine ax_istore_n (pc := 117) (ls' := [some (.inr (some 104)), some (.inl x4), some (.inl (w ((hi h3 105 8) - (hi h3 106 8)))), some (.inl x3), some (.inl x4), some (.inl (w ((hi h3 105 8) - (hi h3 106 8)))), some (.inl (w ((hi h3 105 10) - (hi h3 106 10)))), some (.inl 1)]) dX7_bestFrame_117 (Nat.le_of_ble_eq_true rfl) rfl ?_
          refine aw_iload (pc := 118) dX7_bestFrame_118 rfl ?_
          refine aw_if_eq (pc := 120) (tgt := 128) dX7_bestFrame_120 (by decide) (fun c24 => False.elim (by omega)) (fun c24 => ?_)
          refine aw_iload (pc := 123) dX7_bestFrame_123 rfl ?_
          refine aw_goto (pc := 125) (tgt := 129) dX7_bestFrame_125 (by decide) ?_
          refine ax_istore_n (pc := 129) (ls' := [some (.inr (some 104)), some (.inl x4), some (.inl (w ((hi h3 105 8) - (hi h3 106 8)))), some (.inl (w ((hi h3 105 10) - (hi h3 106 10)))), some (.inl x4), some (.inl (w ((hi h3 105 8) - (hi h3 106 8)))), some (.inl (w ((hi h3 105 10) - (hi h3 106 10)))), some (.inl 1)]) dX7_bestFrame_129 (Nat.le_of_ble_eq_true rfl) rfl ?_
          refine aw_aload_n (pc := 130) dX7_bestFrame_130 rfl ?_
          refine aw_getr (pc := 131) (r := some 106) dX7_bestFrame_131 fl_X7_13 (by decide) rfl ko104 ro104_spare ?_
          refine aw_iconst (pc := 134) dX7_bestFrame_134 ?_
          refine aw_aload_n (pc := 135) dX7_bestFrame_135 rfl ?_
          refine aw_getr (pc := 136) (r := some 105) dX7_bestFrame_136 fl_X7_7 (by decide) rfl ko104 ro104_z ?_
          refine aw_iconst (pc := 139) dX7_bestFrame_139 ?_
          refine aw_invS (pc := 140) (md' := m_X7_copyState) (as := [(.inr (some 106)), (.inl 0), (.inr (some 105)), (.inl 0)]) dX7_bestFrame_140 mo_X7_copyState sm_X7_copyState ml_X7_48 rfl rfl hd (Nat.le_of_ble_eq_true rfl) (Nat.le_of_ble_eq_true rfl) (Nat.le_of_ble_eq_true rfl) ?_
          refine am_mono g (fun _ h25 _ ok_h25 g => ?_)
          obtain ⟨rfl, ss_h25, g⟩ := g
          replace hL := QZ.ss hL ss_h25
          obtain ⟨ko104, ro104_z, ko104_z, ro104_spare, ko104_spare, ro104_past, ko104_past, ro104_kept, ko104_kept, ro104_text, ko104_text, ro104_stack, ko104_stack, ro104_drew, ko104_drew, ro104_drawn, ko104_drawn, ro104_signs, ko104_signs, ro104_numbers, ko104_numbers⟩ := id hL
          show AW m_X7_bestFrame d none Q 143 [some (.inr (some 104)), some (.inl x4), some (.inl (w ((hi h3 105 8) - (hi h3 106 8)))), some (.inl (w ((hi h3 105 10) - (hi h3 106 10)))), some (.inl x4), some (.inl (w ((hi h3 105 8) - (hi h3 106 8)))), some (.inl (w ((hi h3 105 10) - (hi h3 106 10)))), some (.inl 1)] [] h25 (0, 0)
          obtain ⟨s26, g⟩ := g
          refine ax_iinc (pc := 143) (v' := x4 + 1) (ls' := [some (.inr (some 104)), some (.inl x4), some (.inl (w ((hi h3 105 8) - (hi h3 106 8)))), some (.inl (w ((hi h3 105 10) - (hi h3 106 10)))), some (.inl (x4 + 1)), some (.inl (w ((hi h3 105 8) - (hi h3 106 8)))), some (.inl (w ((hi h3 105 10) - (hi h3 106 10)))), some (.inl 1)]) dX7_bestFrame_143 rfl s26 rfl rfl ?_
          refine aw_goto (pc := 146) (tgt := 22) dX7_bestFrame_146 (by decide) ?_
          exact aw_fewer (show subl [some (.inr (some 104)), some (.inl x4), some (.inl (w ((hi h3 105 8) - (hi h3 106 8)))), some (.inl (w ((hi h3 105 10) - (hi h3 106 10)))), some (.inl (x4 + 1)), none, none, none] [some (.inr (some 104)), some (.inl x4), some (.inl (w ((hi h3 105 8) - (hi h3 106 8)))), some (.inl (w ((hi h3 105 10) - (hi h3 106 10)))), some (.inl (x4 + 1)), some (.inl (w ((hi h3 105 8) - (hi h3 106 8)))), some (.inl (w ((hi h3 105 10) - (hi h3 106 10)))), some (.inl 1)] from (And.intro rfl (And.intro rfl (And.intro rfl (And.intro rfl (And.intro rfl trivial)))))) g
set_option maxRecDepth 100000 in
set_option maxHeartbeats 4000000 in
theorem vc_X7_thickest {d : Nat} {Q : Option Int → AH → Prop} {h : AH} {x1 : Int} (hd : 1 ≤ d) (hL : QZ h)
  (g :
    AM (d - 1) m_X7_in [(.inl x1), (.inl 0), (.inl 8)] h (fun r h1 => 
      ∃ v2, r = some v2 ∧ SS h h1 ∧
      ((¬ v2 = 0 → (
        AW m_X7_thickest d none Q 21 [some (.inr (some 104)), some (.inl x1), some (.inl (-5)), some (.inl 0), some (.inl 0), none] [] h1 (0, 0)
      )) ∧
      (¬ (¬ v2 = 0) → (
        Q (some (-2)) h1
      ))))) :
  AM d m_X7_thickest [(.inr (some 104)), (.inl x1)] h Q := by
  refine am_body mo_X7_thickest (Nat.le_of_ble_eq_true rfl) ?_
  show AW m_X7_thickest d none Q 0 [some (.inr (some 104)), some (.inl x1), none, none, none, none] [] h (0, 0)
  obtain ⟨ko104, ro104_z, ko104_z, ro104_spare, ko104_spare, ro104_past, ko104_past, ro104_kept, ko104_kept, ro104_text, ko104_text, ro104_stack, ko104_stack, ro104_drew, ko104_drew, ro104_drawn, ko104_drawn, ro104_signs, ko104_signs, ro104_numbers, ko104_numbers⟩ := id hL
  refine aw_iload_n (pc := 0) dX7_thickest_0 rfl ?_
  refine aw_iconst (pc := 1) dX7_thickest_1 ?_
  refine aw_bipush (pc := 2) dX7_thickest_2 ?_
  refine aw_invS (pc := 4) (md' := m_X7_in) (as := [(.inl x1), (.inl 0), (.inl 8)]) dX7_thickest_4 mo_X7_in sm_X7_in ml_X7_63 rfl rfl hd (Nat.le_of_ble_eq_true rfl) (Nat.le_of_ble_eq_true rfl) (Nat.le_of_ble_eq_true rfl) ?_
  refine am_mono g (fun _ h1 _ ok_h1 g => ?_)
  obtain ⟨v2, rfl, ss_h1, g⟩ := g
  replace hL := QZ.ss hL ss_h1
  obtain ⟨ko104, ro104_z, ko104_z, ro104_spare, ko104_spare, ro104_past, ko104_past, ro104_kept, ko104_kept, ro104_text, ko104_text, ro104_stack, ko104_stack, ro104_drew, ko104_drew, ro104_drawn, ko104_drawn, ro104_signs, ko104_signs, ro104_numbers, ko104_numbers⟩ := id hL
  show AW m_X7_thickest d none Q 7 [some (.inr (some 104)), some (.inl x1), none, none, none, none] [(.inl v2)] h1 (0, 0)
  refine aw_if_ne (pc := 7) (tgt := 13) dX7_thickest_7 (by decide) (fun c3 => ?_) (fun c3 => ?_)
  · replace g := g.1 c3
    refine aw_bipush (pc := 13) dX7_thickest_13 ?_
    refine ax_istore_n (pc := 15) (ls' := [some (.inr (some 104)), some (.inl x1), some (.inl (-5)), none, none, none]) dX7_thickest_15 (Nat.le_of_ble_eq_true rfl) rfl ?_
    refine aw_iconst (pc := 16) dX7_thickest_16 ?_
    refine ax_istore_n (pc := 17) (ls' := [some (.inr (some 104)), some (.inl x1), some (.inl (-5)), some (.inl 0), none, none]) dX7_thickest_17 (Nat.le_of_ble_eq_true rfl) rfl ?_
    refine aw_iconst (pc := 18) dX7_thickest_18 ?_
    refine ax_istore (pc := 19) (ls' := [some (.inr (some 104)), some (.inl x1), some (.inl (-5)), some (.inl 0), some (.inl 0), none]) dX7_thickest_19 (Nat.le_of_ble_eq_true rfl) rfl ?_
    exact g
  · replace g := g.2 c3
    refine aw_bipush (pc := 10) dX7_thickest_10 ?_
    exact ax_ireturn (pc := 12) dX7_thickest_12 rfl g (by decide) (by decide)
set_option maxRecDepth 100000 in
set_option maxHeartbeats 4000000 in
theorem vc_X7_thickest_21 {d : Nat} {Q : Option Int → AH → Prop} {h : AH} {x1 x2 x3 x4 : Int} (hd : 1 ≤ d) (hL : QZ h)
  (g :
    ((sl 1 x1 ≤ x4 → (
      Q (some x2) h
    )) ∧
    (¬ (sl 1 x1 ≤ x4) → (
      AM (d - 1) m_X7_withBeginning [(.inr (some 104)), (.inl x1), (.inl x4)] h (fun r h5 => 
        ∃ v6, r = some v6 ∧ SS h h5 ∧
        ((v6 ≤ x3 → (
          (rg (x4 + 1)) ∧
          AW m_X7_thickest d none Q 21 [some (.inr (some 104)), some (.inl x1), some (.inl x2), some (.inl x3), some (.inl (x4 + 1)), none] [] h5 (0, 0)
        )) ∧
        (¬ (v6 ≤ x3) → (
          (rg (x4 + 1)) ∧
          AW m_X7_thickest d none Q 21 [some (.inr (some 104)), some (.inl x1), some (.inl x4), some (.inl v6), some (.inl (x4 + 1)), none] [] h5 (0, 0)
        ))))
    )))) :
  AW m_X7_thickest d none Q 21 [some (.inr (some 104)), some (.inl x1), some (.inl x2), some (.inl x3), some (.inl x4), none] [] h (0, 0) := by
  obtain ⟨ko104, ro104_z, ko104_z, ro104_spare, ko104_spare, ro104_past, ko104_past, ro104_kept, ko104_kept, ro104_text, ko104_text, ro104_stack, ko104_stack, ro104_drew, ko104_drew, ro104_drawn, ko104_drawn, ro104_signs, ko104_signs, ro104_numbers, ko104_numbers⟩ := id hL
  refine aw_iload (pc := 21) dX7_thickest_21 rfl ?_
  refine aw_iconst (pc := 23) dX7_thickest_23 ?_
  refine aw_iload_n (pc := 24) dX7_thickest_24 rfl ?_
  refine aw_ishl (pc := 25) dX7_thickest_25 ?_
  refine aw_icmp_ge (pc := 26) (tgt := 70) dX7_thickest_26 (by decide) (fun c4 => ?_) (fun c4 => ?_)
  · replace g := g.1 c4
    refine aw_iload_n (pc := 70) dX7_thickest_70 rfl ?_
    exact ax_ireturn (pc := 71) dX7_thickest_71 rfl g (by decide) (by decide)
  · replace g := g.2 c4
    refine aw_aload_n (pc := 29) dX7_thickest_29 rfl ?_
    refine aw_iload_n (pc := 30) dX7_thickest_30 rfl ?_
    refine aw_iload (pc := 31) dX7_thickest_31 rfl ?_
    refine aw_invV (pc := 33) (md' := m_X7_withBeginning) (ci := 7) (as := [(.inl x1), (.inl x4)]) dX7_thickest_33 mo_X7_withBeginning im_X7_withBeginning se_X7_withBeginning ml_X7_201 rfl ko104 rfl hd (Nat.le_of_ble_eq_true rfl) (Nat.le_of_ble_eq_true rfl) (Nat.le_of_ble_eq_true rfl) ?_
    refine am_mono g (fun _ h5 _ ok_h5 g => ?_)
    obtain ⟨v6, rfl, ss_h5, g⟩ := g
    replace hL := QZ.ss hL ss_h5
    obtain ⟨ko104, ro104_z, ko104_z, ro104_spare, ko104_spare, ro104_past, ko104_past, ro104_kept, ko104_kept, ro104_text, ko104_text, ro104_stack, ko104_stack, ro104_drew, ko104_drew, ro104_drawn, ko104_drawn, ro104_signs, ko104_signs, ro104_numbers, ko104_numbers⟩ := id hL
    show AW m_X7_thickest d none Q 36 [some (.inr (some 104)), some (.inl x1), some (.inl x2), some (.inl x3), some (.inl x4), none] [(.inl v6)] h5 (0, 0)
    refine ax_istore (pc := 36) (ls' := [some (.inr (some 104)), some (.inl x1), some (.inl x2), some (.inl x3), some (.inl x4), some (.inl v6)]) dX7_thickest_36 (Nat.le_of_ble_eq_true rfl) rfl ?_
    refine aw_iload (pc := 38) dX7_thickest_38 rfl ?_
    refine aw_iload_n (pc := 40) dX7_thickest_40 rfl ?_
    refine aw_icmp_le (pc := 41) (tgt := 49) dX7_thickest_41 (by decide) (fun c7 => ?_) (fun c7 => ?_)
    · replace g := g.1 c7
      refine aw_iload_n (pc := 49) dX7_thickest_49 rfl ?_
      refine ax_istore_n (pc := 50) (ls' := [some (.inr (some 104)), some (.inl x1), some (.inl x2), some (.inl x3), some (.inl x4), some (.inl v6)]) dX7_thickest_50 (Nat.le_of_ble_eq_true rfl) rfl ?_
      refine aw_iload (pc := 51) dX7_thickest_51 rfl ?_
      refine aw_iload_n (pc := 53) dX7_thickest_53 rfl ?_
      refine aw_icmp_le (pc := 54) (tgt := 62) dX7_thickest_54 (by decide) (fun c8 => ?_) (fun c8 => False.elim (by omega))
      refine aw_iload_n (pc := 62) dX7_thickest_62 rfl ?_
      refine ax_istore_n (pc := 63) (ls' := [some (.inr (some 104)), some (.inl x1), some (.inl x2), some (.inl x3), some (.inl x4), some (.inl v6)]) dX7_thickest_63 (Nat.le_of_ble_eq_true rfl) rfl ?_
      obtain ⟨s9, g⟩ := g
      refine ax_iinc (pc := 64) (v' := x4 + 1) (ls' := [some (.inr (some 104)), some (.inl x1), some (.inl x2), some (.inl x3), some (.inl (x4 + 1)), some (.inl v6)]) dX7_thickest_64 rfl s9 rfl rfl ?_
      refine aw_goto (pc := 67) (tgt := 21) dX7_thickest_67 (by decide) ?_
      exact aw_fewer (show subl [some (.inr (some 104)), some (.inl x1), some (.inl x2), some (.inl x3), some (.inl (x4 + 1)), none] [some (.inr (some 104)), some (.inl x1), some (.inl x2), some (.inl x3), some (.inl (x4 + 1)), some (.inl v6)] from (And.intro rfl (And.intro rfl (And.intro rfl (And.intro rfl (And.intro rfl trivial)))))) g
    · replace g := g.2 c7
      refine aw_iload (pc := 44) dX7_thickest_44 rfl ?_
      refine aw_goto (pc := 46) (tgt := 50) dX7_thickest_46 (by decide) ?_
      refine ax_istore_n (pc := 50) (ls' := [some (.inr (some 104)), some (.inl x1), some (.inl x4), some (.inl x3), some (.inl x4), some (.inl v6)]) dX7_thickest_50 (Nat.le_of_ble_eq_true rfl) rfl ?_
      refine aw_iload (pc := 51) dX7_thickest_51 rfl ?_
      refine aw_iload_n (pc := 53) dX7_thickest_53 rfl ?_
      refine aw_icmp_le (pc := 54) (tgt := 62) dX7_thickest_54 (by decide) (fun c10 => False.elim (by omega)) (fun c10 => ?_)
      refine aw_iload (pc := 57) dX7_thickest_57 rfl ?_
      refine aw_goto (pc := 59) (tgt := 63) dX7_thickest_59 (by decide) ?_
      refine ax_istore_n (pc := 63) (ls' := [some (.inr (some 104)), some (.inl x1), some (.inl x4), some (.inl v6), some (.inl x4), some (.inl v6)]) dX7_thickest_63 (Nat.le_of_ble_eq_true rfl) rfl ?_
      obtain ⟨s11, g⟩ := g
      refine ax_iinc (pc := 64) (v' := x4 + 1) (ls' := [some (.inr (some 104)), some (.inl x1), some (.inl x4), some (.inl v6), some (.inl (x4 + 1)), some (.inl v6)]) dX7_thickest_64 rfl s11 rfl rfl ?_
      refine aw_goto (pc := 67) (tgt := 21) dX7_thickest_67 (by decide) ?_
      exact aw_fewer (show subl [some (.inr (some 104)), some (.inl x1), some (.inl x4), some (.inl v6), some (.inl (x4 + 1)), none] [some (.inr (some 104)), some (.inl x1), some (.inl x4), some (.inl v6), some (.inl (x4 + 1)), some (.inl v6)] from (And.intro rfl (And.intro rfl (And.intro rfl (And.intro rfl (And.intro rfl trivial)))))) g
