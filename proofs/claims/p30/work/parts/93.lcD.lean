set_option maxRecDepth 100000 in
set_option maxHeartbeats 4000000 in
theorem lc_ask {d : Nat} {P : Int → Gs → Prop} {g : Gs} {x1 x2 : Int} (hd : 20 ≤ d)
  (G :
    (∀ v1 : Int, rg v1 → v1 = countO x1 x2 g.1.1 → (
      (∀ v2 : Int, rg v2 → v2 = totO 0 g → (
        (∀ v3 : Int, rg v3 → v3 = totO 9 g → (
          (∀ v4 : Int, rg v4 → v4 = totO 3 g → (
            LW m_L_ask d none P 38 [some (.inr (some 1)), some (.inl x1), some (.inl x2), some (.inl v1), some (.inl v2), some (.inl v3), some (.inl v4), some (.inl 0), some (.inl x1), some (.inl 0), none, none, none, none] [] g (0, 0)))))))))) :
  LW m_L_ask d none P 0 [some (.inr (some 1)), some (.inl x1), some (.inl x2), none, none, none, none, none, none, none, none, none, none, none] [] g (0, 0) := by
  refine lw_aload_n (pc := 0) dL_ask_0 rfl ?_
  refine lw_iload_n (pc := 1) dL_ask_1 rfl ?_
  refine lw_iload_n (pc := 2) dL_ask_2 rfl ?_
  refine lw_invV (pc := 3) (md' := m_X6_count) (as := [(.inl x1), (.inl x2)]) dL_ask_3 mo_X6_count im_X6_count se_X6_count ml_L_29 rfl rfl (by omega) (Nat.le_of_ble_eq_true rfl) rfl ⟨Nat.le_of_ble_eq_true rfl, Nat.le_of_ble_eq_true rfl⟩ (lm_mono (lm_rg (kq_count (by omega))) (fun v1 g' e => ?_))
  obtain ⟨r_v1, e_v1, rfl⟩ := e
  replace G := G v1 r_v1 e_v1
  refine lw_istore_n (pc := 6) (ls' := [some (.inr (some 1)), some (.inl x1), some (.inl x2), some (.inl v1), none, none, none, none, none, none, none, none, none, none]) dL_ask_6 (Nat.le_of_ble_eq_true rfl) rfl ?_
  refine lw_aload_n (pc := 7) dL_ask_7 rfl ?_
  refine lw_iconst (pc := 8) dL_ask_8 ?_
  refine lw_invV (pc := 9) (md' := m_X6_total) (as := [(.inl 0)]) dL_ask_9 mo_X6_total im_X6_total se_X6_total ml_L_13 rfl rfl (by omega) (Nat.le_of_ble_eq_true rfl) rfl ⟨Nat.le_of_ble_eq_true rfl, Nat.le_of_ble_eq_true rfl⟩ (lm_mono (lm_rg (kq_total (by omega))) (fun v2 g' e => ?_))
  obtain ⟨r_v2, e_v2, rfl⟩ := e
  replace G := G v2 r_v2 e_v2
  refine lw_istore (pc := 12) (ls' := [some (.inr (some 1)), some (.inl x1), some (.inl x2), some (.inl v1), some (.inl v2), none, none, none, none, none, none, none, none, none]) dL_ask_12 (Nat.le_of_ble_eq_true rfl) rfl ?_
  refine lw_aload_n (pc := 14) dL_ask_14 rfl ?_
  refine lw_bipush (pc := 15) dL_ask_15 ?_
  refine lw_invV (pc := 17) (md' := m_X6_total) (as := [(.inl 9)]) dL_ask_17 mo_X6_total im_X6_total se_X6_total ml_L_13 rfl rfl (by omega) (Nat.le_of_ble_eq_true rfl) rfl ⟨Nat.le_of_ble_eq_true rfl, Nat.le_of_ble_eq_true rfl⟩ (lm_mono (lm_rg (kq_total (by omega))) (fun v3 g' e => ?_))
  obtain ⟨r_v3, e_v3, rfl⟩ := e
  replace G := G v3 r_v3 e_v3
  refine lw_istore (pc := 20) (ls' := [some (.inr (some 1)), some (.inl x1), some (.inl x2), some (.inl v1), some (.inl v2), some (.inl v3), none, none, none, none, none, none, none, none]) dL_ask_20 (Nat.le_of_ble_eq_true rfl) rfl ?_
  refine lw_aload_n (pc := 22) dL_ask_22 rfl ?_
  refine lw_iconst (pc := 23) dL_ask_23 ?_
  refine lw_invV (pc := 24) (md' := m_X6_total) (as := [(.inl 3)]) dL_ask_24 mo_X6_total im_X6_total se_X6_total ml_L_13 rfl rfl (by omega) (Nat.le_of_ble_eq_true rfl) rfl ⟨Nat.le_of_ble_eq_true rfl, Nat.le_of_ble_eq_true rfl⟩ (lm_mono (lm_rg (kq_total (by omega))) (fun v4 g' e => ?_))
  obtain ⟨r_v4, e_v4, rfl⟩ := e
  replace G := G v4 r_v4 e_v4
  refine lw_istore (pc := 27) (ls' := [some (.inr (some 1)), some (.inl x1), some (.inl x2), some (.inl v1), some (.inl v2), some (.inl v3), some (.inl v4), none, none, none, none, none, none, none]) dL_ask_27 (Nat.le_of_ble_eq_true rfl) rfl ?_
  refine lw_iconst (pc := 29) dL_ask_29 ?_
  refine lw_istore (pc := 30) (ls' := [some (.inr (some 1)), some (.inl x1), some (.inl x2), some (.inl v1), some (.inl v2), some (.inl v3), some (.inl v4), some (.inl 0), none, none, none, none, none, none]) dL_ask_30 (Nat.le_of_ble_eq_true rfl) rfl ?_
  refine lw_iload_n (pc := 32) dL_ask_32 rfl ?_
  refine lw_istore (pc := 33) (ls' := [some (.inr (some 1)), some (.inl x1), some (.inl x2), some (.inl v1), some (.inl v2), some (.inl v3), some (.inl v4), some (.inl 0), some (.inl x1), none, none, none, none, none]) dL_ask_33 (Nat.le_of_ble_eq_true rfl) rfl ?_
  refine lw_iconst (pc := 35) dL_ask_35 ?_
  refine lw_istore (pc := 36) (ls' := [some (.inr (some 1)), some (.inl x1), some (.inl x2), some (.inl v1), some (.inl v2), some (.inl v3), some (.inl v4), some (.inl 0), some (.inl x1), some (.inl 0), none, none, none, none]) dL_ask_36 (Nat.le_of_ble_eq_true rfl) rfl ?_
  exact G
set_option maxRecDepth 100000 in
set_option maxHeartbeats 4000000 in
theorem lc_ask_38 {d : Nat} {P : Int → Gs → Prop} {g : Gs} {x1 x2 x3 x4 x5 x6 x7 x8 x9 : Int} (hd : 20 ≤ d)
  (G :
    ((x4 ≤ x9 → (
      LW m_L_ask d none P 79 [some (.inr (some 1)), some (.inl x1), some (.inl x2), some (.inl x3), some (.inl x4), some (.inl x5), some (.inl x6), some (.inl x7), some (.inl x8), some (.inl x2), none, none, none, none] [] g (0, 0)
      )) ∧ (¬ (x4 ≤ x9) → (
      (∀ v2 : Int, rg v2 → v2 = cardO x9 g.1.1 → (
        (∀ v3 : Int, rg v3 → v3 = ofO v2 1 g.1.1 → (
          ((¬ v3 = 1 → (
            (rg (x7 + 0)) ∧
            (rg (x9 + 1)) ∧
            LW m_L_ask d none P 38 [some (.inr (some 1)), some (.inl x1), some (.inl x2), some (.inl x3), some (.inl x4), some (.inl x5), some (.inl x6), some (.inl (x7 + 0)), some (.inl x8), some (.inl (x9 + 1)), none, none, none, none] [] g (0, 0)
            )) ∧ (¬ (¬ v3 = 1) → (
            (rg (x7 + 1)) ∧
            (rg (x9 + 1)) ∧
            LW m_L_ask d none P 38 [some (.inr (some 1)), some (.inl x1), some (.inl x2), some (.inl x3), some (.inl x4), some (.inl x5), some (.inl x6), some (.inl (x7 + 1)), some (.inl x8), some (.inl (x9 + 1)), none, none, none, none] [] g (0, 0)
            )))))))
      )))) :
  LW m_L_ask d none P 38 [some (.inr (some 1)), some (.inl x1), some (.inl x2), some (.inl x3), some (.inl x4), some (.inl x5), some (.inl x6), some (.inl x7), some (.inl x8), some (.inl x9), none, none, none, none] [] g (0, 0) := by
  refine lw_iload (pc := 38) dL_ask_38 rfl ?_
  refine lw_iload (pc := 40) dL_ask_40 rfl ?_
  refine lw_icmp_ge (pc := 42) (tgt := 76) dL_ask_42 (by decide) (fun c1 => ?_) (fun c1 => ?_)
  · replace G := G.1 c1
    refine lw_iload_n (pc := 76) dL_ask_76 rfl ?_
    refine lw_istore (pc := 77) (ls' := [some (.inr (some 1)), some (.inl x1), some (.inl x2), some (.inl x3), some (.inl x4), some (.inl x5), some (.inl x6), some (.inl x7), some (.inl x8), some (.inl x2), none, none, none, none]) dL_ask_77 (Nat.le_of_ble_eq_true rfl) rfl ?_
    exact G
  · replace G := G.2 c1
    refine lw_iload (pc := 45) dL_ask_45 rfl ?_
    refine lw_aload_n (pc := 47) dL_ask_47 rfl ?_
    refine lw_aload_n (pc := 48) dL_ask_48 rfl ?_
    refine lw_iload (pc := 49) dL_ask_49 rfl ?_
    refine lw_invV (pc := 51) (md' := m_X6_card) (as := [(.inl x9)]) dL_ask_51 mo_X6_card im_X6_card se_X6_card ml_L_19 rfl rfl (by omega) (Nat.le_of_ble_eq_true rfl) rfl ⟨Nat.le_of_ble_eq_true rfl, Nat.le_of_ble_eq_true rfl⟩ (lm_mono (lm_rg (kq_card (by omega))) (fun v2 g' e => ?_))
    obtain ⟨r_v2, e_v2, rfl⟩ := e
    replace G := G v2 r_v2 e_v2
    refine lw_iconst (pc := 54) dL_ask_54 ?_
    refine lw_invV (pc := 55) (md' := m_X6_ofCard) (as := [(.inl v2), (.inl 1)]) dL_ask_55 mo_X6_ofCard im_X6_ofCard se_X6_ofCard ml_L_22 rfl rfl (by omega) (Nat.le_of_ble_eq_true rfl) rfl ⟨Nat.le_of_ble_eq_true rfl, Nat.le_of_ble_eq_true rfl⟩ (lm_mono (lm_rg (kq_ofCard (by omega))) (fun v3 g' e => ?_))
    obtain ⟨r_v3, e_v3, rfl⟩ := e
    replace G := G v3 r_v3 e_v3
    refine lw_iconst (pc := 58) dL_ask_58 ?_
    refine lw_icmp_ne (pc := 59) (tgt := 66) dL_ask_59 (by decide) (fun c4 => ?_) (fun c4 => ?_)
    · replace G := G.1 c4
      refine lw_iconst (pc := 66) dL_ask_66 ?_
      obtain ⟨s5, G⟩ := G
      refine lw_iadd (pc := 67) (v := x7 + 0) dL_ask_67 s5 rfl ?_
      refine lw_istore (pc := 68) (ls' := [some (.inr (some 1)), some (.inl x1), some (.inl x2), some (.inl x3), some (.inl x4), some (.inl x5), some (.inl x6), some (.inl (x7 + 0)), some (.inl x8), some (.inl x9), none, none, none, none]) dL_ask_68 (Nat.le_of_ble_eq_true rfl) rfl ?_
      obtain ⟨s6, G⟩ := G
      refine lw_iinc (pc := 70) (v' := x9 + 1) (ls' := [some (.inr (some 1)), some (.inl x1), some (.inl x2), some (.inl x3), some (.inl x4), some (.inl x5), some (.inl x6), some (.inl (x7 + 0)), some (.inl x8), some (.inl (x9 + 1)), none, none, none, none]) dL_ask_70 rfl s6 rfl rfl ?_
      refine lw_goto (pc := 73) (tgt := 38) dL_ask_73 (by decide) ?_
      exact G
    · replace G := G.2 c4
      refine lw_iconst (pc := 62) dL_ask_62 ?_
      refine lw_goto (pc := 63) (tgt := 67) dL_ask_63 (by decide) ?_
      obtain ⟨s7, G⟩ := G
      refine lw_iadd (pc := 67) (v := x7 + 1) dL_ask_67 s7 rfl ?_
      refine lw_istore (pc := 68) (ls' := [some (.inr (some 1)), some (.inl x1), some (.inl x2), some (.inl x3), some (.inl x4), some (.inl x5), some (.inl x6), some (.inl (x7 + 1)), some (.inl x8), some (.inl x9), none, none, none, none]) dL_ask_68 (Nat.le_of_ble_eq_true rfl) rfl ?_
      obtain ⟨s8, G⟩ := G
      refine lw_iinc (pc := 70) (v' := x9 + 1) (ls' := [some (.inr (some 1)), some (.inl x1), some (.inl x2), some (.inl x3), some (.inl x4), some (.inl x5), some (.inl x6), some (.inl (x7 + 1)), some (.inl x8), some (.inl (x9 + 1)), none, none, none, none]) dL_ask_70 rfl s8 rfl rfl ?_
      refine lw_goto (pc := 73) (tgt := 38) dL_ask_73 (by decide) ?_
      exact G
set_option maxRecDepth 100000 in
set_option maxHeartbeats 4000000 in
theorem lc_ask_79 {d : Nat} {P : Int → Gs → Prop} {g : Gs} {x1 x2 x3 x4 x5 x6 x7 x8 x9 : Int} (hd : 20 ≤ d)
  (G :
    ((8 ≤ x8 → (
      (∀ (v2 : Int) (g3 : Gs), rg v2 → v2 = (askG x1 x2 g).1 → g3 = (askG x1 x2 g).2 → (
        (∀ v4 : Int, rg v4 → v4 = totO 3 g3 → (
          ((¬ v4 = 0 → (
            (∀ v6 : Int, rg v6 → v6 = totO 3 g3 → (
              (rg (v6 - 1)) ∧
              (∀ v8 : Int, rg v8 → v8 = toldO (v6 - 1) g3.1.2.1 → (
                ((¬ x3 = 0 → (
                  ((¬ x3 = 1 → (
                    (rg (400 + x8)) ∧
                    ((¬ v2 = 400 + x8 → (
                      LW m_L_ask d none P 276 [some (.inr (some 1)), some (.inl x1), some (.inl x2), some (.inl x3), some (.inl x4), some (.inl x5), some (.inl x6), some (.inl x7), some (.inl x8), some (.inl x9), some (.inl v2), some (.inl v8), none, none] [] g3 (0, 0)
                      )) ∧ (¬ (¬ v2 = 400 + x8) → (
                      LW m_L_ask d none P 276 [some (.inr (some 1)), some (.inl x1), some (.inl x2), some (.inl x3), some (.inl x4), some (.inl x5), some (.inl x6), some (.inl x7), some (.inl x8), some (.inl x9), some (.inl v2), some (.inl v8), none, none] [] g3 (0, 0)
                      )))
                    )) ∧ (¬ (¬ x3 = 1) → (
                    ((v2 < 0 → (
                      (rg (x5 + 4)) ∧
                      (rg ((x5 + 4) + x1)) ∧
                      ((¬ x1 = 8 → (
                        (rg (8 - x1)) ∧
                        (rg (((x5 + 4) + x1) + (8 - x1))) ∧
                        LW m_L_ask d none P 398 [some (.inr (some 1)), some (.inl x1), some (.inl x2), some (.inl x3), some (.inl x4), some (.inl x5), some (.inl x6), some (.inl x7), some (.inl x8), some (.inl x9), some (.inl v2), some (.inl v8), some (.inl 0), some (.inl (((x5 + 4) + x1) + (8 - x1)))] [] g3 (0, 0)
                        )) ∧ (¬ (¬ x1 = 8) → (
                        (rg (((x5 + 4) + x1) + 1)) ∧
                        LW m_L_ask d none P 398 [some (.inr (some 1)), some (.inl x1), some (.inl x2), some (.inl x3), some (.inl x4), some (.inl x5), some (.inl x6), some (.inl x7), some (.inl x8), some (.inl x9), some (.inl v2), some (.inl v8), some (.inl 0), some (.inl (((x5 + 4) + x1) + 1))] [] g3 (0, 0)
                        )))
                      )) ∧ (¬ (v2 < 0) → (
                      ((256 ≤ v2 → (
                        (rg (x5 + 4)) ∧
                        (rg ((x5 + 4) + x1)) ∧
                        ((¬ x1 = 8 → (
                          (rg (8 - x1)) ∧
                          (rg (((x5 + 4) + x1) + (8 - x1))) ∧
                          LW m_L_ask d none P 398 [some (.inr (some 1)), some (.inl x1), some (.inl x2), some (.inl x3), some (.inl x4), some (.inl x5), some (.inl x6), some (.inl x7), some (.inl x8), some (.inl x9), some (.inl v2), some (.inl v8), some (.inl 0), some (.inl (((x5 + 4) + x1) + (8 - x1)))] [] g3 (0, 0)
                          )) ∧ (¬ (¬ x1 = 8) → (
                          (rg (((x5 + 4) + x1) + 1)) ∧
                          LW m_L_ask d none P 398 [some (.inr (some 1)), some (.inl x1), some (.inl x2), some (.inl x3), some (.inl x4), some (.inl x5), some (.inl x6), some (.inl x7), some (.inl x8), some (.inl x9), some (.inl v2), some (.inl v8), some (.inl 0), some (.inl (((x5 + 4) + x1) + 1))] [] g3 (0, 0)
                          )))
                        )) ∧ (¬ (256 ≤ v2) → (
                        (rg (8 - x1)) ∧
                        ((¬ sr v2 (8 - x1) = x2 → (
                          (rg (x5 + 4)) ∧
                          (rg ((x5 + 4) + x1)) ∧
                          ((¬ x1 = 8 → (
                            (rg (((x5 + 4) + x1) + (8 - x1))) ∧
                            LW m_L_ask d none P 398 [some (.inr (some 1)), some (.inl x1), some (.inl x2), some (.inl x3), some (.inl x4), some (.inl x5), some (.inl x6), some (.inl x7), some (.inl x8), some (.inl x9), some (.inl v2), some (.inl v8), some (.inl 0), some (.inl (((x5 + 4) + x1) + (8 - x1)))] [] g3 (0, 0)
                            )) ∧ (¬ (¬ x1 = 8) → (
                            (rg (((x5 + 4) + x1) + 1)) ∧
                            LW m_L_ask d none P 398 [some (.inr (some 1)), some (.inl x1), some (.inl x2), some (.inl x3), some (.inl x4), some (.inl x5), some (.inl x6), some (.inl x7), some (.inl x8), some (.inl x9), some (.inl v2), some (.inl v8), some (.inl 0), some (.inl (((x5 + 4) + x1) + 1))] [] g3 (0, 0)
                            )))
                          )) ∧ (¬ (¬ sr v2 (8 - x1) = x2) → (
                          ((¬ v8 = v2 → (
                            (rg (x5 + 4)) ∧
                            (rg ((x5 + 4) + x1)) ∧
                            ((¬ x1 = 8 → (
                              (rg (((x5 + 4) + x1) + (8 - x1))) ∧
                              LW m_L_ask d none P 398 [some (.inr (some 1)), some (.inl x1), some (.inl x2), some (.inl x3), some (.inl x4), some (.inl x5), some (.inl x6), some (.inl x7), some (.inl x8), some (.inl x9), some (.inl v2), some (.inl v8), some (.inl 0), some (.inl (((x5 + 4) + x1) + (8 - x1)))] [] g3 (0, 0)
                              )) ∧ (¬ (¬ x1 = 8) → (
                              (rg (((x5 + 4) + x1) + 1)) ∧
                              LW m_L_ask d none P 398 [some (.inr (some 1)), some (.inl x1), some (.inl x2), some (.inl x3), some (.inl x4), some (.inl x5), some (.inl x6), some (.inl x7), some (.inl x8), some (.inl x9), some (.inl v2), some (.inl v8), some (.inl 0), some (.inl (((x5 + 4) + x1) + 1))] [] g3 (0, 0)
                              )))
                            )) ∧ (¬ (¬ v8 = v2) → (
                            (rg (x5 + 4)) ∧
                            (rg ((x5 + 4) + x1)) ∧
                            ((¬ x1 = 8 → (
                              (rg (((x5 + 4) + x1) + (8 - x1))) ∧
                              (∀ v59 : Int, rg v59 → v59 = totO 9 g3 → (
                                ((¬ v59 = ((x5 + 4) + x1) + (8 - x1) → (
                                  LW m_L_ask d none P 398 [some (.inr (some 1)), some (.inl x1), some (.inl x2), some (.inl x3), some (.inl x4), some (.inl x5), some (.inl x6), some (.inl x7), some (.inl x8), some (.inl x9), some (.inl v2), some (.inl v8), some (.inl 1), some (.inl (((x5 + 4) + x1) + (8 - x1)))] [] g3 (0, 0)
                                  )) ∧ (¬ (¬ v59 = ((x5 + 4) + x1) + (8 - x1)) → (
                                  (∀ v61 : Int, rg v61 → v61 = totO 0 g3 → (
                                    (rg (x4 - x7)) ∧
                                    ((¬ v61 = x4 - x7 → (
                                      LW m_L_ask d none P 398 [some (.inr (some 1)), some (.inl x1), some (.inl x2), some (.inl x3), some (.inl x4), some (.inl x5), some (.inl x6), some (.inl x7), some (.inl x8), some (.inl x9), some (.inl v2), some (.inl v8), some (.inl 1), some (.inl (((x5 + 4) + x1) + (8 - x1)))] [] g3 (0, 0)
                                      )) ∧ (¬ (¬ v61 = x4 - x7) → (
                                      (∀ v64 : Int, rg v64 → v64 = totO 3 g3 → (
                                        ((200 ≤ x6 → (
                                          ((¬ v64 = x6 → (
                                            LW m_L_ask d none P 398 [some (.inr (some 1)), some (.inl x1), some (.inl x2), some (.inl x3), some (.inl x4), some (.inl x5), some (.inl x6), some (.inl x7), some (.inl x8), some (.inl x9), some (.inl v2), some (.inl v8), some (.inl 1), some (.inl (((x5 + 4) + x1) + (8 - x1)))] [] g3 (0, 0)
                                            )) ∧ (¬ (¬ v64 = x6) → (
                                            (∀ v69 : Int, rg v69 → v69 = countO 8 v2 g3.1.1 → (
                                              ((v69 = 0 → (
                                                P v2 g3
                                                )) ∧ (¬ (v69 = 0) → (
                                                (∀ v72 : Int, rg v72 → v72 = totO 11 g3 → (
                                                  ((¬ v72 = 0 → (
                                                    LW m_L_ask d none P 398 [some (.inr (some 1)), some (.inl x1), some (.inl x2), some (.inl x3), some (.inl x4), some (.inl x5), some (.inl x6), some (.inl x7), some (.inl x8), some (.inl x9), some (.inl v2), some (.inl v8), some (.inl 1), some (.inl (((x5 + 4) + x1) + (8 - x1)))] [] g3 (0, 0)
                                                    )) ∧ (¬ (¬ v72 = 0) → (
                                                    P v2 g3
                                                    )))))
                                                )))))
                                            )))
                                          )) ∧ (¬ (200 ≤ x6) → (
                                          (rg (x6 + 1)) ∧
                                          ((¬ v64 = x6 + 1 → (
                                            LW m_L_ask d none P 398 [some (.inr (some 1)), some (.inl x1), some (.inl x2), some (.inl x3), some (.inl x4), some (.inl x5), some (.inl x6), some (.inl x7), some (.inl x8), some (.inl x9), some (.inl v2), some (.inl v8), some (.inl 1), some (.inl (((x5 + 4) + x1) + (8 - x1)))] [] g3 (0, 0)
                                            )) ∧ (¬ (¬ v64 = x6 + 1) → (
                                            (∀ v78 : Int, rg v78 → v78 = countO 8 v2 g3.1.1 → (
                                              ((v78 = 0 → (
                                                P v2 g3
                                                )) ∧ (¬ (v78 = 0) → (
                                                (∀ v81 : Int, rg v81 → v81 = totO 11 g3 → (
                                                  ((¬ v81 = 0 → (
                                                    LW m_L_ask d none P 398 [some (.inr (some 1)), some (.inl x1), some (.inl x2), some (.inl x3), some (.inl x4), some (.inl x5), some (.inl x6), some (.inl x7), some (.inl x8), some (.inl x9), some (.inl v2), some (.inl v8), some (.inl 1), some (.inl (((x5 + 4) + x1) + (8 - x1)))] [] g3 (0, 0)
                                                    )) ∧ (¬ (¬ v81 = 0) → (
                                                    P v2 g3
                                                    )))))
                                                )))))
                                            )))
                                          )))))
                                      )))))
                                  )))))
                              )) ∧ (¬ (¬ x1 = 8) → (
                              (rg (((x5 + 4) + x1) + 1)) ∧
                              (∀ v86 : Int, rg v86 → v86 = totO 9 g3 → (
                                ((¬ v86 = ((x5 + 4) + x1) + 1 → (
                                  LW m_L_ask d none P 398 [some (.inr (some 1)), some (.inl x1), some (.inl x2), some (.inl x3), some (.inl x4), some (.inl x5), some (.inl x6), some (.inl x7), some (.inl x8), some (.inl x9), some (.inl v2), some (.inl v8), some (.inl 1), some (.inl (((x5 + 4) + x1) + 1))] [] g3 (0, 0)
                                  )) ∧ (¬ (¬ v86 = ((x5 + 4) + x1) + 1) → (
                                  (∀ v88 : Int, rg v88 → v88 = totO 0 g3 → (
                                    (rg (x4 - x7)) ∧
                                    ((¬ v88 = x4 - x7 → (
                                      LW m_L_ask d none P 398 [some (.inr (some 1)), some (.inl x1), some (.inl x2), some (.inl x3), some (.inl x4), some (.inl x5), some (.inl x6), some (.inl x7), some (.inl x8), some (.inl x9), some (.inl v2), some (.inl v8), some (.inl 1), some (.inl (((x5 + 4) + x1) + 1))] [] g3 (0, 0)
                                      )) ∧ (¬ (¬ v88 = x4 - x7) → (
                                      (∀ v91 : Int, rg v91 → v91 = totO 3 g3 → (
                                        ((200 ≤ x6 → (
                                          ((¬ v91 = x6 → (
                                            LW m_L_ask d none P 398 [some (.inr (some 1)), some (.inl x1), some (.inl x2), some (.inl x3), some (.inl x4), some (.inl x5), some (.inl x6), some (.inl x7), some (.inl x8), some (.inl x9), some (.inl v2), some (.inl v8), some (.inl 1), some (.inl (((x5 + 4) + x1) + 1))] [] g3 (0, 0)
                                            )) ∧ (¬ (¬ v91 = x6) → (
                                            (∀ v96 : Int, rg v96 → v96 = countO 8 v2 g3.1.1 → (
                                              ((v96 = 0 → (
                                                P v2 g3
                                                )) ∧ (¬ (v96 = 0) → (
                                                (∀ v99 : Int, rg v99 → v99 = totO 11 g3 → (
                                                  ((¬ v99 = 0 → (
                                                    LW m_L_ask d none P 398 [some (.inr (some 1)), some (.inl x1), some (.inl x2), some (.inl x3), some (.inl x4), some (.inl x5), some (.inl x6), some (.inl x7), some (.inl x8), some (.inl x9), some (.inl v2), some (.inl v8), some (.inl 1), some (.inl (((x5 + 4) + x1) + 1))] [] g3 (0, 0)
                                                    )) ∧ (¬ (¬ v99 = 0) → (
                                                    P v2 g3
                                                    )))))
                                                )))))
                                            )))
                                          )) ∧ (¬ (200 ≤ x6) → (
                                          (rg (x6 + 1)) ∧
                                          ((¬ v91 = x6 + 1 → (
                                            LW m_L_ask d none P 398 [some (.inr (some 1)), some (.inl x1), some (.inl x2), some (.inl x3), some (.inl x4), some (.inl x5), some (.inl x6), some (.inl x7), some (.inl x8), some (.inl x9), some (.inl v2), some (.inl v8), some (.inl 1), some (.inl (((x5 + 4) + x1) + 1))] [] g3 (0, 0)
                                            )) ∧ (¬ (¬ v91 = x6 + 1) → (
                                            (∀ v105 : Int, rg v105 → v105 = countO 8 v2 g3.1.1 → (
                                              ((v105 = 0 → (
                                                P v2 g3
                                                )) ∧ (¬ (v105 = 0) → (
                                                (∀ v108 : Int, rg v108 → v108 = totO 11 g3 → (
                                                  ((¬ v108 = 0 → (
                                                    LW m_L_ask d none P 398 [some (.inr (some 1)), some (.inl x1), some (.inl x2), some (.inl x3), some (.inl x4), some (.inl x5), some (.inl x6), some (.inl x7), some (.inl x8), some (.inl x9), some (.inl v2), some (.inl v8), some (.inl 1), some (.inl (((x5 + 4) + x1) + 1))] [] g3 (0, 0)
                                                    )) ∧ (¬ (¬ v108 = 0) → (
                                                    P v2 g3
                                                    )))))
                                                )))))
                                            )))
                                          )))))
                                      )))))
                                  )))))
                              )))
                            )))
                          )))
                        )))
                      )))
                    )))
                  )) ∧ (¬ (¬ x3 = 0) → (
                  ((¬ v2 = 300 → (
                    LW m_L_ask d none P 206 [some (.inr (some 1)), some (.inl x1), some (.inl x2), some (.inl x3), some (.inl x4), some (.inl x5), some (.inl x6), some (.inl x7), some (.inl x8), some (.inl x9), some (.inl v2), some (.inl v8), none, none] [] g3 (0, 0)
                    )) ∧ (¬ (¬ v2 = 300) → (
                    (rg (x5 + 4)) ∧
                    (rg ((x5 + 4) + x1)) ∧
                    (rg (((x5 + 4) + x1) + 2)) ∧
                    (∀ v117 : Int, rg v117 → v117 = totO 9 g3 → (
                      ((¬ v117 = ((x5 + 4) + x1) + 2 → (
                        LW m_L_ask d none P 398 [some (.inr (some 1)), some (.inl x1), some (.inl x2), some (.inl x3), some (.inl x4), some (.inl x5), some (.inl x6), some (.inl x7), some (.inl x8), some (.inl x9), some (.inl v2), some (.inl v8), some (.inl 1), some (.inl (((x5 + 4) + x1) + 2))] [] g3 (0, 0)
                        )) ∧ (¬ (¬ v117 = ((x5 + 4) + x1) + 2) → (
                        (∀ v119 : Int, rg v119 → v119 = totO 0 g3 → (
                          (rg (x4 - x7)) ∧
                          ((¬ v119 = x4 - x7 → (
                            LW m_L_ask d none P 398 [some (.inr (some 1)), some (.inl x1), some (.inl x2), some (.inl x3), some (.inl x4), some (.inl x5), some (.inl x6), some (.inl x7), some (.inl x8), some (.inl x9), some (.inl v2), some (.inl v8), some (.inl 1), some (.inl (((x5 + 4) + x1) + 2))] [] g3 (0, 0)
                            )) ∧ (¬ (¬ v119 = x4 - x7) → (
                            (∀ v122 : Int, rg v122 → v122 = totO 3 g3 → (
                              ((¬ v122 = x6 → (
                                LW m_L_ask d none P 398 [some (.inr (some 1)), some (.inl x1), some (.inl x2), some (.inl x3), some (.inl x4), some (.inl x5), some (.inl x6), some (.inl x7), some (.inl x8), some (.inl x9), some (.inl v2), some (.inl v8), some (.inl 1), some (.inl (((x5 + 4) + x1) + 2))] [] g3 (0, 0)
                                )) ∧ (¬ (¬ v122 = x6) → (
                                P v2 g3
                                )))))
                            )))))
                        )))))
                    )))
                  )))))))
            )) ∧ (¬ (¬ v4 = 0) → (
            ((¬ x3 = 0 → (
              ((¬ x3 = 1 → (
                (rg (400 + x8)) ∧
                ((¬ v2 = 400 + x8 → (
                  LW m_L_ask d none P 276 [some (.inr (some 1)), some (.inl x1), some (.inl x2), some (.inl x3), some (.inl x4), some (.inl x5), some (.inl x6), some (.inl x7), some (.inl x8), some (.inl x9), some (.inl v2), some (.inl (-5)), none, none] [] g3 (0, 0)
                  )) ∧ (¬ (¬ v2 = 400 + x8) → (
                  LW m_L_ask d none P 276 [some (.inr (some 1)), some (.inl x1), some (.inl x2), some (.inl x3), some (.inl x4), some (.inl x5), some (.inl x6), some (.inl x7), some (.inl x8), some (.inl x9), some (.inl v2), some (.inl (-5)), none, none] [] g3 (0, 0)
                  )))
                )) ∧ (¬ (¬ x3 = 1) → (
                ((v2 < 0 → (
                  (rg (x5 + 4)) ∧
                  (rg ((x5 + 4) + x1)) ∧
                  ((¬ x1 = 8 → (
                    (rg (8 - x1)) ∧
                    (rg (((x5 + 4) + x1) + (8 - x1))) ∧
                    LW m_L_ask d none P 398 [some (.inr (some 1)), some (.inl x1), some (.inl x2), some (.inl x3), some (.inl x4), some (.inl x5), some (.inl x6), some (.inl x7), some (.inl x8), some (.inl x9), some (.inl v2), some (.inl (-5)), some (.inl 0), some (.inl (((x5 + 4) + x1) + (8 - x1)))] [] g3 (0, 0)
                    )) ∧ (¬ (¬ x1 = 8) → (
                    (rg (((x5 + 4) + x1) + 1)) ∧
                    LW m_L_ask d none P 398 [some (.inr (some 1)), some (.inl x1), some (.inl x2), some (.inl x3), some (.inl x4), some (.inl x5), some (.inl x6), some (.inl x7), some (.inl x8), some (.inl x9), some (.inl v2), some (.inl (-5)), some (.inl 0), some (.inl (((x5 + 4) + x1) + 1))] [] g3 (0, 0)
                    )))
                  )) ∧ (¬ (v2 < 0) → (
                  ((256 ≤ v2 → (
                    (rg (x5 + 4)) ∧
                    (rg ((x5 + 4) + x1)) ∧
                    ((¬ x1 = 8 → (
                      (rg (8 - x1)) ∧
                      (rg (((x5 + 4) + x1) + (8 - x1))) ∧
                      LW m_L_ask d none P 398 [some (.inr (some 1)), some (.inl x1), some (.inl x2), some (.inl x3), some (.inl x4), some (.inl x5), some (.inl x6), some (.inl x7), some (.inl x8), some (.inl x9), some (.inl v2), some (.inl (-5)), some (.inl 0), some (.inl (((x5 + 4) + x1) + (8 - x1)))] [] g3 (0, 0)
                      )) ∧ (¬ (¬ x1 = 8) → (
                      (rg (((x5 + 4) + x1) + 1)) ∧
                      LW m_L_ask d none P 398 [some (.inr (some 1)), some (.inl x1), some (.inl x2), some (.inl x3), some (.inl x4), some (.inl x5), some (.inl x6), some (.inl x7), some (.inl x8), some (.inl x9), some (.inl v2), some (.inl (-5)), some (.inl 0), some (.inl (((x5 + 4) + x1) + 1))] [] g3 (0, 0)
                      )))
                    )) ∧ (¬ (256 ≤ v2) → (
                    (rg (8 - x1)) ∧
                    ((¬ sr v2 (8 - x1) = x2 → (
                      (rg (x5 + 4)) ∧
                      (rg ((x5 + 4) + x1)) ∧
                      ((¬ x1 = 8 → (
                        (rg (((x5 + 4) + x1) + (8 - x1))) ∧
                        LW m_L_ask d none P 398 [some (.inr (some 1)), some (.inl x1), some (.inl x2), some (.inl x3), some (.inl x4), some (.inl x5), some (.inl x6), some (.inl x7), some (.inl x8), some (.inl x9), some (.inl v2), some (.inl (-5)), some (.inl 0), some (.inl (((x5 + 4) + x1) + (8 - x1)))] [] g3 (0, 0)
                        )) ∧ (¬ (¬ x1 = 8) → (
                        (rg (((x5 + 4) + x1) + 1)) ∧
                        LW m_L_ask d none P 398 [some (.inr (some 1)), some (.inl x1), some (.inl x2), some (.inl x3), some (.inl x4), some (.inl x5), some (.inl x6), some (.inl x7), some (.inl x8), some (.inl x9), some (.inl v2), some (.inl (-5)), some (.inl 0), some (.inl (((x5 + 4) + x1) + 1))] [] g3 (0, 0)
                        )))
                      )) ∧ (¬ (¬ sr v2 (8 - x1) = x2) → (
                      ((¬ -5 = v2 → (
                        (rg (x5 + 4)) ∧
                        (rg ((x5 + 4) + x1)) ∧
                        ((¬ x1 = 8 → (
                          (rg (((x5 + 4) + x1) + (8 - x1))) ∧
                          LW m_L_ask d none P 398 [some (.inr (some 1)), some (.inl x1), some (.inl x2), some (.inl x3), some (.inl x4), some (.inl x5), some (.inl x6), some (.inl x7), some (.inl x8), some (.inl x9), some (.inl v2), some (.inl (-5)), some (.inl 0), some (.inl (((x5 + 4) + x1) + (8 - x1)))] [] g3 (0, 0)
                          )) ∧ (¬ (¬ x1 = 8) → (
                          (rg (((x5 + 4) + x1) + 1)) ∧
                          LW m_L_ask d none P 398 [some (.inr (some 1)), some (.inl x1), some (.inl x2), some (.inl x3), some (.inl x4), some (.inl x5), some (.inl x6), some (.inl x7), some (.inl x8), some (.inl x9), some (.inl v2), some (.inl (-5)), some (.inl 0), some (.inl (((x5 + 4) + x1) + 1))] [] g3 (0, 0)
                          )))
                        )) ∧ (¬ (¬ -5 = v2) → (
                        (rg (x5 + 4)) ∧
                        (rg ((x5 + 4) + x1)) ∧
                        ((¬ x1 = 8 → (
                          (rg (((x5 + 4) + x1) + (8 - x1))) ∧
                          (∀ v177 : Int, rg v177 → v177 = totO 9 g3 → (
                            ((¬ v177 = ((x5 + 4) + x1) + (8 - x1) → (
                              LW m_L_ask d none P 398 [some (.inr (some 1)), some (.inl x1), some (.inl x2), some (.inl x3), some (.inl x4), some (.inl x5), some (.inl x6), some (.inl x7), some (.inl x8), some (.inl x9), some (.inl v2), some (.inl (-5)), some (.inl 1), some (.inl (((x5 + 4) + x1) + (8 - x1)))] [] g3 (0, 0)
                              )) ∧ (¬ (¬ v177 = ((x5 + 4) + x1) + (8 - x1)) → (
                              (∀ v179 : Int, rg v179 → v179 = totO 0 g3 → (
                                (rg (x4 - x7)) ∧
                                ((¬ v179 = x4 - x7 → (
                                  LW m_L_ask d none P 398 [some (.inr (some 1)), some (.inl x1), some (.inl x2), some (.inl x3), some (.inl x4), some (.inl x5), some (.inl x6), some (.inl x7), some (.inl x8), some (.inl x9), some (.inl v2), some (.inl (-5)), some (.inl 1), some (.inl (((x5 + 4) + x1) + (8 - x1)))] [] g3 (0, 0)
                                  )) ∧ (¬ (¬ v179 = x4 - x7) → (
                                  (∀ v182 : Int, rg v182 → v182 = totO 3 g3 → (
                                    ((200 ≤ x6 → (
                                      ((¬ v182 = x6 → (
                                        LW m_L_ask d none P 398 [some (.inr (some 1)), some (.inl x1), some (.inl x2), some (.inl x3), some (.inl x4), some (.inl x5), some (.inl x6), some (.inl x7), some (.inl x8), some (.inl x9), some (.inl v2), some (.inl (-5)), some (.inl 1), some (.inl (((x5 + 4) + x1) + (8 - x1)))] [] g3 (0, 0)
                                        )) ∧ (¬ (¬ v182 = x6) → (
                                        (∀ v187 : Int, rg v187 → v187 = countO 8 v2 g3.1.1 → (
                                          ((v187 = 0 → (
                                            P v2 g3
                                            )) ∧ (¬ (v187 = 0) → (
                                            (∀ v190 : Int, rg v190 → v190 = totO 11 g3 → (
                                              ((¬ v190 = 0 → (
                                                LW m_L_ask d none P 398 [some (.inr (some 1)), some (.inl x1), some (.inl x2), some (.inl x3), some (.inl x4), some (.inl x5), some (.inl x6), some (.inl x7), some (.inl x8), some (.inl x9), some (.inl v2), some (.inl (-5)), some (.inl 1), some (.inl (((x5 + 4) + x1) + (8 - x1)))] [] g3 (0, 0)
                                                )) ∧ (¬ (¬ v190 = 0) → (
                                                P v2 g3
                                                )))))
                                            )))))
                                        )))
                                      )) ∧ (¬ (200 ≤ x6) → (
                                      (rg (x6 + 1)) ∧
                                      ((¬ v182 = x6 + 1 → (
                                        LW m_L_ask d none P 398 [some (.inr (some 1)), some (.inl x1), some (.inl x2), some (.inl x3), some (.inl x4), some (.inl x5), some (.inl x6), some (.inl x7), some (.inl x8), some (.inl x9), some (.inl v2), some (.inl (-5)), some (.inl 1), some (.inl (((x5 + 4) + x1) + (8 - x1)))] [] g3 (0, 0)
                                        )) ∧ (¬ (¬ v182 = x6 + 1) → (
                                        (∀ v196 : Int, rg v196 → v196 = countO 8 v2 g3.1.1 → (
                                          ((v196 = 0 → (
                                            P v2 g3
                                            )) ∧ (¬ (v196 = 0) → (
                                            (∀ v199 : Int, rg v199 → v199 = totO 11 g3 → (
                                              ((¬ v199 = 0 → (
                                                LW m_L_ask d none P 398 [some (.inr (some 1)), some (.inl x1), some (.inl x2), some (.inl x3), some (.inl x4), some (.inl x5), some (.inl x6), some (.inl x7), some (.inl x8), some (.inl x9), some (.inl v2), some (.inl (-5)), some (.inl 1), some (.inl (((x5 + 4) + x1) + (8 - x1)))] [] g3 (0, 0)
                                                )) ∧ (¬ (¬ v199 = 0) → (
                                                P v2 g3
                                                )))))
                                            )))))
                                        )))
                                      )))))
                                  )))))
                              )))))
                          )) ∧ (¬ (¬ x1 = 8) → (
                          (rg (((x5 + 4) + x1) + 1)) ∧
                          (∀ v204 : Int, rg v204 → v204 = totO 9 g3 → (
                            ((¬ v204 = ((x5 + 4) + x1) + 1 → (
                              LW m_L_ask d none P 398 [some (.inr (some 1)), some (.inl x1), some (.inl x2), some (.inl x3), some (.inl x4), some (.inl x5), some (.inl x6), some (.inl x7), some (.inl x8), some (.inl x9), some (.inl v2), some (.inl (-5)), some (.inl 1), some (.inl (((x5 + 4) + x1) + 1))] [] g3 (0, 0)
                              )) ∧ (¬ (¬ v204 = ((x5 + 4) + x1) + 1) → (
                              (∀ v206 : Int, rg v206 → v206 = totO 0 g3 → (
                                (rg (x4 - x7)) ∧
                                ((¬ v206 = x4 - x7 → (
                                  LW m_L_ask d none P 398 [some (.inr (some 1)), some (.inl x1), some (.inl x2), some (.inl x3), some (.inl x4), some (.inl x5), some (.inl x6), some (.inl x7), some (.inl x8), some (.inl x9), some (.inl v2), some (.inl (-5)), some (.inl 1), some (.inl (((x5 + 4) + x1) + 1))] [] g3 (0, 0)
                                  )) ∧ (¬ (¬ v206 = x4 - x7) → (
                                  (∀ v209 : Int, rg v209 → v209 = totO 3 g3 → (
                                    ((200 ≤ x6 → (
                                      ((¬ v209 = x6 → (
                                        LW m_L_ask d none P 398 [some (.inr (some 1)), some (.inl x1), some (.inl x2), some (.inl x3), some (.inl x4), some (.inl x5), some (.inl x6), some (.inl x7), some (.inl x8), some (.inl x9), some (.inl v2), some (.inl (-5)), some (.inl 1), some (.inl (((x5 + 4) + x1) + 1))] [] g3 (0, 0)
                                        )) ∧ (¬ (¬ v209 = x6) → (
                                        (∀ v214 : Int, rg v214 → v214 = countO 8 v2 g3.1.1 → (
                                          ((v214 = 0 → (
                                            P v2 g3
                                            )) ∧ (¬ (v214 = 0) → (
                                            (∀ v217 : Int, rg v217 → v217 = totO 11 g3 → (
                                              ((¬ v217 = 0 → (
                                                LW m_L_ask d none P 398 [some (.inr (some 1)), some (.inl x1), some (.inl x2), some (.inl x3), some (.inl x4), some (.inl x5), some (.inl x6), some (.inl x7), some (.inl x8), some (.inl x9), some (.inl v2), some (.inl (-5)), some (.inl 1), some (.inl (((x5 + 4) + x1) + 1))] [] g3 (0, 0)
                                                )) ∧ (¬ (¬ v217 = 0) → (
                                                P v2 g3
                                                )))))
                                            )))))
                                        )))
                                      )) ∧ (¬ (200 ≤ x6) → (
                                      (rg (x6 + 1)) ∧
                                      ((¬ v209 = x6 + 1 → (
                                        LW m_L_ask d none P 398 [some (.inr (some 1)), some (.inl x1), some (.inl x2), some (.inl x3), some (.inl x4), some (.inl x5), some (.inl x6), some (.inl x7), some (.inl x8), some (.inl x9), some (.inl v2), some (.inl (-5)), some (.inl 1), some (.inl (((x5 + 4) + x1) + 1))] [] g3 (0, 0)
                                        )) ∧ (¬ (¬ v209 = x6 + 1) → (
                                        (∀ v223 : Int, rg v223 → v223 = countO 8 v2 g3.1.1 → (
                                          ((v223 = 0 → (
                                            P v2 g3
                                            )) ∧ (¬ (v223 = 0) → (
                                            (∀ v226 : Int, rg v226 → v226 = totO 11 g3 → (
                                              ((¬ v226 = 0 → (
                                                LW m_L_ask d none P 398 [some (.inr (some 1)), some (.inl x1), some (.inl x2), some (.inl x3), some (.inl x4), some (.inl x5), some (.inl x6), some (.inl x7), some (.inl x8), some (.inl x9), some (.inl v2), some (.inl (-5)), some (.inl 1), some (.inl (((x5 + 4) + x1) + 1))] [] g3 (0, 0)
                                                )) ∧ (¬ (¬ v226 = 0) → (
                                                P v2 g3
                                                )))))
                                            )))))
                                        )))
                                      )))))
                                  )))))
                              )))))
                          )))
                        )))
                      )))
                    )))
                  )))
                )))
              )) ∧ (¬ (¬ x3 = 0) → (
              ((¬ v2 = 300 → (
                LW m_L_ask d none P 206 [some (.inr (some 1)), some (.inl x1), some (.inl x2), some (.inl x3), some (.inl x4), some (.inl x5), some (.inl x6), some (.inl x7), some (.inl x8), some (.inl x9), some (.inl v2), some (.inl (-5)), none, none] [] g3 (0, 0)
                )) ∧ (¬ (¬ v2 = 300) → (
                (rg (x5 + 4)) ∧
                (rg ((x5 + 4) + x1)) ∧
                (rg (((x5 + 4) + x1) + 2)) ∧
                (∀ v235 : Int, rg v235 → v235 = totO 9 g3 → (
                  ((¬ v235 = ((x5 + 4) + x1) + 2 → (
                    LW m_L_ask d none P 398 [some (.inr (some 1)), some (.inl x1), some (.inl x2), some (.inl x3), some (.inl x4), some (.inl x5), some (.inl x6), some (.inl x7), some (.inl x8), some (.inl x9), some (.inl v2), some (.inl (-5)), some (.inl 1), some (.inl (((x5 + 4) + x1) + 2))] [] g3 (0, 0)
                    )) ∧ (¬ (¬ v235 = ((x5 + 4) + x1) + 2) → (
                    (∀ v237 : Int, rg v237 → v237 = totO 0 g3 → (
                      (rg (x4 - x7)) ∧
                      ((¬ v237 = x4 - x7 → (
                        LW m_L_ask d none P 398 [some (.inr (some 1)), some (.inl x1), some (.inl x2), some (.inl x3), some (.inl x4), some (.inl x5), some (.inl x6), some (.inl x7), some (.inl x8), some (.inl x9), some (.inl v2), some (.inl (-5)), some (.inl 1), some (.inl (((x5 + 4) + x1) + 2))] [] g3 (0, 0)
                        )) ∧ (¬ (¬ v237 = x4 - x7) → (
                        (∀ v240 : Int, rg v240 → v240 = totO 3 g3 → (
                          ((¬ v240 = x6 → (
                            LW m_L_ask d none P 398 [some (.inr (some 1)), some (.inl x1), some (.inl x2), some (.inl x3), some (.inl x4), some (.inl x5), some (.inl x6), some (.inl x7), some (.inl x8), some (.inl x9), some (.inl v2), some (.inl (-5)), some (.inl 1), some (.inl (((x5 + 4) + x1) + 2))] [] g3 (0, 0)
                            )) ∧ (¬ (¬ v240 = x6) → (
                            P v2 g3
                            )))))
                        )))))
                    )))))
                )))
              )))
            )))))))
      )) ∧ (¬ (8 ≤ x8) → (
      ((x3 ≤ 1 → (
        (∀ (v246 : Int) (g247 : Gs), rg v246 → v246 = (askG x1 x2 g).1 → g247 = (askG x1 x2 g).2 → (
          (∀ v248 : Int, rg v248 → v248 = totO 3 g247 → (
            ((¬ v248 = 0 → (
              (∀ v250 : Int, rg v250 → v250 = totO 3 g247 → (
                (rg (v250 - 1)) ∧
                (∀ v252 : Int, rg v252 → v252 = toldO (v250 - 1) g247.1.2.1 → (
                  ((¬ x3 = 0 → (
                    ((¬ x3 = 1 → (
                      (rg (400 + x8)) ∧
                      ((¬ v246 = 400 + x8 → (
                        LW m_L_ask d none P 276 [some (.inr (some 1)), some (.inl x1), some (.inl x2), some (.inl x3), some (.inl x4), some (.inl x5), some (.inl x6), some (.inl x7), some (.inl x8), some (.inl x9), some (.inl v246), some (.inl v252), none, none] [] g247 (0, 0)
                        )) ∧ (¬ (¬ v246 = 400 + x8) → (
                        (rg (x5 + 4)) ∧
                        (rg ((x5 + 4) + x1)) ∧
                        ((¬ x1 = 8 → (
                          (rg (8 - x1)) ∧
                          (rg (((x5 + 4) + x1) + (8 - x1))) ∧
                          (∀ v265 : Int, rg v265 → v265 = totO 9 g247 → (
                            ((¬ v265 = ((x5 + 4) + x1) + (8 - x1) → (
                              LW m_L_ask d none P 398 [some (.inr (some 1)), some (.inl x1), some (.inl x2), some (.inl x3), some (.inl x4), some (.inl x5), some (.inl x6), some (.inl x7), some (.inl x8), some (.inl x9), some (.inl v246), some (.inl v252), some (.inl 1), some (.inl (((x5 + 4) + x1) + (8 - x1)))] [] g247 (0, 0)
                              )) ∧ (¬ (¬ v265 = ((x5 + 4) + x1) + (8 - x1)) → (
                              (∀ v267 : Int, rg v267 → v267 = totO 0 g247 → (
                                (rg (x4 - x7)) ∧
                                ((¬ v267 = x4 - x7 → (
                                  LW m_L_ask d none P 398 [some (.inr (some 1)), some (.inl x1), some (.inl x2), some (.inl x3), some (.inl x4), some (.inl x5), some (.inl x6), some (.inl x7), some (.inl x8), some (.inl x9), some (.inl v246), some (.inl v252), some (.inl 1), some (.inl (((x5 + 4) + x1) + (8 - x1)))] [] g247 (0, 0)
                                  )) ∧ (¬ (¬ v267 = x4 - x7) → (
                                  (∀ v270 : Int, rg v270 → v270 = totO 3 g247 → (
                                    ((¬ v270 = x6 → (
                                      LW m_L_ask d none P 398 [some (.inr (some 1)), some (.inl x1), some (.inl x2), some (.inl x3), some (.inl x4), some (.inl x5), some (.inl x6), some (.inl x7), some (.inl x8), some (.inl x9), some (.inl v246), some (.inl v252), some (.inl 1), some (.inl (((x5 + 4) + x1) + (8 - x1)))] [] g247 (0, 0)
                                      )) ∧ (¬ (¬ v270 = x6) → (
                                      P v246 g247
                                      )))))
                                  )))))
                              )))))
                          )) ∧ (¬ (¬ x1 = 8) → (
                          (rg (((x5 + 4) + x1) + 1)) ∧
                          (∀ v277 : Int, rg v277 → v277 = totO 9 g247 → (
                            ((¬ v277 = ((x5 + 4) + x1) + 1 → (
                              LW m_L_ask d none P 398 [some (.inr (some 1)), some (.inl x1), some (.inl x2), some (.inl x3), some (.inl x4), some (.inl x5), some (.inl x6), some (.inl x7), some (.inl x8), some (.inl x9), some (.inl v246), some (.inl v252), some (.inl 1), some (.inl (((x5 + 4) + x1) + 1))] [] g247 (0, 0)
                              )) ∧ (¬ (¬ v277 = ((x5 + 4) + x1) + 1) → (
                              (∀ v279 : Int, rg v279 → v279 = totO 0 g247 → (
                                (rg (x4 - x7)) ∧
                                ((¬ v279 = x4 - x7 → (
                                  LW m_L_ask d none P 398 [some (.inr (some 1)), some (.inl x1), some (.inl x2), some (.inl x3), some (.inl x4), some (.inl x5), some (.inl x6), some (.inl x7), some (.inl x8), some (.inl x9), some (.inl v246), some (.inl v252), some (.inl 1), some (.inl (((x5 + 4) + x1) + 1))] [] g247 (0, 0)
                                  )) ∧ (¬ (¬ v279 = x4 - x7) → (
                                  (∀ v282 : Int, rg v282 → v282 = totO 3 g247 → (
                                    ((¬ v282 = x6 → (
                                      LW m_L_ask d none P 398 [some (.inr (some 1)), some (.inl x1), some (.inl x2), some (.inl x3), some (.inl x4), some (.inl x5), some (.inl x6), some (.inl x7), some (.inl x8), some (.inl x9), some (.inl v246), some (.inl v252), some (.inl 1), some (.inl (((x5 + 4) + x1) + 1))] [] g247 (0, 0)
                                      )) ∧ (¬ (¬ v282 = x6) → (
                                      P v246 g247
                                      )))))
                                  )))))
                              )))))
                          )))
                        )))
                      )) ∧ (¬ (¬ x3 = 1) → (
                      ((v246 < 0 → (
                        (rg (x5 + 4)) ∧
                        (rg ((x5 + 4) + x1)) ∧
                        ((¬ x1 = 8 → (
                          (rg (8 - x1)) ∧
                          (rg (((x5 + 4) + x1) + (8 - x1))) ∧
                          LW m_L_ask d none P 398 [some (.inr (some 1)), some (.inl x1), some (.inl x2), some (.inl x3), some (.inl x4), some (.inl x5), some (.inl x6), some (.inl x7), some (.inl x8), some (.inl x9), some (.inl v246), some (.inl v252), some (.inl 0), some (.inl (((x5 + 4) + x1) + (8 - x1)))] [] g247 (0, 0)
                          )) ∧ (¬ (¬ x1 = 8) → (
                          (rg (((x5 + 4) + x1) + 1)) ∧
                          LW m_L_ask d none P 398 [some (.inr (some 1)), some (.inl x1), some (.inl x2), some (.inl x3), some (.inl x4), some (.inl x5), some (.inl x6), some (.inl x7), some (.inl x8), some (.inl x9), some (.inl v246), some (.inl v252), some (.inl 0), some (.inl (((x5 + 4) + x1) + 1))] [] g247 (0, 0)
                          )))
                        )) ∧ (¬ (v246 < 0) → (
                        ((256 ≤ v246 → (
                          (rg (x5 + 4)) ∧
                          (rg ((x5 + 4) + x1)) ∧
                          ((¬ x1 = 8 → (
                            (rg (8 - x1)) ∧
                            (rg (((x5 + 4) + x1) + (8 - x1))) ∧
                            LW m_L_ask d none P 398 [some (.inr (some 1)), some (.inl x1), some (.inl x2), some (.inl x3), some (.inl x4), some (.inl x5), some (.inl x6), some (.inl x7), some (.inl x8), some (.inl x9), some (.inl v246), some (.inl v252), some (.inl 0), some (.inl (((x5 + 4) + x1) + (8 - x1)))] [] g247 (0, 0)
                            )) ∧ (¬ (¬ x1 = 8) → (
                            (rg (((x5 + 4) + x1) + 1)) ∧
                            LW m_L_ask d none P 398 [some (.inr (some 1)), some (.inl x1), some (.inl x2), some (.inl x3), some (.inl x4), some (.inl x5), some (.inl x6), some (.inl x7), some (.inl x8), some (.inl x9), some (.inl v246), some (.inl v252), some (.inl 0), some (.inl (((x5 + 4) + x1) + 1))] [] g247 (0, 0)
                            )))
                          )) ∧ (¬ (256 ≤ v246) → (
                          (rg (8 - x1)) ∧
                          ((¬ sr v246 (8 - x1) = x2 → (
                            (rg (x5 + 4)) ∧
                            (rg ((x5 + 4) + x1)) ∧
                            ((¬ x1 = 8 → (
                              (rg (((x5 + 4) + x1) + (8 - x1))) ∧
                              LW m_L_ask d none P 398 [some (.inr (some 1)), some (.inl x1), some (.inl x2), some (.inl x3), some (.inl x4), some (.inl x5), some (.inl x6), some (.inl x7), some (.inl x8), some (.inl x9), some (.inl v246), some (.inl v252), some (.inl 0), some (.inl (((x5 + 4) + x1) + (8 - x1)))] [] g247 (0, 0)
                              )) ∧ (¬ (¬ x1 = 8) → (
                              (rg (((x5 + 4) + x1) + 1)) ∧
                              LW m_L_ask d none P 398 [some (.inr (some 1)), some (.inl x1), some (.inl x2), some (.inl x3), some (.inl x4), some (.inl x5), some (.inl x6), some (.inl x7), some (.inl x8), some (.inl x9), some (.inl v246), some (.inl v252), some (.inl 0), some (.inl (((x5 + 4) + x1) + 1))] [] g247 (0, 0)
                              )))
                            )) ∧ (¬ (¬ sr v246 (8 - x1) = x2) → (
                            ((¬ v252 = v246 → (
                              (rg (x5 + 4)) ∧
                              (rg ((x5 + 4) + x1)) ∧
                              ((¬ x1 = 8 → (
                                (rg (((x5 + 4) + x1) + (8 - x1))) ∧
                                LW m_L_ask d none P 398 [some (.inr (some 1)), some (.inl x1), some (.inl x2), some (.inl x3), some (.inl x4), some (.inl x5), some (.inl x6), some (.inl x7), some (.inl x8), some (.inl x9), some (.inl v246), some (.inl v252), some (.inl 0), some (.inl (((x5 + 4) + x1) + (8 - x1)))] [] g247 (0, 0)
                                )) ∧ (¬ (¬ x1 = 8) → (
                                (rg (((x5 + 4) + x1) + 1)) ∧
                                LW m_L_ask d none P 398 [some (.inr (some 1)), some (.inl x1), some (.inl x2), some (.inl x3), some (.inl x4), some (.inl x5), some (.inl x6), some (.inl x7), some (.inl x8), some (.inl x9), some (.inl v246), some (.inl v252), some (.inl 0), some (.inl (((x5 + 4) + x1) + 1))] [] g247 (0, 0)
                                )))
                              )) ∧ (¬ (¬ v252 = v246) → (
                              (rg (x5 + 4)) ∧
                              (rg ((x5 + 4) + x1)) ∧
                              ((¬ x1 = 8 → (
                                (rg (((x5 + 4) + x1) + (8 - x1))) ∧
                                (∀ v332 : Int, rg v332 → v332 = totO 9 g247 → (
                                  ((¬ v332 = ((x5 + 4) + x1) + (8 - x1) → (
                                    LW m_L_ask d none P 398 [some (.inr (some 1)), some (.inl x1), some (.inl x2), some (.inl x3), some (.inl x4), some (.inl x5), some (.inl x6), some (.inl x7), some (.inl x8), some (.inl x9), some (.inl v246), some (.inl v252), some (.inl 1), some (.inl (((x5 + 4) + x1) + (8 - x1)))] [] g247 (0, 0)
                                    )) ∧ (¬ (¬ v332 = ((x5 + 4) + x1) + (8 - x1)) → (
                                    (∀ v334 : Int, rg v334 → v334 = totO 0 g247 → (
                                      (rg (x4 - x7)) ∧
                                      ((¬ v334 = x4 - x7 → (
                                        LW m_L_ask d none P 398 [some (.inr (some 1)), some (.inl x1), some (.inl x2), some (.inl x3), some (.inl x4), some (.inl x5), some (.inl x6), some (.inl x7), some (.inl x8), some (.inl x9), some (.inl v246), some (.inl v252), some (.inl 1), some (.inl (((x5 + 4) + x1) + (8 - x1)))] [] g247 (0, 0)
                                        )) ∧ (¬ (¬ v334 = x4 - x7) → (
                                        (∀ v337 : Int, rg v337 → v337 = totO 3 g247 → (
                                          ((200 ≤ x6 → (
                                            ((¬ v337 = x6 → (
                                              LW m_L_ask d none P 398 [some (.inr (some 1)), some (.inl x1), some (.inl x2), some (.inl x3), some (.inl x4), some (.inl x5), some (.inl x6), some (.inl x7), some (.inl x8), some (.inl x9), some (.inl v246), some (.inl v252), some (.inl 1), some (.inl (((x5 + 4) + x1) + (8 - x1)))] [] g247 (0, 0)
                                              )) ∧ (¬ (¬ v337 = x6) → (
                                              (∀ v342 : Int, rg v342 → v342 = countO 8 v246 g247.1.1 → (
                                                ((v342 = 0 → (
                                                  P v246 g247
                                                  )) ∧ (¬ (v342 = 0) → (
                                                  (∀ v345 : Int, rg v345 → v345 = totO 11 g247 → (
                                                    ((¬ v345 = 0 → (
                                                      LW m_L_ask d none P 398 [some (.inr (some 1)), some (.inl x1), some (.inl x2), some (.inl x3), some (.inl x4), some (.inl x5), some (.inl x6), some (.inl x7), some (.inl x8), some (.inl x9), some (.inl v246), some (.inl v252), some (.inl 1), some (.inl (((x5 + 4) + x1) + (8 - x1)))] [] g247 (0, 0)
                                                      )) ∧ (¬ (¬ v345 = 0) → (
                                                      P v246 g247
                                                      )))))
                                                  )))))
                                              )))
                                            )) ∧ (¬ (200 ≤ x6) → (
                                            (rg (x6 + 1)) ∧
                                            ((¬ v337 = x6 + 1 → (
                                              LW m_L_ask d none P 398 [some (.inr (some 1)), some (.inl x1), some (.inl x2), some (.inl x3), some (.inl x4), some (.inl x5), some (.inl x6), some (.inl x7), some (.inl x8), some (.inl x9), some (.inl v246), some (.inl v252), some (.inl 1), some (.inl (((x5 + 4) + x1) + (8 - x1)))] [] g247 (0, 0)
                                              )) ∧ (¬ (¬ v337 = x6 + 1) → (
                                              (∀ v351 : Int, rg v351 → v351 = countO 8 v246 g247.1.1 → (
                                                ((v351 = 0 → (
                                                  P v246 g247
                                                  )) ∧ (¬ (v351 = 0) → (
                                                  (∀ v354 : Int, rg v354 → v354 = totO 11 g247 → (
                                                    ((¬ v354 = 0 → (
                                                      LW m_L_ask d none P 398 [some (.inr (some 1)), some (.inl x1), some (.inl x2), some (.inl x3), some (.inl x4), some (.inl x5), some (.inl x6), some (.inl x7), some (.inl x8), some (.inl x9), some (.inl v246), some (.inl v252), some (.inl 1), some (.inl (((x5 + 4) + x1) + (8 - x1)))] [] g247 (0, 0)
                                                      )) ∧ (¬ (¬ v354 = 0) → (
                                                      P v246 g247
                                                      )))))
                                                  )))))
                                              )))
                                            )))))
                                        )))))
                                    )))))
                                )) ∧ (¬ (¬ x1 = 8) → (
                                (rg (((x5 + 4) + x1) + 1)) ∧
                                (∀ v359 : Int, rg v359 → v359 = totO 9 g247 → (
                                  ((¬ v359 = ((x5 + 4) + x1) + 1 → (
                                    LW m_L_ask d none P 398 [some (.inr (some 1)), some (.inl x1), some (.inl x2), some (.inl x3), some (.inl x4), some (.inl x5), some (.inl x6), some (.inl x7), some (.inl x8), some (.inl x9), some (.inl v246), some (.inl v252), some (.inl 1), some (.inl (((x5 + 4) + x1) + 1))] [] g247 (0, 0)
                                    )) ∧ (¬ (¬ v359 = ((x5 + 4) + x1) + 1) → (
                                    (∀ v361 : Int, rg v361 → v361 = totO 0 g247 → (
                                      (rg (x4 - x7)) ∧
                                      ((¬ v361 = x4 - x7 → (
                                        LW m_L_ask d none P 398 [some (.inr (some 1)), some (.inl x1), some (.inl x2), some (.inl x3), some (.inl x4), some (.inl x5), some (.inl x6), some (.inl x7), some (.inl x8), some (.inl x9), some (.inl v246), some (.inl v252), some (.inl 1), some (.inl (((x5 + 4) + x1) + 1))] [] g247 (0, 0)
                                        )) ∧ (¬ (¬ v361 = x4 - x7) → (
                                        (∀ v364 : Int, rg v364 → v364 = totO 3 g247 → (
                                          ((200 ≤ x6 → (
                                            ((¬ v364 = x6 → (
                                              LW m_L_ask d none P 398 [some (.inr (some 1)), some (.inl x1), some (.inl x2), some (.inl x3), some (.inl x4), some (.inl x5), some (.inl x6), some (.inl x7), some (.inl x8), some (.inl x9), some (.inl v246), some (.inl v252), some (.inl 1), some (.inl (((x5 + 4) + x1) + 1))] [] g247 (0, 0)
                                              )) ∧ (¬ (¬ v364 = x6) → (
                                              (∀ v369 : Int, rg v369 → v369 = countO 8 v246 g247.1.1 → (
                                                ((v369 = 0 → (
                                                  P v246 g247
                                                  )) ∧ (¬ (v369 = 0) → (
                                                  (∀ v372 : Int, rg v372 → v372 = totO 11 g247 → (
                                                    ((¬ v372 = 0 → (
                                                      LW m_L_ask d none P 398 [some (.inr (some 1)), some (.inl x1), some (.inl x2), some (.inl x3), some (.inl x4), some (.inl x5), some (.inl x6), some (.inl x7), some (.inl x8), some (.inl x9), some (.inl v246), some (.inl v252), some (.inl 1), some (.inl (((x5 + 4) + x1) + 1))] [] g247 (0, 0)
                                                      )) ∧ (¬ (¬ v372 = 0) → (
                                                      P v246 g247
                                                      )))))
                                                  )))))
                                              )))
                                            )) ∧ (¬ (200 ≤ x6) → (
                                            (rg (x6 + 1)) ∧
                                            ((¬ v364 = x6 + 1 → (
                                              LW m_L_ask d none P 398 [some (.inr (some 1)), some (.inl x1), some (.inl x2), some (.inl x3), some (.inl x4), some (.inl x5), some (.inl x6), some (.inl x7), some (.inl x8), some (.inl x9), some (.inl v246), some (.inl v252), some (.inl 1), some (.inl (((x5 + 4) + x1) + 1))] [] g247 (0, 0)
                                              )) ∧ (¬ (¬ v364 = x6 + 1) → (
                                              (∀ v378 : Int, rg v378 → v378 = countO 8 v246 g247.1.1 → (
                                                ((v378 = 0 → (
                                                  P v246 g247
                                                  )) ∧ (¬ (v378 = 0) → (
                                                  (∀ v381 : Int, rg v381 → v381 = totO 11 g247 → (
                                                    ((¬ v381 = 0 → (
                                                      LW m_L_ask d none P 398 [some (.inr (some 1)), some (.inl x1), some (.inl x2), some (.inl x3), some (.inl x4), some (.inl x5), some (.inl x6), some (.inl x7), some (.inl x8), some (.inl x9), some (.inl v246), some (.inl v252), some (.inl 1), some (.inl (((x5 + 4) + x1) + 1))] [] g247 (0, 0)
                                                      )) ∧ (¬ (¬ v381 = 0) → (
                                                      P v246 g247
                                                      )))))
                                                  )))))
                                              )))
                                            )))))
                                        )))))
                                    )))))
                                )))
                              )))
                            )))
                          )))
                        )))
                      )))
                    )) ∧ (¬ (¬ x3 = 0) → (
                    ((¬ v246 = 300 → (
                      LW m_L_ask d none P 206 [some (.inr (some 1)), some (.inl x1), some (.inl x2), some (.inl x3), some (.inl x4), some (.inl x5), some (.inl x6), some (.inl x7), some (.inl x8), some (.inl x9), some (.inl v246), some (.inl v252), none, none] [] g247 (0, 0)
                      )) ∧ (¬ (¬ v246 = 300) → (
                      (rg (x5 + 4)) ∧
                      (rg ((x5 + 4) + x1)) ∧
                      (rg (((x5 + 4) + x1) + 2)) ∧
                      (∀ v390 : Int, rg v390 → v390 = totO 9 g247 → (
                        ((¬ v390 = ((x5 + 4) + x1) + 2 → (
                          LW m_L_ask d none P 398 [some (.inr (some 1)), some (.inl x1), some (.inl x2), some (.inl x3), some (.inl x4), some (.inl x5), some (.inl x6), some (.inl x7), some (.inl x8), some (.inl x9), some (.inl v246), some (.inl v252), some (.inl 1), some (.inl (((x5 + 4) + x1) + 2))] [] g247 (0, 0)
                          )) ∧ (¬ (¬ v390 = ((x5 + 4) + x1) + 2) → (
                          (∀ v392 : Int, rg v392 → v392 = totO 0 g247 → (
                            (rg (x4 - x7)) ∧
                            ((¬ v392 = x4 - x7 → (
                              LW m_L_ask d none P 398 [some (.inr (some 1)), some (.inl x1), some (.inl x2), some (.inl x3), some (.inl x4), some (.inl x5), some (.inl x6), some (.inl x7), some (.inl x8), some (.inl x9), some (.inl v246), some (.inl v252), some (.inl 1), some (.inl (((x5 + 4) + x1) + 2))] [] g247 (0, 0)
                              )) ∧ (¬ (¬ v392 = x4 - x7) → (
                              (∀ v395 : Int, rg v395 → v395 = totO 3 g247 → (
                                ((¬ v395 = x6 → (
                                  LW m_L_ask d none P 398 [some (.inr (some 1)), some (.inl x1), some (.inl x2), some (.inl x3), some (.inl x4), some (.inl x5), some (.inl x6), some (.inl x7), some (.inl x8), some (.inl x9), some (.inl v246), some (.inl v252), some (.inl 1), some (.inl (((x5 + 4) + x1) + 2))] [] g247 (0, 0)
                                  )) ∧ (¬ (¬ v395 = x6) → (
                                  P v246 g247
                                  )))))
                              )))))
                          )))))
                      )))
                    )))))))
              )) ∧ (¬ (¬ v248 = 0) → (
              ((¬ x3 = 0 → (
                ((¬ x3 = 1 → (
                  (rg (400 + x8)) ∧
                  ((¬ v246 = 400 + x8 → (
                    LW m_L_ask d none P 276 [some (.inr (some 1)), some (.inl x1), some (.inl x2), some (.inl x3), some (.inl x4), some (.inl x5), some (.inl x6), some (.inl x7), some (.inl x8), some (.inl x9), some (.inl v246), some (.inl (-5)), none, none] [] g247 (0, 0)
                    )) ∧ (¬ (¬ v246 = 400 + x8) → (
                    (rg (x5 + 4)) ∧
                    (rg ((x5 + 4) + x1)) ∧
                    ((¬ x1 = 8 → (
                      (rg (8 - x1)) ∧
                      (rg (((x5 + 4) + x1) + (8 - x1))) ∧
                      (∀ v412 : Int, rg v412 → v412 = totO 9 g247 → (
                        ((¬ v412 = ((x5 + 4) + x1) + (8 - x1) → (
                          LW m_L_ask d none P 398 [some (.inr (some 1)), some (.inl x1), some (.inl x2), some (.inl x3), some (.inl x4), some (.inl x5), some (.inl x6), some (.inl x7), some (.inl x8), some (.inl x9), some (.inl v246), some (.inl (-5)), some (.inl 1), some (.inl (((x5 + 4) + x1) + (8 - x1)))] [] g247 (0, 0)
                          )) ∧ (¬ (¬ v412 = ((x5 + 4) + x1) + (8 - x1)) → (
                          (∀ v414 : Int, rg v414 → v414 = totO 0 g247 → (
                            (rg (x4 - x7)) ∧
                            ((¬ v414 = x4 - x7 → (
                              LW m_L_ask d none P 398 [some (.inr (some 1)), some (.inl x1), some (.inl x2), some (.inl x3), some (.inl x4), some (.inl x5), some (.inl x6), some (.inl x7), some (.inl x8), some (.inl x9), some (.inl v246), some (.inl (-5)), some (.inl 1), some (.inl (((x5 + 4) + x1) + (8 - x1)))] [] g247 (0, 0)
                              )) ∧ (¬ (¬ v414 = x4 - x7) → (
                              (∀ v417 : Int, rg v417 → v417 = totO 3 g247 → (
                                ((¬ v417 = x6 → (
                                  LW m_L_ask d none P 398 [some (.inr (some 1)), some (.inl x1), some (.inl x2), some (.inl x3), some (.inl x4), some (.inl x5), some (.inl x6), some (.inl x7), some (.inl x8), some (.inl x9), some (.inl v246), some (.inl (-5)), some (.inl 1), some (.inl (((x5 + 4) + x1) + (8 - x1)))] [] g247 (0, 0)
                                  )) ∧ (¬ (¬ v417 = x6) → (
                                  P v246 g247
                                  )))))
                              )))))
                          )))))
                      )) ∧ (¬ (¬ x1 = 8) → (
                      (rg (((x5 + 4) + x1) + 1)) ∧
                      (∀ v424 : Int, rg v424 → v424 = totO 9 g247 → (
                        ((¬ v424 = ((x5 + 4) + x1) + 1 → (
                          LW m_L_ask d none P 398 [some (.inr (some 1)), some (.inl x1), some (.inl x2), some (.inl x3), some (.inl x4), some (.inl x5), some (.inl x6), some (.inl x7), some (.inl x8), some (.inl x9), some (.inl v246), some (.inl (-5)), some (.inl 1), some (.inl (((x5 + 4) + x1) + 1))] [] g247 (0, 0)
                          )) ∧ (¬ (¬ v424 = ((x5 + 4) + x1) + 1) → (
                          (∀ v426 : Int, rg v426 → v426 = totO 0 g247 → (
                            (rg (x4 - x7)) ∧
                            ((¬ v426 = x4 - x7 → (
                              LW m_L_ask d none P 398 [some (.inr (some 1)), some (.inl x1), some (.inl x2), some (.inl x3), some (.inl x4), some (.inl x5), some (.inl x6), some (.inl x7), some (.inl x8), some (.inl x9), some (.inl v246), some (.inl (-5)), some (.inl 1), some (.inl (((x5 + 4) + x1) + 1))] [] g247 (0, 0)
                              )) ∧ (¬ (¬ v426 = x4 - x7) → (
                              (∀ v429 : Int, rg v429 → v429 = totO 3 g247 → (
                                ((¬ v429 = x6 → (
                                  LW m_L_ask d none P 398 [some (.inr (some 1)), some (.inl x1), some (.inl x2), some (.inl x3), some (.inl x4), some (.inl x5), some (.inl x6), some (.inl x7), some (.inl x8), some (.inl x9), some (.inl v246), some (.inl (-5)), some (.inl 1), some (.inl (((x5 + 4) + x1) + 1))] [] g247 (0, 0)
                                  )) ∧ (¬ (¬ v429 = x6) → (
                                  P v246 g247
                                  )))))
                              )))))
                          )))))
                      )))
                    )))
                  )) ∧ (¬ (¬ x3 = 1) → (
                  ((v246 < 0 → (
                    (rg (x5 + 4)) ∧
                    (rg ((x5 + 4) + x1)) ∧
                    ((¬ x1 = 8 → (
                      (rg (8 - x1)) ∧
                      (rg (((x5 + 4) + x1) + (8 - x1))) ∧
                      LW m_L_ask d none P 398 [some (.inr (some 1)), some (.inl x1), some (.inl x2), some (.inl x3), some (.inl x4), some (.inl x5), some (.inl x6), some (.inl x7), some (.inl x8), some (.inl x9), some (.inl v246), some (.inl (-5)), some (.inl 0), some (.inl (((x5 + 4) + x1) + (8 - x1)))] [] g247 (0, 0)
                      )) ∧ (¬ (¬ x1 = 8) → (
                      (rg (((x5 + 4) + x1) + 1)) ∧
                      LW m_L_ask d none P 398 [some (.inr (some 1)), some (.inl x1), some (.inl x2), some (.inl x3), some (.inl x4), some (.inl x5), some (.inl x6), some (.inl x7), some (.inl x8), some (.inl x9), some (.inl v246), some (.inl (-5)), some (.inl 0), some (.inl (((x5 + 4) + x1) + 1))] [] g247 (0, 0)
                      )))
                    )) ∧ (¬ (v246 < 0) → (
                    ((256 ≤ v246 → (
                      (rg (x5 + 4)) ∧
                      (rg ((x5 + 4) + x1)) ∧
                      ((¬ x1 = 8 → (
                        (rg (8 - x1)) ∧
                        (rg (((x5 + 4) + x1) + (8 - x1))) ∧
                        LW m_L_ask d none P 398 [some (.inr (some 1)), some (.inl x1), some (.inl x2), some (.inl x3), some (.inl x4), some (.inl x5), some (.inl x6), some (.inl x7), some (.inl x8), some (.inl x9), some (.inl v246), some (.inl (-5)), some (.inl 0), some (.inl (((x5 + 4) + x1) + (8 - x1)))] [] g247 (0, 0)
                        )) ∧ (¬ (¬ x1 = 8) → (
                        (rg (((x5 + 4) + x1) + 1)) ∧
                        LW m_L_ask d none P 398 [some (.inr (some 1)), some (.inl x1), some (.inl x2), some (.inl x3), some (.inl x4), some (.inl x5), some (.inl x6), some (.inl x7), some (.inl x8), some (.inl x9), some (.inl v246), some (.inl (-5)), some (.inl 0), some (.inl (((x5 + 4) + x1) + 1))] [] g247 (0, 0)
                        )))
                      )) ∧ (¬ (256 ≤ v246) → (
                      (rg (8 - x1)) ∧
                      ((¬ sr v246 (8 - x1) = x2 → (
                        (rg (x5 + 4)) ∧
                        (rg ((x5 + 4) + x1)) ∧
                        ((¬ x1 = 8 → (
                          (rg (((x5 + 4) + x1) + (8 - x1))) ∧
                          LW m_L_ask d none P 398 [some (.inr (some 1)), some (.inl x1), some (.inl x2), some (.inl x3), some (.inl x4), some (.inl x5), some (.inl x6), some (.inl x7), some (.inl x8), some (.inl x9), some (.inl v246), some (.inl (-5)), some (.inl 0), some (.inl (((x5 + 4) + x1) + (8 - x1)))] [] g247 (0, 0)
                          )) ∧ (¬ (¬ x1 = 8) → (
                          (rg (((x5 + 4) + x1) + 1)) ∧
                          LW m_L_ask d none P 398 [some (.inr (some 1)), some (.inl x1), some (.inl x2), some (.inl x3), some (.inl x4), some (.inl x5), some (.inl x6), some (.inl x7), some (.inl x8), some (.inl x9), some (.inl v246), some (.inl (-5)), some (.inl 0), some (.inl (((x5 + 4) + x1) + 1))] [] g247 (0, 0)
                          )))
                        )) ∧ (¬ (¬ sr v246 (8 - x1) = x2) → (
                        ((¬ -5 = v246 → (
                          (rg (x5 + 4)) ∧
                          (rg ((x5 + 4) + x1)) ∧
                          ((¬ x1 = 8 → (
                            (rg (((x5 + 4) + x1) + (8 - x1))) ∧
                            LW m_L_ask d none P 398 [some (.inr (some 1)), some (.inl x1), some (.inl x2), some (.inl x3), some (.inl x4), some (.inl x5), some (.inl x6), some (.inl x7), some (.inl x8), some (.inl x9), some (.inl v246), some (.inl (-5)), some (.inl 0), some (.inl (((x5 + 4) + x1) + (8 - x1)))] [] g247 (0, 0)
                            )) ∧ (¬ (¬ x1 = 8) → (
                            (rg (((x5 + 4) + x1) + 1)) ∧
                            LW m_L_ask d none P 398 [some (.inr (some 1)), some (.inl x1), some (.inl x2), some (.inl x3), some (.inl x4), some (.inl x5), some (.inl x6), some (.inl x7), some (.inl x8), some (.inl x9), some (.inl v246), some (.inl (-5)), some (.inl 0), some (.inl (((x5 + 4) + x1) + 1))] [] g247 (0, 0)
                            )))
                          )) ∧ (¬ (¬ -5 = v246) → (
                          (rg (x5 + 4)) ∧
                          (rg ((x5 + 4) + x1)) ∧
                          ((¬ x1 = 8 → (
                            (rg (((x5 + 4) + x1) + (8 - x1))) ∧
                            (∀ v479 : Int, rg v479 → v479 = totO 9 g247 → (
                              ((¬ v479 = ((x5 + 4) + x1) + (8 - x1) → (
                                LW m_L_ask d none P 398 [some (.inr (some 1)), some (.inl x1), some (.inl x2), some (.inl x3), some (.inl x4), some (.inl x5), some (.inl x6), some (.inl x7), some (.inl x8), some (.inl x9), some (.inl v246), some (.inl (-5)), some (.inl 1), some (.inl (((x5 + 4) + x1) + (8 - x1)))] [] g247 (0, 0)
                                )) ∧ (¬ (¬ v479 = ((x5 + 4) + x1) + (8 - x1)) → (
                                (∀ v481 : Int, rg v481 → v481 = totO 0 g247 → (
                                  (rg (x4 - x7)) ∧
                                  ((¬ v481 = x4 - x7 → (
                                    LW m_L_ask d none P 398 [some (.inr (some 1)), some (.inl x1), some (.inl x2), some (.inl x3), some (.inl x4), some (.inl x5), some (.inl x6), some (.inl x7), some (.inl x8), some (.inl x9), some (.inl v246), some (.inl (-5)), some (.inl 1), some (.inl (((x5 + 4) + x1) + (8 - x1)))] [] g247 (0, 0)
                                    )) ∧ (¬ (¬ v481 = x4 - x7) → (
                                    (∀ v484 : Int, rg v484 → v484 = totO 3 g247 → (
                                      ((200 ≤ x6 → (
                                        ((¬ v484 = x6 → (
                                          LW m_L_ask d none P 398 [some (.inr (some 1)), some (.inl x1), some (.inl x2), some (.inl x3), some (.inl x4), some (.inl x5), some (.inl x6), some (.inl x7), some (.inl x8), some (.inl x9), some (.inl v246), some (.inl (-5)), some (.inl 1), some (.inl (((x5 + 4) + x1) + (8 - x1)))] [] g247 (0, 0)
                                          )) ∧ (¬ (¬ v484 = x6) → (
                                          (∀ v489 : Int, rg v489 → v489 = countO 8 v246 g247.1.1 → (
                                            ((v489 = 0 → (
                                              P v246 g247
                                              )) ∧ (¬ (v489 = 0) → (
                                              (∀ v492 : Int, rg v492 → v492 = totO 11 g247 → (
                                                ((¬ v492 = 0 → (
                                                  LW m_L_ask d none P 398 [some (.inr (some 1)), some (.inl x1), some (.inl x2), some (.inl x3), some (.inl x4), some (.inl x5), some (.inl x6), some (.inl x7), some (.inl x8), some (.inl x9), some (.inl v246), some (.inl (-5)), some (.inl 1), some (.inl (((x5 + 4) + x1) + (8 - x1)))] [] g247 (0, 0)
                                                  )) ∧ (¬ (¬ v492 = 0) → (
                                                  P v246 g247
                                                  )))))
                                              )))))
                                          )))
                                        )) ∧ (¬ (200 ≤ x6) → (
                                        (rg (x6 + 1)) ∧
                                        ((¬ v484 = x6 + 1 → (
                                          LW m_L_ask d none P 398 [some (.inr (some 1)), some (.inl x1), some (.inl x2), some (.inl x3), some (.inl x4), some (.inl x5), some (.inl x6), some (.inl x7), some (.inl x8), some (.inl x9), some (.inl v246), some (.inl (-5)), some (.inl 1), some (.inl (((x5 + 4) + x1) + (8 - x1)))] [] g247 (0, 0)
                                          )) ∧ (¬ (¬ v484 = x6 + 1) → (
                                          (∀ v498 : Int, rg v498 → v498 = countO 8 v246 g247.1.1 → (
                                            ((v498 = 0 → (
                                              P v246 g247
                                              )) ∧ (¬ (v498 = 0) → (
                                              (∀ v501 : Int, rg v501 → v501 = totO 11 g247 → (
                                                ((¬ v501 = 0 → (
                                                  LW m_L_ask d none P 398 [some (.inr (some 1)), some (.inl x1), some (.inl x2), some (.inl x3), some (.inl x4), some (.inl x5), some (.inl x6), some (.inl x7), some (.inl x8), some (.inl x9), some (.inl v246), some (.inl (-5)), some (.inl 1), some (.inl (((x5 + 4) + x1) + (8 - x1)))] [] g247 (0, 0)
                                                  )) ∧ (¬ (¬ v501 = 0) → (
                                                  P v246 g247
                                                  )))))
                                              )))))
                                          )))
                                        )))))
                                    )))))
                                )))))
                            )) ∧ (¬ (¬ x1 = 8) → (
                            (rg (((x5 + 4) + x1) + 1)) ∧
                            (∀ v506 : Int, rg v506 → v506 = totO 9 g247 → (
                              ((¬ v506 = ((x5 + 4) + x1) + 1 → (
                                LW m_L_ask d none P 398 [some (.inr (some 1)), some (.inl x1), some (.inl x2), some (.inl x3), some (.inl x4), some (.inl x5), some (.inl x6), some (.inl x7), some (.inl x8), some (.inl x9), some (.inl v246), some (.inl (-5)), some (.inl 1), some (.inl (((x5 + 4) + x1) + 1))] [] g247 (0, 0)
                                )) ∧ (¬ (¬ v506 = ((x5 + 4) + x1) + 1) → (
                                (∀ v508 : Int, rg v508 → v508 = totO 0 g247 → (
                                  (rg (x4 - x7)) ∧
                                  ((¬ v508 = x4 - x7 → (
                                    LW m_L_ask d none P 398 [some (.inr (some 1)), some (.inl x1), some (.inl x2), some (.inl x3), some (.inl x4), some (.inl x5), some (.inl x6), some (.inl x7), some (.inl x8), some (.inl x9), some (.inl v246), some (.inl (-5)), some (.inl 1), some (.inl (((x5 + 4) + x1) + 1))] [] g247 (0, 0)
                                    )) ∧ (¬ (¬ v508 = x4 - x7) → (
                                    (∀ v511 : Int, rg v511 → v511 = totO 3 g247 → (
                                      ((200 ≤ x6 → (
                                        ((¬ v511 = x6 → (
                                          LW m_L_ask d none P 398 [some (.inr (some 1)), some (.inl x1), some (.inl x2), some (.inl x3), some (.inl x4), some (.inl x5), some (.inl x6), some (.inl x7), some (.inl x8), some (.inl x9), some (.inl v246), some (.inl (-5)), some (.inl 1), some (.inl (((x5 + 4) + x1) + 1))] [] g247 (0, 0)
                                          )) ∧ (¬ (¬ v511 = x6) → (
                                          (∀ v516 : Int, rg v516 → v516 = countO 8 v246 g247.1.1 → (
                                            ((v516 = 0 → (
                                              P v246 g247
                                              )) ∧ (¬ (v516 = 0) → (
                                              (∀ v519 : Int, rg v519 → v519 = totO 11 g247 → (
                                                ((¬ v519 = 0 → (
                                                  LW m_L_ask d none P 398 [some (.inr (some 1)), some (.inl x1), some (.inl x2), some (.inl x3), some (.inl x4), some (.inl x5), some (.inl x6), some (.inl x7), some (.inl x8), some (.inl x9), some (.inl v246), some (.inl (-5)), some (.inl 1), some (.inl (((x5 + 4) + x1) + 1))] [] g247 (0, 0)
                                                  )) ∧ (¬ (¬ v519 = 0) → (
                                                  P v246 g247
                                                  )))))
                                              )))))
                                          )))
                                        )) ∧ (¬ (200 ≤ x6) → (
                                        (rg (x6 + 1)) ∧
                                        ((¬ v511 = x6 + 1 → (
                                          LW m_L_ask d none P 398 [some (.inr (some 1)), some (.inl x1), some (.inl x2), some (.inl x3), some (.inl x4), some (.inl x5), some (.inl x6), some (.inl x7), some (.inl x8), some (.inl x9), some (.inl v246), some (.inl (-5)), some (.inl 1), some (.inl (((x5 + 4) + x1) + 1))] [] g247 (0, 0)
                                          )) ∧ (¬ (¬ v511 = x6 + 1) → (
                                          (∀ v525 : Int, rg v525 → v525 = countO 8 v246 g247.1.1 → (
                                            ((v525 = 0 → (
                                              P v246 g247
                                              )) ∧ (¬ (v525 = 0) → (
                                              (∀ v528 : Int, rg v528 → v528 = totO 11 g247 → (
                                                ((¬ v528 = 0 → (
                                                  LW m_L_ask d none P 398 [some (.inr (some 1)), some (.inl x1), some (.inl x2), some (.inl x3), some (.inl x4), some (.inl x5), some (.inl x6), some (.inl x7), some (.inl x8), some (.inl x9), some (.inl v246), some (.inl (-5)), some (.inl 1), some (.inl (((x5 + 4) + x1) + 1))] [] g247 (0, 0)
                                                  )) ∧ (¬ (¬ v528 = 0) → (
                                                  P v246 g247
                                                  )))))
                                              )))))
                                          )))
                                        )))))
                                    )))))
                                )))))
                            )))
                          )))
                        )))
                      )))
                    )))
                  )))
                )) ∧ (¬ (¬ x3 = 0) → (
                ((¬ v246 = 300 → (
                  LW m_L_ask d none P 206 [some (.inr (some 1)), some (.inl x1), some (.inl x2), some (.inl x3), some (.inl x4), some (.inl x5), some (.inl x6), some (.inl x7), some (.inl x8), some (.inl x9), some (.inl v246), some (.inl (-5)), none, none] [] g247 (0, 0)
                  )) ∧ (¬ (¬ v246 = 300) → (
                  (rg (x5 + 4)) ∧
                  (rg ((x5 + 4) + x1)) ∧
                  (rg (((x5 + 4) + x1) + 2)) ∧
                  (∀ v537 : Int, rg v537 → v537 = totO 9 g247 → (
                    ((¬ v537 = ((x5 + 4) + x1) + 2 → (
                      LW m_L_ask d none P 398 [some (.inr (some 1)), some (.inl x1), some (.inl x2), some (.inl x3), some (.inl x4), some (.inl x5), some (.inl x6), some (.inl x7), some (.inl x8), some (.inl x9), some (.inl v246), some (.inl (-5)), some (.inl 1), some (.inl (((x5 + 4) + x1) + 2))] [] g247 (0, 0)
                      )) ∧ (¬ (¬ v537 = ((x5 + 4) + x1) + 2) → (
                      (∀ v539 : Int, rg v539 → v539 = totO 0 g247 → (
                        (rg (x4 - x7)) ∧
                        ((¬ v539 = x4 - x7 → (
                          LW m_L_ask d none P 398 [some (.inr (some 1)), some (.inl x1), some (.inl x2), some (.inl x3), some (.inl x4), some (.inl x5), some (.inl x6), some (.inl x7), some (.inl x8), some (.inl x9), some (.inl v246), some (.inl (-5)), some (.inl 1), some (.inl (((x5 + 4) + x1) + 2))] [] g247 (0, 0)
                          )) ∧ (¬ (¬ v539 = x4 - x7) → (
                          (∀ v542 : Int, rg v542 → v542 = totO 3 g247 → (
                            ((¬ v542 = x6 → (
                              LW m_L_ask d none P 398 [some (.inr (some 1)), some (.inl x1), some (.inl x2), some (.inl x3), some (.inl x4), some (.inl x5), some (.inl x6), some (.inl x7), some (.inl x8), some (.inl x9), some (.inl v246), some (.inl (-5)), some (.inl 1), some (.inl (((x5 + 4) + x1) + 2))] [] g247 (0, 0)
                              )) ∧ (¬ (¬ v542 = x6) → (
                              P v246 g247
                              )))))
                          )))))
                      )))))
                  )))
                )))
              )))))))
        )) ∧ (¬ (x3 ≤ 1) → (
        (rg (x8 + 1)) ∧
        (rg (2 * x9)) ∧
        (∀ v549 : Int, rg v549 → v549 = countO (x8 + 1) (2 * x9) g.1.1 → (
          ((v549 = 0 → (
            (∀ v551 : Int, rg v551 → v551 = countO (x8 + 1) (2 * x9) g.1.1 → (
              ((¬ v551 = 0 → (
                (rg ((2 * x9) + 0)) ∧
                LW m_L_ask d none P 79 [some (.inr (some 1)), some (.inl x1), some (.inl x2), some (.inl x3), some (.inl x4), some (.inl x5), some (.inl x6), some (.inl x7), some (.inl (x8 + 1)), some (.inl ((2 * x9) + 0)), none, none, none, none] [] g (0, 0)
                )) ∧ (¬ (¬ v551 = 0) → (
                (rg ((2 * x9) + 1)) ∧
                LW m_L_ask d none P 79 [some (.inr (some 1)), some (.inl x1), some (.inl x2), some (.inl x3), some (.inl x4), some (.inl x5), some (.inl x6), some (.inl x7), some (.inl (x8 + 1)), some (.inl ((2 * x9) + 1)), none, none, none, none] [] g (0, 0)
                )))))
            )) ∧ (¬ (v549 = 0) → (
            (rg ((2 * x9) + 1)) ∧
            (∀ v556 : Int, rg v556 → v556 = countO (x8 + 1) ((2 * x9) + 1) g.1.1 → (
              ((¬ v556 = 0 → (
                (∀ (v558 : Int) (g559 : Gs), rg v558 → v558 = (askG x1 x2 g).1 → g559 = (askG x1 x2 g).2 → (
                  (∀ v560 : Int, rg v560 → v560 = totO 3 g559 → (
                    ((¬ v560 = 0 → (
                      (∀ v562 : Int, rg v562 → v562 = totO 3 g559 → (
                        (rg (v562 - 1)) ∧
                        (∀ v564 : Int, rg v564 → v564 = toldO (v562 - 1) g559.1.2.1 → (
                          (rg (400 + x8)) ∧
                          ((¬ v558 = 400 + x8 → (
                            LW m_L_ask d none P 276 [some (.inr (some 1)), some (.inl x1), some (.inl x2), some (.inl x3), some (.inl x4), some (.inl x5), some (.inl x6), some (.inl x7), some (.inl x8), some (.inl x9), some (.inl v558), some (.inl v564), none, none] [] g559 (0, 0)
                            )) ∧ (¬ (¬ v558 = 400 + x8) → (
                            (rg (x5 + 4)) ∧
                            (rg ((x5 + 4) + x1)) ∧
                            ((¬ x1 = 8 → (
                              (rg (8 - x1)) ∧
                              (rg (((x5 + 4) + x1) + (8 - x1))) ∧
                              (∀ v577 : Int, rg v577 → v577 = totO 9 g559 → (
                                ((¬ v577 = ((x5 + 4) + x1) + (8 - x1) → (
                                  LW m_L_ask d none P 398 [some (.inr (some 1)), some (.inl x1), some (.inl x2), some (.inl x3), some (.inl x4), some (.inl x5), some (.inl x6), some (.inl x7), some (.inl x8), some (.inl x9), some (.inl v558), some (.inl v564), some (.inl 1), some (.inl (((x5 + 4) + x1) + (8 - x1)))] [] g559 (0, 0)
                                  )) ∧ (¬ (¬ v577 = ((x5 + 4) + x1) + (8 - x1)) → (
                                  (∀ v579 : Int, rg v579 → v579 = totO 0 g559 → (
                                    (rg (x4 - x7)) ∧
                                    ((¬ v579 = x4 - x7 → (
                                      LW m_L_ask d none P 398 [some (.inr (some 1)), some (.inl x1), some (.inl x2), some (.inl x3), some (.inl x4), some (.inl x5), some (.inl x6), some (.inl x7), some (.inl x8), some (.inl x9), some (.inl v558), some (.inl v564), some (.inl 1), some (.inl (((x5 + 4) + x1) + (8 - x1)))] [] g559 (0, 0)
                                      )) ∧ (¬ (¬ v579 = x4 - x7) → (
                                      (∀ v582 : Int, rg v582 → v582 = totO 3 g559 → (
                                        ((¬ v582 = x6 → (
                                          LW m_L_ask d none P 398 [some (.inr (some 1)), some (.inl x1), some (.inl x2), some (.inl x3), some (.inl x4), some (.inl x5), some (.inl x6), some (.inl x7), some (.inl x8), some (.inl x9), some (.inl v558), some (.inl v564), some (.inl 1), some (.inl (((x5 + 4) + x1) + (8 - x1)))] [] g559 (0, 0)
                                          )) ∧ (¬ (¬ v582 = x6) → (
                                          P v558 g559
                                          )))))
                                      )))))
                                  )))))
                              )) ∧ (¬ (¬ x1 = 8) → (
                              (rg (((x5 + 4) + x1) + 1)) ∧
                              (∀ v589 : Int, rg v589 → v589 = totO 9 g559 → (
                                ((¬ v589 = ((x5 + 4) + x1) + 1 → (
                                  LW m_L_ask d none P 398 [some (.inr (some 1)), some (.inl x1), some (.inl x2), some (.inl x3), some (.inl x4), some (.inl x5), some (.inl x6), some (.inl x7), some (.inl x8), some (.inl x9), some (.inl v558), some (.inl v564), some (.inl 1), some (.inl (((x5 + 4) + x1) + 1))] [] g559 (0, 0)
                                  )) ∧ (¬ (¬ v589 = ((x5 + 4) + x1) + 1) → (
                                  (∀ v591 : Int, rg v591 → v591 = totO 0 g559 → (
                                    (rg (x4 - x7)) ∧
                                    ((¬ v591 = x4 - x7 → (
                                      LW m_L_ask d none P 398 [some (.inr (some 1)), some (.inl x1), some (.inl x2), some (.inl x3), some (.inl x4), some (.inl x5), some (.inl x6), some (.inl x7), some (.inl x8), some (.inl x9), some (.inl v558), some (.inl v564), some (.inl 1), some (.inl (((x5 + 4) + x1) + 1))] [] g559 (0, 0)
                                      )) ∧ (¬ (¬ v591 = x4 - x7) → (
                                      (∀ v594 : Int, rg v594 → v594 = totO 3 g559 → (
                                        ((¬ v594 = x6 → (
                                          LW m_L_ask d none P 398 [some (.inr (some 1)), some (.inl x1), some (.inl x2), some (.inl x3), some (.inl x4), some (.inl x5), some (.inl x6), some (.inl x7), some (.inl x8), some (.inl x9), some (.inl v558), some (.inl v564), some (.inl 1), some (.inl (((x5 + 4) + x1) + 1))] [] g559 (0, 0)
                                          )) ∧ (¬ (¬ v594 = x6) → (
                                          P v558 g559
                                          )))))
                                      )))))
                                  )))))
                              )))
                            )))))))
                      )) ∧ (¬ (¬ v560 = 0) → (
                      (rg (400 + x8)) ∧
                      ((¬ v558 = 400 + x8 → (
                        LW m_L_ask d none P 276 [some (.inr (some 1)), some (.inl x1), some (.inl x2), some (.inl x3), some (.inl x4), some (.inl x5), some (.inl x6), some (.inl x7), some (.inl x8), some (.inl x9), some (.inl v558), some (.inl (-5)), none, none] [] g559 (0, 0)
                        )) ∧ (¬ (¬ v558 = 400 + x8) → (
                        (rg (x5 + 4)) ∧
                        (rg ((x5 + 4) + x1)) ∧
                        ((¬ x1 = 8 → (
                          (rg (8 - x1)) ∧
                          (rg (((x5 + 4) + x1) + (8 - x1))) ∧
                          (∀ v611 : Int, rg v611 → v611 = totO 9 g559 → (
                            ((¬ v611 = ((x5 + 4) + x1) + (8 - x1) → (
                              LW m_L_ask d none P 398 [some (.inr (some 1)), some (.inl x1), some (.inl x2), some (.inl x3), some (.inl x4), some (.inl x5), some (.inl x6), some (.inl x7), some (.inl x8), some (.inl x9), some (.inl v558), some (.inl (-5)), some (.inl 1), some (.inl (((x5 + 4) + x1) + (8 - x1)))] [] g559 (0, 0)
                              )) ∧ (¬ (¬ v611 = ((x5 + 4) + x1) + (8 - x1)) → (
                              (∀ v613 : Int, rg v613 → v613 = totO 0 g559 → (
                                (rg (x4 - x7)) ∧
                                ((¬ v613 = x4 - x7 → (
                                  LW m_L_ask d none P 398 [some (.inr (some 1)), some (.inl x1), some (.inl x2), some (.inl x3), some (.inl x4), some (.inl x5), some (.inl x6), some (.inl x7), some (.inl x8), some (.inl x9), some (.inl v558), some (.inl (-5)), some (.inl 1), some (.inl (((x5 + 4) + x1) + (8 - x1)))] [] g559 (0, 0)
                                  )) ∧ (¬ (¬ v613 = x4 - x7) → (
                                  (∀ v616 : Int, rg v616 → v616 = totO 3 g559 → (
                                    ((¬ v616 = x6 → (
                                      LW m_L_ask d none P 398 [some (.inr (some 1)), some (.inl x1), some (.inl x2), some (.inl x3), some (.inl x4), some (.inl x5), some (.inl x6), some (.inl x7), some (.inl x8), some (.inl x9), some (.inl v558), some (.inl (-5)), some (.inl 1), some (.inl (((x5 + 4) + x1) + (8 - x1)))] [] g559 (0, 0)
                                      )) ∧ (¬ (¬ v616 = x6) → (
                                      P v558 g559
                                      )))))
                                  )))))
                              )))))
                          )) ∧ (¬ (¬ x1 = 8) → (
                          (rg (((x5 + 4) + x1) + 1)) ∧
                          (∀ v623 : Int, rg v623 → v623 = totO 9 g559 → (
                            ((¬ v623 = ((x5 + 4) + x1) + 1 → (
                              LW m_L_ask d none P 398 [some (.inr (some 1)), some (.inl x1), some (.inl x2), some (.inl x3), some (.inl x4), some (.inl x5), some (.inl x6), some (.inl x7), some (.inl x8), some (.inl x9), some (.inl v558), some (.inl (-5)), some (.inl 1), some (.inl (((x5 + 4) + x1) + 1))] [] g559 (0, 0)
                              )) ∧ (¬ (¬ v623 = ((x5 + 4) + x1) + 1) → (
                              (∀ v625 : Int, rg v625 → v625 = totO 0 g559 → (
                                (rg (x4 - x7)) ∧
                                ((¬ v625 = x4 - x7 → (
                                  LW m_L_ask d none P 398 [some (.inr (some 1)), some (.inl x1), some (.inl x2), some (.inl x3), some (.inl x4), some (.inl x5), some (.inl x6), some (.inl x7), some (.inl x8), some (.inl x9), some (.inl v558), some (.inl (-5)), some (.inl 1), some (.inl (((x5 + 4) + x1) + 1))] [] g559 (0, 0)
                                  )) ∧ (¬ (¬ v625 = x4 - x7) → (
                                  (∀ v628 : Int, rg v628 → v628 = totO 3 g559 → (
                                    ((¬ v628 = x6 → (
                                      LW m_L_ask d none P 398 [some (.inr (some 1)), some (.inl x1), some (.inl x2), some (.inl x3), some (.inl x4), some (.inl x5), some (.inl x6), some (.inl x7), some (.inl x8), some (.inl x9), some (.inl v558), some (.inl (-5)), some (.inl 1), some (.inl (((x5 + 4) + x1) + 1))] [] g559 (0, 0)
                                      )) ∧ (¬ (¬ v628 = x6) → (
                                      P v558 g559
                                      )))))
                                  )))))
                              )))))
                          )))
                        )))
                      )))))))
                )) ∧ (¬ (¬ v556 = 0) → (
                (∀ v633 : Int, rg v633 → v633 = countO (x8 + 1) (2 * x9) g.1.1 → (
                  ((¬ v633 = 0 → (
                    (rg ((2 * x9) + 0)) ∧
                    LW m_L_ask d none P 79 [some (.inr (some 1)), some (.inl x1), some (.inl x2), some (.inl x3), some (.inl x4), some (.inl x5), some (.inl x6), some (.inl x7), some (.inl (x8 + 1)), some (.inl ((2 * x9) + 0)), none, none, none, none] [] g (0, 0)
                    )) ∧ (¬ (¬ v633 = 0) → (
                    LW m_L_ask d none P 79 [some (.inr (some 1)), some (.inl x1), some (.inl x2), some (.inl x3), some (.inl x4), some (.inl x5), some (.inl x6), some (.inl x7), some (.inl (x8 + 1)), some (.inl ((2 * x9) + 1)), none, none, none, none] [] g (0, 0)
                    )))))
                )))))
            )))))
        )))
      )))) :
  LW m_L_ask d none P 79 [some (.inr (some 1)), some (.inl x1), some (.inl x2), some (.inl x3), some (.inl x4), some (.inl x5), some (.inl x6), some (.inl x7), some (.inl x8), some (.inl x9), none, none, none, none] [] g (0, 0) := by
  refine lw_iload (pc := 79) dL_ask_79 rfl ?_
  refine lw_bipush (pc := 81) dL_ask_81 ?_
  refine lw_icmp_ge (pc := 83) (tgt := 156) dL_ask_83 (by decide) (fun c1 => ?_) (fun c1 => ?_)
  · replace G := G.1 c1
    refine lw_aload_n (pc := 156) dL_ask_156 rfl ?_
    refine lw_iload_n (pc := 157) dL_ask_157 rfl ?_
    refine lw_iload_n (pc := 158) dL_ask_158 rfl ?_
    refine lw_invV (pc := 159) (md' := m_X6_ask) (as := [(.inl x1), (.inl x2)]) dL_ask_159 mo_X6_ask im_X6_ask se_X6_ask ml_L_62 rfl rfl (by omega) (Nat.le_of_ble_eq_true rfl) rfl ⟨Nat.le_of_ble_eq_true rfl, Nat.le_of_ble_eq_true rfl⟩ (lm_mono (lm_rg (kc_ask (by omega))) (fun v2 g3 e => ?_))
    obtain ⟨r_v2, e_v2, f_v2⟩ := e
    replace G := G v2 g3 r_v2 e_v2 f_v2
    refine lw_istore (pc := 162) (ls' := [some (.inr (some 1)), some (.inl x1), some (.inl x2), some (.inl x3), some (.inl x4), some (.inl x5), some (.inl x6), some (.inl x7), some (.inl x8), some (.inl x9), some (.inl v2), none, none, none]) dL_ask_162 (Nat.le_of_ble_eq_true rfl) rfl ?_
    refine lw_aload_n (pc := 164) dL_ask_164 rfl ?_
    refine lw_iconst (pc := 165) dL_ask_165 ?_
    refine lw_invV (pc := 166) (md' := m_X6_total) (as := [(.inl 3)]) dL_ask_166 mo_X6_total im_X6_total se_X6_total ml_L_13 rfl rfl (by omega) (Nat.le_of_ble_eq_true rfl) rfl ⟨Nat.le_of_ble_eq_true rfl, Nat.le_of_ble_eq_true rfl⟩ (lm_mono (lm_rg (kq_total (by omega))) (fun v4 g' e => ?_))
    obtain ⟨r_v4, e_v4, rfl⟩ := e
    replace G := G v4 r_v4 e_v4
    refine lw_if_ne (pc := 169) (tgt := 177) dL_ask_169 (by decide) (fun c5 => ?_) (fun c5 => ?_)
    · replace G := G.1 c5
      refine lw_aload_n (pc := 177) dL_ask_177 rfl ?_
      refine lw_aload_n (pc := 178) dL_ask_178 rfl ?_
      refine lw_iconst (pc := 179) dL_ask_179 ?_
      refine lw_invV (pc := 180) (md' := m_X6_total) (as := [(.inl 3)]) dL_ask_180 mo_X6_total im_X6_total se_X6_total ml_L_13 rfl rfl (by omega) (Nat.le_of_ble_eq_true rfl) rfl ⟨Nat.le_of_ble_eq_true rfl, Nat.le_of_ble_eq_true rfl⟩ (lm_mono (lm_rg (kq_total (by omega))) (fun v6 g' e => ?_))
      obtain ⟨r_v6, e_v6, rfl⟩ := e
      replace G := G v6 r_v6 e_v6
      refine lw_iconst (pc := 183) dL_ask_183 ?_
      obtain ⟨s7, G⟩ := G
      refine lw_isub (pc := 184) (v := v6 - 1) dL_ask_184 s7 rfl ?_
      refine lw_invV (pc := 185) (md' := m_X6_told) (as := [(.inl (v6 - 1))]) dL_ask_185 mo_X6_told im_X6_told se_X6_told ml_L_26 rfl rfl (by omega) (Nat.le_of_ble_eq_true rfl) rfl ⟨Nat.le_of_ble_eq_true rfl, Nat.le_of_ble_eq_true rfl⟩ (lm_mono (lm_rg (kq_told (by omega))) (fun v8 g' e => ?_))
      obtain ⟨r_v8, e_v8, rfl⟩ := e
      replace G := G v8 r_v8 e_v8
      refine lw_istore (pc := 188) (ls' := [some (.inr (some 1)), some (.inl x1), some (.inl x2), some (.inl x3), some (.inl x4), some (.inl x5), some (.inl x6), some (.inl x7), some (.inl x8), some (.inl x9), some (.inl v2), some (.inl v8), none, none]) dL_ask_188 (Nat.le_of_ble_eq_true rfl) rfl ?_
      refine lw_iload_n (pc := 190) dL_ask_190 rfl ?_
      refine lw_if_ne (pc := 191) (tgt := 210) dL_ask_191 (by decide) (fun c9 => ?_) (fun c9 => ?_)
      · replace G := G.1 c9
        refine lw_iload_n (pc := 210) dL_ask_210 rfl ?_
        refine lw_iconst (pc := 211) dL_ask_211 ?_
        refine lw_icmp_ne (pc := 212) (tgt := 254) dL_ask_212 (by decide) (fun c10 => ?_) (fun c10 => ?_)
        · replace G := G.1 c10
          refine lw_iload (pc := 254) dL_ask_254 rfl ?_
          refine lw_sipush (pc := 256) dL_ask_256 ?_
          refine lw_iload (pc := 259) dL_ask_259 rfl ?_
          obtain ⟨s11, G⟩ := G
          refine lw_iadd (pc := 261) (v := 400 + x8) dL_ask_261 s11 rfl ?_
          refine lw_icmp_ne (pc := 262) (tgt := 276) dL_ask_262 (by decide) (fun c12 => ?_) (fun c12 => ?_)
          · replace G := G.1 c12
            exact G
          · replace G := G.2 c12
            refine lw_iload (pc := 265) dL_ask_265 rfl ?_
            refine lw_bipush (pc := 267) dL_ask_267 ?_
            refine lw_icmp_ge (pc := 269) (tgt := 276) dL_ask_269 (by decide) (fun _ => ?_) (fun h => absurd (by omega) h)
            exact G
        · replace G := G.2 c10
          refine lw_iload (pc := 215) dL_ask_215 rfl ?_
          refine lw_if_lt (pc := 217) (tgt := 250) dL_ask_217 (by decide) (fun c14 => ?_) (fun c14 => ?_)
          · replace G := G.1 c14
            refine lw_iconst (pc := 250) dL_ask_250 ?_
            refine lw_goto (pc := 251) (tgt := 277) dL_ask_251 (by decide) ?_
            refine lw_istore (pc := 277) (ls' := [some (.inr (some 1)), some (.inl x1), some (.inl x2), some (.inl x3), some (.inl x4), some (.inl x5), some (.inl x6), some (.inl x7), some (.inl x8), some (.inl x9), some (.inl v2), some (.inl v8), some (.inl 0), none]) dL_ask_277 (Nat.le_of_ble_eq_true rfl) rfl ?_
            refine lw_iload (pc := 279) dL_ask_279 rfl ?_
            refine lw_iconst (pc := 281) dL_ask_281 ?_
            obtain ⟨s15, G⟩ := G
            refine lw_iadd (pc := 282) (v := x5 + 4) dL_ask_282 s15 rfl ?_
            refine lw_iload_n (pc := 283) dL_ask_283 rfl ?_
            obtain ⟨s16, G⟩ := G
            refine lw_iadd (pc := 284) (v := (x5 + 4) + x1) dL_ask_284 s16 rfl ?_
            refine lw_iload_n (pc := 285) dL_ask_285 rfl ?_
            refine lw_if_ne (pc := 286) (tgt := 293) dL_ask_286 (by decide) (fun _ => ?_) (fun h => absurd (by omega) h)
            refine lw_iload_n (pc := 293) dL_ask_293 rfl ?_
            refine lw_bipush (pc := 294) dL_ask_294 ?_
            refine lw_icmp_ne (pc := 296) (tgt := 303) dL_ask_296 (by decide) (fun c18 => ?_) (fun c18 => ?_)
            · replace G := G.1 c18
              refine lw_bipush (pc := 303) dL_ask_303 ?_
              refine lw_iload_n (pc := 305) dL_ask_305 rfl ?_
              obtain ⟨s19, G⟩ := G
              refine lw_isub (pc := 306) (v := 8 - x1) dL_ask_306 s19 rfl ?_
              obtain ⟨s20, G⟩ := G
              refine lw_iadd (pc := 307) (v := ((x5 + 4) + x1) + (8 - x1)) dL_ask_307 s20 rfl ?_
              refine lw_istore (pc := 308) (ls' := [some (.inr (some 1)), some (.inl x1), some (.inl x2), some (.inl x3), some (.inl x4), some (.inl x5), some (.inl x6), some (.inl x7), some (.inl x8), some (.inl x9), some (.inl v2), some (.inl v8), some (.inl 0), some (.inl (((x5 + 4) + x1) + (8 - x1)))]) dL_ask_308 (Nat.le_of_ble_eq_true rfl) rfl ?_
              refine lw_iload (pc := 310) dL_ask_310 rfl ?_
              refine lw_if_eq (pc := 312) (tgt := 398) dL_ask_312 (by decide) (fun _ => ?_) (fun h => absurd (by decide) h)
              exact G
            · replace G := G.2 c18
              refine lw_iconst (pc := 299) dL_ask_299 ?_
              refine lw_goto (pc := 300) (tgt := 307) dL_ask_300 (by decide) ?_
              obtain ⟨s22, G⟩ := G
              refine lw_iadd (pc := 307) (v := ((x5 + 4) + x1) + 1) dL_ask_307 s22 rfl ?_
              refine lw_istore (pc := 308) (ls' := [some (.inr (some 1)), some (.inl x1), some (.inl x2), some (.inl x3), some (.inl x4), some (.inl x5), some (.inl x6), some (.inl x7), some (.inl x8), some (.inl x9), some (.inl v2), some (.inl v8), some (.inl 0), some (.inl (((x5 + 4) + x1) + 1))]) dL_ask_308 (Nat.le_of_ble_eq_true rfl) rfl ?_
              refine lw_iload (pc := 310) dL_ask_310 rfl ?_
              refine lw_if_eq (pc := 312) (tgt := 398) dL_ask_312 (by decide) (fun _ => ?_) (fun h => absurd (by decide) h)
              exact G
          · replace G := G.2 c14
            refine lw_iload (pc := 220) dL_ask_220 rfl ?_
            refine lw_sipush (pc := 222) dL_ask_222 ?_
            refine lw_icmp_ge (pc := 225) (tgt := 250) dL_ask_225 (by decide) (fun c24 => ?_) (fun c24 => ?_)
            · replace G := G.1 c24
              refine lw_iconst (pc := 250) dL_ask_250 ?_
              refine lw_goto (pc := 251) (tgt := 277) dL_ask_251 (by decide) ?_
              refine lw_istore (pc := 277) (ls' := [some (.inr (some 1)), some (.inl x1), some (.inl x2), some (.inl x3), some (.inl x4), some (.inl x5), some (.inl x6), some (.inl x7), some (.inl x8), some (.inl x9), some (.inl v2), some (.inl v8), some (.inl 0), none]) dL_ask_277 (Nat.le_of_ble_eq_true rfl) rfl ?_
              refine lw_iload (pc := 279) dL_ask_279 rfl ?_
              refine lw_iconst (pc := 281) dL_ask_281 ?_
              obtain ⟨s25, G⟩ := G
              refine lw_iadd (pc := 282) (v := x5 + 4) dL_ask_282 s25 rfl ?_
              refine lw_iload_n (pc := 283) dL_ask_283 rfl ?_
              obtain ⟨s26, G⟩ := G
              refine lw_iadd (pc := 284) (v := (x5 + 4) + x1) dL_ask_284 s26 rfl ?_
              refine lw_iload_n (pc := 285) dL_ask_285 rfl ?_
              refine lw_if_ne (pc := 286) (tgt := 293) dL_ask_286 (by decide) (fun _ => ?_) (fun h => absurd (by omega) h)
              refine lw_iload_n (pc := 293) dL_ask_293 rfl ?_
              refine lw_bipush (pc := 294) dL_ask_294 ?_
              refine lw_icmp_ne (pc := 296) (tgt := 303) dL_ask_296 (by decide) (fun c28 => ?_) (fun c28 => ?_)
              · replace G := G.1 c28
                refine lw_bipush (pc := 303) dL_ask_303 ?_
                refine lw_iload_n (pc := 305) dL_ask_305 rfl ?_
                obtain ⟨s29, G⟩ := G
                refine lw_isub (pc := 306) (v := 8 - x1) dL_ask_306 s29 rfl ?_
                obtain ⟨s30, G⟩ := G
                refine lw_iadd (pc := 307) (v := ((x5 + 4) + x1) + (8 - x1)) dL_ask_307 s30 rfl ?_
                refine lw_istore (pc := 308) (ls' := [some (.inr (some 1)), some (.inl x1), some (.inl x2), some (.inl x3), some (.inl x4), some (.inl x5), some (.inl x6), some (.inl x7), some (.inl x8), some (.inl x9), some (.inl v2), some (.inl v8), some (.inl 0), some (.inl (((x5 + 4) + x1) + (8 - x1)))]) dL_ask_308 (Nat.le_of_ble_eq_true rfl) rfl ?_
                refine lw_iload (pc := 310) dL_ask_310 rfl ?_
                refine lw_if_eq (pc := 312) (tgt := 398) dL_ask_312 (by decide) (fun _ => ?_) (fun h => absurd (by decide) h)
                exact G
              · replace G := G.2 c28
                refine lw_iconst (pc := 299) dL_ask_299 ?_
                refine lw_goto (pc := 300) (tgt := 307) dL_ask_300 (by decide) ?_
                obtain ⟨s32, G⟩ := G
                refine lw_iadd (pc := 307) (v := ((x5 + 4) + x1) + 1) dL_ask_307 s32 rfl ?_
                refine lw_istore (pc := 308) (ls' := [some (.inr (some 1)), some (.inl x1), some (.inl x2), some (.inl x3), some (.inl x4), some (.inl x5), some (.inl x6), some (.inl x7), some (.inl x8), some (.inl x9), some (.inl v2), some (.inl v8), some (.inl 0), some (.inl (((x5 + 4) + x1) + 1))]) dL_ask_308 (Nat.le_of_ble_eq_true rfl) rfl ?_
                refine lw_iload (pc := 310) dL_ask_310 rfl ?_
                refine lw_if_eq (pc := 312) (tgt := 398) dL_ask_312 (by decide) (fun _ => ?_) (fun h => absurd (by decide) h)
                exact G
            · replace G := G.2 c24
              refine lw_iload (pc := 228) dL_ask_228 rfl ?_
              refine lw_bipush (pc := 230) dL_ask_230 ?_
              refine lw_iload_n (pc := 232) dL_ask_232 rfl ?_
              obtain ⟨s34, G⟩ := G
              refine lw_isub (pc := 233) (v := 8 - x1) dL_ask_233 s34 rfl ?_
              refine lw_ishr (pc := 234) dL_ask_234 ?_
              refine lw_iload_n (pc := 235) dL_ask_235 rfl ?_
              refine lw_icmp_ne (pc := 236) (tgt := 250) dL_ask_236 (by decide) (fun c35 => ?_) (fun c35 => ?_)
              · replace G := G.1 c35
                refine lw_iconst (pc := 250) dL_ask_250 ?_
                refine lw_goto (pc := 251) (tgt := 277) dL_ask_251 (by decide) ?_
                refine lw_istore (pc := 277) (ls' := [some (.inr (some 1)), some (.inl x1), some (.inl x2), some (.inl x3), some (.inl x4), some (.inl x5), some (.inl x6), some (.inl x7), some (.inl x8), some (.inl x9), some (.inl v2), some (.inl v8), some (.inl 0), none]) dL_ask_277 (Nat.le_of_ble_eq_true rfl) rfl ?_
                refine lw_iload (pc := 279) dL_ask_279 rfl ?_
                refine lw_iconst (pc := 281) dL_ask_281 ?_
                obtain ⟨s36, G⟩ := G
                refine lw_iadd (pc := 282) (v := x5 + 4) dL_ask_282 s36 rfl ?_
                refine lw_iload_n (pc := 283) dL_ask_283 rfl ?_
                obtain ⟨s37, G⟩ := G
                refine lw_iadd (pc := 284) (v := (x5 + 4) + x1) dL_ask_284 s37 rfl ?_
                refine lw_iload_n (pc := 285) dL_ask_285 rfl ?_
                refine lw_if_ne (pc := 286) (tgt := 293) dL_ask_286 (by decide) (fun _ => ?_) (fun h => absurd (by omega) h)
                refine lw_iload_n (pc := 293) dL_ask_293 rfl ?_
                refine lw_bipush (pc := 294) dL_ask_294 ?_
                refine lw_icmp_ne (pc := 296) (tgt := 303) dL_ask_296 (by decide) (fun c39 => ?_) (fun c39 => ?_)
                · replace G := G.1 c39
                  refine lw_bipush (pc := 303) dL_ask_303 ?_
                  refine lw_iload_n (pc := 305) dL_ask_305 rfl ?_
                  refine lw_isub (pc := 306) (v := 8 - x1) dL_ask_306 s34 rfl ?_
                  obtain ⟨s40, G⟩ := G
                  refine lw_iadd (pc := 307) (v := ((x5 + 4) + x1) + (8 - x1)) dL_ask_307 s40 rfl ?_
                  refine lw_istore (pc := 308) (ls' := [some (.inr (some 1)), some (.inl x1), some (.inl x2), some (.inl x3), some (.inl x4), some (.inl x5), some (.inl x6), some (.inl x7), some (.inl x8), some (.inl x9), some (.inl v2), some (.inl v8), some (.inl 0), some (.inl (((x5 + 4) + x1) + (8 - x1)))]) dL_ask_308 (Nat.le_of_ble_eq_true rfl) rfl ?_
                  refine lw_iload (pc := 310) dL_ask_310 rfl ?_
                  refine lw_if_eq (pc := 312) (tgt := 398) dL_ask_312 (by decide) (fun _ => ?_) (fun h => absurd (by decide) h)
                  exact G
                · replace G := G.2 c39
                  refine lw_iconst (pc := 299) dL_ask_299 ?_
                  refine lw_goto (pc := 300) (tgt := 307) dL_ask_300 (by decide) ?_
                  obtain ⟨s42, G⟩ := G
                  refine lw_iadd (pc := 307) (v := ((x5 + 4) + x1) + 1) dL_ask_307 s42 rfl ?_
                  refine lw_istore (pc := 308) (ls' := [some (.inr (some 1)), some (.inl x1), some (.inl x2), some (.inl x3), some (.inl x4), some (.inl x5), some (.inl x6), some (.inl x7), some (.inl x8), some (.inl x9), some (.inl v2), some (.inl v8), some (.inl 0), some (.inl (((x5 + 4) + x1) + 1))]) dL_ask_308 (Nat.le_of_ble_eq_true rfl) rfl ?_
                  refine lw_iload (pc := 310) dL_ask_310 rfl ?_
                  refine lw_if_eq (pc := 312) (tgt := 398) dL_ask_312 (by decide) (fun _ => ?_) (fun h => absurd (by decide) h)
                  exact G
              · replace G := G.2 c35
                refine lw_iload (pc := 239) dL_ask_239 rfl ?_
                refine lw_iload (pc := 241) dL_ask_241 rfl ?_
                refine lw_icmp_ne (pc := 243) (tgt := 250) dL_ask_243 (by decide) (fun c44 => ?_) (fun c44 => ?_)
                · replace G := G.1 c44
                  refine lw_iconst (pc := 250) dL_ask_250 ?_
                  refine lw_goto (pc := 251) (tgt := 277) dL_ask_251 (by decide) ?_
                  refine lw_istore (pc := 277) (ls' := [some (.inr (some 1)), some (.inl x1), some (.inl x2), some (.inl x3), some (.inl x4), some (.inl x5), some (.inl x6), some (.inl x7), some (.inl x8), some (.inl x9), some (.inl v2), some (.inl v8), some (.inl 0), none]) dL_ask_277 (Nat.le_of_ble_eq_true rfl) rfl ?_
                  refine lw_iload (pc := 279) dL_ask_279 rfl ?_
                  refine lw_iconst (pc := 281) dL_ask_281 ?_
                  obtain ⟨s45, G⟩ := G
                  refine lw_iadd (pc := 282) (v := x5 + 4) dL_ask_282 s45 rfl ?_
                  refine lw_iload_n (pc := 283) dL_ask_283 rfl ?_
                  obtain ⟨s46, G⟩ := G
                  refine lw_iadd (pc := 284) (v := (x5 + 4) + x1) dL_ask_284 s46 rfl ?_
                  refine lw_iload_n (pc := 285) dL_ask_285 rfl ?_
                  refine lw_if_ne (pc := 286) (tgt := 293) dL_ask_286 (by decide) (fun _ => ?_) (fun h => absurd (by omega) h)
                  refine lw_iload_n (pc := 293) dL_ask_293 rfl ?_
                  refine lw_bipush (pc := 294) dL_ask_294 ?_
                  refine lw_icmp_ne (pc := 296) (tgt := 303) dL_ask_296 (by decide) (fun c48 => ?_) (fun c48 => ?_)
                  · replace G := G.1 c48
                    refine lw_bipush (pc := 303) dL_ask_303 ?_
                    refine lw_iload_n (pc := 305) dL_ask_305 rfl ?_
                    refine lw_isub (pc := 306) (v := 8 - x1) dL_ask_306 s34 rfl ?_
                    obtain ⟨s49, G⟩ := G
                    refine lw_iadd (pc := 307) (v := ((x5 + 4) + x1) + (8 - x1)) dL_ask_307 s49 rfl ?_
                    refine lw_istore (pc := 308) (ls' := [some (.inr (some 1)), some (.inl x1), some (.inl x2), some (.inl x3), some (.inl x4), some (.inl x5), some (.inl x6), some (.inl x7), some (.inl x8), some (.inl x9), some (.inl v2), some (.inl v8), some (.inl 0), some (.inl (((x5 + 4) + x1) + (8 - x1)))]) dL_ask_308 (Nat.le_of_ble_eq_true rfl) rfl ?_
                    refine lw_iload (pc := 310) dL_ask_310 rfl ?_
                    refine lw_if_eq (pc := 312) (tgt := 398) dL_ask_312 (by decide) (fun _ => ?_) (fun h => absurd (by decide) h)
                    exact G
                  · replace G := G.2 c48
                    refine lw_iconst (pc := 299) dL_ask_299 ?_
                    refine lw_goto (pc := 300) (tgt := 307) dL_ask_300 (by decide) ?_
                    obtain ⟨s51, G⟩ := G
                    refine lw_iadd (pc := 307) (v := ((x5 + 4) + x1) + 1) dL_ask_307 s51 rfl ?_
                    refine lw_istore (pc := 308) (ls' := [some (.inr (some 1)), some (.inl x1), some (.inl x2), some (.inl x3), some (.inl x4), some (.inl x5), some (.inl x6), some (.inl x7), some (.inl x8), some (.inl x9), some (.inl v2), some (.inl v8), some (.inl 0), some (.inl (((x5 + 4) + x1) + 1))]) dL_ask_308 (Nat.le_of_ble_eq_true rfl) rfl ?_
                    refine lw_iload (pc := 310) dL_ask_310 rfl ?_
                    refine lw_if_eq (pc := 312) (tgt := 398) dL_ask_312 (by decide) (fun _ => ?_) (fun h => absurd (by decide) h)
                    exact G
                · replace G := G.2 c44
                  refine lw_iconst (pc := 246) dL_ask_246 ?_
                  refine lw_goto (pc := 247) (tgt := 277) dL_ask_247 (by decide) ?_
                  refine lw_istore (pc := 277) (ls' := [some (.inr (some 1)), some (.inl x1), some (.inl x2), some (.inl x3), some (.inl x4), some (.inl x5), some (.inl x6), some (.inl x7), some (.inl x8), some (.inl x9), some (.inl v2), some (.inl v8), some (.inl 1), none]) dL_ask_277 (Nat.le_of_ble_eq_true rfl) rfl ?_
                  refine lw_iload (pc := 279) dL_ask_279 rfl ?_
                  refine lw_iconst (pc := 281) dL_ask_281 ?_
                  obtain ⟨s53, G⟩ := G
                  refine lw_iadd (pc := 282) (v := x5 + 4) dL_ask_282 s53 rfl ?_
                  refine lw_iload_n (pc := 283) dL_ask_283 rfl ?_
                  obtain ⟨s54, G⟩ := G
                  refine lw_iadd (pc := 284) (v := (x5 + 4) + x1) dL_ask_284 s54 rfl ?_
                  refine lw_iload_n (pc := 285) dL_ask_285 rfl ?_
                  refine lw_if_ne (pc := 286) (tgt := 293) dL_ask_286 (by decide) (fun _ => ?_) (fun h => absurd (by omega) h)
                  refine lw_iload_n (pc := 293) dL_ask_293 rfl ?_
                  refine lw_bipush (pc := 294) dL_ask_294 ?_
                  refine lw_icmp_ne (pc := 296) (tgt := 303) dL_ask_296 (by decide) (fun c56 => ?_) (fun c56 => ?_)
                  · replace G := G.1 c56
                    refine lw_bipush (pc := 303) dL_ask_303 ?_
                    refine lw_iload_n (pc := 305) dL_ask_305 rfl ?_
                    refine lw_isub (pc := 306) (v := 8 - x1) dL_ask_306 s34 rfl ?_
                    obtain ⟨s57, G⟩ := G
                    refine lw_iadd (pc := 307) (v := ((x5 + 4) + x1) + (8 - x1)) dL_ask_307 s57 rfl ?_
                    refine lw_istore (pc := 308) (ls' := [some (.inr (some 1)), some (.inl x1), some (.inl x2), some (.inl x3), some (.inl x4), some (.inl x5), some (.inl x6), some (.inl x7), some (.inl x8), some (.inl x9), some (.inl v2), some (.inl v8), some (.inl 1), some (.inl (((x5 + 4) + x1) + (8 - x1)))]) dL_ask_308 (Nat.le_of_ble_eq_true rfl) rfl ?_
                    refine lw_iload (pc := 310) dL_ask_310 rfl ?_
                    refine lw_if_eq (pc := 312) (tgt := 398) dL_ask_312 (by decide) (fun h => absurd h (by decide)) (fun _ => ?_)
                    refine lw_aload_n (pc := 315) dL_ask_315 rfl ?_
                    refine lw_bipush (pc := 316) dL_ask_316 ?_
                    refine lw_invV (pc := 318) (md' := m_X6_total) (as := [(.inl 9)]) dL_ask_318 mo_X6_total im_X6_total se_X6_total ml_L_13 rfl rfl (by omega) (Nat.le_of_ble_eq_true rfl) rfl ⟨Nat.le_of_ble_eq_true rfl, Nat.le_of_ble_eq_true rfl⟩ (lm_mono (lm_rg (kq_total (by omega))) (fun v59 g' e => ?_))
                    obtain ⟨r_v59, e_v59, rfl⟩ := e
                    replace G := G v59 r_v59 e_v59
                    refine lw_iload (pc := 321) dL_ask_321 rfl ?_
                    refine lw_icmp_ne (pc := 323) (tgt := 398) dL_ask_323 (by decide) (fun c60 => ?_) (fun c60 => ?_)
                    · replace G := G.1 c60
                      exact G
                    · replace G := G.2 c60
                      refine lw_aload_n (pc := 326) dL_ask_326 rfl ?_
                      refine lw_iconst (pc := 327) dL_ask_327 ?_
                      refine lw_invV (pc := 328) (md' := m_X6_total) (as := [(.inl 0)]) dL_ask_328 mo_X6_total im_X6_total se_X6_total ml_L_13 rfl rfl (by omega) (Nat.le_of_ble_eq_true rfl) rfl ⟨Nat.le_of_ble_eq_true rfl, Nat.le_of_ble_eq_true rfl⟩ (lm_mono (lm_rg (kq_total (by omega))) (fun v61 g' e => ?_))
                      obtain ⟨r_v61, e_v61, rfl⟩ := e
                      replace G := G v61 r_v61 e_v61
                      refine lw_iload (pc := 331) dL_ask_331 rfl ?_
                      refine lw_iload (pc := 333) dL_ask_333 rfl ?_
                      obtain ⟨s62, G⟩ := G
                      refine lw_isub (pc := 335) (v := x4 - x7) dL_ask_335 s62 rfl ?_
                      refine lw_icmp_ne (pc := 336) (tgt := 398) dL_ask_336 (by decide) (fun c63 => ?_) (fun c63 => ?_)
                      · replace G := G.1 c63
                        exact G
                      · replace G := G.2 c63
                        refine lw_aload_n (pc := 339) dL_ask_339 rfl ?_
                        refine lw_iconst (pc := 340) dL_ask_340 ?_
                        refine lw_invV (pc := 341) (md' := m_X6_total) (as := [(.inl 3)]) dL_ask_341 mo_X6_total im_X6_total se_X6_total ml_L_13 rfl rfl (by omega) (Nat.le_of_ble_eq_true rfl) rfl ⟨Nat.le_of_ble_eq_true rfl, Nat.le_of_ble_eq_true rfl⟩ (lm_mono (lm_rg (kq_total (by omega))) (fun v64 g' e => ?_))
                        obtain ⟨r_v64, e_v64, rfl⟩ := e
                        replace G := G v64 r_v64 e_v64
                        refine lw_iload_n (pc := 344) dL_ask_344 rfl ?_
                        refine lw_iconst (pc := 345) dL_ask_345 ?_
                        refine lw_icmp_ne (pc := 346) (tgt := 364) dL_ask_346 (by decide) (fun h => absurd h (by omega)) (fun _ => ?_)
                        refine lw_iload (pc := 349) dL_ask_349 rfl ?_
                        refine lw_sipush (pc := 351) dL_ask_351 ?_
                        refine lw_icmp_ge (pc := 354) (tgt := 364) dL_ask_354 (by decide) (fun c66 => ?_) (fun c66 => ?_)
                        · replace G := G.1 c66
                          refine lw_iload (pc := 364) dL_ask_364 rfl ?_
                          refine lw_icmp_ne (pc := 366) (tgt := 398) dL_ask_366 (by decide) (fun c67 => ?_) (fun c67 => ?_)
                          · replace G := G.1 c67
                            exact G
                          · replace G := G.2 c67
                            refine lw_iload_n (pc := 369) dL_ask_369 rfl ?_
                            refine lw_iconst (pc := 370) dL_ask_370 ?_
                            refine lw_icmp_ne (pc := 371) (tgt := 394) dL_ask_371 (by decide) (fun h => absurd h (by omega)) (fun _ => ?_)
                            refine lw_aload_n (pc := 374) dL_ask_374 rfl ?_
                            refine lw_bipush (pc := 375) dL_ask_375 ?_
                            refine lw_iload (pc := 377) dL_ask_377 rfl ?_
                            refine lw_invV (pc := 379) (md' := m_X6_count) (as := [(.inl 8), (.inl v2)]) dL_ask_379 mo_X6_count im_X6_count se_X6_count ml_L_29 rfl rfl (by omega) (Nat.le_of_ble_eq_true rfl) rfl ⟨Nat.le_of_ble_eq_true rfl, Nat.le_of_ble_eq_true rfl⟩ (lm_mono (lm_rg (kq_count (by omega))) (fun v69 g' e => ?_))
                            obtain ⟨r_v69, e_v69, rfl⟩ := e
                            replace G := G v69 r_v69 e_v69
                            refine lw_if_eq (pc := 382) (tgt := 394) dL_ask_382 (by decide) (fun c70 => ?_) (fun c70 => ?_)
                            · replace G := G.1 c70
                              refine lw_iconst (pc := 394) dL_ask_394 ?_
                              refine lw_goto (pc := 395) (tgt := 399) dL_ask_395 (by decide) ?_
                              refine lw_istore (pc := 399) (ls' := [some (.inr (some 1)), some (.inl x1), some (.inl x2), some (.inl x3), some (.inl x4), some (.inl x5), some (.inl x6), some (.inl x7), some (.inl x8), some (.inl x9), some (.inl v2), some (.inl v8), some (.inl 1), some (.inl (((x5 + 4) + x1) + (8 - x1)))]) dL_ask_399 (Nat.le_of_ble_eq_true rfl) rfl ?_
                              refine lw_iload (pc := 401) dL_ask_401 rfl ?_
                              refine lw_if_eq (pc := 403) (tgt := 411) dL_ask_403 (by decide) (fun h => absurd h (by decide)) (fun _ => ?_)
                              refine lw_iload (pc := 406) dL_ask_406 rfl ?_
                              refine lw_goto (pc := 408) (tgt := 413) dL_ask_408 (by decide) ?_
                              refine lw_ireturn (pc := 413) dL_ask_413 rfl ?_ (Nat.le_of_ble_eq_true rfl) (Nat.le_of_ble_eq_true rfl)
                              exact G
                            · replace G := G.2 c70
                              refine lw_aload_n (pc := 385) dL_ask_385 rfl ?_
                              refine lw_bipush (pc := 386) dL_ask_386 ?_
                              refine lw_invV (pc := 388) (md' := m_X6_total) (as := [(.inl 11)]) dL_ask_388 mo_X6_total im_X6_total se_X6_total ml_L_13 rfl rfl (by omega) (Nat.le_of_ble_eq_true rfl) rfl ⟨Nat.le_of_ble_eq_true rfl, Nat.le_of_ble_eq_true rfl⟩ (lm_mono (lm_rg (kq_total (by omega))) (fun v72 g' e => ?_))
                              obtain ⟨r_v72, e_v72, rfl⟩ := e
                              replace G := G v72 r_v72 e_v72
                              refine lw_if_ne (pc := 391) (tgt := 398) dL_ask_391 (by decide) (fun c73 => ?_) (fun c73 => ?_)
                              · replace G := G.1 c73
                                exact G
                              · replace G := G.2 c73
                                refine lw_iconst (pc := 394) dL_ask_394 ?_
                                refine lw_goto (pc := 395) (tgt := 399) dL_ask_395 (by decide) ?_
                                refine lw_istore (pc := 399) (ls' := [some (.inr (some 1)), some (.inl x1), some (.inl x2), some (.inl x3), some (.inl x4), some (.inl x5), some (.inl x6), some (.inl x7), some (.inl x8), some (.inl x9), some (.inl v2), some (.inl v8), some (.inl 1), some (.inl (((x5 + 4) + x1) + (8 - x1)))]) dL_ask_399 (Nat.le_of_ble_eq_true rfl) rfl ?_
                                refine lw_iload (pc := 401) dL_ask_401 rfl ?_
                                refine lw_if_eq (pc := 403) (tgt := 411) dL_ask_403 (by decide) (fun h => absurd h (by decide)) (fun _ => ?_)
                                refine lw_iload (pc := 406) dL_ask_406 rfl ?_
                                refine lw_goto (pc := 408) (tgt := 413) dL_ask_408 (by decide) ?_
                                refine lw_ireturn (pc := 413) dL_ask_413 rfl ?_ (Nat.le_of_ble_eq_true rfl) (Nat.le_of_ble_eq_true rfl)
                                exact G
                        · replace G := G.2 c66
                          refine lw_iload (pc := 357) dL_ask_357 rfl ?_
                          refine lw_iconst (pc := 359) dL_ask_359 ?_
                          obtain ⟨s75, G⟩ := G
                          refine lw_iadd (pc := 360) (v := x6 + 1) dL_ask_360 s75 rfl ?_
                          refine lw_goto (pc := 361) (tgt := 366) dL_ask_361 (by decide) ?_
                          refine lw_icmp_ne (pc := 366) (tgt := 398) dL_ask_366 (by decide) (fun c76 => ?_) (fun c76 => ?_)
                          · replace G := G.1 c76
                            exact G
                          · replace G := G.2 c76
                            refine lw_iload_n (pc := 369) dL_ask_369 rfl ?_
                            refine lw_iconst (pc := 370) dL_ask_370 ?_
                            refine lw_icmp_ne (pc := 371) (tgt := 394) dL_ask_371 (by decide) (fun h => absurd h (by omega)) (fun _ => ?_)
                            refine lw_aload_n (pc := 374) dL_ask_374 rfl ?_
                            refine lw_bipush (pc := 375) dL_ask_375 ?_
                            refine lw_iload (pc := 377) dL_ask_377 rfl ?_
                            refine lw_invV (pc := 379) (md' := m_X6_count) (as := [(.inl 8), (.inl v2)]) dL_ask_379 mo_X6_count im_X6_count se_X6_count ml_L_29 rfl rfl (by omega) (Nat.le_of_ble_eq_true rfl) rfl ⟨Nat.le_of_ble_eq_true rfl, Nat.le_of_ble_eq_true rfl⟩ (lm_mono (lm_rg (kq_count (by omega))) (fun v78 g' e => ?_))
                            obtain ⟨r_v78, e_v78, rfl⟩ := e
                            replace G := G v78 r_v78 e_v78
                            refine lw_if_eq (pc := 382) (tgt := 394) dL_ask_382 (by decide) (fun c79 => ?_) (fun c79 => ?_)
                            · replace G := G.1 c79
                              refine lw_iconst (pc := 394) dL_ask_394 ?_
                              refine lw_goto (pc := 395) (tgt := 399) dL_ask_395 (by decide) ?_
                              refine lw_istore (pc := 399) (ls' := [some (.inr (some 1)), some (.inl x1), some (.inl x2), some (.inl x3), some (.inl x4), some (.inl x5), some (.inl x6), some (.inl x7), some (.inl x8), some (.inl x9), some (.inl v2), some (.inl v8), some (.inl 1), some (.inl (((x5 + 4) + x1) + (8 - x1)))]) dL_ask_399 (Nat.le_of_ble_eq_true rfl) rfl ?_
                              refine lw_iload (pc := 401) dL_ask_401 rfl ?_
                              refine lw_if_eq (pc := 403) (tgt := 411) dL_ask_403 (by decide) (fun h => absurd h (by decide)) (fun _ => ?_)
                              refine lw_iload (pc := 406) dL_ask_406 rfl ?_
                              refine lw_goto (pc := 408) (tgt := 413) dL_ask_408 (by decide) ?_
                              refine lw_ireturn (pc := 413) dL_ask_413 rfl ?_ (Nat.le_of_ble_eq_true rfl) (Nat.le_of_ble_eq_true rfl)
                              exact G
                            · replace G := G.2 c79
                              refine lw_aload_n (pc := 385) dL_ask_385 rfl ?_
                              refine lw_bipush (pc := 386) dL_ask_386 ?_
                              refine lw_invV (pc := 388) (md' := m_X6_total) (as := [(.inl 11)]) dL_ask_388 mo_X6_total im_X6_total se_X6_total ml_L_13 rfl rfl (by omega) (Nat.le_of_ble_eq_true rfl) rfl ⟨Nat.le_of_ble_eq_true rfl, Nat.le_of_ble_eq_true rfl⟩ (lm_mono (lm_rg (kq_total (by omega))) (fun v81 g' e => ?_))
                              obtain ⟨r_v81, e_v81, rfl⟩ := e
                              replace G := G v81 r_v81 e_v81
                              refine lw_if_ne (pc := 391) (tgt := 398) dL_ask_391 (by decide) (fun c82 => ?_) (fun c82 => ?_)
                              · replace G := G.1 c82
                                exact G
                              · replace G := G.2 c82
                                refine lw_iconst (pc := 394) dL_ask_394 ?_
                                refine lw_goto (pc := 395) (tgt := 399) dL_ask_395 (by decide) ?_
                                refine lw_istore (pc := 399) (ls' := [some (.inr (some 1)), some (.inl x1), some (.inl x2), some (.inl x3), some (.inl x4), some (.inl x5), some (.inl x6), some (.inl x7), some (.inl x8), some (.inl x9), some (.inl v2), some (.inl v8), some (.inl 1), some (.inl (((x5 + 4) + x1) + (8 - x1)))]) dL_ask_399 (Nat.le_of_ble_eq_true rfl) rfl ?_
                                refine lw_iload (pc := 401) dL_ask_401 rfl ?_
                                refine lw_if_eq (pc := 403) (tgt := 411) dL_ask_403 (by decide) (fun h => absurd h (by decide)) (fun _ => ?_)
                                refine lw_iload (pc := 406) dL_ask_406 rfl ?_
                                refine lw_goto (pc := 408) (tgt := 413) dL_ask_408 (by decide) ?_
                                refine lw_ireturn (pc := 413) dL_ask_413 rfl ?_ (Nat.le_of_ble_eq_true rfl) (Nat.le_of_ble_eq_true rfl)
                                exact G
                  · replace G := G.2 c56
                    refine lw_iconst (pc := 299) dL_ask_299 ?_
                    refine lw_goto (pc := 300) (tgt := 307) dL_ask_300 (by decide) ?_
                    obtain ⟨s84, G⟩ := G
                    refine lw_iadd (pc := 307) (v := ((x5 + 4) + x1) + 1) dL_ask_307 s84 rfl ?_
                    refine lw_istore (pc := 308) (ls' := [some (.inr (some 1)), some (.inl x1), some (.inl x2), some (.inl x3), some (.inl x4), some (.inl x5), some (.inl x6), some (.inl x7), some (.inl x8), some (.inl x9), some (.inl v2), some (.inl v8), some (.inl 1), some (.inl (((x5 + 4) + x1) + 1))]) dL_ask_308 (Nat.le_of_ble_eq_true rfl) rfl ?_
                    refine lw_iload (pc := 310) dL_ask_310 rfl ?_
                    refine lw_if_eq (pc := 312) (tgt := 398) dL_ask_312 (by decide) (fun h => absurd h (by decide)) (fun _ => ?_)
                    refine lw_aload_n (pc := 315) dL_ask_315 rfl ?_
                    refine lw_bipush (pc := 316) dL_ask_316 ?_
                    refine lw_invV (pc := 318) (md' := m_X6_total) (as := [(.inl 9)]) dL_ask_318 mo_X6_total im_X6_total se_X6_total ml_L_13 rfl rfl (by omega) (Nat.le_of_ble_eq_true rfl) rfl ⟨Nat.le_of_ble_eq_true rfl, Nat.le_of_ble_eq_true rfl⟩ (lm_mono (lm_rg (kq_total (by omega))) (fun v86 g' e => ?_))
                    obtain ⟨r_v86, e_v86, rfl⟩ := e
                    replace G := G v86 r_v86 e_v86
                    refine lw_iload (pc := 321) dL_ask_321 rfl ?_
                    refine lw_icmp_ne (pc := 323) (tgt := 398) dL_ask_323 (by decide) (fun c87 => ?_) (fun c87 => ?_)
                    · replace G := G.1 c87
                      exact G
                    · replace G := G.2 c87
                      refine lw_aload_n (pc := 326) dL_ask_326 rfl ?_
                      refine lw_iconst (pc := 327) dL_ask_327 ?_
                      refine lw_invV (pc := 328) (md' := m_X6_total) (as := [(.inl 0)]) dL_ask_328 mo_X6_total im_X6_total se_X6_total ml_L_13 rfl rfl (by omega) (Nat.le_of_ble_eq_true rfl) rfl ⟨Nat.le_of_ble_eq_true rfl, Nat.le_of_ble_eq_true rfl⟩ (lm_mono (lm_rg (kq_total (by omega))) (fun v88 g' e => ?_))
                      obtain ⟨r_v88, e_v88, rfl⟩ := e
                      replace G := G v88 r_v88 e_v88
                      refine lw_iload (pc := 331) dL_ask_331 rfl ?_
                      refine lw_iload (pc := 333) dL_ask_333 rfl ?_
                      obtain ⟨s89, G⟩ := G
                      refine lw_isub (pc := 335) (v := x4 - x7) dL_ask_335 s89 rfl ?_
                      refine lw_icmp_ne (pc := 336) (tgt := 398) dL_ask_336 (by decide) (fun c90 => ?_) (fun c90 => ?_)
                      · replace G := G.1 c90
                        exact G
                      · replace G := G.2 c90
                        refine lw_aload_n (pc := 339) dL_ask_339 rfl ?_
                        refine lw_iconst (pc := 340) dL_ask_340 ?_
                        refine lw_invV (pc := 341) (md' := m_X6_total) (as := [(.inl 3)]) dL_ask_341 mo_X6_total im_X6_total se_X6_total ml_L_13 rfl rfl (by omega) (Nat.le_of_ble_eq_true rfl) rfl ⟨Nat.le_of_ble_eq_true rfl, Nat.le_of_ble_eq_true rfl⟩ (lm_mono (lm_rg (kq_total (by omega))) (fun v91 g' e => ?_))
                        obtain ⟨r_v91, e_v91, rfl⟩ := e
                        replace G := G v91 r_v91 e_v91
                        refine lw_iload_n (pc := 344) dL_ask_344 rfl ?_
                        refine lw_iconst (pc := 345) dL_ask_345 ?_
                        refine lw_icmp_ne (pc := 346) (tgt := 364) dL_ask_346 (by decide) (fun h => absurd h (by omega)) (fun _ => ?_)
                        refine lw_iload (pc := 349) dL_ask_349 rfl ?_
                        refine lw_sipush (pc := 351) dL_ask_351 ?_
                        refine lw_icmp_ge (pc := 354) (tgt := 364) dL_ask_354 (by decide) (fun c93 => ?_) (fun c93 => ?_)
                        · replace G := G.1 c93
                          refine lw_iload (pc := 364) dL_ask_364 rfl ?_
                          refine lw_icmp_ne (pc := 366) (tgt := 398) dL_ask_366 (by decide) (fun c94 => ?_) (fun c94 => ?_)
                          · replace G := G.1 c94
                            exact G
                          · replace G := G.2 c94
                            refine lw_iload_n (pc := 369) dL_ask_369 rfl ?_
                            refine lw_iconst (pc := 370) dL_ask_370 ?_
                            refine lw_icmp_ne (pc := 371) (tgt := 394) dL_ask_371 (by decide) (fun h => absurd h (by omega)) (fun _ => ?_)
                            refine lw_aload_n (pc := 374) dL_ask_374 rfl ?_
                            refine lw_bipush (pc := 375) dL_ask_375 ?_
                            refine lw_iload (pc := 377) dL_ask_377 rfl ?_
                            refine lw_invV (pc := 379) (md' := m_X6_count) (as := [(.inl 8), (.inl v2)]) dL_ask_379 mo_X6_count im_X6_count se_X6_count ml_L_29 rfl rfl (by omega) (Nat.le_of_ble_eq_true rfl) rfl ⟨Nat.le_of_ble_eq_true rfl, Nat.le_of_ble_eq_true rfl⟩ (lm_mono (lm_rg (kq_count (by omega))) (fun v96 g' e => ?_))
                            obtain ⟨r_v96, e_v96, rfl⟩ := e
                            replace G := G v96 r_v96 e_v96
                            refine lw_if_eq (pc := 382) (tgt := 394) dL_ask_382 (by decide) (fun c97 => ?_) (fun c97 => ?_)
                            · replace G := G.1 c97
                              refine lw_iconst (pc := 394) dL_ask_394 ?_
                              refine lw_goto (pc := 395) (tgt := 399) dL_ask_395 (by decide) ?_
                              refine lw_istore (pc := 399) (ls' := [some (.inr (some 1)), some (.inl x1), some (.inl x2), some (.inl x3), some (.inl x4), some (.inl x5), some (.inl x6), some (.inl x7), some (.inl x8), some (.inl x9), some (.inl v2), some (.inl v8), some (.inl 1), some (.inl (((x5 + 4) + x1) + 1))]) dL_ask_399 (Nat.le_of_ble_eq_true rfl) rfl ?_
                              refine lw_iload (pc := 401) dL_ask_401 rfl ?_
                              refine lw_if_eq (pc := 403) (tgt := 411) dL_ask_403 (by decide) (fun h => absurd h (by decide)) (fun _ => ?_)
                              refine lw_iload (pc := 406) dL_ask_406 rfl ?_
                              refine lw_goto (pc := 408) (tgt := 413) dL_ask_408 (by decide) ?_
                              refine lw_ireturn (pc := 413) dL_ask_413 rfl ?_ (Nat.le_of_ble_eq_true rfl) (Nat.le_of_ble_eq_true rfl)
                              exact G
                            · replace G := G.2 c97
                              refine lw_aload_n (pc := 385) dL_ask_385 rfl ?_
                              refine lw_bipush (pc := 386) dL_ask_386 ?_
                              refine lw_invV (pc := 388) (md' := m_X6_total) (as := [(.inl 11)]) dL_ask_388 mo_X6_total im_X6_total se_X6_total ml_L_13 rfl rfl (by omega) (Nat.le_of_ble_eq_true rfl) rfl ⟨Nat.le_of_ble_eq_true rfl, Nat.le_of_ble_eq_true rfl⟩ (lm_mono (lm_rg (kq_total (by omega))) (fun v99 g' e => ?_))
                              obtain ⟨r_v99, e_v99, rfl⟩ := e
                              replace G := G v99 r_v99 e_v99
                              refine lw_if_ne (pc := 391) (tgt := 398) dL_ask_391 (by decide) (fun c100 => ?_) (fun c100 => ?_)
                              · replace G := G.1 c100
                                exact G
                              · replace G := G.2 c100
                                refine lw_iconst (pc := 394) dL_ask_394 ?_
                                refine lw_goto (pc := 395) (tgt := 399) dL_ask_395 (by decide) ?_
                                refine lw_istore (pc := 399) (ls' := [some (.inr (some 1)), some (.inl x1), some (.inl x2), some (.inl x3), some (.inl x4), some (.inl x5), some (.inl x6), some (.inl x7), some (.inl x8), some (.inl x9), some (.inl v2), some (.inl v8), some (.inl 1), some (.inl (((x5 + 4) + x1) + 1))]) dL_ask_399 (Nat.le_of_ble_eq_true rfl) rfl ?_
                                refine lw_iload (pc := 401) dL_ask_401 rfl ?_
                                refine lw_if_eq (pc := 403) (tgt := 411) dL_ask_403 (by decide) (fun h => absurd h (by decide)) (fun _ => ?_)
                                refine lw_iload (pc := 406) dL_ask_406 rfl ?_
                                refine lw_goto (pc := 408) (tgt := 413) dL_ask_408 (by decide) ?_
                                refine lw_ireturn (pc := 413) dL_ask_413 rfl ?_ (Nat.le_of_ble_eq_true rfl) (Nat.le_of_ble_eq_true rfl)
                                exact G
                        · replace G := G.2 c93
                          refine lw_iload (pc := 357) dL_ask_357 rfl ?_
                          refine lw_iconst (pc := 359) dL_ask_359 ?_
                          obtain ⟨s102, G⟩ := G
                          refine lw_iadd (pc := 360) (v := x6 + 1) dL_ask_360 s102 rfl ?_
                          refine lw_goto (pc := 361) (tgt := 366) dL_ask_361 (by decide) ?_
                          refine lw_icmp_ne (pc := 366) (tgt := 398) dL_ask_366 (by decide) (fun c103 => ?_) (fun c103 => ?_)
                          · replace G := G.1 c103
                            exact G
                          · replace G := G.2 c103
                            refine lw_iload_n (pc := 369) dL_ask_369 rfl ?_
                            refine lw_iconst (pc := 370) dL_ask_370 ?_
                            refine lw_icmp_ne (pc := 371) (tgt := 394) dL_ask_371 (by decide) (fun h => absurd h (by omega)) (fun _ => ?_)
                            refine lw_aload_n (pc := 374) dL_ask_374 rfl ?_
                            refine lw_bipush (pc := 375) dL_ask_375 ?_
                            refine lw_iload (pc := 377) dL_ask_377 rfl ?_
                            refine lw_invV (pc := 379) (md' := m_X6_count) (as := [(.inl 8), (.inl v2)]) dL_ask_379 mo_X6_count im_X6_count se_X6_count ml_L_29 rfl rfl (by omega) (Nat.le_of_ble_eq_true rfl) rfl ⟨Nat.le_of_ble_eq_true rfl, Nat.le_of_ble_eq_true rfl⟩ (lm_mono (lm_rg (kq_count (by omega))) (fun v105 g' e => ?_))
                            obtain ⟨r_v105, e_v105, rfl⟩ := e
                            replace G := G v105 r_v105 e_v105
                            refine lw_if_eq (pc := 382) (tgt := 394) dL_ask_382 (by decide) (fun c106 => ?_) (fun c106 => ?_)
                            · replace G := G.1 c106
                              refine lw_iconst (pc := 394) dL_ask_394 ?_
                              refine lw_goto (pc := 395) (tgt := 399) dL_ask_395 (by decide) ?_
                              refine lw_istore (pc := 399) (ls' := [some (.inr (some 1)), some (.inl x1), some (.inl x2), some (.inl x3), some (.inl x4), some (.inl x5), some (.inl x6), some (.inl x7), some (.inl x8), some (.inl x9), some (.inl v2), some (.inl v8), some (.inl 1), some (.inl (((x5 + 4) + x1) + 1))]) dL_ask_399 (Nat.le_of_ble_eq_true rfl) rfl ?_
                              refine lw_iload (pc := 401) dL_ask_401 rfl ?_
                              refine lw_if_eq (pc := 403) (tgt := 411) dL_ask_403 (by decide) (fun h => absurd h (by decide)) (fun _ => ?_)
                              refine lw_iload (pc := 406) dL_ask_406 rfl ?_
                              refine lw_goto (pc := 408) (tgt := 413) dL_ask_408 (by decide) ?_
                              refine lw_ireturn (pc := 413) dL_ask_413 rfl ?_ (Nat.le_of_ble_eq_true rfl) (Nat.le_of_ble_eq_true rfl)
                              exact G
                            · replace G := G.2 c106
                              refine lw_aload_n (pc := 385) dL_ask_385 rfl ?_
                              refine lw_bipush (pc := 386) dL_ask_386 ?_
                              refine lw_invV (pc := 388) (md' := m_X6_total) (as := [(.inl 11)]) dL_ask_388 mo_X6_total im_X6_total se_X6_total ml_L_13 rfl rfl (by omega) (Nat.le_of_ble_eq_true rfl) rfl ⟨Nat.le_of_ble_eq_true rfl, Nat.le_of_ble_eq_true rfl⟩ (lm_mono (lm_rg (kq_total (by omega))) (fun v108 g' e => ?_))
                              obtain ⟨r_v108, e_v108, rfl⟩ := e
                              replace G := G v108 r_v108 e_v108
                              refine lw_if_ne (pc := 391) (tgt := 398) dL_ask_391 (by decide) (fun c109 => ?_) (fun c109 => ?_)
                              · replace G := G.1 c109
                                exact G
                              · replace G := G.2 c109
                                refine lw_iconst (pc := 394) dL_ask_394 ?_
                                refine lw_goto (pc := 395) (tgt := 399) dL_ask_395 (by decide) ?_
                                refine lw_istore (pc := 399) (ls' := [some (.inr (some 1)), some (.inl x1), some (.inl x2), some (.inl x3), some (.inl x4), some (.inl x5), some (.inl x6), some (.inl x7), some (.inl x8), some (.inl x9), some (.inl v2), some (.inl v8), some (.inl 1), some (.inl (((x5 + 4) + x1) + 1))]) dL_ask_399 (Nat.le_of_ble_eq_true rfl) rfl ?_
                                refine lw_iload (pc := 401) dL_ask_401 rfl ?_
                                refine lw_if_eq (pc := 403) (tgt := 411) dL_ask_403 (by decide) (fun h => absurd h (by decide)) (fun _ => ?_)
                                refine lw_iload (pc := 406) dL_ask_406 rfl ?_
                                refine lw_goto (pc := 408) (tgt := 413) dL_ask_408 (by decide) ?_
                                refine lw_ireturn (pc := 413) dL_ask_413 rfl ?_ (Nat.le_of_ble_eq_true rfl) (Nat.le_of_ble_eq_true rfl)
                                exact G
      · replace G := G.2 c9
        refine lw_iload (pc := 194) dL_ask_194 rfl ?_
        refine lw_sipush (pc := 196) dL_ask_196 ?_
        refine lw_icmp_ne (pc := 199) (tgt := 206) dL_ask_199 (by decide) (fun c111 => ?_) (fun c111 => ?_)
        · replace G := G.1 c111
          exact G
        · replace G := G.2 c111
          refine lw_iconst (pc := 202) dL_ask_202 ?_
          refine lw_goto (pc := 203) (tgt := 277) dL_ask_203 (by decide) ?_
          refine lw_istore (pc := 277) (ls' := [some (.inr (some 1)), some (.inl x1), some (.inl x2), some (.inl x3), some (.inl x4), some (.inl x5), some (.inl x6), some (.inl x7), some (.inl x8), some (.inl x9), some (.inl v2), some (.inl v8), some (.inl 1), none]) dL_ask_277 (Nat.le_of_ble_eq_true rfl) rfl ?_
          refine lw_iload (pc := 279) dL_ask_279 rfl ?_
          refine lw_iconst (pc := 281) dL_ask_281 ?_
          obtain ⟨s112, G⟩ := G
          refine lw_iadd (pc := 282) (v := x5 + 4) dL_ask_282 s112 rfl ?_
          refine lw_iload_n (pc := 283) dL_ask_283 rfl ?_
          obtain ⟨s113, G⟩ := G
          refine lw_iadd (pc := 284) (v := (x5 + 4) + x1) dL_ask_284 s113 rfl ?_
          refine lw_iload_n (pc := 285) dL_ask_285 rfl ?_
          refine lw_if_ne (pc := 286) (tgt := 293) dL_ask_286 (by decide) (fun h => absurd h (by omega)) (fun _ => ?_)
          refine lw_iconst (pc := 289) dL_ask_289 ?_
          refine lw_goto (pc := 290) (tgt := 307) dL_ask_290 (by decide) ?_
          obtain ⟨s115, G⟩ := G
          refine lw_iadd (pc := 307) (v := ((x5 + 4) + x1) + 2) dL_ask_307 s115 rfl ?_
          refine lw_istore (pc := 308) (ls' := [some (.inr (some 1)), some (.inl x1), some (.inl x2), some (.inl x3), some (.inl x4), some (.inl x5), some (.inl x6), some (.inl x7), some (.inl x8), some (.inl x9), some (.inl v2), some (.inl v8), some (.inl 1), some (.inl (((x5 + 4) + x1) + 2))]) dL_ask_308 (Nat.le_of_ble_eq_true rfl) rfl ?_
          refine lw_iload (pc := 310) dL_ask_310 rfl ?_
          refine lw_if_eq (pc := 312) (tgt := 398) dL_ask_312 (by decide) (fun h => absurd h (by decide)) (fun _ => ?_)
          refine lw_aload_n (pc := 315) dL_ask_315 rfl ?_
          refine lw_bipush (pc := 316) dL_ask_316 ?_
          refine lw_invV (pc := 318) (md' := m_X6_total) (as := [(.inl 9)]) dL_ask_318 mo_X6_total im_X6_total se_X6_total ml_L_13 rfl rfl (by omega) (Nat.le_of_ble_eq_true rfl) rfl ⟨Nat.le_of_ble_eq_true rfl, Nat.le_of_ble_eq_true rfl⟩ (lm_mono (lm_rg (kq_total (by omega))) (fun v117 g' e => ?_))
          obtain ⟨r_v117, e_v117, rfl⟩ := e
          replace G := G v117 r_v117 e_v117
          refine lw_iload (pc := 321) dL_ask_321 rfl ?_
          refine lw_icmp_ne (pc := 323) (tgt := 398) dL_ask_323 (by decide) (fun c118 => ?_) (fun c118 => ?_)
          · replace G := G.1 c118
            exact G
          · replace G := G.2 c118
            refine lw_aload_n (pc := 326) dL_ask_326 rfl ?_
            refine lw_iconst (pc := 327) dL_ask_327 ?_
            refine lw_invV (pc := 328) (md' := m_X6_total) (as := [(.inl 0)]) dL_ask_328 mo_X6_total im_X6_total se_X6_total ml_L_13 rfl rfl (by omega) (Nat.le_of_ble_eq_true rfl) rfl ⟨Nat.le_of_ble_eq_true rfl, Nat.le_of_ble_eq_true rfl⟩ (lm_mono (lm_rg (kq_total (by omega))) (fun v119 g' e => ?_))
            obtain ⟨r_v119, e_v119, rfl⟩ := e
            replace G := G v119 r_v119 e_v119
            refine lw_iload (pc := 331) dL_ask_331 rfl ?_
            refine lw_iload (pc := 333) dL_ask_333 rfl ?_
            obtain ⟨s120, G⟩ := G
            refine lw_isub (pc := 335) (v := x4 - x7) dL_ask_335 s120 rfl ?_
            refine lw_icmp_ne (pc := 336) (tgt := 398) dL_ask_336 (by decide) (fun c121 => ?_) (fun c121 => ?_)
            · replace G := G.1 c121
              exact G
            · replace G := G.2 c121
              refine lw_aload_n (pc := 339) dL_ask_339 rfl ?_
              refine lw_iconst (pc := 340) dL_ask_340 ?_
              refine lw_invV (pc := 341) (md' := m_X6_total) (as := [(.inl 3)]) dL_ask_341 mo_X6_total im_X6_total se_X6_total ml_L_13 rfl rfl (by omega) (Nat.le_of_ble_eq_true rfl) rfl ⟨Nat.le_of_ble_eq_true rfl, Nat.le_of_ble_eq_true rfl⟩ (lm_mono (lm_rg (kq_total (by omega))) (fun v122 g' e => ?_))
              obtain ⟨r_v122, e_v122, rfl⟩ := e
              replace G := G v122 r_v122 e_v122
              refine lw_iload_n (pc := 344) dL_ask_344 rfl ?_
              refine lw_iconst (pc := 345) dL_ask_345 ?_
              refine lw_icmp_ne (pc := 346) (tgt := 364) dL_ask_346 (by decide) (fun _ => ?_) (fun h => absurd (by omega) h)
              refine lw_iload (pc := 364) dL_ask_364 rfl ?_
              refine lw_icmp_ne (pc := 366) (tgt := 398) dL_ask_366 (by decide) (fun c124 => ?_) (fun c124 => ?_)
              · replace G := G.1 c124
                exact G
              · replace G := G.2 c124
                refine lw_iload_n (pc := 369) dL_ask_369 rfl ?_
                refine lw_iconst (pc := 370) dL_ask_370 ?_
                refine lw_icmp_ne (pc := 371) (tgt := 394) dL_ask_371 (by decide) (fun _ => ?_) (fun h => absurd (by omega) h)
                refine lw_iconst (pc := 394) dL_ask_394 ?_
                refine lw_goto (pc := 395) (tgt := 399) dL_ask_395 (by decide) ?_
                refine lw_istore (pc := 399) (ls' := [some (.inr (some 1)), some (.inl x1), some (.inl x2), some (.inl x3), some (.inl x4), some (.inl x5), some (.inl x6), some (.inl x7), some (.inl x8), some (.inl x9), some (.inl v2), some (.inl v8), some (.inl 1), some (.inl (((x5 + 4) + x1) + 2))]) dL_ask_399 (Nat.le_of_ble_eq_true rfl) rfl ?_
                refine lw_iload (pc := 401) dL_ask_401 rfl ?_
                refine lw_if_eq (pc := 403) (tgt := 411) dL_ask_403 (by decide) (fun h => absurd h (by decide)) (fun _ => ?_)
                refine lw_iload (pc := 406) dL_ask_406 rfl ?_
                refine lw_goto (pc := 408) (tgt := 413) dL_ask_408 (by decide) ?_
                refine lw_ireturn (pc := 413) dL_ask_413 rfl ?_ (Nat.le_of_ble_eq_true rfl) (Nat.le_of_ble_eq_true rfl)
                exact G
    · replace G := G.2 c5
      refine lw_bipush (pc := 172) dL_ask_172 ?_
      refine lw_goto (pc := 174) (tgt := 188) dL_ask_174 (by decide) ?_
      refine lw_istore (pc := 188) (ls' := [some (.inr (some 1)), some (.inl x1), some (.inl x2), some (.inl x3), some (.inl x4), some (.inl x5), some (.inl x6), some (.inl x7), some (.inl x8), some (.inl x9), some (.inl v2), some (.inl (-5)), none, none]) dL_ask_188 (Nat.le_of_ble_eq_true rfl) rfl ?_
      refine lw_iload_n (pc := 190) dL_ask_190 rfl ?_
      refine lw_if_ne (pc := 191) (tgt := 210) dL_ask_191 (by decide) (fun c127 => ?_) (fun c127 => ?_)
      · replace G := G.1 c127
        refine lw_iload_n (pc := 210) dL_ask_210 rfl ?_
        refine lw_iconst (pc := 211) dL_ask_211 ?_
        refine lw_icmp_ne (pc := 212) (tgt := 254) dL_ask_212 (by decide) (fun c128 => ?_) (fun c128 => ?_)
        · replace G := G.1 c128
          refine lw_iload (pc := 254) dL_ask_254 rfl ?_
          refine lw_sipush (pc := 256) dL_ask_256 ?_
          refine lw_iload (pc := 259) dL_ask_259 rfl ?_
          obtain ⟨s129, G⟩ := G
          refine lw_iadd (pc := 261) (v := 400 + x8) dL_ask_261 s129 rfl ?_
          refine lw_icmp_ne (pc := 262) (tgt := 276) dL_ask_262 (by decide) (fun c130 => ?_) (fun c130 => ?_)
          · replace G := G.1 c130
            exact G
          · replace G := G.2 c130
            refine lw_iload (pc := 265) dL_ask_265 rfl ?_
            refine lw_bipush (pc := 267) dL_ask_267 ?_
            refine lw_icmp_ge (pc := 269) (tgt := 276) dL_ask_269 (by decide) (fun _ => ?_) (fun h => absurd (by omega) h)
            exact G
        · replace G := G.2 c128
          refine lw_iload (pc := 215) dL_ask_215 rfl ?_
          refine lw_if_lt (pc := 217) (tgt := 250) dL_ask_217 (by decide) (fun c132 => ?_) (fun c132 => ?_)
          · replace G := G.1 c132
            refine lw_iconst (pc := 250) dL_ask_250 ?_
            refine lw_goto (pc := 251) (tgt := 277) dL_ask_251 (by decide) ?_
            refine lw_istore (pc := 277) (ls' := [some (.inr (some 1)), some (.inl x1), some (.inl x2), some (.inl x3), some (.inl x4), some (.inl x5), some (.inl x6), some (.inl x7), some (.inl x8), some (.inl x9), some (.inl v2), some (.inl (-5)), some (.inl 0), none]) dL_ask_277 (Nat.le_of_ble_eq_true rfl) rfl ?_
            refine lw_iload (pc := 279) dL_ask_279 rfl ?_
            refine lw_iconst (pc := 281) dL_ask_281 ?_
            obtain ⟨s133, G⟩ := G
            refine lw_iadd (pc := 282) (v := x5 + 4) dL_ask_282 s133 rfl ?_
            refine lw_iload_n (pc := 283) dL_ask_283 rfl ?_
            obtain ⟨s134, G⟩ := G
            refine lw_iadd (pc := 284) (v := (x5 + 4) + x1) dL_ask_284 s134 rfl ?_
            refine lw_iload_n (pc := 285) dL_ask_285 rfl ?_
            refine lw_if_ne (pc := 286) (tgt := 293) dL_ask_286 (by decide) (fun _ => ?_) (fun h => absurd (by omega) h)
            refine lw_iload_n (pc := 293) dL_ask_293 rfl ?_
            refine lw_bipush (pc := 294) dL_ask_294 ?_
            refine lw_icmp_ne (pc := 296) (tgt := 303) dL_ask_296 (by decide) (fun c136 => ?_) (fun c136 => ?_)
            · replace G := G.1 c136
              refine lw_bipush (pc := 303) dL_ask_303 ?_
              refine lw_iload_n (pc := 305) dL_ask_305 rfl ?_
              obtain ⟨s137, G⟩ := G
              refine lw_isub (pc := 306) (v := 8 - x1) dL_ask_306 s137 rfl ?_
              obtain ⟨s138, G⟩ := G
              refine lw_iadd (pc := 307) (v := ((x5 + 4) + x1) + (8 - x1)) dL_ask_307 s138 rfl ?_
              refine lw_istore (pc := 308) (ls' := [some (.inr (some 1)), some (.inl x1), some (.inl x2), some (.inl x3), some (.inl x4), some (.inl x5), some (.inl x6), some (.inl x7), some (.inl x8), some (.inl x9), some (.inl v2), some (.inl (-5)), some (.inl 0), some (.inl (((x5 + 4) + x1) + (8 - x1)))]) dL_ask_308 (Nat.le_of_ble_eq_true rfl) rfl ?_
              refine lw_iload (pc := 310) dL_ask_310 rfl ?_
              refine lw_if_eq (pc := 312) (tgt := 398) dL_ask_312 (by decide) (fun _ => ?_) (fun h => absurd (by decide) h)
              exact G
            · replace G := G.2 c136
              refine lw_iconst (pc := 299) dL_ask_299 ?_
              refine lw_goto (pc := 300) (tgt := 307) dL_ask_300 (by decide) ?_
              obtain ⟨s140, G⟩ := G
              refine lw_iadd (pc := 307) (v := ((x5 + 4) + x1) + 1) dL_ask_307 s140 rfl ?_
              refine lw_istore (pc := 308) (ls' := [some (.inr (some 1)), some (.inl x1), some (.inl x2), some (.inl x3), some (.inl x4), some (.inl x5), some (.inl x6), some (.inl x7), some (.inl x8), some (.inl x9), some (.inl v2), some (.inl (-5)), some (.inl 0), some (.inl (((x5 + 4) + x1) + 1))]) dL_ask_308 (Nat.le_of_ble_eq_true rfl) rfl ?_
              refine lw_iload (pc := 310) dL_ask_310 rfl ?_
              refine lw_if_eq (pc := 312) (tgt := 398) dL_ask_312 (by decide) (fun _ => ?_) (fun h => absurd (by decide) h)
              exact G
          · replace G := G.2 c132
            refine lw_iload (pc := 220) dL_ask_220 rfl ?_
            refine lw_sipush (pc := 222) dL_ask_222 ?_
            refine lw_icmp_ge (pc := 225) (tgt := 250) dL_ask_225 (by decide) (fun c142 => ?_) (fun c142 => ?_)
            · replace G := G.1 c142
              refine lw_iconst (pc := 250) dL_ask_250 ?_
              refine lw_goto (pc := 251) (tgt := 277) dL_ask_251 (by decide) ?_
              refine lw_istore (pc := 277) (ls' := [some (.inr (some 1)), some (.inl x1), some (.inl x2), some (.inl x3), some (.inl x4), some (.inl x5), some (.inl x6), some (.inl x7), some (.inl x8), some (.inl x9), some (.inl v2), some (.inl (-5)), some (.inl 0), none]) dL_ask_277 (Nat.le_of_ble_eq_true rfl) rfl ?_
              refine lw_iload (pc := 279) dL_ask_279 rfl ?_
              refine lw_iconst (pc := 281) dL_ask_281 ?_
              obtain ⟨s143, G⟩ := G
              refine lw_iadd (pc := 282) (v := x5 + 4) dL_ask_282 s143 rfl ?_
              refine lw_iload_n (pc := 283) dL_ask_283 rfl ?_
              obtain ⟨s144, G⟩ := G
              refine lw_iadd (pc := 284) (v := (x5 + 4) + x1) dL_ask_284 s144 rfl ?_
              refine lw_iload_n (pc := 285) dL_ask_285 rfl ?_
              refine lw_if_ne (pc := 286) (tgt := 293) dL_ask_286 (by decide) (fun _ => ?_) (fun h => absurd (by omega) h)
              refine lw_iload_n (pc := 293) dL_ask_293 rfl ?_
              refine lw_bipush (pc := 294) dL_ask_294 ?_
              refine lw_icmp_ne (pc := 296) (tgt := 303) dL_ask_296 (by decide) (fun c146 => ?_) (fun c146 => ?_)
              · replace G := G.1 c146
                refine lw_bipush (pc := 303) dL_ask_303 ?_
                refine lw_iload_n (pc := 305) dL_ask_305 rfl ?_
                obtain ⟨s147, G⟩ := G
                refine lw_isub (pc := 306) (v := 8 - x1) dL_ask_306 s147 rfl ?_
                obtain ⟨s148, G⟩ := G
                refine lw_iadd (pc := 307) (v := ((x5 + 4) + x1) + (8 - x1)) dL_ask_307 s148 rfl ?_
                refine lw_istore (pc := 308) (ls' := [some (.inr (some 1)), some (.inl x1), some (.inl x2), some (.inl x3), some (.inl x4), some (.inl x5), some (.inl x6), some (.inl x7), some (.inl x8), some (.inl x9), some (.inl v2), some (.inl (-5)), some (.inl 0), some (.inl (((x5 + 4) + x1) + (8 - x1)))]) dL_ask_308 (Nat.le_of_ble_eq_true rfl) rfl ?_
                refine lw_iload (pc := 310) dL_ask_310 rfl ?_
                refine lw_if_eq (pc := 312) (tgt := 398) dL_ask_312 (by decide) (fun _ => ?_) (fun h => absurd (by decide) h)
                exact G
              · replace G := G.2 c146
                refine lw_iconst (pc := 299) dL_ask_299 ?_
                refine lw_goto (pc := 300) (tgt := 307) dL_ask_300 (by decide) ?_
                obtain ⟨s150, G⟩ := G
                refine lw_iadd (pc := 307) (v := ((x5 + 4) + x1) + 1) dL_ask_307 s150 rfl ?_
                refine lw_istore (pc := 308) (ls' := [some (.inr (some 1)), some (.inl x1), some (.inl x2), some (.inl x3), some (.inl x4), some (.inl x5), some (.inl x6), some (.inl x7), some (.inl x8), some (.inl x9), some (.inl v2), some (.inl (-5)), some (.inl 0), some (.inl (((x5 + 4) + x1) + 1))]) dL_ask_308 (Nat.le_of_ble_eq_true rfl) rfl ?_
                refine lw_iload (pc := 310) dL_ask_310 rfl ?_
                refine lw_if_eq (pc := 312) (tgt := 398) dL_ask_312 (by decide) (fun _ => ?_) (fun h => absurd (by decide) h)
                exact G
            · replace G := G.2 c142
              refine lw_iload (pc := 228) dL_ask_228 rfl ?_
              refine lw_bipush (pc := 230) dL_ask_230 ?_
              refine lw_iload_n (pc := 232) dL_ask_232 rfl ?_
              obtain ⟨s152, G⟩ := G
              refine lw_isub (pc := 233) (v := 8 - x1) dL_ask_233 s152 rfl ?_
              refine lw_ishr (pc := 234) dL_ask_234 ?_
              refine lw_iload_n (pc := 235) dL_ask_235 rfl ?_
              refine lw_icmp_ne (pc := 236) (tgt := 250) dL_ask_236 (by decide) (fun c153 => ?_) (fun c153 => ?_)
              · replace G := G.1 c153
                refine lw_iconst (pc := 250) dL_ask_250 ?_
                refine lw_goto (pc := 251) (tgt := 277) dL_ask_251 (by decide) ?_
                refine lw_istore (pc := 277) (ls' := [some (.inr (some 1)), some (.inl x1), some (.inl x2), some (.inl x3), some (.inl x4), some (.inl x5), some (.inl x6), some (.inl x7), some (.inl x8), some (.inl x9), some (.inl v2), some (.inl (-5)), some (.inl 0), none]) dL_ask_277 (Nat.le_of_ble_eq_true rfl) rfl ?_
                refine lw_iload (pc := 279) dL_ask_279 rfl ?_
                refine lw_iconst (pc := 281) dL_ask_281 ?_
                obtain ⟨s154, G⟩ := G
                refine lw_iadd (pc := 282) (v := x5 + 4) dL_ask_282 s154 rfl ?_
                refine lw_iload_n (pc := 283) dL_ask_283 rfl ?_
                obtain ⟨s155, G⟩ := G
                refine lw_iadd (pc := 284) (v := (x5 + 4) + x1) dL_ask_284 s155 rfl ?_
                refine lw_iload_n (pc := 285) dL_ask_285 rfl ?_
                refine lw_if_ne (pc := 286) (tgt := 293) dL_ask_286 (by decide) (fun _ => ?_) (fun h => absurd (by omega) h)
                refine lw_iload_n (pc := 293) dL_ask_293 rfl ?_
                refine lw_bipush (pc := 294) dL_ask_294 ?_
                refine lw_icmp_ne (pc := 296) (tgt := 303) dL_ask_296 (by decide) (fun c157 => ?_) (fun c157 => ?_)
                · replace G := G.1 c157
                  refine lw_bipush (pc := 303) dL_ask_303 ?_
                  refine lw_iload_n (pc := 305) dL_ask_305 rfl ?_
                  refine lw_isub (pc := 306) (v := 8 - x1) dL_ask_306 s152 rfl ?_
                  obtain ⟨s158, G⟩ := G
                  refine lw_iadd (pc := 307) (v := ((x5 + 4) + x1) + (8 - x1)) dL_ask_307 s158 rfl ?_
                  refine lw_istore (pc := 308) (ls' := [some (.inr (some 1)), some (.inl x1), some (.inl x2), some (.inl x3), some (.inl x4), some (.inl x5), some (.inl x6), some (.inl x7), some (.inl x8), some (.inl x9), some (.inl v2), some (.inl (-5)), some (.inl 0), some (.inl (((x5 + 4) + x1) + (8 - x1)))]) dL_ask_308 (Nat.le_of_ble_eq_true rfl) rfl ?_
                  refine lw_iload (pc := 310) dL_ask_310 rfl ?_
                  refine lw_if_eq (pc := 312) (tgt := 398) dL_ask_312 (by decide) (fun _ => ?_) (fun h => absurd (by decide) h)
                  exact G
                · replace G := G.2 c157
                  refine lw_iconst (pc := 299) dL_ask_299 ?_
                  refine lw_goto (pc := 300) (tgt := 307) dL_ask_300 (by decide) ?_
                  obtain ⟨s160, G⟩ := G
                  refine lw_iadd (pc := 307) (v := ((x5 + 4) + x1) + 1) dL_ask_307 s160 rfl ?_
                  refine lw_istore (pc := 308) (ls' := [some (.inr (some 1)), some (.inl x1), some (.inl x2), some (.inl x3), some (.inl x4), some (.inl x5), some (.inl x6), some (.inl x7), some (.inl x8), some (.inl x9), some (.inl v2), some (.inl (-5)), some (.inl 0), some (.inl (((x5 + 4) + x1) + 1))]) dL_ask_308 (Nat.le_of_ble_eq_true rfl) rfl ?_
                  refine lw_iload (pc := 310) dL_ask_310 rfl ?_
                  refine lw_if_eq (pc := 312) (tgt := 398) dL_ask_312 (by decide) (fun _ => ?_) (fun h => absurd (by decide) h)
                  exact G
              · replace G := G.2 c153
                refine lw_iload (pc := 239) dL_ask_239 rfl ?_
                refine lw_iload (pc := 241) dL_ask_241 rfl ?_
                refine lw_icmp_ne (pc := 243) (tgt := 250) dL_ask_243 (by decide) (fun c162 => ?_) (fun c162 => ?_)
                · replace G := G.1 c162
                  refine lw_iconst (pc := 250) dL_ask_250 ?_
                  refine lw_goto (pc := 251) (tgt := 277) dL_ask_251 (by decide) ?_
                  refine lw_istore (pc := 277) (ls' := [some (.inr (some 1)), some (.inl x1), some (.inl x2), some (.inl x3), some (.inl x4), some (.inl x5), some (.inl x6), some (.inl x7), some (.inl x8), some (.inl x9), some (.inl v2), some (.inl (-5)), some (.inl 0), none]) dL_ask_277 (Nat.le_of_ble_eq_true rfl) rfl ?_
                  refine lw_iload (pc := 279) dL_ask_279 rfl ?_
                  refine lw_iconst (pc := 281) dL_ask_281 ?_
                  obtain ⟨s163, G⟩ := G
                  refine lw_iadd (pc := 282) (v := x5 + 4) dL_ask_282 s163 rfl ?_
                  refine lw_iload_n (pc := 283) dL_ask_283 rfl ?_
                  obtain ⟨s164, G⟩ := G
                  refine lw_iadd (pc := 284) (v := (x5 + 4) + x1) dL_ask_284 s164 rfl ?_
                  refine lw_iload_n (pc := 285) dL_ask_285 rfl ?_
                  refine lw_if_ne (pc := 286) (tgt := 293) dL_ask_286 (by decide) (fun _ => ?_) (fun h => absurd (by omega) h)
                  refine lw_iload_n (pc := 293) dL_ask_293 rfl ?_
                  refine lw_bipush (pc := 294) dL_ask_294 ?_
                  refine lw_icmp_ne (pc := 296) (tgt := 303) dL_ask_296 (by decide) (fun c166 => ?_) (fun c166 => ?_)
                  · replace G := G.1 c166
                    refine lw_bipush (pc := 303) dL_ask_303 ?_
                    refine lw_iload_n (pc := 305) dL_ask_305 rfl ?_
                    refine lw_isub (pc := 306) (v := 8 - x1) dL_ask_306 s152 rfl ?_
                    obtain ⟨s167, G⟩ := G
                    refine lw_iadd (pc := 307) (v := ((x5 + 4) + x1) + (8 - x1)) dL_ask_307 s167 rfl ?_
                    refine lw_istore (pc := 308) (ls' := [some (.inr (some 1)), some (.inl x1), some (.inl x2), some (.inl x3), some (.inl x4), some (.inl x5), some (.inl x6), some (.inl x7), some (.inl x8), some (.inl x9), some (.inl v2), some (.inl (-5)), some (.inl 0), some (.inl (((x5 + 4) + x1) + (8 - x1)))]) dL_ask_308 (Nat.le_of_ble_eq_true rfl) rfl ?_
                    refine lw_iload (pc := 310) dL_ask_310 rfl ?_
                    refine lw_if_eq (pc := 312) (tgt := 398) dL_ask_312 (by decide) (fun _ => ?_) (fun h => absurd (by decide) h)
                    exact G
                  · replace G := G.2 c166
                    refine lw_iconst (pc := 299) dL_ask_299 ?_
                    refine lw_goto (pc := 300) (tgt := 307) dL_ask_300 (by decide) ?_
                    obtain ⟨s169, G⟩ := G
                    refine lw_iadd (pc := 307) (v := ((x5 + 4) + x1) + 1) dL_ask_307 s169 rfl ?_
                    refine lw_istore (pc := 308) (ls' := [some (.inr (some 1)), some (.inl x1), some (.inl x2), some (.inl x3), some (.inl x4), some (.inl x5), some (.inl x6), some (.inl x7), some (.inl x8), some (.inl x9), some (.inl v2), some (.inl (-5)), some (.inl 0), some (.inl (((x5 + 4) + x1) + 1))]) dL_ask_308 (Nat.le_of_ble_eq_true rfl) rfl ?_
                    refine lw_iload (pc := 310) dL_ask_310 rfl ?_
                    refine lw_if_eq (pc := 312) (tgt := 398) dL_ask_312 (by decide) (fun _ => ?_) (fun h => absurd (by decide) h)
                    exact G
                · replace G := G.2 c162
                  refine lw_iconst (pc := 246) dL_ask_246 ?_
                  refine lw_goto (pc := 247) (tgt := 277) dL_ask_247 (by decide) ?_
                  refine lw_istore (pc := 277) (ls' := [some (.inr (some 1)), some (.inl x1), some (.inl x2), some (.inl x3), some (.inl x4), some (.inl x5), some (.inl x6), some (.inl x7), some (.inl x8), some (.inl x9), some (.inl v2), some (.inl (-5)), some (.inl 1), none]) dL_ask_277 (Nat.le_of_ble_eq_true rfl) rfl ?_
                  refine lw_iload (pc := 279) dL_ask_279 rfl ?_
                  refine lw_iconst (pc := 281) dL_ask_281 ?_
                  obtain ⟨s171, G⟩ := G
                  refine lw_iadd (pc := 282) (v := x5 + 4) dL_ask_282 s171 rfl ?_
                  refine lw_iload_n (pc := 283) dL_ask_283 rfl ?_
                  obtain ⟨s172, G⟩ := G
                  refine lw_iadd (pc := 284) (v := (x5 + 4) + x1) dL_ask_284 s172 rfl ?_
                  refine lw_iload_n (pc := 285) dL_ask_285 rfl ?_
                  refine lw_if_ne (pc := 286) (tgt := 293) dL_ask_286 (by decide) (fun _ => ?_) (fun h => absurd (by omega) h)
                  refine lw_iload_n (pc := 293) dL_ask_293 rfl ?_
                  refine lw_bipush (pc := 294) dL_ask_294 ?_
                  refine lw_icmp_ne (pc := 296) (tgt := 303) dL_ask_296 (by decide) (fun c174 => ?_) (fun c174 => ?_)
                  · replace G := G.1 c174
                    refine lw_bipush (pc := 303) dL_ask_303 ?_
                    refine lw_iload_n (pc := 305) dL_ask_305 rfl ?_
                    refine lw_isub (pc := 306) (v := 8 - x1) dL_ask_306 s152 rfl ?_
                    obtain ⟨s175, G⟩ := G
                    refine lw_iadd (pc := 307) (v := ((x5 + 4) + x1) + (8 - x1)) dL_ask_307 s175 rfl ?_
                    refine lw_istore (pc := 308) (ls' := [some (.inr (some 1)), some (.inl x1), some (.inl x2), some (.inl x3), some (.inl x4), some (.inl x5), some (.inl x6), some (.inl x7), some (.inl x8), some (.inl x9), some (.inl v2), some (.inl (-5)), some (.inl 1), some (.inl (((x5 + 4) + x1) + (8 - x1)))]) dL_ask_308 (Nat.le_of_ble_eq_true rfl) rfl ?_
                    refine lw_iload (pc := 310) dL_ask_310 rfl ?_
                    refine lw_if_eq (pc := 312) (tgt := 398) dL_ask_312 (by decide) (fun h => absurd h (by decide)) (fun _ => ?_)
                    refine lw_aload_n (pc := 315) dL_ask_315 rfl ?_
                    refine lw_bipush (pc := 316) dL_ask_316 ?_
                    refine lw_invV (pc := 318) (md' := m_X6_total) (as := [(.inl 9)]) dL_ask_318 mo_X6_total im_X6_total se_X6_total ml_L_13 rfl rfl (by omega) (Nat.le_of_ble_eq_true rfl) rfl ⟨Nat.le_of_ble_eq_true rfl, Nat.le_of_ble_eq_true rfl⟩ (lm_mono (lm_rg (kq_total (by omega))) (fun v177 g' e => ?_))
                    obtain ⟨r_v177, e_v177, rfl⟩ := e
                    replace G := G v177 r_v177 e_v177
                    refine lw_iload (pc := 321) dL_ask_321 rfl ?_
                    refine lw_icmp_ne (pc := 323) (tgt := 398) dL_ask_323 (by decide) (fun c178 => ?_) (fun c178 => ?_)
                    · replace G := G.1 c178
                      exact G
                    · replace G := G.2 c178
                      refine lw_aload_n (pc := 326) dL_ask_326 rfl ?_
                      refine lw_iconst (pc := 327) dL_ask_327 ?_
                      refine lw_invV (pc := 328) (md' := m_X6_total) (as := [(.inl 0)]) dL_ask_328 mo_X6_total im_X6_total se_X6_total ml_L_13 rfl rfl (by omega) (Nat.le_of_ble_eq_true rfl) rfl ⟨Nat.le_of_ble_eq_true rfl, Nat.le_of_ble_eq_true rfl⟩ (lm_mono (lm_rg (kq_total (by omega))) (fun v179 g' e => ?_))
                      obtain ⟨r_v179, e_v179, rfl⟩ := e
                      replace G := G v179 r_v179 e_v179
                      refine lw_iload (pc := 331) dL_ask_331 rfl ?_
                      refine lw_iload (pc := 333) dL_ask_333 rfl ?_
                      obtain ⟨s180, G⟩ := G
                      refine lw_isub (pc := 335) (v := x4 - x7) dL_ask_335 s180 rfl ?_
                      refine lw_icmp_ne (pc := 336) (tgt := 398) dL_ask_336 (by decide) (fun c181 => ?_) (fun c181 => ?_)
                      · replace G := G.1 c181
                        exact G
                      · replace G := G.2 c181
                        refine lw_aload_n (pc := 339) dL_ask_339 rfl ?_
                        refine lw_iconst (pc := 340) dL_ask_340 ?_
                        refine lw_invV (pc := 341) (md' := m_X6_total) (as := [(.inl 3)]) dL_ask_341 mo_X6_total im_X6_total se_X6_total ml_L_13 rfl rfl (by omega) (Nat.le_of_ble_eq_true rfl) rfl ⟨Nat.le_of_ble_eq_true rfl, Nat.le_of_ble_eq_true rfl⟩ (lm_mono (lm_rg (kq_total (by omega))) (fun v182 g' e => ?_))
                        obtain ⟨r_v182, e_v182, rfl⟩ := e
                        replace G := G v182 r_v182 e_v182
                        refine lw_iload_n (pc := 344) dL_ask_344 rfl ?_
                        refine lw_iconst (pc := 345) dL_ask_345 ?_
                        refine lw_icmp_ne (pc := 346) (tgt := 364) dL_ask_346 (by decide) (fun h => absurd h (by omega)) (fun _ => ?_)
                        refine lw_iload (pc := 349) dL_ask_349 rfl ?_
                        refine lw_sipush (pc := 351) dL_ask_351 ?_
                        refine lw_icmp_ge (pc := 354) (tgt := 364) dL_ask_354 (by decide) (fun c184 => ?_) (fun c184 => ?_)
                        · replace G := G.1 c184
                          refine lw_iload (pc := 364) dL_ask_364 rfl ?_
                          refine lw_icmp_ne (pc := 366) (tgt := 398) dL_ask_366 (by decide) (fun c185 => ?_) (fun c185 => ?_)
                          · replace G := G.1 c185
                            exact G
                          · replace G := G.2 c185
                            refine lw_iload_n (pc := 369) dL_ask_369 rfl ?_
                            refine lw_iconst (pc := 370) dL_ask_370 ?_
                            refine lw_icmp_ne (pc := 371) (tgt := 394) dL_ask_371 (by decide) (fun h => absurd h (by omega)) (fun _ => ?_)
                            refine lw_aload_n (pc := 374) dL_ask_374 rfl ?_
                            refine lw_bipush (pc := 375) dL_ask_375 ?_
                            refine lw_iload (pc := 377) dL_ask_377 rfl ?_
                            refine lw_invV (pc := 379) (md' := m_X6_count) (as := [(.inl 8), (.inl v2)]) dL_ask_379 mo_X6_count im_X6_count se_X6_count ml_L_29 rfl rfl (by omega) (Nat.le_of_ble_eq_true rfl) rfl ⟨Nat.le_of_ble_eq_true rfl, Nat.le_of_ble_eq_true rfl⟩ (lm_mono (lm_rg (kq_count (by omega))) (fun v187 g' e => ?_))
                            obtain ⟨r_v187, e_v187, rfl⟩ := e
                            replace G := G v187 r_v187 e_v187
                            refine lw_if_eq (pc := 382) (tgt := 394) dL_ask_382 (by decide) (fun c188 => ?_) (fun c188 => ?_)
                            · replace G := G.1 c188
                              refine lw_iconst (pc := 394) dL_ask_394 ?_
                              refine lw_goto (pc := 395) (tgt := 399) dL_ask_395 (by decide) ?_
                              refine lw_istore (pc := 399) (ls' := [some (.inr (some 1)), some (.inl x1), some (.inl x2), some (.inl x3), some (.inl x4), some (.inl x5), some (.inl x6), some (.inl x7), some (.inl x8), some (.inl x9), some (.inl v2), some (.inl (-5)), some (.inl 1), some (.inl (((x5 + 4) + x1) + (8 - x1)))]) dL_ask_399 (Nat.le_of_ble_eq_true rfl) rfl ?_
                              refine lw_iload (pc := 401) dL_ask_401 rfl ?_
                              refine lw_if_eq (pc := 403) (tgt := 411) dL_ask_403 (by decide) (fun h => absurd h (by decide)) (fun _ => ?_)
                              refine lw_iload (pc := 406) dL_ask_406 rfl ?_
                              refine lw_goto (pc := 408) (tgt := 413) dL_ask_408 (by decide) ?_
                              refine lw_ireturn (pc := 413) dL_ask_413 rfl ?_ (Nat.le_of_ble_eq_true rfl) (Nat.le_of_ble_eq_true rfl)
                              exact G
                            · replace G := G.2 c188
                              refine lw_aload_n (pc := 385) dL_ask_385 rfl ?_
                              refine lw_bipush (pc := 386) dL_ask_386 ?_
                              refine lw_invV (pc := 388) (md' := m_X6_total) (as := [(.inl 11)]) dL_ask_388 mo_X6_total im_X6_total se_X6_total ml_L_13 rfl rfl (by omega) (Nat.le_of_ble_eq_true rfl) rfl ⟨Nat.le_of_ble_eq_true rfl, Nat.le_of_ble_eq_true rfl⟩ (lm_mono (lm_rg (kq_total (by omega))) (fun v190 g' e => ?_))
                              obtain ⟨r_v190, e_v190, rfl⟩ := e
                              replace G := G v190 r_v190 e_v190
                              refine lw_if_ne (pc := 391) (tgt := 398) dL_ask_391 (by decide) (fun c191 => ?_) (fun c191 => ?_)
                              · replace G := G.1 c191
                                exact G
                              · replace G := G.2 c191
                                refine lw_iconst (pc := 394) dL_ask_394 ?_
                                refine lw_goto (pc := 395) (tgt := 399) dL_ask_395 (by decide) ?_
                                refine lw_istore (pc := 399) (ls' := [some (.inr (some 1)), some (.inl x1), some (.inl x2), some (.inl x3), some (.inl x4), some (.inl x5), some (.inl x6), some (.inl x7), some (.inl x8), some (.inl x9), some (.inl v2), some (.inl (-5)), some (.inl 1), some (.inl (((x5 + 4) + x1) + (8 - x1)))]) dL_ask_399 (Nat.le_of_ble_eq_true rfl) rfl ?_
                                refine lw_iload (pc := 401) dL_ask_401 rfl ?_
                                refine lw_if_eq (pc := 403) (tgt := 411) dL_ask_403 (by decide) (fun h => absurd h (by decide)) (fun _ => ?_)
                                refine lw_iload (pc := 406) dL_ask_406 rfl ?_
                                refine lw_goto (pc := 408) (tgt := 413) dL_ask_408 (by decide) ?_
                                refine lw_ireturn (pc := 413) dL_ask_413 rfl ?_ (Nat.le_of_ble_eq_true rfl) (Nat.le_of_ble_eq_true rfl)
                                exact G
                        · replace G := G.2 c184
                          refine lw_iload (pc := 357) dL_ask_357 rfl ?_
                          refine lw_iconst (pc := 359) dL_ask_359 ?_
                          obtain ⟨s193, G⟩ := G
                          refine lw_iadd (pc := 360) (v := x6 + 1) dL_ask_360 s193 rfl ?_
                          refine lw_goto (pc := 361) (tgt := 366) dL_ask_361 (by decide) ?_
                          refine lw_icmp_ne (pc := 366) (tgt := 398) dL_ask_366 (by decide) (fun c194 => ?_) (fun c194 => ?_)
                          · replace G := G.1 c194
                            exact G
                          · replace G := G.2 c194
                            refine lw_iload_n (pc := 369) dL_ask_369 rfl ?_
                            refine lw_iconst (pc := 370) dL_ask_370 ?_
                            refine lw_icmp_ne (pc := 371) (tgt := 394) dL_ask_371 (by decide) (fun h => absurd h (by omega)) (fun _ => ?_)
                            refine lw_aload_n (pc := 374) dL_ask_374 rfl ?_
                            refine lw_bipush (pc := 375) dL_ask_375 ?_
                            refine lw_iload (pc := 377) dL_ask_377 rfl ?_
                            refine lw_invV (pc := 379) (md' := m_X6_count) (as := [(.inl 8), (.inl v2)]) dL_ask_379 mo_X6_count im_X6_count se_X6_count ml_L_29 rfl rfl (by omega) (Nat.le_of_ble_eq_true rfl) rfl ⟨Nat.le_of_ble_eq_true rfl, Nat.le_of_ble_eq_true rfl⟩ (lm_mono (lm_rg (kq_count (by omega))) (fun v196 g' e => ?_))
                            obtain ⟨r_v196, e_v196, rfl⟩ := e
                            replace G := G v196 r_v196 e_v196
                            refine lw_if_eq (pc := 382) (tgt := 394) dL_ask_382 (by decide) (fun c197 => ?_) (fun c197 => ?_)
                            · replace G := G.1 c197
                              refine lw_iconst (pc := 394) dL_ask_394 ?_
                              refine lw_goto (pc := 395) (tgt := 399) dL_ask_395 (by decide) ?_
                              refine lw_istore (pc := 399) (ls' := [some (.inr (some 1)), some (.inl x1), some (.inl x2), some (.inl x3), some (.inl x4), some (.inl x5), some (.inl x6), some (.inl x7), some (.inl x8), some (.inl x9), some (.inl v2), some (.inl (-5)), some (.inl 1), some (.inl (((x5 + 4) + x1) + (8 - x1)))]) dL_ask_399 (Nat.le_of_ble_eq_true rfl) rfl ?_
                              refine lw_iload (pc := 401) dL_ask_401 rfl ?_
                              refine lw_if_eq (pc := 403) (tgt := 411) dL_ask_403 (by decide) (fun h => absurd h (by decide)) (fun _ => ?_)
                              refine lw_iload (pc := 406) dL_ask_406 rfl ?_
                              refine lw_goto (pc := 408) (tgt := 413) dL_ask_408 (by decide) ?_
                              refine lw_ireturn (pc := 413) dL_ask_413 rfl ?_ (Nat.le_of_ble_eq_true rfl) (Nat.le_of_ble_eq_true rfl)
                              exact G
                            · replace G := G.2 c197
                              refine lw_aload_n (pc := 385) dL_ask_385 rfl ?_
                              refine lw_bipush (pc := 386) dL_ask_386 ?_
                              refine lw_invV (pc := 388) (md' := m_X6_total) (as := [(.inl 11)]) dL_ask_388 mo_X6_total im_X6_total se_X6_total ml_L_13 rfl rfl (by omega) (Nat.le_of_ble_eq_true rfl) rfl ⟨Nat.le_of_ble_eq_true rfl, Nat.le_of_ble_eq_true rfl⟩ (lm_mono (lm_rg (kq_total (by omega))) (fun v199 g' e => ?_))
                              obtain ⟨r_v199, e_v199, rfl⟩ := e
                              replace G := G v199 r_v199 e_v199
                              refine lw_if_ne (pc := 391) (tgt := 398) dL_ask_391 (by decide) (fun c200 => ?_) (fun c200 => ?_)
                              · replace G := G.1 c200
                                exact G
                              · replace G := G.2 c200
                                refine lw_iconst (pc := 394) dL_ask_394 ?_
                                refine lw_goto (pc := 395) (tgt := 399) dL_ask_395 (by decide) ?_
                                refine lw_istore (pc := 399) (ls' := [some (.inr (some 1)), some (.inl x1), some (.inl x2), some (.inl x3), some (.inl x4), some (.inl x5), some (.inl x6), some (.inl x7), some (.inl x8), some (.inl x9), some (.inl v2), some (.inl (-5)), some (.inl 1), some (.inl (((x5 + 4) + x1) + (8 - x1)))]) dL_ask_399 (Nat.le_of_ble_eq_true rfl) rfl ?_
                                refine lw_iload (pc := 401) dL_ask_401 rfl ?_
                                refine lw_if_eq (pc := 403) (tgt := 411) dL_ask_403 (by decide) (fun h => absurd h (by decide)) (fun _ => ?_)
                                refine lw_iload (pc := 406) dL_ask_406 rfl ?_
                                refine lw_goto (pc := 408) (tgt := 413) dL_ask_408 (by decide) ?_
                                refine lw_ireturn (pc := 413) dL_ask_413 rfl ?_ (Nat.le_of_ble_eq_true rfl) (Nat.le_of_ble_eq_true rfl)
                                exact G
                  · replace G := G.2 c174
                    refine lw_iconst (pc := 299) dL_ask_299 ?_
                    refine lw_goto (pc := 300) (tgt := 307) dL_ask_300 (by decide) ?_
                    obtain ⟨s202, G⟩ := G
                    refine lw_iadd (pc := 307) (v := ((x5 + 4) + x1) + 1) dL_ask_307 s202 rfl ?_
                    refine lw_istore (pc := 308) (ls' := [some (.inr (some 1)), some (.inl x1), some (.inl x2), some (.inl x3), some (.inl x4), some (.inl x5), some (.inl x6), some (.inl x7), some (.inl x8), some (.inl x9), some (.inl v2), some (.inl (-5)), some (.inl 1), some (.inl (((x5 + 4) + x1) + 1))]) dL_ask_308 (Nat.le_of_ble_eq_true rfl) rfl ?_
                    refine lw_iload (pc := 310) dL_ask_310 rfl ?_
                    refine lw_if_eq (pc := 312) (tgt := 398) dL_ask_312 (by decide) (fun h => absurd h (by decide)) (fun _ => ?_)
                    refine lw_aload_n (pc := 315) dL_ask_315 rfl ?_
                    refine lw_bipush (pc := 316) dL_ask_316 ?_
                    refine lw_invV (pc := 318) (md' := m_X6_total) (as := [(.inl 9)]) dL_ask_318 mo_X6_total im_X6_total se_X6_total ml_L_13 rfl rfl (by omega) (Nat.le_of_ble_eq_true rfl) rfl ⟨Nat.le_of_ble_eq_true rfl, Nat.le_of_ble_eq_true rfl⟩ (lm_mono (lm_rg (kq_total (by omega))) (fun v204 g' e => ?_))
                    obtain ⟨r_v204, e_v204, rfl⟩ := e
                    replace G := G v204 r_v204 e_v204
                    refine lw_iload (pc := 321) dL_ask_321 rfl ?_
                    refine lw_icmp_ne (pc := 323) (tgt := 398) dL_ask_323 (by decide) (fun c205 => ?_) (fun c205 => ?_)
                    · replace G := G.1 c205
                      exact G
                    · replace G := G.2 c205
                      refine lw_aload_n (pc := 326) dL_ask_326 rfl ?_
                      refine lw_iconst (pc := 327) dL_ask_327 ?_
                      refine lw_invV (pc := 328) (md' := m_X6_total) (as := [(.inl 0)]) dL_ask_328 mo_X6_total im_X6_total se_X6_total ml_L_13 rfl rfl (by omega) (Nat.le_of_ble_eq_true rfl) rfl ⟨Nat.le_of_ble_eq_true rfl, Nat.le_of_ble_eq_true rfl⟩ (lm_mono (lm_rg (kq_total (by omega))) (fun v206 g' e => ?_))
                      obtain ⟨r_v206, e_v206, rfl⟩ := e
                      replace G := G v206 r_v206 e_v206
                      refine lw_iload (pc := 331) dL_ask_331 rfl ?_
                      refine lw_iload (pc := 333) dL_ask_333 rfl ?_
                      obtain ⟨s207, G⟩ := G
                      refine lw_isub (pc := 335) (v := x4 - x7) dL_ask_335 s207 rfl ?_
                      refine lw_icmp_ne (pc := 336) (tgt := 398) dL_ask_336 (by decide) (fun c208 => ?_) (fun c208 => ?_)
                      · replace G := G.1 c208
                        exact G
                      · replace G := G.2 c208
                        refine lw_aload_n (pc := 339) dL_ask_339 rfl ?_
                        refine lw_iconst (pc := 340) dL_ask_340 ?_
                        refine lw_invV (pc := 341) (md' := m_X6_total) (as := [(.inl 3)]) dL_ask_341 mo_X6_total im_X6_total se_X6_total ml_L_13 rfl rfl (by omega) (Nat.le_of_ble_eq_true rfl) rfl ⟨Nat.le_of_ble_eq_true rfl, Nat.le_of_ble_eq_true rfl⟩ (lm_mono (lm_rg (kq_total (by omega))) (fun v209 g' e => ?_))
                        obtain ⟨r_v209, e_v209, rfl⟩ := e
                        replace G := G v209 r_v209 e_v209
                        refine lw_iload_n (pc := 344) dL_ask_344 rfl ?_
                        refine lw_iconst (pc := 345) dL_ask_345 ?_
                        refine lw_icmp_ne (pc := 346) (tgt := 364) dL_ask_346 (by decide) (fun h => absurd h (by omega)) (fun _ => ?_)
                        refine lw_iload (pc := 349) dL_ask_349 rfl ?_
                        refine lw_sipush (pc := 351) dL_ask_351 ?_
                        refine lw_icmp_ge (pc := 354) (tgt := 364) dL_ask_354 (by decide) (fun c211 => ?_) (fun c211 => ?_)
                        · replace G := G.1 c211
                          refine lw_iload (pc := 364) dL_ask_364 rfl ?_
                          refine lw_icmp_ne (pc := 366) (tgt := 398) dL_ask_366 (by decide) (fun c212 => ?_) (fun c212 => ?_)
                          · replace G := G.1 c212
                            exact G
                          · replace G := G.2 c212
                            refine lw_iload_n (pc := 369) dL_ask_369 rfl ?_
                            refine lw_iconst (pc := 370) dL_ask_370 ?_
                            refine lw_icmp_ne (pc := 371) (tgt := 394) dL_ask_371 (by decide) (fun h => absurd h (by omega)) (fun _ => ?_)
                            refine lw_aload_n (pc := 374) dL_ask_374 rfl ?_
                            refine lw_bipush (pc := 375) dL_ask_375 ?_
                            refine lw_iload (pc := 377) dL_ask_377 rfl ?_
                            refine lw_invV (pc := 379) (md' := m_X6_count) (as := [(.inl 8), (.inl v2)]) dL_ask_379 mo_X6_count im_X6_count se_X6_count ml_L_29 rfl rfl (by omega) (Nat.le_of_ble_eq_true rfl) rfl ⟨Nat.le_of_ble_eq_true rfl, Nat.le_of_ble_eq_true rfl⟩ (lm_mono (lm_rg (kq_count (by omega))) (fun v214 g' e => ?_))
                            obtain ⟨r_v214, e_v214, rfl⟩ := e
                            replace G := G v214 r_v214 e_v214
                            refine lw_if_eq (pc := 382) (tgt := 394) dL_ask_382 (by decide) (fun c215 => ?_) (fun c215 => ?_)
                            · replace G := G.1 c215
                              refine lw_iconst (pc := 394) dL_ask_394 ?_
                              refine lw_goto (pc := 395) (tgt := 399) dL_ask_395 (by decide) ?_
                              refine lw_istore (pc := 399) (ls' := [some (.inr (some 1)), some (.inl x1), some (.inl x2), some (.inl x3), some (.inl x4), some (.inl x5), some (.inl x6), some (.inl x7), some (.inl x8), some (.inl x9), some (.inl v2), some (.inl (-5)), some (.inl 1), some (.inl (((x5 + 4) + x1) + 1))]) dL_ask_399 (Nat.le_of_ble_eq_true rfl) rfl ?_
                              refine lw_iload (pc := 401) dL_ask_401 rfl ?_
                              refine lw_if_eq (pc := 403) (tgt := 411) dL_ask_403 (by decide) (fun h => absurd h (by decide)) (fun _ => ?_)
                              refine lw_iload (pc := 406) dL_ask_406 rfl ?_
                              refine lw_goto (pc := 408) (tgt := 413) dL_ask_408 (by decide) ?_
                              refine lw_ireturn (pc := 413) dL_ask_413 rfl ?_ (Nat.le_of_ble_eq_true rfl) (Nat.le_of_ble_eq_true rfl)
                              exact G
                            · replace G := G.2 c215
                              refine lw_aload_n (pc := 385) dL_ask_385 rfl ?_
                              refine lw_bipush (pc := 386) dL_ask_386 ?_
                              refine lw_invV (pc := 388) (md' := m_X6_total) (as := [(.inl 11)]) dL_ask_388 mo_X6_total im_X6_total se_X6_total ml_L_13 rfl rfl (by omega) (Nat.le_of_ble_eq_true rfl) rfl ⟨Nat.le_of_ble_eq_true rfl, Nat.le_of_ble_eq_true rfl⟩ (lm_mono (lm_rg (kq_total (by omega))) (fun v217 g' e => ?_))
                              obtain ⟨r_v217, e_v217, rfl⟩ := e
                              replace G := G v217 r_v217 e_v217
                              refine lw_if_ne (pc := 391) (tgt := 398) dL_ask_391 (by decide) (fun c218 => ?_) (fun c218 => ?_)
                              · replace G := G.1 c218
                                exact G
                              · replace G := G.2 c218
                                refine lw_iconst (pc := 394) dL_ask_394 ?_
                                refine lw_goto (pc := 395) (tgt := 399) dL_ask_395 (by decide) ?_
                                refine lw_istore (pc := 399) (ls' := [some (.inr (some 1)), some (.inl x1), some (.inl x2), some (.inl x3), some (.inl x4), some (.inl x5), some (.inl x6), some (.inl x7), some (.inl x8), some (.inl x9), some (.inl v2), some (.inl (-5)), some (.inl 1), some (.inl (((x5 + 4) + x1) + 1))]) dL_ask_399 (Nat.le_of_ble_eq_true rfl) rfl ?_
                                refine lw_iload (pc := 401) dL_ask_401 rfl ?_
                                refine lw_if_eq (pc := 403) (tgt := 411) dL_ask_403 (by decide) (fun h => absurd h (by decide)) (fun _ => ?_)
                                refine lw_iload (pc := 406) dL_ask_406 rfl ?_
                                refine lw_goto (pc := 408) (tgt := 413) dL_ask_408 (by decide) ?_
                                refine lw_ireturn (pc := 413) dL_ask_413 rfl ?_ (Nat.le_of_ble_eq_true rfl) (Nat.le_of_ble_eq_true rfl)
                                exact G
                        · replace G := G.2 c211
                          refine lw_iload (pc := 357) dL_ask_357 rfl ?_
                          refine lw_iconst (pc := 359) dL_ask_359 ?_
                          obtain ⟨s220, G⟩ := G
                          refine lw_iadd (pc := 360) (v := x6 + 1) dL_ask_360 s220 rfl ?_
                          refine lw_goto (pc := 361) (tgt := 366) dL_ask_361 (by decide) ?_
                          refine lw_icmp_ne (pc := 366) (tgt := 398) dL_ask_366 (by decide) (fun c221 => ?_) (fun c221 => ?_)
                          · replace G := G.1 c221
                            exact G
                          · replace G := G.2 c221
                            refine lw_iload_n (pc := 369) dL_ask_369 rfl ?_
                            refine lw_iconst (pc := 370) dL_ask_370 ?_
                            refine lw_icmp_ne (pc := 371) (tgt := 394) dL_ask_371 (by decide) (fun h => absurd h (by omega)) (fun _ => ?_)
                            refine lw_aload_n (pc := 374) dL_ask_374 rfl ?_
                            refine lw_bipush (pc := 375) dL_ask_375 ?_
                            refine lw_iload (pc := 377) dL_ask_377 rfl ?_
                            refine lw_invV (pc := 379) (md' := m_X6_count) (as := [(.inl 8), (.inl v2)]) dL_ask_379 mo_X6_count im_X6_count se_X6_count ml_L_29 rfl rfl (by omega) (Nat.le_of_ble_eq_true rfl) rfl ⟨Nat.le_of_ble_eq_true rfl, Nat.le_of_ble_eq_true rfl⟩ (lm_mono (lm_rg (kq_count (by omega))) (fun v223 g' e => ?_))
                            obtain ⟨r_v223, e_v223, rfl⟩ := e
                            replace G := G v223 r_v223 e_v223
                            refine lw_if_eq (pc := 382) (tgt := 394) dL_ask_382 (by decide) (fun c224 => ?_) (fun c224 => ?_)
                            · replace G := G.1 c224
                              refine lw_iconst (pc := 394) dL_ask_394 ?_
                              refine lw_goto (pc := 395) (tgt := 399) dL_ask_395 (by decide) ?_
                              refine lw_istore (pc := 399) (ls' := [some (.inr (some 1)), some (.inl x1), some (.inl x2), some (.inl x3), some (.inl x4), some (.inl x5), some (.inl x6), some (.inl x7), some (.inl x8), some (.inl x9), some (.inl v2), some (.inl (-5)), some (.inl 1), some (.inl (((x5 + 4) + x1) + 1))]) dL_ask_399 (Nat.le_of_ble_eq_true rfl) rfl ?_
                              refine lw_iload (pc := 401) dL_ask_401 rfl ?_
                              refine lw_if_eq (pc := 403) (tgt := 411) dL_ask_403 (by decide) (fun h => absurd h (by decide)) (fun _ => ?_)
                              refine lw_iload (pc := 406) dL_ask_406 rfl ?_
                              refine lw_goto (pc := 408) (tgt := 413) dL_ask_408 (by decide) ?_
                              refine lw_ireturn (pc := 413) dL_ask_413 rfl ?_ (Nat.le_of_ble_eq_true rfl) (Nat.le_of_ble_eq_true rfl)
                              exact G
                            · replace G := G.2 c224
                              refine lw_aload_n (pc := 385) dL_ask_385 rfl ?_
                              refine lw_bipush (pc := 386) dL_ask_386 ?_
                              refine lw_invV (pc := 388) (md' := m_X6_total) (as := [(.inl 11)]) dL_ask_388 mo_X6_total im_X6_total se_X6_total ml_L_13 rfl rfl (by omega) (Nat.le_of_ble_eq_true rfl) rfl ⟨Nat.le_of_ble_eq_true rfl, Nat.le_of_ble_eq_true rfl⟩ (lm_mono (lm_rg (kq_total (by omega))) (fun v226 g' e => ?_))
                              obtain ⟨r_v226, e_v226, rfl⟩ := e
                              replace G := G v226 r_v226 e_v226
                              refine lw_if_ne (pc := 391) (tgt := 398) dL_ask_391 (by decide) (fun c227 => ?_) (fun c227 => ?_)
                              · replace G := G.1 c227
                                exact G
                              · replace G := G.2 c227
                                refine lw_iconst (pc := 394) dL_ask_394 ?_
                                refine lw_goto (pc := 395) (tgt := 399) dL_ask_395 (by decide) ?_
                                refine lw_istore (pc := 399) (ls' := [some (.inr (some 1)), some (.inl x1), some (.inl x2), some (.inl x3), some (.inl x4), some (.inl x5), some (.inl x6), some (.inl x7), some (.inl x8), some (.inl x9), some (.inl v2), some (.inl (-5)), some (.inl 1), some (.inl (((x5 + 4) + x1) + 1))]) dL_ask_399 (Nat.le_of_ble_eq_true rfl) rfl ?_
                                refine lw_iload (pc := 401) dL_ask_401 rfl ?_
                                refine lw_if_eq (pc := 403) (tgt := 411) dL_ask_403 (by decide) (fun h => absurd h (by decide)) (fun _ => ?_)
                                refine lw_iload (pc := 406) dL_ask_406 rfl ?_
                                refine lw_goto (pc := 408) (tgt := 413) dL_ask_408 (by decide) ?_
                                refine lw_ireturn (pc := 413) dL_ask_413 rfl ?_ (Nat.le_of_ble_eq_true rfl) (Nat.le_of_ble_eq_true rfl)
                                exact G
      · replace G := G.2 c127
        refine lw_iload (pc := 194) dL_ask_194 rfl ?_
        refine lw_sipush (pc := 196) dL_ask_196 ?_
        refine lw_icmp_ne (pc := 199) (tgt := 206) dL_ask_199 (by decide) (fun c229 => ?_) (fun c229 => ?_)
        · replace G := G.1 c229
          exact G
        · replace G := G.2 c229
          refine lw_iconst (pc := 202) dL_ask_202 ?_
          refine lw_goto (pc := 203) (tgt := 277) dL_ask_203 (by decide) ?_
          refine lw_istore (pc := 277) (ls' := [some (.inr (some 1)), some (.inl x1), some (.inl x2), some (.inl x3), some (.inl x4), some (.inl x5), some (.inl x6), some (.inl x7), some (.inl x8), some (.inl x9), some (.inl v2), some (.inl (-5)), some (.inl 1), none]) dL_ask_277 (Nat.le_of_ble_eq_true rfl) rfl ?_
          refine lw_iload (pc := 279) dL_ask_279 rfl ?_
          refine lw_iconst (pc := 281) dL_ask_281 ?_
          obtain ⟨s230, G⟩ := G
          refine lw_iadd (pc := 282) (v := x5 + 4) dL_ask_282 s230 rfl ?_
          refine lw_iload_n (pc := 283) dL_ask_283 rfl ?_
          obtain ⟨s231, G⟩ := G
          refine lw_iadd (pc := 284) (v := (x5 + 4) + x1) dL_ask_284 s231 rfl ?_
          refine lw_iload_n (pc := 285) dL_ask_285 rfl ?_
          refine lw_if_ne (pc := 286) (tgt := 293) dL_ask_286 (by decide) (fun h => absurd h (by omega)) (fun _ => ?_)
          refine lw_iconst (pc := 289) dL_ask_289 ?_
          refine lw_goto (pc := 290) (tgt := 307) dL_ask_290 (by decide) ?_
          obtain ⟨s233, G⟩ := G
          refine lw_iadd (pc := 307) (v := ((x5 + 4) + x1) + 2) dL_ask_307 s233 rfl ?_
          refine lw_istore (pc := 308) (ls' := [some (.inr (some 1)), some (.inl x1), some (.inl x2), some (.inl x3), some (.inl x4), some (.inl x5), some (.inl x6), some (.inl x7), some (.inl x8), some (.inl x9), some (.inl v2), some (.inl (-5)), some (.inl 1), some (.inl (((x5 + 4) + x1) + 2))]) dL_ask_308 (Nat.le_of_ble_eq_true rfl) rfl ?_
          refine lw_iload (pc := 310) dL_ask_310 rfl ?_
          refine lw_if_eq (pc := 312) (tgt := 398) dL_ask_312 (by decide) (fun h => absurd h (by decide)) (fun _ => ?_)
          refine lw_aload_n (pc := 315) dL_ask_315 rfl ?_
          refine lw_bipush (pc := 316) dL_ask_316 ?_
          refine lw_invV (pc := 318) (md' := m_X6_total) (as := [(.inl 9)]) dL_ask_318 mo_X6_total im_X6_total se_X6_total ml_L_13 rfl rfl (by omega) (Nat.le_of_ble_eq_true rfl) rfl ⟨Nat.le_of_ble_eq_true rfl, Nat.le_of_ble_eq_true rfl⟩ (lm_mono (lm_rg (kq_total (by omega))) (fun v235 g' e => ?_))
          obtain ⟨r_v235, e_v235, rfl⟩ := e
          replace G := G v235 r_v235 e_v235
          refine lw_iload (pc := 321) dL_ask_321 rfl ?_
          refine lw_icmp_ne (pc := 323) (tgt := 398) dL_ask_323 (by decide) (fun c236 => ?_) (fun c236 => ?_)
          · replace G := G.1 c236
            exact G
          · replace G := G.2 c236
            refine lw_aload_n (pc := 326) dL_ask_326 rfl ?_
            refine lw_iconst (pc := 327) dL_ask_327 ?_
            refine lw_invV (pc := 328) (md' := m_X6_total) (as := [(.inl 0)]) dL_ask_328 mo_X6_total im_X6_total se_X6_total ml_L_13 rfl rfl (by omega) (Nat.le_of_ble_eq_true rfl) rfl ⟨Nat.le_of_ble_eq_true rfl, Nat.le_of_ble_eq_true rfl⟩ (lm_mono (lm_rg (kq_total (by omega))) (fun v237 g' e => ?_))
            obtain ⟨r_v237, e_v237, rfl⟩ := e
            replace G := G v237 r_v237 e_v237
            refine lw_iload (pc := 331) dL_ask_331 rfl ?_
            refine lw_iload (pc := 333) dL_ask_333 rfl ?_
            obtain ⟨s238, G⟩ := G
            refine lw_isub (pc := 335) (v := x4 - x7) dL_ask_335 s238 rfl ?_
            refine lw_icmp_ne (pc := 336) (tgt := 398) dL_ask_336 (by decide) (fun c239 => ?_) (fun c239 => ?_)
            · replace G := G.1 c239
              exact G
            · replace G := G.2 c239
              refine lw_aload_n (pc := 339) dL_ask_339 rfl ?_
              refine lw_iconst (pc := 340) dL_ask_340 ?_
              refine lw_invV (pc := 341) (md' := m_X6_total) (as := [(.inl 3)]) dL_ask_341 mo_X6_total im_X6_total se_X6_total ml_L_13 rfl rfl (by omega) (Nat.le_of_ble_eq_true rfl) rfl ⟨Nat.le_of_ble_eq_true rfl, Nat.le_of_ble_eq_true rfl⟩ (lm_mono (lm_rg (kq_total (by omega))) (fun v240 g' e => ?_))
              obtain ⟨r_v240, e_v240, rfl⟩ := e
              replace G := G v240 r_v240 e_v240
              refine lw_iload_n (pc := 344) dL_ask_344 rfl ?_
              refine lw_iconst (pc := 345) dL_ask_345 ?_
              refine lw_icmp_ne (pc := 346) (tgt := 364) dL_ask_346 (by decide) (fun _ => ?_) (fun h => absurd (by omega) h)
              refine lw_iload (pc := 364) dL_ask_364 rfl ?_
              refine lw_icmp_ne (pc := 366) (tgt := 398) dL_ask_366 (by decide) (fun c242 => ?_) (fun c242 => ?_)
              · replace G := G.1 c242
                exact G
              · replace G := G.2 c242
                refine lw_iload_n (pc := 369) dL_ask_369 rfl ?_
                refine lw_iconst (pc := 370) dL_ask_370 ?_
                refine lw_icmp_ne (pc := 371) (tgt := 394) dL_ask_371 (by decide) (fun _ => ?_) (fun h => absurd (by omega) h)
                refine lw_iconst (pc := 394) dL_ask_394 ?_
                refine lw_goto (pc := 395) (tgt := 399) dL_ask_395 (by decide) ?_
                refine lw_istore (pc := 399) (ls' := [some (.inr (some 1)), some (.inl x1), some (.inl x2), some (.inl x3), some (.inl x4), some (.inl x5), some (.inl x6), some (.inl x7), some (.inl x8), some (.inl x9), some (.inl v2), some (.inl (-5)), some (.inl 1), some (.inl (((x5 + 4) + x1) + 2))]) dL_ask_399 (Nat.le_of_ble_eq_true rfl) rfl ?_
                refine lw_iload (pc := 401) dL_ask_401 rfl ?_
                refine lw_if_eq (pc := 403) (tgt := 411) dL_ask_403 (by decide) (fun h => absurd h (by decide)) (fun _ => ?_)
                refine lw_iload (pc := 406) dL_ask_406 rfl ?_
                refine lw_goto (pc := 408) (tgt := 413) dL_ask_408 (by decide) ?_
                refine lw_ireturn (pc := 413) dL_ask_413 rfl ?_ (Nat.le_of_ble_eq_true rfl) (Nat.le_of_ble_eq_true rfl)
                exact G
  · replace G := G.2 c1
    refine lw_iload_n (pc := 86) dL_ask_86 rfl ?_
    refine lw_iconst (pc := 87) dL_ask_87 ?_
    refine lw_icmp_le (pc := 88) (tgt := 156) dL_ask_88 (by decide) (fun c245 => ?_) (fun c245 => ?_)
    · replace G := G.1 c245
      refine lw_aload_n (pc := 156) dL_ask_156 rfl ?_
      refine lw_iload_n (pc := 157) dL_ask_157 rfl ?_
      refine lw_iload_n (pc := 158) dL_ask_158 rfl ?_
      refine lw_invV (pc := 159) (md' := m_X6_ask) (as := [(.inl x1), (.inl x2)]) dL_ask_159 mo_X6_ask im_X6_ask se_X6_ask ml_L_62 rfl rfl (by omega) (Nat.le_of_ble_eq_true rfl) rfl ⟨Nat.le_of_ble_eq_true rfl, Nat.le_of_ble_eq_true rfl⟩ (lm_mono (lm_rg (kc_ask (by omega))) (fun v246 g247 e => ?_))
      obtain ⟨r_v246, e_v246, f_v246⟩ := e
      replace G := G v246 g247 r_v246 e_v246 f_v246
      refine lw_istore (pc := 162) (ls' := [some (.inr (some 1)), some (.inl x1), some (.inl x2), some (.inl x3), some (.inl x4), some (.inl x5), some (.inl x6), some (.inl x7), some (.inl x8), some (.inl x9), some (.inl v246), none, none, none]) dL_ask_162 (Nat.le_of_ble_eq_true rfl) rfl ?_
      refine lw_aload_n (pc := 164) dL_ask_164 rfl ?_
      refine lw_iconst (pc := 165) dL_ask_165 ?_
      refine lw_invV (pc := 166) (md' := m_X6_total) (as := [(.inl 3)]) dL_ask_166 mo_X6_total im_X6_total se_X6_total ml_L_13 rfl rfl (by omega) (Nat.le_of_ble_eq_true rfl) rfl ⟨Nat.le_of_ble_eq_true rfl, Nat.le_of_ble_eq_true rfl⟩ (lm_mono (lm_rg (kq_total (by omega))) (fun v248 g' e => ?_))
      obtain ⟨r_v248, e_v248, rfl⟩ := e
      replace G := G v248 r_v248 e_v248
      refine lw_if_ne (pc := 169) (tgt := 177) dL_ask_169 (by decide) (fun c249 => ?_) (fun c249 => ?_)
      · replace G := G.1 c249
        refine lw_aload_n (pc := 177) dL_ask_177 rfl ?_
        refine lw_aload_n (pc := 178) dL_ask_178 rfl ?_
        refine lw_iconst (pc := 179) dL_ask_179 ?_
        refine lw_invV (pc := 180) (md' := m_X6_total) (as := [(.inl 3)]) dL_ask_180 mo_X6_total im_X6_total se_X6_total ml_L_13 rfl rfl (by omega) (Nat.le_of_ble_eq_true rfl) rfl ⟨Nat.le_of_ble_eq_true rfl, Nat.le_of_ble_eq_true rfl⟩ (lm_mono (lm_rg (kq_total (by omega))) (fun v250 g' e => ?_))
        obtain ⟨r_v250, e_v250, rfl⟩ := e
        replace G := G v250 r_v250 e_v250
        refine lw_iconst (pc := 183) dL_ask_183 ?_
        obtain ⟨s251, G⟩ := G
        refine lw_isub (pc := 184) (v := v250 - 1) dL_ask_184 s251 rfl ?_
        refine lw_invV (pc := 185) (md' := m_X6_told) (as := [(.inl (v250 - 1))]) dL_ask_185 mo_X6_told im_X6_told se_X6_told ml_L_26 rfl rfl (by omega) (Nat.le_of_ble_eq_true rfl) rfl ⟨Nat.le_of_ble_eq_true rfl, Nat.le_of_ble_eq_true rfl⟩ (lm_mono (lm_rg (kq_told (by omega))) (fun v252 g' e => ?_))
        obtain ⟨r_v252, e_v252, rfl⟩ := e
        replace G := G v252 r_v252 e_v252
        refine lw_istore (pc := 188) (ls' := [some (.inr (some 1)), some (.inl x1), some (.inl x2), some (.inl x3), some (.inl x4), some (.inl x5), some (.inl x6), some (.inl x7), some (.inl x8), some (.inl x9), some (.inl v246), some (.inl v252), none, none]) dL_ask_188 (Nat.le_of_ble_eq_true rfl) rfl ?_
        refine lw_iload_n (pc := 190) dL_ask_190 rfl ?_
        refine lw_if_ne (pc := 191) (tgt := 210) dL_ask_191 (by decide) (fun c253 => ?_) (fun c253 => ?_)
        · replace G := G.1 c253
          refine lw_iload_n (pc := 210) dL_ask_210 rfl ?_
          refine lw_iconst (pc := 211) dL_ask_211 ?_
          refine lw_icmp_ne (pc := 212) (tgt := 254) dL_ask_212 (by decide) (fun c254 => ?_) (fun c254 => ?_)
          · replace G := G.1 c254
            refine lw_iload (pc := 254) dL_ask_254 rfl ?_
            refine lw_sipush (pc := 256) dL_ask_256 ?_
            refine lw_iload (pc := 259) dL_ask_259 rfl ?_
            obtain ⟨s255, G⟩ := G
            refine lw_iadd (pc := 261) (v := 400 + x8) dL_ask_261 s255 rfl ?_
            refine lw_icmp_ne (pc := 262) (tgt := 276) dL_ask_262 (by decide) (fun c256 => ?_) (fun c256 => ?_)
            · replace G := G.1 c256
              exact G
            · replace G := G.2 c256
              refine lw_iload (pc := 265) dL_ask_265 rfl ?_
              refine lw_bipush (pc := 267) dL_ask_267 ?_
              refine lw_icmp_ge (pc := 269) (tgt := 276) dL_ask_269 (by decide) (fun h => absurd h (by omega)) (fun _ => ?_)
              refine lw_iconst (pc := 272) dL_ask_272 ?_
              refine lw_goto (pc := 273) (tgt := 277) dL_ask_273 (by decide) ?_
              refine lw_istore (pc := 277) (ls' := [some (.inr (some 1)), some (.inl x1), some (.inl x2), some (.inl x3), some (.inl x4), some (.inl x5), some (.inl x6), some (.inl x7), some (.inl x8), some (.inl x9), some (.inl v246), some (.inl v252), some (.inl 1), none]) dL_ask_277 (Nat.le_of_ble_eq_true rfl) rfl ?_
              refine lw_iload (pc := 279) dL_ask_279 rfl ?_
              refine lw_iconst (pc := 281) dL_ask_281 ?_
              obtain ⟨s258, G⟩ := G
              refine lw_iadd (pc := 282) (v := x5 + 4) dL_ask_282 s258 rfl ?_
              refine lw_iload_n (pc := 283) dL_ask_283 rfl ?_
              obtain ⟨s259, G⟩ := G
              refine lw_iadd (pc := 284) (v := (x5 + 4) + x1) dL_ask_284 s259 rfl ?_
              refine lw_iload_n (pc := 285) dL_ask_285 rfl ?_
              refine lw_if_ne (pc := 286) (tgt := 293) dL_ask_286 (by decide) (fun _ => ?_) (fun h => absurd (by omega) h)
              refine lw_iload_n (pc := 293) dL_ask_293 rfl ?_
              refine lw_bipush (pc := 294) dL_ask_294 ?_
              refine lw_icmp_ne (pc := 296) (tgt := 303) dL_ask_296 (by decide) (fun c261 => ?_) (fun c261 => ?_)
              · replace G := G.1 c261
                refine lw_bipush (pc := 303) dL_ask_303 ?_
                refine lw_iload_n (pc := 305) dL_ask_305 rfl ?_
                obtain ⟨s262, G⟩ := G
                refine lw_isub (pc := 306) (v := 8 - x1) dL_ask_306 s262 rfl ?_
                obtain ⟨s263, G⟩ := G
                refine lw_iadd (pc := 307) (v := ((x5 + 4) + x1) + (8 - x1)) dL_ask_307 s263 rfl ?_
                refine lw_istore (pc := 308) (ls' := [some (.inr (some 1)), some (.inl x1), some (.inl x2), some (.inl x3), some (.inl x4), some (.inl x5), some (.inl x6), some (.inl x7), some (.inl x8), some (.inl x9), some (.inl v246), some (.inl v252), some (.inl 1), some (.inl (((x5 + 4) + x1) + (8 - x1)))]) dL_ask_308 (Nat.le_of_ble_eq_true rfl) rfl ?_
                refine lw_iload (pc := 310) dL_ask_310 rfl ?_
                refine lw_if_eq (pc := 312) (tgt := 398) dL_ask_312 (by decide) (fun h => absurd h (by decide)) (fun _ => ?_)
                refine lw_aload_n (pc := 315) dL_ask_315 rfl ?_
                refine lw_bipush (pc := 316) dL_ask_316 ?_
                refine lw_invV (pc := 318) (md' := m_X6_total) (as := [(.inl 9)]) dL_ask_318 mo_X6_total im_X6_total se_X6_total ml_L_13 rfl rfl (by omega) (Nat.le_of_ble_eq_true rfl) rfl ⟨Nat.le_of_ble_eq_true rfl, Nat.le_of_ble_eq_true rfl⟩ (lm_mono (lm_rg (kq_total (by omega))) (fun v265 g' e => ?_))
                obtain ⟨r_v265, e_v265, rfl⟩ := e
                replace G := G v265 r_v265 e_v265
                refine lw_iload (pc := 321) dL_ask_321 rfl ?_
                refine lw_icmp_ne (pc := 323) (tgt := 398) dL_ask_323 (by decide) (fun c266 => ?_) (fun c266 => ?_)
                · replace G := G.1 c266
                  exact G
                · replace G := G.2 c266
                  refine lw_aload_n (pc := 326) dL_ask_326 rfl ?_
                  refine lw_iconst (pc := 327) dL_ask_327 ?_
                  refine lw_invV (pc := 328) (md' := m_X6_total) (as := [(.inl 0)]) dL_ask_328 mo_X6_total im_X6_total se_X6_total ml_L_13 rfl rfl (by omega) (Nat.le_of_ble_eq_true rfl) rfl ⟨Nat.le_of_ble_eq_true rfl, Nat.le_of_ble_eq_true rfl⟩ (lm_mono (lm_rg (kq_total (by omega))) (fun v267 g' e => ?_))
                  obtain ⟨r_v267, e_v267, rfl⟩ := e
                  replace G := G v267 r_v267 e_v267
                  refine lw_iload (pc := 331) dL_ask_331 rfl ?_
                  refine lw_iload (pc := 333) dL_ask_333 rfl ?_
                  obtain ⟨s268, G⟩ := G
                  refine lw_isub (pc := 335) (v := x4 - x7) dL_ask_335 s268 rfl ?_
                  refine lw_icmp_ne (pc := 336) (tgt := 398) dL_ask_336 (by decide) (fun c269 => ?_) (fun c269 => ?_)
                  · replace G := G.1 c269
                    exact G
                  · replace G := G.2 c269
                    refine lw_aload_n (pc := 339) dL_ask_339 rfl ?_
                    refine lw_iconst (pc := 340) dL_ask_340 ?_
                    refine lw_invV (pc := 341) (md' := m_X6_total) (as := [(.inl 3)]) dL_ask_341 mo_X6_total im_X6_total se_X6_total ml_L_13 rfl rfl (by omega) (Nat.le_of_ble_eq_true rfl) rfl ⟨Nat.le_of_ble_eq_true rfl, Nat.le_of_ble_eq_true rfl⟩ (lm_mono (lm_rg (kq_total (by omega))) (fun v270 g' e => ?_))
                    obtain ⟨r_v270, e_v270, rfl⟩ := e
                    replace G := G v270 r_v270 e_v270
                    refine lw_iload_n (pc := 344) dL_ask_344 rfl ?_
                    refine lw_iconst (pc := 345) dL_ask_345 ?_
                    refine lw_icmp_ne (pc := 346) (tgt := 364) dL_ask_346 (by decide) (fun _ => ?_) (fun h => absurd (by omega) h)
                    refine lw_iload (pc := 364) dL_ask_364 rfl ?_
                    refine lw_icmp_ne (pc := 366) (tgt := 398) dL_ask_366 (by decide) (fun c272 => ?_) (fun c272 => ?_)
                    · replace G := G.1 c272
                      exact G
                    · replace G := G.2 c272
                      refine lw_iload_n (pc := 369) dL_ask_369 rfl ?_
                      refine lw_iconst (pc := 370) dL_ask_370 ?_
                      refine lw_icmp_ne (pc := 371) (tgt := 394) dL_ask_371 (by decide) (fun _ => ?_) (fun h => absurd (by omega) h)
                      refine lw_iconst (pc := 394) dL_ask_394 ?_
                      refine lw_goto (pc := 395) (tgt := 399) dL_ask_395 (by decide) ?_
                      refine lw_istore (pc := 399) (ls' := [some (.inr (some 1)), some (.inl x1), some (.inl x2), some (.inl x3), some (.inl x4), some (.inl x5), some (.inl x6), some (.inl x7), some (.inl x8), some (.inl x9), some (.inl v246), some (.inl v252), some (.inl 1), some (.inl (((x5 + 4) + x1) + (8 - x1)))]) dL_ask_399 (Nat.le_of_ble_eq_true rfl) rfl ?_
                      refine lw_iload (pc := 401) dL_ask_401 rfl ?_
                      refine lw_if_eq (pc := 403) (tgt := 411) dL_ask_403 (by decide) (fun h => absurd h (by decide)) (fun _ => ?_)
                      refine lw_iload (pc := 406) dL_ask_406 rfl ?_
                      refine lw_goto (pc := 408) (tgt := 413) dL_ask_408 (by decide) ?_
                      refine lw_ireturn (pc := 413) dL_ask_413 rfl ?_ (Nat.le_of_ble_eq_true rfl) (Nat.le_of_ble_eq_true rfl)
                      exact G
              · replace G := G.2 c261
                refine lw_iconst (pc := 299) dL_ask_299 ?_
                refine lw_goto (pc := 300) (tgt := 307) dL_ask_300 (by decide) ?_
                obtain ⟨s275, G⟩ := G
                refine lw_iadd (pc := 307) (v := ((x5 + 4) + x1) + 1) dL_ask_307 s275 rfl ?_
                refine lw_istore (pc := 308) (ls' := [some (.inr (some 1)), some (.inl x1), some (.inl x2), some (.inl x3), some (.inl x4), some (.inl x5), some (.inl x6), some (.inl x7), some (.inl x8), some (.inl x9), some (.inl v246), some (.inl v252), some (.inl 1), some (.inl (((x5 + 4) + x1) + 1))]) dL_ask_308 (Nat.le_of_ble_eq_true rfl) rfl ?_
                refine lw_iload (pc := 310) dL_ask_310 rfl ?_
                refine lw_if_eq (pc := 312) (tgt := 398) dL_ask_312 (by decide) (fun h => absurd h (by decide)) (fun _ => ?_)
                refine lw_aload_n (pc := 315) dL_ask_315 rfl ?_
                refine lw_bipush (pc := 316) dL_ask_316 ?_
                refine lw_invV (pc := 318) (md' := m_X6_total) (as := [(.inl 9)]) dL_ask_318 mo_X6_total im_X6_total se_X6_total ml_L_13 rfl rfl (by omega) (Nat.le_of_ble_eq_true rfl) rfl ⟨Nat.le_of_ble_eq_true rfl, Nat.le_of_ble_eq_true rfl⟩ (lm_mono (lm_rg (kq_total (by omega))) (fun v277 g' e => ?_))
                obtain ⟨r_v277, e_v277, rfl⟩ := e
                replace G := G v277 r_v277 e_v277
                refine lw_iload (pc := 321) dL_ask_321 rfl ?_
                refine lw_icmp_ne (pc := 323) (tgt := 398) dL_ask_323 (by decide) (fun c278 => ?_) (fun c278 => ?_)
                · replace G := G.1 c278
                  exact G
                · replace G := G.2 c278
                  refine lw_aload_n (pc := 326) dL_ask_326 rfl ?_
                  refine lw_iconst (pc := 327) dL_ask_327 ?_
                  refine lw_invV (pc := 328) (md' := m_X6_total) (as := [(.inl 0)]) dL_ask_328 mo_X6_total im_X6_total se_X6_total ml_L_13 rfl rfl (by omega) (Nat.le_of_ble_eq_true rfl) rfl ⟨Nat.le_of_ble_eq_true rfl, Nat.le_of_ble_eq_true rfl⟩ (lm_mono (lm_rg (kq_total (by omega))) (fun v279 g' e => ?_))
                  obtain ⟨r_v279, e_v279, rfl⟩ := e
                  replace G := G v279 r_v279 e_v279
                  refine lw_iload (pc := 331) dL_ask_331 rfl ?_
                  refine lw_iload (pc := 333) dL_ask_333 rfl ?_
                  obtain ⟨s280, G⟩ := G
                  refine lw_isub (pc := 335) (v := x4 - x7) dL_ask_335 s280 rfl ?_
                  refine lw_icmp_ne (pc := 336) (tgt := 398) dL_ask_336 (by decide) (fun c281 => ?_) (fun c281 => ?_)
                  · replace G := G.1 c281
                    exact G
                  · replace G := G.2 c281
                    refine lw_aload_n (pc := 339) dL_ask_339 rfl ?_
                    refine lw_iconst (pc := 340) dL_ask_340 ?_
                    refine lw_invV (pc := 341) (md' := m_X6_total) (as := [(.inl 3)]) dL_ask_341 mo_X6_total im_X6_total se_X6_total ml_L_13 rfl rfl (by omega) (Nat.le_of_ble_eq_true rfl) rfl ⟨Nat.le_of_ble_eq_true rfl, Nat.le_of_ble_eq_true rfl⟩ (lm_mono (lm_rg (kq_total (by omega))) (fun v282 g' e => ?_))
                    obtain ⟨r_v282, e_v282, rfl⟩ := e
                    replace G := G v282 r_v282 e_v282
                    refine lw_iload_n (pc := 344) dL_ask_344 rfl ?_
                    refine lw_iconst (pc := 345) dL_ask_345 ?_
                    refine lw_icmp_ne (pc := 346) (tgt := 364) dL_ask_346 (by decide) (fun _ => ?_) (fun h => absurd (by omega) h)
                    refine lw_iload (pc := 364) dL_ask_364 rfl ?_
                    refine lw_icmp_ne (pc := 366) (tgt := 398) dL_ask_366 (by decide) (fun c284 => ?_) (fun c284 => ?_)
                    · replace G := G.1 c284
                      exact G
                    · replace G := G.2 c284
                      refine lw_iload_n (pc := 369) dL_ask_369 rfl ?_
                      refine lw_iconst (pc := 370) dL_ask_370 ?_
                      refine lw_icmp_ne (pc := 371) (tgt := 394) dL_ask_371 (by decide) (fun _ => ?_) (fun h => absurd (by omega) h)
                      refine lw_iconst (pc := 394) dL_ask_394 ?_
                      refine lw_goto (pc := 395) (tgt := 399) dL_ask_395 (by decide) ?_
                      refine lw_istore (pc := 399) (ls' := [some (.inr (some 1)), some (.inl x1), some (.inl x2), some (.inl x3), some (.inl x4), some (.inl x5), some (.inl x6), some (.inl x7), some (.inl x8), some (.inl x9), some (.inl v246), some (.inl v252), some (.inl 1), some (.inl (((x5 + 4) + x1) + 1))]) dL_ask_399 (Nat.le_of_ble_eq_true rfl) rfl ?_
                      refine lw_iload (pc := 401) dL_ask_401 rfl ?_
                      refine lw_if_eq (pc := 403) (tgt := 411) dL_ask_403 (by decide) (fun h => absurd h (by decide)) (fun _ => ?_)
                      refine lw_iload (pc := 406) dL_ask_406 rfl ?_
                      refine lw_goto (pc := 408) (tgt := 413) dL_ask_408 (by decide) ?_
                      refine lw_ireturn (pc := 413) dL_ask_413 rfl ?_ (Nat.le_of_ble_eq_true rfl) (Nat.le_of_ble_eq_true rfl)
                      exact G
          · replace G := G.2 c254
            refine lw_iload (pc := 215) dL_ask_215 rfl ?_
            refine lw_if_lt (pc := 217) (tgt := 250) dL_ask_217 (by decide) (fun c287 => ?_) (fun c287 => ?_)
            · replace G := G.1 c287
              refine lw_iconst (pc := 250) dL_ask_250 ?_
              refine lw_goto (pc := 251) (tgt := 277) dL_ask_251 (by decide) ?_
              refine lw_istore (pc := 277) (ls' := [some (.inr (some 1)), some (.inl x1), some (.inl x2), some (.inl x3), some (.inl x4), some (.inl x5), some (.inl x6), some (.inl x7), some (.inl x8), some (.inl x9), some (.inl v246), some (.inl v252), some (.inl 0), none]) dL_ask_277 (Nat.le_of_ble_eq_true rfl) rfl ?_
              refine lw_iload (pc := 279) dL_ask_279 rfl ?_
              refine lw_iconst (pc := 281) dL_ask_281 ?_
              obtain ⟨s288, G⟩ := G
              refine lw_iadd (pc := 282) (v := x5 + 4) dL_ask_282 s288 rfl ?_
              refine lw_iload_n (pc := 283) dL_ask_283 rfl ?_
              obtain ⟨s289, G⟩ := G
              refine lw_iadd (pc := 284) (v := (x5 + 4) + x1) dL_ask_284 s289 rfl ?_
              refine lw_iload_n (pc := 285) dL_ask_285 rfl ?_
              refine lw_if_ne (pc := 286) (tgt := 293) dL_ask_286 (by decide) (fun _ => ?_) (fun h => absurd (by omega) h)
              refine lw_iload_n (pc := 293) dL_ask_293 rfl ?_
              refine lw_bipush (pc := 294) dL_ask_294 ?_
              refine lw_icmp_ne (pc := 296) (tgt := 303) dL_ask_296 (by decide) (fun c291 => ?_) (fun c291 => ?_)
              · replace G := G.1 c291
                refine lw_bipush (pc := 303) dL_ask_303 ?_
                refine lw_iload_n (pc := 305) dL_ask_305 rfl ?_
                obtain ⟨s292, G⟩ := G
                refine lw_isub (pc := 306) (v := 8 - x1) dL_ask_306 s292 rfl ?_
                obtain ⟨s293, G⟩ := G
                refine lw_iadd (pc := 307) (v := ((x5 + 4) + x1) + (8 - x1)) dL_ask_307 s293 rfl ?_
                refine lw_istore (pc := 308) (ls' := [some (.inr (some 1)), some (.inl x1), some (.inl x2), some (.inl x3), some (.inl x4), some (.inl x5), some (.inl x6), some (.inl x7), some (.inl x8), some (.inl x9), some (.inl v246), some (.inl v252), some (.inl 0), some (.inl (((x5 + 4) + x1) + (8 - x1)))]) dL_ask_308 (Nat.le_of_ble_eq_true rfl) rfl ?_
                refine lw_iload (pc := 310) dL_ask_310 rfl ?_
                refine lw_if_eq (pc := 312) (tgt := 398) dL_ask_312 (by decide) (fun _ => ?_) (fun h => absurd (by decide) h)
                exact G
              · replace G := G.2 c291
                refine lw_iconst (pc := 299) dL_ask_299 ?_
                refine lw_goto (pc := 300) (tgt := 307) dL_ask_300 (by decide) ?_
                obtain ⟨s295, G⟩ := G
                refine lw_iadd (pc := 307) (v := ((x5 + 4) + x1) + 1) dL_ask_307 s295 rfl ?_
                refine lw_istore (pc := 308) (ls' := [some (.inr (some 1)), some (.inl x1), some (.inl x2), some (.inl x3), some (.inl x4), some (.inl x5), some (.inl x6), some (.inl x7), some (.inl x8), some (.inl x9), some (.inl v246), some (.inl v252), some (.inl 0), some (.inl (((x5 + 4) + x1) + 1))]) dL_ask_308 (Nat.le_of_ble_eq_true rfl) rfl ?_
                refine lw_iload (pc := 310) dL_ask_310 rfl ?_
                refine lw_if_eq (pc := 312) (tgt := 398) dL_ask_312 (by decide) (fun _ => ?_) (fun h => absurd (by decide) h)
                exact G
            · replace G := G.2 c287
              refine lw_iload (pc := 220) dL_ask_220 rfl ?_
              refine lw_sipush (pc := 222) dL_ask_222 ?_
              refine lw_icmp_ge (pc := 225) (tgt := 250) dL_ask_225 (by decide) (fun c297 => ?_) (fun c297 => ?_)
              · replace G := G.1 c297
                refine lw_iconst (pc := 250) dL_ask_250 ?_
                refine lw_goto (pc := 251) (tgt := 277) dL_ask_251 (by decide) ?_
                refine lw_istore (pc := 277) (ls' := [some (.inr (some 1)), some (.inl x1), some (.inl x2), some (.inl x3), some (.inl x4), some (.inl x5), some (.inl x6), some (.inl x7), some (.inl x8), some (.inl x9), some (.inl v246), some (.inl v252), some (.inl 0), none]) dL_ask_277 (Nat.le_of_ble_eq_true rfl) rfl ?_
                refine lw_iload (pc := 279) dL_ask_279 rfl ?_
                refine lw_iconst (pc := 281) dL_ask_281 ?_
                obtain ⟨s298, G⟩ := G
                refine lw_iadd (pc := 282) (v := x5 + 4) dL_ask_282 s298 rfl ?_
                refine lw_iload_n (pc := 283) dL_ask_283 rfl ?_
                obtain ⟨s299, G⟩ := G
                refine lw_iadd (pc := 284) (v := (x5 + 4) + x1) dL_ask_284 s299 rfl ?_
                refine lw_iload_n (pc := 285) dL_ask_285 rfl ?_
                refine lw_if_ne (pc := 286) (tgt := 293) dL_ask_286 (by decide) (fun _ => ?_) (fun h => absurd (by omega) h)
                refine lw_iload_n (pc := 293) dL_ask_293 rfl ?_
                refine lw_bipush (pc := 294) dL_ask_294 ?_
                refine lw_icmp_ne (pc := 296) (tgt := 303) dL_ask_296 (by decide) (fun c301 => ?_) (fun c301 => ?_)
                · replace G := G.1 c301
                  refine lw_bipush (pc := 303) dL_ask_303 ?_
                  refine lw_iload_n (pc := 305) dL_ask_305 rfl ?_
                  obtain ⟨s302, G⟩ := G
                  refine lw_isub (pc := 306) (v := 8 - x1) dL_ask_306 s302 rfl ?_
                  obtain ⟨s303, G⟩ := G
                  refine lw_iadd (pc := 307) (v := ((x5 + 4) + x1) + (8 - x1)) dL_ask_307 s303 rfl ?_
                  refine lw_istore (pc := 308) (ls' := [some (.inr (some 1)), some (.inl x1), some (.inl x2), some (.inl x3), some (.inl x4), some (.inl x5), some (.inl x6), some (.inl x7), some (.inl x8), some (.inl x9), some (.inl v246), some (.inl v252), some (.inl 0), some (.inl (((x5 + 4) + x1) + (8 - x1)))]) dL_ask_308 (Nat.le_of_ble_eq_true rfl) rfl ?_
                  refine lw_iload (pc := 310) dL_ask_310 rfl ?_
                  refine lw_if_eq (pc := 312) (tgt := 398) dL_ask_312 (by decide) (fun _ => ?_) (fun h => absurd (by decide) h)
                  exact G
                · replace G := G.2 c301
                  refine lw_iconst (pc := 299) dL_ask_299 ?_
                  refine lw_goto (pc := 300) (tgt := 307) dL_ask_300 (by decide) ?_
                  obtain ⟨s305, G⟩ := G
                  refine lw_iadd (pc := 307) (v := ((x5 + 4) + x1) + 1) dL_ask_307 s305 rfl ?_
                  refine lw_istore (pc := 308) (ls' := [some (.inr (some 1)), some (.inl x1), some (.inl x2), some (.inl x3), some (.inl x4), some (.inl x5), some (.inl x6), some (.inl x7), some (.inl x8), some (.inl x9), some (.inl v246), some (.inl v252), some (.inl 0), some (.inl (((x5 + 4) + x1) + 1))]) dL_ask_308 (Nat.le_of_ble_eq_true rfl) rfl ?_
                  refine lw_iload (pc := 310) dL_ask_310 rfl ?_
                  refine lw_if_eq (pc := 312) (tgt := 398) dL_ask_312 (by decide) (fun _ => ?_) (fun h => absurd (by decide) h)
                  exact G
              · replace G := G.2 c297
                refine lw_iload (pc := 228) dL_ask_228 rfl ?_
                refine lw_bipush (pc := 230) dL_ask_230 ?_
                refine lw_iload_n (pc := 232) dL_ask_232 rfl ?_
                obtain ⟨s307, G⟩ := G
                refine lw_isub (pc := 233) (v := 8 - x1) dL_ask_233 s307 rfl ?_
                refine lw_ishr (pc := 234) dL_ask_234 ?_
                refine lw_iload_n (pc := 235) dL_ask_235 rfl ?_
                refine lw_icmp_ne (pc := 236) (tgt := 250) dL_ask_236 (by decide) (fun c308 => ?_) (fun c308 => ?_)
                · replace G := G.1 c308
                  refine lw_iconst (pc := 250) dL_ask_250 ?_
                  refine lw_goto (pc := 251) (tgt := 277) dL_ask_251 (by decide) ?_
                  refine lw_istore (pc := 277) (ls' := [some (.inr (some 1)), some (.inl x1), some (.inl x2), some (.inl x3), some (.inl x4), some (.inl x5), some (.inl x6), some (.inl x7), some (.inl x8), some (.inl x9), some (.inl v246), some (.inl v252), some (.inl 0), none]) dL_ask_277 (Nat.le_of_ble_eq_true rfl) rfl ?_
                  refine lw_iload (pc := 279) dL_ask_279 rfl ?_
                  refine lw_iconst (pc := 281) dL_ask_281 ?_
                  obtain ⟨s309, G⟩ := G
                  refine lw_iadd (pc := 282) (v := x5 + 4) dL_ask_282 s309 rfl ?_
                  refine lw_iload_n (pc := 283) dL_ask_283 rfl ?_
                  obtain ⟨s310, G⟩ := G
                  refine lw_iadd (pc := 284) (v := (x5 + 4) + x1) dL_ask_284 s310 rfl ?_
                  refine lw_iload_n (pc := 285) dL_ask_285 rfl ?_
                  refine lw_if_ne (pc := 286) (tgt := 293) dL_ask_286 (by decide) (fun _ => ?_) (fun h => absurd (by omega) h)
                  refine lw_iload_n (pc := 293) dL_ask_293 rfl ?_
                  refine lw_bipush (pc := 294) dL_ask_294 ?_
                  refine lw_icmp_ne (pc := 296) (tgt := 303) dL_ask_296 (by decide) (fun c312 => ?_) (fun c312 => ?_)
                  · replace G := G.1 c312
                    refine lw_bipush (pc := 303) dL_ask_303 ?_
                    refine lw_iload_n (pc := 305) dL_ask_305 rfl ?_
                    refine lw_isub (pc := 306) (v := 8 - x1) dL_ask_306 s307 rfl ?_
                    obtain ⟨s313, G⟩ := G
                    refine lw_iadd (pc := 307) (v := ((x5 + 4) + x1) + (8 - x1)) dL_ask_307 s313 rfl ?_
                    refine lw_istore (pc := 308) (ls' := [some (.inr (some 1)), some (.inl x1), some (.inl x2), some (.inl x3), some (.inl x4), some (.inl x5), some (.inl x6), some (.inl x7), some (.inl x8), some (.inl x9), some (.inl v246), some (.inl v252), some (.inl 0), some (.inl (((x5 + 4) + x1) + (8 - x1)))]) dL_ask_308 (Nat.le_of_ble_eq_true rfl) rfl ?_
                    refine lw_iload (pc := 310) dL_ask_310 rfl ?_
                    refine lw_if_eq (pc := 312) (tgt := 398) dL_ask_312 (by decide) (fun _ => ?_) (fun h => absurd (by decide) h)
                    exact G
                  · replace G := G.2 c312
                    refine lw_iconst (pc := 299) dL_ask_299 ?_
                    refine lw_goto (pc := 300) (tgt := 307) dL_ask_300 (by decide) ?_
                    obtain ⟨s315, G⟩ := G
                    refine lw_iadd (pc := 307) (v := ((x5 + 4) + x1) + 1) dL_ask_307 s315 rfl ?_
                    refine lw_istore (pc := 308) (ls' := [some (.inr (some 1)), some (.inl x1), some (.inl x2), some (.inl x3), some (.inl x4), some (.inl x5), some (.inl x6), some (.inl x7), some (.inl x8), some (.inl x9), some (.inl v246), some (.inl v252), some (.inl 0), some (.inl (((x5 + 4) + x1) + 1))]) dL_ask_308 (Nat.le_of_ble_eq_true rfl) rfl ?_
                    refine lw_iload (pc := 310) dL_ask_310 rfl ?_
                    refine lw_if_eq (pc := 312) (tgt := 398) dL_ask_312 (by decide) (fun _ => ?_) (fun h => absurd (by decide) h)
                    exact G
                · replace G := G.2 c308
                  refine lw_iload (pc := 239) dL_ask_239 rfl ?_
                  refine lw_iload (pc := 241) dL_ask_241 rfl ?_
                  refine lw_icmp_ne (pc := 243) (tgt := 250) dL_ask_243 (by decide) (fun c317 => ?_) (fun c317 => ?_)
                  · replace G := G.1 c317
                    refine lw_iconst (pc := 250) dL_ask_250 ?_
                    refine lw_goto (pc := 251) (tgt := 277) dL_ask_251 (by decide) ?_
                    refine lw_istore (pc := 277) (ls' := [some (.inr (some 1)), some (.inl x1), some (.inl x2), some (.inl x3), some (.inl x4), some (.inl x5), some (.inl x6), some (.inl x7), some (.inl x8), some (.inl x9), some (.inl v246), some (.inl v252), some (.inl 0), none]) dL_ask_277 (Nat.le_of_ble_eq_true rfl) rfl ?_
                    refine lw_iload (pc := 279) dL_ask_279 rfl ?_
                    refine lw_iconst (pc := 281) dL_ask_281 ?_
                    obtain ⟨s318, G⟩ := G
                    refine lw_iadd (pc := 282) (v := x5 + 4) dL_ask_282 s318 rfl ?_
                    refine lw_iload_n (pc := 283) dL_ask_283 rfl ?_
                    obtain ⟨s319, G⟩ := G
                    refine lw_iadd (pc := 284) (v := (x5 + 4) + x1) dL_ask_284 s319 rfl ?_
                    refine lw_iload_n (pc := 285) dL_ask_285 rfl ?_
                    refine lw_if_ne (pc := 286) (tgt := 293) dL_ask_286 (by decide) (fun _ => ?_) (fun h => absurd (by omega) h)
                    refine lw_iload_n (pc := 293) dL_ask_293 rfl ?_
                    refine lw_bipush (pc := 294) dL_ask_294 ?_
                    refine lw_icmp_ne (pc := 296) (tgt := 303) dL_ask_296 (by decide) (fun c321 => ?_) (fun c321 => ?_)
                    · replace G := G.1 c321
                      refine lw_bipush (pc := 303) dL_ask_303 ?_
                      refine lw_iload_n (pc := 305) dL_ask_305 rfl ?_
                      refine lw_isub (pc := 306) (v := 8 - x1) dL_ask_306 s307 rfl ?_
                      obtain ⟨s322, G⟩ := G
                      refine lw_iadd (pc := 307) (v := ((x5 + 4) + x1) + (8 - x1)) dL_ask_307 s322 rfl ?_
                      refine lw_istore (pc := 308) (ls' := [some (.inr (some 1)), some (.inl x1), some (.inl x2), some (.inl x3), some (.inl x4), some (.inl x5), some (.inl x6), some (.inl x7), some (.inl x8), some (.inl x9), some (.inl v246), some (.inl v252), some (.inl 0), some (.inl (((x5 + 4) + x1) + (8 - x1)))]) dL_ask_308 (Nat.le_of_ble_eq_true rfl) rfl ?_
                      refine lw_iload (pc := 310) dL_ask_310 rfl ?_
                      refine lw_if_eq (pc := 312) (tgt := 398) dL_ask_312 (by decide) (fun _ => ?_) (fun h => absurd (by decide) h)
                      exact G
                    · replace G := G.2 c321
                      refine lw_iconst (pc := 299) dL_ask_299 ?_
                      refine lw_goto (pc := 300) (tgt := 307) dL_ask_300 (by decide) ?_
                      obtain ⟨s324, G⟩ := G
                      refine lw_iadd (pc := 307) (v := ((x5 + 4) + x1) + 1) dL_ask_307 s324 rfl ?_
                      refine lw_istore (pc := 308) (ls' := [some (.inr (some 1)), some (.inl x1), some (.inl x2), some (.inl x3), some (.inl x4), some (.inl x5), some (.inl x6), some (.inl x7), some (.inl x8), some (.inl x9), some (.inl v246), some (.inl v252), some (.inl 0), some (.inl (((x5 + 4) + x1) + 1))]) dL_ask_308 (Nat.le_of_ble_eq_true rfl) rfl ?_
                      refine lw_iload (pc := 310) dL_ask_310 rfl ?_
                      refine lw_if_eq (pc := 312) (tgt := 398) dL_ask_312 (by decide) (fun _ => ?_) (fun h => absurd (by decide) h)
                      exact G
                  · replace G := G.2 c317
                    refine lw_iconst (pc := 246) dL_ask_246 ?_
                    refine lw_goto (pc := 247) (tgt := 277) dL_ask_247 (by decide) ?_
                    refine lw_istore (pc := 277) (ls' := [some (.inr (some 1)), some (.inl x1), some (.inl x2), some (.inl x3), some (.inl x4), some (.inl x5), some (.inl x6), some (.inl x7), some (.inl x8), some (.inl x9), some (.inl v246), some (.inl v252), some (.inl 1), none]) dL_ask_277 (Nat.le_of_ble_eq_true rfl) rfl ?_
                    refine lw_iload (pc := 279) dL_ask_279 rfl ?_
                    refine lw_iconst (pc := 281) dL_ask_281 ?_
                    obtain ⟨s326, G⟩ := G
                    refine lw_iadd (pc := 282) (v := x5 + 4) dL_ask_282 s326 rfl ?_
                    refine lw_iload_n (pc := 283) dL_ask_283 rfl ?_
                    obtain ⟨s327, G⟩ := G
                    refine lw_iadd (pc := 284) (v := (x5 + 4) + x1) dL_ask_284 s327 rfl ?_
                    refine lw_iload_n (pc := 285) dL_ask_285 rfl ?_
                    refine lw_if_ne (pc := 286) (tgt := 293) dL_ask_286 (by decide) (fun _ => ?_) (fun h => absurd (by omega) h)
                    refine lw_iload_n (pc := 293) dL_ask_293 rfl ?_
                    refine lw_bipush (pc := 294) dL_ask_294 ?_
                    refine lw_icmp_ne (pc := 296) (tgt := 303) dL_ask_296 (by decide) (fun c329 => ?_) (fun c329 => ?_)
                    · replace G := G.1 c329
                      refine lw_bipush (pc := 303) dL_ask_303 ?_
                      refine lw_iload_n (pc := 305) dL_ask_305 rfl ?_
                      refine lw_isub (pc := 306) (v := 8 - x1) dL_ask_306 s307 rfl ?_
                      obtain ⟨s330, G⟩ := G
                      refine lw_iadd (pc := 307) (v := ((x5 + 4) + x1) + (8 - x1)) dL_ask_307 s330 rfl ?_
                      refine lw_istore (pc := 308) (ls' := [some (.inr (some 1)), some (.inl x1), some (.inl x2), some (.inl x3), some (.inl x4), some (.inl x5), some (.inl x6), some (.inl x7), some (.inl x8), some (.inl x9), some (.inl v246), some (.inl v252), some (.inl 1), some (.inl (((x5 + 4) + x1) + (8 - x1)))]) dL_ask_308 (Nat.le_of_ble_eq_true rfl) rfl ?_
                      refine lw_iload (pc := 310) dL_ask_310 rfl ?_
                      refine lw_if_eq (pc := 312) (tgt := 398) dL_ask_312 (by decide) (fun h => absurd h (by decide)) (fun _ => ?_)
                      refine lw_aload_n (pc := 315) dL_ask_315 rfl ?_
                      refine lw_bipush (pc := 316) dL_ask_316 ?_
                      refine lw_invV (pc := 318) (md' := m_X6_total) (as := [(.inl 9)]) dL_ask_318 mo_X6_total im_X6_total se_X6_total ml_L_13 rfl rfl (by omega) (Nat.le_of_ble_eq_true rfl) rfl ⟨Nat.le_of_ble_eq_true rfl, Nat.le_of_ble_eq_true rfl⟩ (lm_mono (lm_rg (kq_total (by omega))) (fun v332 g' e => ?_))
                      obtain ⟨r_v332, e_v332, rfl⟩ := e
                      replace G := G v332 r_v332 e_v332
                      refine lw_iload (pc := 321) dL_ask_321 rfl ?_
                      refine lw_icmp_ne (pc := 323) (tgt := 398) dL_ask_323 (by decide) (fun c333 => ?_) (fun c333 => ?_)
                      · replace G := G.1 c333
                        exact G
                      · replace G := G.2 c333
                        refine lw_aload_n (pc := 326) dL_ask_326 rfl ?_
                        refine lw_iconst (pc := 327) dL_ask_327 ?_
                        refine lw_invV (pc := 328) (md' := m_X6_total) (as := [(.inl 0)]) dL_ask_328 mo_X6_total im_X6_total se_X6_total ml_L_13 rfl rfl (by omega) (Nat.le_of_ble_eq_true rfl) rfl ⟨Nat.le_of_ble_eq_true rfl, Nat.le_of_ble_eq_true rfl⟩ (lm_mono (lm_rg (kq_total (by omega))) (fun v334 g' e => ?_))
                        obtain ⟨r_v334, e_v334, rfl⟩ := e
                        replace G := G v334 r_v334 e_v334
                        refine lw_iload (pc := 331) dL_ask_331 rfl ?_
                        refine lw_iload (pc := 333) dL_ask_333 rfl ?_
                        obtain ⟨s335, G⟩ := G
                        refine lw_isub (pc := 335) (v := x4 - x7) dL_ask_335 s335 rfl ?_
                        refine lw_icmp_ne (pc := 336) (tgt := 398) dL_ask_336 (by decide) (fun c336 => ?_) (fun c336 => ?_)
                        · replace G := G.1 c336
                          exact G
                        · replace G := G.2 c336
                          refine lw_aload_n (pc := 339) dL_ask_339 rfl ?_
                          refine lw_iconst (pc := 340) dL_ask_340 ?_
                          refine lw_invV (pc := 341) (md' := m_X6_total) (as := [(.inl 3)]) dL_ask_341 mo_X6_total im_X6_total se_X6_total ml_L_13 rfl rfl (by omega) (Nat.le_of_ble_eq_true rfl) rfl ⟨Nat.le_of_ble_eq_true rfl, Nat.le_of_ble_eq_true rfl⟩ (lm_mono (lm_rg (kq_total (by omega))) (fun v337 g' e => ?_))
                          obtain ⟨r_v337, e_v337, rfl⟩ := e
                          replace G := G v337 r_v337 e_v337
                          refine lw_iload_n (pc := 344) dL_ask_344 rfl ?_
                          refine lw_iconst (pc := 345) dL_ask_345 ?_
                          refine lw_icmp_ne (pc := 346) (tgt := 364) dL_ask_346 (by decide) (fun h => absurd h (by omega)) (fun _ => ?_)
                          refine lw_iload (pc := 349) dL_ask_349 rfl ?_
                          refine lw_sipush (pc := 351) dL_ask_351 ?_
                          refine lw_icmp_ge (pc := 354) (tgt := 364) dL_ask_354 (by decide) (fun c339 => ?_) (fun c339 => ?_)
                          · replace G := G.1 c339
                            refine lw_iload (pc := 364) dL_ask_364 rfl ?_
                            refine lw_icmp_ne (pc := 366) (tgt := 398) dL_ask_366 (by decide) (fun c340 => ?_) (fun c340 => ?_)
                            · replace G := G.1 c340
                              exact G
                            · replace G := G.2 c340
                              refine lw_iload_n (pc := 369) dL_ask_369 rfl ?_
                              refine lw_iconst (pc := 370) dL_ask_370 ?_
                              refine lw_icmp_ne (pc := 371) (tgt := 394) dL_ask_371 (by decide) (fun h => absurd h (by omega)) (fun _ => ?_)
                              refine lw_aload_n (pc := 374) dL_ask_374 rfl ?_
                              refine lw_bipush (pc := 375) dL_ask_375 ?_
                              refine lw_iload (pc := 377) dL_ask_377 rfl ?_
                              refine lw_invV (pc := 379) (md' := m_X6_count) (as := [(.inl 8), (.inl v246)]) dL_ask_379 mo_X6_count im_X6_count se_X6_count ml_L_29 rfl rfl (by omega) (Nat.le_of_ble_eq_true rfl) rfl ⟨Nat.le_of_ble_eq_true rfl, Nat.le_of_ble_eq_true rfl⟩ (lm_mono (lm_rg (kq_count (by omega))) (fun v342 g' e => ?_))
                              obtain ⟨r_v342, e_v342, rfl⟩ := e
                              replace G := G v342 r_v342 e_v342
                              refine lw_if_eq (pc := 382) (tgt := 394) dL_ask_382 (by decide) (fun c343 => ?_) (fun c343 => ?_)
                              · replace G := G.1 c343
                                refine lw_iconst (pc := 394) dL_ask_394 ?_
                                refine lw_goto (pc := 395) (tgt := 399) dL_ask_395 (by decide) ?_
                                refine lw_istore (pc := 399) (ls' := [some (.inr (some 1)), some (.inl x1), some (.inl x2), some (.inl x3), some (.inl x4), some (.inl x5), some (.inl x6), some (.inl x7), some (.inl x8), some (.inl x9), some (.inl v246), some (.inl v252), some (.inl 1), some (.inl (((x5 + 4) + x1) + (8 - x1)))]) dL_ask_399 (Nat.le_of_ble_eq_true rfl) rfl ?_
                                refine lw_iload (pc := 401) dL_ask_401 rfl ?_
                                refine lw_if_eq (pc := 403) (tgt := 411) dL_ask_403 (by decide) (fun h => absurd h (by decide)) (fun _ => ?_)
                                refine lw_iload (pc := 406) dL_ask_406 rfl ?_
                                refine lw_goto (pc := 408) (tgt := 413) dL_ask_408 (by decide) ?_
                                refine lw_ireturn (pc := 413) dL_ask_413 rfl ?_ (Nat.le_of_ble_eq_true rfl) (Nat.le_of_ble_eq_true rfl)
                                exact G
                              · replace G := G.2 c343
                                refine lw_aload_n (pc := 385) dL_ask_385 rfl ?_
                                refine lw_bipush (pc := 386) dL_ask_386 ?_
                                refine lw_invV (pc := 388) (md' := m_X6_total) (as := [(.inl 11)]) dL_ask_388 mo_X6_total im_X6_total se_X6_total ml_L_13 rfl rfl (by omega) (Nat.le_of_ble_eq_true rfl) rfl ⟨Nat.le_of_ble_eq_true rfl, Nat.le_of_ble_eq_true rfl⟩ (lm_mono (lm_rg (kq_total (by omega))) (fun v345 g' e => ?_))
                                obtain ⟨r_v345, e_v345, rfl⟩ := e
                                replace G := G v345 r_v345 e_v345
                                refine lw_if_ne (pc := 391) (tgt := 398) dL_ask_391 (by decide) (fun c346 => ?_) (fun c346 => ?_)
                                · replace G := G.1 c346
                                  exact G
                                · replace G := G.2 c346
                                  refine lw_iconst (pc := 394) dL_ask_394 ?_
                                  refine lw_goto (pc := 395) (tgt := 399) dL_ask_395 (by decide) ?_
                                  refine lw_istore (pc := 399) (ls' := [some (.inr (some 1)), some (.inl x1), some (.inl x2), some (.inl x3), some (.inl x4), some (.inl x5), some (.inl x6), some (.inl x7), some (.inl x8), some (.inl x9), some (.inl v246), some (.inl v252), some (.inl 1), some (.inl (((x5 + 4) + x1) + (8 - x1)))]) dL_ask_399 (Nat.le_of_ble_eq_true rfl) rfl ?_
                                  refine lw_iload (pc := 401) dL_ask_401 rfl ?_
                                  refine lw_if_eq (pc := 403) (tgt := 411) dL_ask_403 (by decide) (fun h => absurd h (by decide)) (fun _ => ?_)
                                  refine lw_iload (pc := 406) dL_ask_406 rfl ?_
                                  refine lw_goto (pc := 408) (tgt := 413) dL_ask_408 (by decide) ?_
                                  refine lw_ireturn (pc := 413) dL_ask_413 rfl ?_ (Nat.le_of_ble_eq_true rfl) (Nat.le_of_ble_eq_true rfl)
                                  exact G
                          · replace G := G.2 c339
                            refine lw_iload (pc := 357) dL_ask_357 rfl ?_
                            refine lw_iconst (pc := 359) dL_ask_359 ?_
                            obtain ⟨s348, G⟩ := G
                            refine lw_iadd (pc := 360) (v := x6 + 1) dL_ask_360 s348 rfl ?_
                            refine lw_goto (pc := 361) (tgt := 366) dL_ask_361 (by decide) ?_
                            refine lw_icmp_ne (pc := 366) (tgt := 398) dL_ask_366 (by decide) (fun c349 => ?_) (fun c349 => ?_)
                            · replace G := G.1 c349
                              exact G
                            · replace G := G.2 c349
                              refine lw_iload_n (pc := 369) dL_ask_369 rfl ?_
                              refine lw_iconst (pc := 370) dL_ask_370 ?_
                              refine lw_icmp_ne (pc := 371) (tgt := 394) dL_ask_371 (by decide) (fun h => absurd h (by omega)) (fun _ => ?_)
                              refine lw_aload_n (pc := 374) dL_ask_374 rfl ?_
                              refine lw_bipush (pc := 375) dL_ask_375 ?_
                              refine lw_iload (pc := 377) dL_ask_377 rfl ?_
                              refine lw_invV (pc := 379) (md' := m_X6_count) (as := [(.inl 8), (.inl v246)]) dL_ask_379 mo_X6_count im_X6_count se_X6_count ml_L_29 rfl rfl (by omega) (Nat.le_of_ble_eq_true rfl) rfl ⟨Nat.le_of_ble_eq_true rfl, Nat.le_of_ble_eq_true rfl⟩ (lm_mono (lm_rg (kq_count (by omega))) (fun v351 g' e => ?_))
                              obtain ⟨r_v351, e_v351, rfl⟩ := e
                              replace G := G v351 r_v351 e_v351
                              refine lw_if_eq (pc := 382) (tgt := 394) dL_ask_382 (by decide) (fun c352 => ?_) (fun c352 => ?_)
                              · replace G := G.1 c352
                                refine lw_iconst (pc := 394) dL_ask_394 ?_
                                refine lw_goto (pc := 395) (tgt := 399) dL_ask_395 (by decide) ?_
                                refine lw_istore (pc := 399) (ls' := [some (.inr (some 1)), some (.inl x1), some (.inl x2), some (.inl x3), some (.inl x4), some (.inl x5), some (.inl x6), some (.inl x7), some (.inl x8), some (.inl x9), some (.inl v246), some (.inl v252), some (.inl 1), some (.inl (((x5 + 4) + x1) + (8 - x1)))]) dL_ask_399 (Nat.le_of_ble_eq_true rfl) rfl ?_
                                refine lw_iload (pc := 401) dL_ask_401 rfl ?_
                                refine lw_if_eq (pc := 403) (tgt := 411) dL_ask_403 (by decide) (fun h => absurd h (by decide)) (fun _ => ?_)
                                refine lw_iload (pc := 406) dL_ask_406 rfl ?_
                                refine lw_goto (pc := 408) (tgt := 413) dL_ask_408 (by decide) ?_
                                refine lw_ireturn (pc := 413) dL_ask_413 rfl ?_ (Nat.le_of_ble_eq_true rfl) (Nat.le_of_ble_eq_true rfl)
                                exact G
                              · replace G := G.2 c352
                                refine lw_aload_n (pc := 385) dL_ask_385 rfl ?_
                                refine lw_bipush (pc := 386) dL_ask_386 ?_
                                refine lw_invV (pc := 388) (md' := m_X6_total) (as := [(.inl 11)]) dL_ask_388 mo_X6_total im_X6_total se_X6_total ml_L_13 rfl rfl (by omega) (Nat.le_of_ble_eq_true rfl) rfl ⟨Nat.le_of_ble_eq_true rfl, Nat.le_of_ble_eq_true rfl⟩ (lm_mono (lm_rg (kq_total (by omega))) (fun v354 g' e => ?_))
                                obtain ⟨r_v354, e_v354, rfl⟩ := e
                                replace G := G v354 r_v354 e_v354
                                refine lw_if_ne (pc := 391) (tgt := 398) dL_ask_391 (by decide) (fun c355 => ?_) (fun c355 => ?_)
                                · replace G := G.1 c355
                                  exact G
                                · replace G := G.2 c355
                                  refine lw_iconst (pc := 394) dL_ask_394 ?_
                                  refine lw_goto (pc := 395) (tgt := 399) dL_ask_395 (by decide) ?_
                                  refine lw_istore (pc := 399) (ls' := [some (.inr (some 1)), some (.inl x1), some (.inl x2), some (.inl x3), some (.inl x4), some (.inl x5), some (.inl x6), some (.inl x7), some (.inl x8), some (.inl x9), some (.inl v246), some (.inl v252), some (.inl 1), some (.inl (((x5 + 4) + x1) + (8 - x1)))]) dL_ask_399 (Nat.le_of_ble_eq_true rfl) rfl ?_
                                  refine lw_iload (pc := 401) dL_ask_401 rfl ?_
                                  refine lw_if_eq (pc := 403) (tgt := 411) dL_ask_403 (by decide) (fun h => absurd h (by decide)) (fun _ => ?_)
                                  refine lw_iload (pc := 406) dL_ask_406 rfl ?_
                                  refine lw_goto (pc := 408) (tgt := 413) dL_ask_408 (by decide) ?_
                                  refine lw_ireturn (pc := 413) dL_ask_413 rfl ?_ (Nat.le_of_ble_eq_true rfl) (Nat.le_of_ble_eq_true rfl)
                                  exact G
                    · replace G := G.2 c329
                      refine lw_iconst (pc := 299) dL_ask_299 ?_
                      refine lw_goto (pc := 300) (tgt := 307) dL_ask_300 (by decide) ?_
                      obtain ⟨s357, G⟩ := G
                      refine lw_iadd (pc := 307) (v := ((x5 + 4) + x1) + 1) dL_ask_307 s357 rfl ?_
                      refine lw_istore (pc := 308) (ls' := [some (.inr (some 1)), some (.inl x1), some (.inl x2), some (.inl x3), some (.inl x4), some (.inl x5), some (.inl x6), some (.inl x7), some (.inl x8), some (.inl x9), some (.inl v246), some (.inl v252), some (.inl 1), some (.inl (((x5 + 4) + x1) + 1))]) dL_ask_308 (Nat.le_of_ble_eq_true rfl) rfl ?_
                      refine lw_iload (pc := 310) dL_ask_310 rfl ?_
                      refine lw_if_eq (pc := 312) (tgt := 398) dL_ask_312 (by decide) (fun h => absurd h (by decide)) (fun _ => ?_)
                      refine lw_aload_n (pc := 315) dL_ask_315 rfl ?_
                      refine lw_bipush (pc := 316) dL_ask_316 ?_
                      refine lw_invV (pc := 318) (md' := m_X6_total) (as := [(.inl 9)]) dL_ask_318 mo_X6_total im_X6_total se_X6_total ml_L_13 rfl rfl (by omega) (Nat.le_of_ble_eq_true rfl) rfl ⟨Nat.le_of_ble_eq_true rfl, Nat.le_of_ble_eq_true rfl⟩ (lm_mono (lm_rg (kq_total (by omega))) (fun v359 g' e => ?_))
                      obtain ⟨r_v359, e_v359, rfl⟩ := e
                      replace G := G v359 r_v359 e_v359
                      refine lw_iload (pc := 321) dL_ask_321 rfl ?_
                      refine lw_icmp_ne (pc := 323) (tgt := 398) dL_ask_323 (by decide) (fun c360 => ?_) (fun c360 => ?_)
                      · replace G := G.1 c360
                        exact G
                      · replace G := G.2 c360
                        refine lw_aload_n (pc := 326) dL_ask_326 rfl ?_
                        refine lw_iconst (pc := 327) dL_ask_327 ?_
                        refine lw_invV (pc := 328) (md' := m_X6_total) (as := [(.inl 0)]) dL_ask_328 mo_X6_total im_X6_total se_X6_total ml_L_13 rfl rfl (by omega) (Nat.le_of_ble_eq_true rfl) rfl ⟨Nat.le_of_ble_eq_true rfl, Nat.le_of_ble_eq_true rfl⟩ (lm_mono (lm_rg (kq_total (by omega))) (fun v361 g' e => ?_))
                        obtain ⟨r_v361, e_v361, rfl⟩ := e
                        replace G := G v361 r_v361 e_v361
                        refine lw_iload (pc := 331) dL_ask_331 rfl ?_
                        refine lw_iload (pc := 333) dL_ask_333 rfl ?_
                        obtain ⟨s362, G⟩ := G
                        refine lw_isub (pc := 335) (v := x4 - x7) dL_ask_335 s362 rfl ?_
                        refine lw_icmp_ne (pc := 336) (tgt := 398) dL_ask_336 (by decide) (fun c363 => ?_) (fun c363 => ?_)
                        · replace G := G.1 c363
                          exact G
                        · replace G := G.2 c363
                          refine lw_aload_n (pc := 339) dL_ask_339 rfl ?_
                          refine lw_iconst (pc := 340) dL_ask_340 ?_
                          refine lw_invV (pc := 341) (md' := m_X6_total) (as := [(.inl 3)]) dL_ask_341 mo_X6_total im_X6_total se_X6_total ml_L_13 rfl rfl (by omega) (Nat.le_of_ble_eq_true rfl) rfl ⟨Nat.le_of_ble_eq_true rfl, Nat.le_of_ble_eq_true rfl⟩ (lm_mono (lm_rg (kq_total (by omega))) (fun v364 g' e => ?_))
                          obtain ⟨r_v364, e_v364, rfl⟩ := e
                          replace G := G v364 r_v364 e_v364
                          refine lw_iload_n (pc := 344) dL_ask_344 rfl ?_
                          refine lw_iconst (pc := 345) dL_ask_345 ?_
                          refine lw_icmp_ne (pc := 346) (tgt := 364) dL_ask_346 (by decide) (fun h => absurd h (by omega)) (fun _ => ?_)
                          refine lw_iload (pc := 349) dL_ask_349 rfl ?_
                          refine lw_sipush (pc := 351) dL_ask_351 ?_
                          refine lw_icmp_ge (pc := 354) (tgt := 364) dL_ask_354 (by decide) (fun c366 => ?_) (fun c366 => ?_)
                          · replace G := G.1 c366
                            refine lw_iload (pc := 364) dL_ask_364 rfl ?_
                            refine lw_icmp_ne (pc := 366) (tgt := 398) dL_ask_366 (by decide) (fun c367 => ?_) (fun c367 => ?_)
                            · replace G := G.1 c367
                              exact G
                            · replace G := G.2 c367
                              refine lw_iload_n (pc := 369) dL_ask_369 rfl ?_
                              refine lw_iconst (pc := 370) dL_ask_370 ?_
                              refine lw_icmp_ne (pc := 371) (tgt := 394) dL_ask_371 (by decide) (fun h => absurd h (by omega)) (fun _ => ?_)
                              refine lw_aload_n (pc := 374) dL_ask_374 rfl ?_
                              refine lw_bipush (pc := 375) dL_ask_375 ?_
                              refine lw_iload (pc := 377) dL_ask_377 rfl ?_
                              refine lw_invV (pc := 379) (md' := m_X6_count) (as := [(.inl 8), (.inl v246)]) dL_ask_379 mo_X6_count im_X6_count se_X6_count ml_L_29 rfl rfl (by omega) (Nat.le_of_ble_eq_true rfl) rfl ⟨Nat.le_of_ble_eq_true rfl, Nat.le_of_ble_eq_true rfl⟩ (lm_mono (lm_rg (kq_count (by omega))) (fun v369 g' e => ?_))
                              obtain ⟨r_v369, e_v369, rfl⟩ := e
                              replace G := G v369 r_v369 e_v369
                              refine lw_if_eq (pc := 382) (tgt := 394) dL_ask_382 (by decide) (fun c370 => ?_) (fun c370 => ?_)
                              · replace G := G.1 c370
                                refine lw_iconst (pc := 394) dL_ask_394 ?_
                                refine lw_goto (pc := 395) (tgt := 399) dL_ask_395 (by decide) ?_
                                refine lw_istore (pc := 399) (ls' := [some (.inr (some 1)), some (.inl x1), some (.inl x2), some (.inl x3), some (.inl x4), some (.inl x5), some (.inl x6), some (.inl x7), some (.inl x8), some (.inl x9), some (.inl v246), some (.inl v252), some (.inl 1), some (.inl (((x5 + 4) + x1) + 1))]) dL_ask_399 (Nat.le_of_ble_eq_true rfl) rfl ?_
                                refine lw_iload (pc := 401) dL_ask_401 rfl ?_
                                refine lw_if_eq (pc := 403) (tgt := 411) dL_ask_403 (by decide) (fun h => absurd h (by decide)) (fun _ => ?_)
                                refine lw_iload (pc := 406) dL_ask_406 rfl ?_
                                refine lw_goto (pc := 408) (tgt := 413) dL_ask_408 (by decide) ?_
                                refine lw_ireturn (pc := 413) dL_ask_413 rfl ?_ (Nat.le_of_ble_eq_true rfl) (Nat.le_of_ble_eq_true rfl)
                                exact G
                              · replace G := G.2 c370
                                refine lw_aload_n (pc := 385) dL_ask_385 rfl ?_
                                refine lw_bipush (pc := 386) dL_ask_386 ?_
                                refine lw_invV (pc := 388) (md' := m_X6_total) (as := [(.inl 11)]) dL_ask_388 mo_X6_total im_X6_total se_X6_total ml_L_13 rfl rfl (by omega) (Nat.le_of_ble_eq_true rfl) rfl ⟨Nat.le_of_ble_eq_true rfl, Nat.le_of_ble_eq_true rfl⟩ (lm_mono (lm_rg (kq_total (by omega))) (fun v372 g' e => ?_))
                                obtain ⟨r_v372, e_v372, rfl⟩ := e
                                replace G := G v372 r_v372 e_v372
                                refine lw_if_ne (pc := 391) (tgt := 398) dL_ask_391 (by decide) (fun c373 => ?_) (fun c373 => ?_)
                                · replace G := G.1 c373
                                  exact G
                                · replace G := G.2 c373
                                  refine lw_iconst (pc := 394) dL_ask_394 ?_
                                  refine lw_goto (pc := 395) (tgt := 399) dL_ask_395 (by decide) ?_
                                  refine lw_istore (pc := 399) (ls' := [some (.inr (some 1)), some (.inl x1), some (.inl x2), some (.inl x3), some (.inl x4), some (.inl x5), some (.inl x6), some (.inl x7), some (.inl x8), some (.inl x9), some (.inl v246), some (.inl v252), some (.inl 1), some (.inl (((x5 + 4) + x1) + 1))]) dL_ask_399 (Nat.le_of_ble_eq_true rfl) rfl ?_
                                  refine lw_iload (pc := 401) dL_ask_401 rfl ?_
                                  refine lw_if_eq (pc := 403) (tgt := 411) dL_ask_403 (by decide) (fun h => absurd h (by decide)) (fun _ => ?_)
                                  refine lw_iload (pc := 406) dL_ask_406 rfl ?_
                                  refine lw_goto (pc := 408) (tgt := 413) dL_ask_408 (by decide) ?_
                                  refine lw_ireturn (pc := 413) dL_ask_413 rfl ?_ (Nat.le_of_ble_eq_true rfl) (Nat.le_of_ble_eq_true rfl)
                                  exact G
                          · replace G := G.2 c366
                            refine lw_iload (pc := 357) dL_ask_357 rfl ?_
                            refine lw_iconst (pc := 359) dL_ask_359 ?_
                            obtain ⟨s375, G⟩ := G
                            refine lw_iadd (pc := 360) (v := x6 + 1) dL_ask_360 s375 rfl ?_
                            refine lw_goto (pc := 361) (tgt := 366) dL_ask_361 (by decide) ?_
                            refine lw_icmp_ne (pc := 366) (tgt := 398) dL_ask_366 (by decide) (fun c376 => ?_) (fun c376 => ?_)
                            · replace G := G.1 c376
                              exact G
                            · replace G := G.2 c376
                              refine lw_iload_n (pc := 369) dL_ask_369 rfl ?_
                              refine lw_iconst (pc := 370) dL_ask_370 ?_
                              refine lw_icmp_ne (pc := 371) (tgt := 394) dL_ask_371 (by decide) (fun h => absurd h (by omega)) (fun _ => ?_)
                              refine lw_aload_n (pc := 374) dL_ask_374 rfl ?_
                              refine lw_bipush (pc := 375) dL_ask_375 ?_
                              refine lw_iload (pc := 377) dL_ask_377 rfl ?_
                              refine lw_invV (pc := 379) (md' := m_X6_count) (as := [(.inl 8), (.inl v246)]) dL_ask_379 mo_X6_count im_X6_count se_X6_count ml_L_29 rfl rfl (by omega) (Nat.le_of_ble_eq_true rfl) rfl ⟨Nat.le_of_ble_eq_true rfl, Nat.le_of_ble_eq_true rfl⟩ (lm_mono (lm_rg (kq_count (by omega))) (fun v378 g' e => ?_))
                              obtain ⟨r_v378, e_v378, rfl⟩ := e
                              replace G := G v378 r_v378 e_v378
                              refine lw_if_eq (pc := 382) (tgt := 394) dL_ask_382 (by decide) (fun c379 => ?_) (fun c379 => ?_)
                              · replace G := G.1 c379
                                refine lw_iconst (pc := 394) dL_ask_394 ?_
                                refine lw_goto (pc := 395) (tgt := 399) dL_ask_395 (by decide) ?_
                                refine lw_istore (pc := 399) (ls' := [some (.inr (some 1)), some (.inl x1), some (.inl x2), some (.inl x3), some (.inl x4), some (.inl x5), some (.inl x6), some (.inl x7), some (.inl x8), some (.inl x9), some (.inl v246), some (.inl v252), some (.inl 1), some (.inl (((x5 + 4) + x1) + 1))]) dL_ask_399 (Nat.le_of_ble_eq_true rfl) rfl ?_
                                refine lw_iload (pc := 401) dL_ask_401 rfl ?_
                                refine lw_if_eq (pc := 403) (tgt := 411) dL_ask_403 (by decide) (fun h => absurd h (by decide)) (fun _ => ?_)
                                refine lw_iload (pc := 406) dL_ask_406 rfl ?_
                                refine lw_goto (pc := 408) (tgt := 413) dL_ask_408 (by decide) ?_
                                refine lw_ireturn (pc := 413) dL_ask_413 rfl ?_ (Nat.le_of_ble_eq_true rfl) (Nat.le_of_ble_eq_true rfl)
                                exact G
                              · replace G := G.2 c379
                                refine lw_aload_n (pc := 385) dL_ask_385 rfl ?_
                                refine lw_bipush (pc := 386) dL_ask_386 ?_
                                refine lw_invV (pc := 388) (md' := m_X6_total) (as := [(.inl 11)]) dL_ask_388 mo_X6_total im_X6_total se_X6_total ml_L_13 rfl rfl (by omega) (Nat.le_of_ble_eq_true rfl) rfl ⟨Nat.le_of_ble_eq_true rfl, Nat.le_of_ble_eq_true rfl⟩ (lm_mono (lm_rg (kq_total (by omega))) (fun v381 g' e => ?_))
                                obtain ⟨r_v381, e_v381, rfl⟩ := e
                                replace G := G v381 r_v381 e_v381
                                refine lw_if_ne (pc := 391) (tgt := 398) dL_ask_391 (by decide) (fun c382 => ?_) (fun c382 => ?_)
                                · replace G := G.1 c382
                                  exact G
                                · replace G := G.2 c382
                                  refine lw_iconst (pc := 394) dL_ask_394 ?_
                                  refine lw_goto (pc := 395) (tgt := 399) dL_ask_395 (by decide) ?_
                                  refine lw_istore (pc := 399) (ls' := [some (.inr (some 1)), some (.inl x1), some (.inl x2), some (.inl x3), some (.inl x4), some (.inl x5), some (.inl x6), some (.inl x7), some (.inl x8), some (.inl x9), some (.inl v246), some (.inl v252), some (.inl 1), some (.inl (((x5 + 4) + x1) + 1))]) dL_ask_399 (Nat.le_of_ble_eq_true rfl) rfl ?_
                                  refine lw_iload (pc := 401) dL_ask_401 rfl ?_
                                  refine lw_if_eq (pc := 403) (tgt := 411) dL_ask_403 (by decide) (fun h => absurd h (by decide)) (fun _ => ?_)
                                  refine lw_iload (pc := 406) dL_ask_406 rfl ?_
                                  refine lw_goto (pc := 408) (tgt := 413) dL_ask_408 (by decide) ?_
                                  refine lw_ireturn (pc := 413) dL_ask_413 rfl ?_ (Nat.le_of_ble_eq_true rfl) (Nat.le_of_ble_eq_true rfl)
                                  exact G
        · replace G := G.2 c253
          refine lw_iload (pc := 194) dL_ask_194 rfl ?_
          refine lw_sipush (pc := 196) dL_ask_196 ?_
          refine lw_icmp_ne (pc := 199) (tgt := 206) dL_ask_199 (by decide) (fun c384 => ?_) (fun c384 => ?_)
          · replace G := G.1 c384
            exact G
          · replace G := G.2 c384
            refine lw_iconst (pc := 202) dL_ask_202 ?_
            refine lw_goto (pc := 203) (tgt := 277) dL_ask_203 (by decide) ?_
            refine lw_istore (pc := 277) (ls' := [some (.inr (some 1)), some (.inl x1), some (.inl x2), some (.inl x3), some (.inl x4), some (.inl x5), some (.inl x6), some (.inl x7), some (.inl x8), some (.inl x9), some (.inl v246), some (.inl v252), some (.inl 1), none]) dL_ask_277 (Nat.le_of_ble_eq_true rfl) rfl ?_
            refine lw_iload (pc := 279) dL_ask_279 rfl ?_
            refine lw_iconst (pc := 281) dL_ask_281 ?_
            obtain ⟨s385, G⟩ := G
            refine lw_iadd (pc := 282) (v := x5 + 4) dL_ask_282 s385 rfl ?_
            refine lw_iload_n (pc := 283) dL_ask_283 rfl ?_
            obtain ⟨s386, G⟩ := G
            refine lw_iadd (pc := 284) (v := (x5 + 4) + x1) dL_ask_284 s386 rfl ?_
            refine lw_iload_n (pc := 285) dL_ask_285 rfl ?_
            refine lw_if_ne (pc := 286) (tgt := 293) dL_ask_286 (by decide) (fun h => absurd h (by omega)) (fun _ => ?_)
            refine lw_iconst (pc := 289) dL_ask_289 ?_
            refine lw_goto (pc := 290) (tgt := 307) dL_ask_290 (by decide) ?_
            obtain ⟨s388, G⟩ := G
            refine lw_iadd (pc := 307) (v := ((x5 + 4) + x1) + 2) dL_ask_307 s388 rfl ?_
            refine lw_istore (pc := 308) (ls' := [some (.inr (some 1)), some (.inl x1), some (.inl x2), some (.inl x3), some (.inl x4), some (.inl x5), some (.inl x6), some (.inl x7), some (.inl x8), some (.inl x9), some (.inl v246), some (.inl v252), some (.inl 1), some (.inl (((x5 + 4) + x1) + 2))]) dL_ask_308 (Nat.le_of_ble_eq_true rfl) rfl ?_
            refine lw_iload (pc := 310) dL_ask_310 rfl ?_
            refine lw_if_eq (pc := 312) (tgt := 398) dL_ask_312 (by decide) (fun h => absurd h (by decide)) (fun _ => ?_)
            refine lw_aload_n (pc := 315) dL_ask_315 rfl ?_
            refine lw_bipush (pc := 316) dL_ask_316 ?_
            refine lw_invV (pc := 318) (md' := m_X6_total) (as := [(.inl 9)]) dL_ask_318 mo_X6_total im_X6_total se_X6_total ml_L_13 rfl rfl (by omega) (Nat.le_of_ble_eq_true rfl) rfl ⟨Nat.le_of_ble_eq_true rfl, Nat.le_of_ble_eq_true rfl⟩ (lm_mono (lm_rg (kq_total (by omega))) (fun v390 g' e => ?_))
            obtain ⟨r_v390, e_v390, rfl⟩ := e
            replace G := G v390 r_v390 e_v390
            refine lw_iload (pc := 321) dL_ask_321 rfl ?_
            refine lw_icmp_ne (pc := 323) (tgt := 398) dL_ask_323 (by decide) (fun c391 => ?_) (fun c391 => ?_)
            · replace G := G.1 c391
              exact G
            · replace G := G.2 c391
              refine lw_aload_n (pc := 326) dL_ask_326 rfl ?_
              refine lw_iconst (pc := 327) dL_ask_327 ?_
              refine lw_invV (pc := 328) (md' := m_X6_total) (as := [(.inl 0)]) dL_ask_328 mo_X6_total im_X6_total se_X6_total ml_L_13 rfl rfl (by omega) (Nat.le_of_ble_eq_true rfl) rfl ⟨Nat.le_of_ble_eq_true rfl, Nat.le_of_ble_eq_true rfl⟩ (lm_mono (lm_rg (kq_total (by omega))) (fun v392 g' e => ?_))
              obtain ⟨r_v392, e_v392, rfl⟩ := e
              replace G := G v392 r_v392 e_v392
              refine lw_iload (pc := 331) dL_ask_331 rfl ?_
              refine lw_iload (pc := 333) dL_ask_333 rfl ?_
              obtain ⟨s393, G⟩ := G
              refine lw_isub (pc := 335) (v := x4 - x7) dL_ask_335 s393 rfl ?_
              refine lw_icmp_ne (pc := 336) (tgt := 398) dL_ask_336 (by decide) (fun c394 => ?_) (fun c394 => ?_)
              · replace G := G.1 c394
                exact G
              · replace G := G.2 c394
                refine lw_aload_n (pc := 339) dL_ask_339 rfl ?_
                refine lw_iconst (pc := 340) dL_ask_340 ?_
                refine lw_invV (pc := 341) (md' := m_X6_total) (as := [(.inl 3)]) dL_ask_341 mo_X6_total im_X6_total se_X6_total ml_L_13 rfl rfl (by omega) (Nat.le_of_ble_eq_true rfl) rfl ⟨Nat.le_of_ble_eq_true rfl, Nat.le_of_ble_eq_true rfl⟩ (lm_mono (lm_rg (kq_total (by omega))) (fun v395 g' e => ?_))
                obtain ⟨r_v395, e_v395, rfl⟩ := e
                replace G := G v395 r_v395 e_v395
                refine lw_iload_n (pc := 344) dL_ask_344 rfl ?_
                refine lw_iconst (pc := 345) dL_ask_345 ?_
                refine lw_icmp_ne (pc := 346) (tgt := 364) dL_ask_346 (by decide) (fun _ => ?_) (fun h => absurd (by omega) h)
                refine lw_iload (pc := 364) dL_ask_364 rfl ?_
                refine lw_icmp_ne (pc := 366) (tgt := 398) dL_ask_366 (by decide) (fun c397 => ?_) (fun c397 => ?_)
                · replace G := G.1 c397
                  exact G
                · replace G := G.2 c397
                  refine lw_iload_n (pc := 369) dL_ask_369 rfl ?_
                  refine lw_iconst (pc := 370) dL_ask_370 ?_
                  refine lw_icmp_ne (pc := 371) (tgt := 394) dL_ask_371 (by decide) (fun _ => ?_) (fun h => absurd (by omega) h)
                  refine lw_iconst (pc := 394) dL_ask_394 ?_
                  refine lw_goto (pc := 395) (tgt := 399) dL_ask_395 (by decide) ?_
                  refine lw_istore (pc := 399) (ls' := [some (.inr (some 1)), some (.inl x1), some (.inl x2), some (.inl x3), some (.inl x4), some (.inl x5), some (.inl x6), some (.inl x7), some (.inl x8), some (.inl x9), some (.inl v246), some (.inl v252), some (.inl 1), some (.inl (((x5 + 4) + x1) + 2))]) dL_ask_399 (Nat.le_of_ble_eq_true rfl) rfl ?_
                  refine lw_iload (pc := 401) dL_ask_401 rfl ?_
                  refine lw_if_eq (pc := 403) (tgt := 411) dL_ask_403 (by decide) (fun h => absurd h (by decide)) (fun _ => ?_)
                  refine lw_iload (pc := 406) dL_ask_406 rfl ?_
                  refine lw_goto (pc := 408) (tgt := 413) dL_ask_408 (by decide) ?_
                  refine lw_ireturn (pc := 413) dL_ask_413 rfl ?_ (Nat.le_of_ble_eq_true rfl) (Nat.le_of_ble_eq_true rfl)
                  exact G
      · replace G := G.2 c249
        refine lw_bipush (pc := 172) dL_ask_172 ?_
        refine lw_goto (pc := 174) (tgt := 188) dL_ask_174 (by decide) ?_
        refine lw_istore (pc := 188) (ls' := [some (.inr (some 1)), some (.inl x1), some (.inl x2), some (.inl x3), some (.inl x4), some (.inl x5), some (.inl x6), some (.inl x7), some (.inl x8), some (.inl x9), some (.inl v246), some (.inl (-5)), none, none]) dL_ask_188 (Nat.le_of_ble_eq_true rfl) rfl ?_
        refine lw_iload_n (pc := 190) dL_ask_190 rfl ?_
        refine lw_if_ne (pc := 191) (tgt := 210) dL_ask_191 (by decide) (fun c400 => ?_) (fun c400 => ?_)
        · replace G := G.1 c400
          refine lw_iload_n (pc := 210) dL_ask_210 rfl ?_
          refine lw_iconst (pc := 211) dL_ask_211 ?_
          refine lw_icmp_ne (pc := 212) (tgt := 254) dL_ask_212 (by decide) (fun c401 => ?_) (fun c401 => ?_)
          · replace G := G.1 c401
            refine lw_iload (pc := 254) dL_ask_254 rfl ?_
            refine lw_sipush (pc := 256) dL_ask_256 ?_
            refine lw_iload (pc := 259) dL_ask_259 rfl ?_
            obtain ⟨s402, G⟩ := G
            refine lw_iadd (pc := 261) (v := 400 + x8) dL_ask_261 s402 rfl ?_
            refine lw_icmp_ne (pc := 262) (tgt := 276) dL_ask_262 (by decide) (fun c403 => ?_) (fun c403 => ?_)
            · replace G := G.1 c403
              exact G
            · replace G := G.2 c403
              refine lw_iload (pc := 265) dL_ask_265 rfl ?_
              refine lw_bipush (pc := 267) dL_ask_267 ?_
              refine lw_icmp_ge (pc := 269) (tgt := 276) dL_ask_269 (by decide) (fun h => absurd h (by omega)) (fun _ => ?_)
              refine lw_iconst (pc := 272) dL_ask_272 ?_
              refine lw_goto (pc := 273) (tgt := 277) dL_ask_273 (by decide) ?_
              refine lw_istore (pc := 277) (ls' := [some (.inr (some 1)), some (.inl x1), some (.inl x2), some (.inl x3), some (.inl x4), some (.inl x5), some (.inl x6), some (.inl x7), some (.inl x8), some (.inl x9), some (.inl v246), some (.inl (-5)), some (.inl 1), none]) dL_ask_277 (Nat.le_of_ble_eq_true rfl) rfl ?_
              refine lw_iload (pc := 279) dL_ask_279 rfl ?_
              refine lw_iconst (pc := 281) dL_ask_281 ?_
              obtain ⟨s405, G⟩ := G
              refine lw_iadd (pc := 282) (v := x5 + 4) dL_ask_282 s405 rfl ?_
              refine lw_iload_n (pc := 283) dL_ask_283 rfl ?_
              obtain ⟨s406, G⟩ := G
              refine lw_iadd (pc := 284) (v := (x5 + 4) + x1) dL_ask_284 s406 rfl ?_
              refine lw_iload_n (pc := 285) dL_ask_285 rfl ?_
              refine lw_if_ne (pc := 286) (tgt := 293) dL_ask_286 (by decide) (fun _ => ?_) (fun h => absurd (by omega) h)
              refine lw_iload_n (pc := 293) dL_ask_293 rfl ?_
              refine lw_bipush (pc := 294) dL_ask_294 ?_
              refine lw_icmp_ne (pc := 296) (tgt := 303) dL_ask_296 (by decide) (fun c408 => ?_) (fun c408 => ?_)
              · replace G := G.1 c408
                refine lw_bipush (pc := 303) dL_ask_303 ?_
                refine lw_iload_n (pc := 305) dL_ask_305 rfl ?_
                obtain ⟨s409, G⟩ := G
                refine lw_isub (pc := 306) (v := 8 - x1) dL_ask_306 s409 rfl ?_
                obtain ⟨s410, G⟩ := G
                refine lw_iadd (pc := 307) (v := ((x5 + 4) + x1) + (8 - x1)) dL_ask_307 s410 rfl ?_
                refine lw_istore (pc := 308) (ls' := [some (.inr (some 1)), some (.inl x1), some (.inl x2), some (.inl x3), some (.inl x4), some (.inl x5), some (.inl x6), some (.inl x7), some (.inl x8), some (.inl x9), some (.inl v246), some (.inl (-5)), some (.inl 1), some (.inl (((x5 + 4) + x1) + (8 - x1)))]) dL_ask_308 (Nat.le_of_ble_eq_true rfl) rfl ?_
                refine lw_iload (pc := 310) dL_ask_310 rfl ?_
                refine lw_if_eq (pc := 312) (tgt := 398) dL_ask_312 (by decide) (fun h => absurd h (by decide)) (fun _ => ?_)
                refine lw_aload_n (pc := 315) dL_ask_315 rfl ?_
                refine lw_bipush (pc := 316) dL_ask_316 ?_
                refine lw_invV (pc := 318) (md' := m_X6_total) (as := [(.inl 9)]) dL_ask_318 mo_X6_total im_X6_total se_X6_total ml_L_13 rfl rfl (by omega) (Nat.le_of_ble_eq_true rfl) rfl ⟨Nat.le_of_ble_eq_true rfl, Nat.le_of_ble_eq_true rfl⟩ (lm_mono (lm_rg (kq_total (by omega))) (fun v412 g' e => ?_))
                obtain ⟨r_v412, e_v412, rfl⟩ := e
                replace G := G v412 r_v412 e_v412
                refine lw_iload (pc := 321) dL_ask_321 rfl ?_
                refine lw_icmp_ne (pc := 323) (tgt := 398) dL_ask_323 (by decide) (fun c413 => ?_) (fun c413 => ?_)
                · replace G := G.1 c413
                  exact G
                · replace G := G.2 c413
                  refine lw_aload_n (pc := 326) dL_ask_326 rfl ?_
                  refine lw_iconst (pc := 327) dL_ask_327 ?_
                  refine lw_invV (pc := 328) (md' := m_X6_total) (as := [(.inl 0)]) dL_ask_328 mo_X6_total im_X6_total se_X6_total ml_L_13 rfl rfl (by omega) (Nat.le_of_ble_eq_true rfl) rfl ⟨Nat.le_of_ble_eq_true rfl, Nat.le_of_ble_eq_true rfl⟩ (lm_mono (lm_rg (kq_total (by omega))) (fun v414 g' e => ?_))
                  obtain ⟨r_v414, e_v414, rfl⟩ := e
                  replace G := G v414 r_v414 e_v414
                  refine lw_iload (pc := 331) dL_ask_331 rfl ?_
                  refine lw_iload (pc := 333) dL_ask_333 rfl ?_
                  obtain ⟨s415, G⟩ := G
                  refine lw_isub (pc := 335) (v := x4 - x7) dL_ask_335 s415 rfl ?_
                  refine lw_icmp_ne (pc := 336) (tgt := 398) dL_ask_336 (by decide) (fun c416 => ?_) (fun c416 => ?_)
                  · replace G := G.1 c416
                    exact G
                  · replace G := G.2 c416
                    refine lw_aload_n (pc := 339) dL_ask_339 rfl ?_
                    refine lw_iconst (pc := 340) dL_ask_340 ?_
                    refine lw_invV (pc := 341) (md' := m_X6_total) (as := [(.inl 3)]) dL_ask_341 mo_X6_total im_X6_total se_X6_total ml_L_13 rfl rfl (by omega) (Nat.le_of_ble_eq_true rfl) rfl ⟨Nat.le_of_ble_eq_true rfl, Nat.le_of_ble_eq_true rfl⟩ (lm_mono (lm_rg (kq_total (by omega))) (fun v417 g' e => ?_))
                    obtain ⟨r_v417, e_v417, rfl⟩ := e
                    replace G := G v417 r_v417 e_v417
                    refine lw_iload_n (pc := 344) dL_ask_344 rfl ?_
                    refine lw_iconst (pc := 345) dL_ask_345 ?_
                    refine lw_icmp_ne (pc := 346) (tgt := 364) dL_ask_346 (by decide) (fun _ => ?_) (fun h => absurd (by omega) h)
                    refine lw_iload (pc := 364) dL_ask_364 rfl ?_
                    refine lw_icmp_ne (pc := 366) (tgt := 398) dL_ask_366 (by decide) (fun c419 => ?_) (fun c419 => ?_)
                    · replace G := G.1 c419
                      exact G
                    · replace G := G.2 c419
                      refine lw_iload_n (pc := 369) dL_ask_369 rfl ?_
                      refine lw_iconst (pc := 370) dL_ask_370 ?_
                      refine lw_icmp_ne (pc := 371) (tgt := 394) dL_ask_371 (by decide) (fun _ => ?_) (fun h => absurd (by omega) h)
                      refine lw_iconst (pc := 394) dL_ask_394 ?_
                      refine lw_goto (pc := 395) (tgt := 399) dL_ask_395 (by decide) ?_
                      refine lw_istore (pc := 399) (ls' := [some (.inr (some 1)), some (.inl x1), some (.inl x2), some (.inl x3), some (.inl x4), some (.inl x5), some (.inl x6), some (.inl x7), some (.inl x8), some (.inl x9), some (.inl v246), some (.inl (-5)), some (.inl 1), some (.inl (((x5 + 4) + x1) + (8 - x1)))]) dL_ask_399 (Nat.le_of_ble_eq_true rfl) rfl ?_
                      refine lw_iload (pc := 401) dL_ask_401 rfl ?_
                      refine lw_if_eq (pc := 403) (tgt := 411) dL_ask_403 (by decide) (fun h => absurd h (by decide)) (fun _ => ?_)
                      refine lw_iload (pc := 406) dL_ask_406 rfl ?_
                      refine lw_goto (pc := 408) (tgt := 413) dL_ask_408 (by decide) ?_
                      refine lw_ireturn (pc := 413) dL_ask_413 rfl ?_ (Nat.le_of_ble_eq_true rfl) (Nat.le_of_ble_eq_true rfl)
                      exact G
              · replace G := G.2 c408
                refine lw_iconst (pc := 299) dL_ask_299 ?_
                refine lw_goto (pc := 300) (tgt := 307) dL_ask_300 (by decide) ?_
                obtain ⟨s422, G⟩ := G
                refine lw_iadd (pc := 307) (v := ((x5 + 4) + x1) + 1) dL_ask_307 s422 rfl ?_
                refine lw_istore (pc := 308) (ls' := [some (.inr (some 1)), some (.inl x1), some (.inl x2), some (.inl x3), some (.inl x4), some (.inl x5), some (.inl x6), some (.inl x7), some (.inl x8), some (.inl x9), some (.inl v246), some (.inl (-5)), some (.inl 1), some (.inl (((x5 + 4) + x1) + 1))]) dL_ask_308 (Nat.le_of_ble_eq_true rfl) rfl ?_
                refine lw_iload (pc := 310) dL_ask_310 rfl ?_
                refine lw_if_eq (pc := 312) (tgt := 398) dL_ask_312 (by decide) (fun h => absurd h (by decide)) (fun _ => ?_)
                refine lw_aload_n (pc := 315) dL_ask_315 rfl ?_
                refine lw_bipush (pc := 316) dL_ask_316 ?_
                refine lw_invV (pc := 318) (md' := m_X6_total) (as := [(.inl 9)]) dL_ask_318 mo_X6_total im_X6_total se_X6_total ml_L_13 rfl rfl (by omega) (Nat.le_of_ble_eq_true rfl) rfl ⟨Nat.le_of_ble_eq_true rfl, Nat.le_of_ble_eq_true rfl⟩ (lm_mono (lm_rg (kq_total (by omega))) (fun v424 g' e => ?_))
                obtain ⟨r_v424, e_v424, rfl⟩ := e
                replace G := G v424 r_v424 e_v424
                refine lw_iload (pc := 321) dL_ask_321 rfl ?_
                refine lw_icmp_ne (pc := 323) (tgt := 398) dL_ask_323 (by decide) (fun c425 => ?_) (fun c425 => ?_)
                · replace G := G.1 c425
                  exact G
                · replace G := G.2 c425
                  refine lw_aload_n (pc := 326) dL_ask_326 rfl ?_
                  refine lw_iconst (pc := 327) dL_ask_327 ?_
                  refine lw_invV (pc := 328) (md' := m_X6_total) (as := [(.inl 0)]) dL_ask_328 mo_X6_total im_X6_total se_X6_total ml_L_13 rfl rfl (by omega) (Nat.le_of_ble_eq_true rfl) rfl ⟨Nat.le_of_ble_eq_true rfl, Nat.le_of_ble_eq_true rfl⟩ (lm_mono (lm_rg (kq_total (by omega))) (fun v426 g' e => ?_))
                  obtain ⟨r_v426, e_v426, rfl⟩ := e
                  replace G := G v426 r_v426 e_v426
                  refine lw_iload (pc := 331) dL_ask_331 rfl ?_
                  refine lw_iload (pc := 333) dL_ask_333 rfl ?_
                  obtain ⟨s427, G⟩ := G
                  refine lw_isub (pc := 335) (v := x4 - x7) dL_ask_335 s427 rfl ?_
                  refine lw_icmp_ne (pc := 336) (tgt := 398) dL_ask_336 (by decide) (fun c428 => ?_) (fun c428 => ?_)
                  · replace G := G.1 c428
                    exact G
                  · replace G := G.2 c428
                    refine lw_aload_n (pc := 339) dL_ask_339 rfl ?_
                    refine lw_iconst (pc := 340) dL_ask_340 ?_
                    refine lw_invV (pc := 341) (md' := m_X6_total) (as := [(.inl 3)]) dL_ask_341 mo_X6_total im_X6_total se_X6_total ml_L_13 rfl rfl (by omega) (Nat.le_of_ble_eq_true rfl) rfl ⟨Nat.le_of_ble_eq_true rfl, Nat.le_of_ble_eq_true rfl⟩ (lm_mono (lm_rg (kq_total (by omega))) (fun v429 g' e => ?_))
                    obtain ⟨r_v429, e_v429, rfl⟩ := e
                    replace G := G v429 r_v429 e_v429
                    refine lw_iload_n (pc := 344) dL_ask_344 rfl ?_
                    refine lw_iconst (pc := 345) dL_ask_345 ?_
                    refine lw_icmp_ne (pc := 346) (tgt := 364) dL_ask_346 (by decide) (fun _ => ?_) (fun h => absurd (by omega) h)
                    refine lw_iload (pc := 364) dL_ask_364 rfl ?_
                    refine lw_icmp_ne (pc := 366) (tgt := 398) dL_ask_366 (by decide) (fun c431 => ?_) (fun c431 => ?_)
                    · replace G := G.1 c431
                      exact G
                    · replace G := G.2 c431
                      refine lw_iload_n (pc := 369) dL_ask_369 rfl ?_
                      refine lw_iconst (pc := 370) dL_ask_370 ?_
                      refine lw_icmp_ne (pc := 371) (tgt := 394) dL_ask_371 (by decide) (fun _ => ?_) (fun h => absurd (by omega) h)
                      refine lw_iconst (pc := 394) dL_ask_394 ?_
                      refine lw_goto (pc := 395) (tgt := 399) dL_ask_395 (by decide) ?_
                      refine lw_istore (pc := 399) (ls' := [some (.inr (some 1)), some (.inl x1), some (.inl x2), some (.inl x3), some (.inl x4), some (.inl x5), some (.inl x6), some (.inl x7), some (.inl x8), some (.inl x9), some (.inl v246), some (.inl (-5)), some (.inl 1), some (.inl (((x5 + 4) + x1) + 1))]) dL_ask_399 (Nat.le_of_ble_eq_true rfl) rfl ?_
                      refine lw_iload (pc := 401) dL_ask_401 rfl ?_
                      refine lw_if_eq (pc := 403) (tgt := 411) dL_ask_403 (by decide) (fun h => absurd h (by decide)) (fun _ => ?_)
                      refine lw_iload (pc := 406) dL_ask_406 rfl ?_
                      refine lw_goto (pc := 408) (tgt := 413) dL_ask_408 (by decide) ?_
                      refine lw_ireturn (pc := 413) dL_ask_413 rfl ?_ (Nat.le_of_ble_eq_true rfl) (Nat.le_of_ble_eq_true rfl)
                      exact G
          · replace G := G.2 c401
            refine lw_iload (pc := 215) dL_ask_215 rfl ?_
            refine lw_if_lt (pc := 217) (tgt := 250) dL_ask_217 (by decide) (fun c434 => ?_) (fun c434 => ?_)
            · replace G := G.1 c434
              refine lw_iconst (pc := 250) dL_ask_250 ?_
              refine lw_goto (pc := 251) (tgt := 277) dL_ask_251 (by decide) ?_
              refine lw_istore (pc := 277) (ls' := [some (.inr (some 1)), some (.inl x1), some (.inl x2), some (.inl x3), some (.inl x4), some (.inl x5), some (.inl x6), some (.inl x7), some (.inl x8), some (.inl x9), some (.inl v246), some (.inl (-5)), some (.inl 0), none]) dL_ask_277 (Nat.le_of_ble_eq_true rfl) rfl ?_
              refine lw_iload (pc := 279) dL_ask_279 rfl ?_
              refine lw_iconst (pc := 281) dL_ask_281 ?_
              obtain ⟨s435, G⟩ := G
              refine lw_iadd (pc := 282) (v := x5 + 4) dL_ask_282 s435 rfl ?_
              refine lw_iload_n (pc := 283) dL_ask_283 rfl ?_
              obtain ⟨s436, G⟩ := G
              refine lw_iadd (pc := 284) (v := (x5 + 4) + x1) dL_ask_284 s436 rfl ?_
              refine lw_iload_n (pc := 285) dL_ask_285 rfl ?_
              refine lw_if_ne (pc := 286) (tgt := 293) dL_ask_286 (by decide) (fun _ => ?_) (fun h => absurd (by omega) h)
              refine lw_iload_n (pc := 293) dL_ask_293 rfl ?_
              refine lw_bipush (pc := 294) dL_ask_294 ?_
              refine lw_icmp_ne (pc := 296) (tgt := 303) dL_ask_296 (by decide) (fun c438 => ?_) (fun c438 => ?_)
              · replace G := G.1 c438
                refine lw_bipush (pc := 303) dL_ask_303 ?_
                refine lw_iload_n (pc := 305) dL_ask_305 rfl ?_
                obtain ⟨s439, G⟩ := G
                refine lw_isub (pc := 306) (v := 8 - x1) dL_ask_306 s439 rfl ?_
                obtain ⟨s440, G⟩ := G
                refine lw_iadd (pc := 307) (v := ((x5 + 4) + x1) + (8 - x1)) dL_ask_307 s440 rfl ?_
                refine lw_istore (pc := 308) (ls' := [some (.inr (some 1)), some (.inl x1), some (.inl x2), some (.inl x3), some (.inl x4), some (.inl x5), some (.inl x6), some (.inl x7), some (.inl x8), some (.inl x9), some (.inl v246), some (.inl (-5)), some (.inl 0), some (.inl (((x5 + 4) + x1) + (8 - x1)))]) dL_ask_308 (Nat.le_of_ble_eq_true rfl) rfl ?_
                refine lw_iload (pc := 310) dL_ask_310 rfl ?_
                refine lw_if_eq (pc := 312) (tgt := 398) dL_ask_312 (by decide) (fun _ => ?_) (fun h => absurd (by decide) h)
                exact G
              · replace G := G.2 c438
                refine lw_iconst (pc := 299) dL_ask_299 ?_
                refine lw_goto (pc := 300) (tgt := 307) dL_ask_300 (by decide) ?_
                obtain ⟨s442, G⟩ := G
                refine lw_iadd (pc := 307) (v := ((x5 + 4) + x1) + 1) dL_ask_307 s442 rfl ?_
                refine lw_istore (pc := 308) (ls' := [some (.inr (some 1)), some (.inl x1), some (.inl x2), some (.inl x3), some (.inl x4), some (.inl x5), some (.inl x6), some (.inl x7), some (.inl x8), some (.inl x9), some (.inl v246), some (.inl (-5)), some (.inl 0), some (.inl (((x5 + 4) + x1) + 1))]) dL_ask_308 (Nat.le_of_ble_eq_true rfl) rfl ?_
                refine lw_iload (pc := 310) dL_ask_310 rfl ?_
                refine lw_if_eq (pc := 312) (tgt := 398) dL_ask_312 (by decide) (fun _ => ?_) (fun h => absurd (by decide) h)
                exact G
            · replace G := G.2 c434
              refine lw_iload (pc := 220) dL_ask_220 rfl ?_
              refine lw_sipush (pc := 222) dL_ask_222 ?_
              refine lw_icmp_ge (pc := 225) (tgt := 250) dL_ask_225 (by decide) (fun c444 => ?_) (fun c444 => ?_)
              · replace G := G.1 c444
                refine lw_iconst (pc := 250) dL_ask_250 ?_
                refine lw_goto (pc := 251) (tgt := 277) dL_ask_251 (by decide) ?_
                refine lw_istore (pc := 277) (ls' := [some (.inr (some 1)), some (.inl x1), some (.inl x2), some (.inl x3), some (.inl x4), some (.inl x5), some (.inl x6), some (.inl x7), some (.inl x8), some (.inl x9), some (.inl v246), some (.inl (-5)), some (.inl 0), none]) dL_ask_277 (Nat.le_of_ble_eq_true rfl) rfl ?_
                refine lw_iload (pc := 279) dL_ask_279 rfl ?_
                refine lw_iconst (pc := 281) dL_ask_281 ?_
                obtain ⟨s445, G⟩ := G
                refine lw_iadd (pc := 282) (v := x5 + 4) dL_ask_282 s445 rfl ?_
                refine lw_iload_n (pc := 283) dL_ask_283 rfl ?_
                obtain ⟨s446, G⟩ := G
                refine lw_iadd (pc := 284) (v := (x5 + 4) + x1) dL_ask_284 s446 rfl ?_
                refine lw_iload_n (pc := 285) dL_ask_285 rfl ?_
                refine lw_if_ne (pc := 286) (tgt := 293) dL_ask_286 (by decide) (fun _ => ?_) (fun h => absurd (by omega) h)
                refine lw_iload_n (pc := 293) dL_ask_293 rfl ?_
                refine lw_bipush (pc := 294) dL_ask_294 ?_
                refine lw_icmp_ne (pc := 296) (tgt := 303) dL_ask_296 (by decide) (fun c448 => ?_) (fun c448 => ?_)
                · replace G := G.1 c448
                  refine lw_bipush (pc := 303) dL_ask_303 ?_
                  refine lw_iload_n (pc := 305) dL_ask_305 rfl ?_
                  obtain ⟨s449, G⟩ := G
                  refine lw_isub (pc := 306) (v := 8 - x1) dL_ask_306 s449 rfl ?_
                  obtain ⟨s450, G⟩ := G
                  refine lw_iadd (pc := 307) (v := ((x5 + 4) + x1) + (8 - x1)) dL_ask_307 s450 rfl ?_
                  refine lw_istore (pc := 308) (ls' := [some (.inr (some 1)), some (.inl x1), some (.inl x2), some (.inl x3), some (.inl x4), some (.inl x5), some (.inl x6), some (.inl x7), some (.inl x8), some (.inl x9), some (.inl v246), some (.inl (-5)), some (.inl 0), some (.inl (((x5 + 4) + x1) + (8 - x1)))]) dL_ask_308 (Nat.le_of_ble_eq_true rfl) rfl ?_
                  refine lw_iload (pc := 310) dL_ask_310 rfl ?_
                  refine lw_if_eq (pc := 312) (tgt := 398) dL_ask_312 (by decide) (fun _ => ?_) (fun h => absurd (by decide) h)
                  exact G
                · replace G := G.2 c448
                  refine lw_iconst (pc := 299) dL_ask_299 ?_
                  refine lw_goto (pc := 300) (tgt := 307) dL_ask_300 (by decide) ?_
                  obtain ⟨s452, G⟩ := G
                  refine lw_iadd (pc := 307) (v := ((x5 + 4) + x1) + 1) dL_ask_307 s452 rfl ?_
                  refine lw_istore (pc := 308) (ls' := [some (.inr (some 1)), some (.inl x1), some (.inl x2), some (.inl x3), some (.inl x4), some (.inl x5), some (.inl x6), some (.inl x7), some (.inl x8), some (.inl x9), some (.inl v246), some (.inl (-5)), some (.inl 0), some (.inl (((x5 + 4) + x1) + 1))]) dL_ask_308 (Nat.le_of_ble_eq_true rfl) rfl ?_
                  refine lw_iload (pc := 310) dL_ask_310 rfl ?_
                  refine lw_if_eq (pc := 312) (tgt := 398) dL_ask_312 (by decide) (fun _ => ?_) (fun h => absurd (by decide) h)
                  exact G
              · replace G := G.2 c444
                refine lw_iload (pc := 228) dL_ask_228 rfl ?_
                refine lw_bipush (pc := 230) dL_ask_230 ?_
                refine lw_iload_n (pc := 232) dL_ask_232 rfl ?_
                obtain ⟨s454, G⟩ := G
                refine lw_isub (pc := 233) (v := 8 - x1) dL_ask_233 s454 rfl ?_
                refine lw_ishr (pc := 234) dL_ask_234 ?_
                refine lw_iload_n (pc := 235) dL_ask_235 rfl ?_
                refine lw_icmp_ne (pc := 236) (tgt := 250) dL_ask_236 (by decide) (fun c455 => ?_) (fun c455 => ?_)
                · replace G := G.1 c455
                  refine lw_iconst (pc := 250) dL_ask_250 ?_
                  refine lw_goto (pc := 251) (tgt := 277) dL_ask_251 (by decide) ?_
                  refine lw_istore (pc := 277) (ls' := [some (.inr (some 1)), some (.inl x1), some (.inl x2), some (.inl x3), some (.inl x4), some (.inl x5), some (.inl x6), some (.inl x7), some (.inl x8), some (.inl x9), some (.inl v246), some (.inl (-5)), some (.inl 0), none]) dL_ask_277 (Nat.le_of_ble_eq_true rfl) rfl ?_
                  refine lw_iload (pc := 279) dL_ask_279 rfl ?_
                  refine lw_iconst (pc := 281) dL_ask_281 ?_
                  obtain ⟨s456, G⟩ := G
                  refine lw_iadd (pc := 282) (v := x5 + 4) dL_ask_282 s456 rfl ?_
                  refine lw_iload_n (pc := 283) dL_ask_283 rfl ?_
                  obtain ⟨s457, G⟩ := G
                  refine lw_iadd (pc := 284) (v := (x5 + 4) + x1) dL_ask_284 s457 rfl ?_
                  refine lw_iload_n (pc := 285) dL_ask_285 rfl ?_
                  refine lw_if_ne (pc := 286) (tgt := 293) dL_ask_286 (by decide) (fun _ => ?_) (fun h => absurd (by omega) h)
                  refine lw_iload_n (pc := 293) dL_ask_293 rfl ?_
                  refine lw_bipush (pc := 294) dL_ask_294 ?_
                  refine lw_icmp_ne (pc := 296) (tgt := 303) dL_ask_296 (by decide) (fun c459 => ?_) (fun c459 => ?_)
                  · replace G := G.1 c459
                    refine lw_bipush (pc := 303) dL_ask_303 ?_
                    refine lw_iload_n (pc := 305) dL_ask_305 rfl ?_
                    refine lw_isub (pc := 306) (v := 8 - x1) dL_ask_306 s454 rfl ?_
                    obtain ⟨s460, G⟩ := G
                    refine lw_iadd (pc := 307) (v := ((x5 + 4) + x1) + (8 - x1)) dL_ask_307 s460 rfl ?_
                    refine lw_istore (pc := 308) (ls' := [some (.inr (some 1)), some (.inl x1), some (.inl x2), some (.inl x3), some (.inl x4), some (.inl x5), some (.inl x6), some (.inl x7), some (.inl x8), some (.inl x9), some (.inl v246), some (.inl (-5)), some (.inl 0), some (.inl (((x5 + 4) + x1) + (8 - x1)))]) dL_ask_308 (Nat.le_of_ble_eq_true rfl) rfl ?_
                    refine lw_iload (pc := 310) dL_ask_310 rfl ?_
                    refine lw_if_eq (pc := 312) (tgt := 398) dL_ask_312 (by decide) (fun _ => ?_) (fun h => absurd (by decide) h)
                    exact G
                  · replace G := G.2 c459
                    refine lw_iconst (pc := 299) dL_ask_299 ?_
                    refine lw_goto (pc := 300) (tgt := 307) dL_ask_300 (by decide) ?_
                    obtain ⟨s462, G⟩ := G
                    refine lw_iadd (pc := 307) (v := ((x5 + 4) + x1) + 1) dL_ask_307 s462 rfl ?_
                    refine lw_istore (pc := 308) (ls' := [some (.inr (some 1)), some (.inl x1), some (.inl x2), some (.inl x3), some (.inl x4), some (.inl x5), some (.inl x6), some (.inl x7), some (.inl x8), some (.inl x9), some (.inl v246), some (.inl (-5)), some (.inl 0), some (.inl (((x5 + 4) + x1) + 1))]) dL_ask_308 (Nat.le_of_ble_eq_true rfl) rfl ?_
                    refine lw_iload (pc := 310) dL_ask_310 rfl ?_
                    refine lw_if_eq (pc := 312) (tgt := 398) dL_ask_312 (by decide) (fun _ => ?_) (fun h => absurd (by decide) h)
                    exact G
                · replace G := G.2 c455
                  refine lw_iload (pc := 239) dL_ask_239 rfl ?_
                  refine lw_iload (pc := 241) dL_ask_241 rfl ?_
                  refine lw_icmp_ne (pc := 243) (tgt := 250) dL_ask_243 (by decide) (fun c464 => ?_) (fun c464 => ?_)
                  · replace G := G.1 c464
                    refine lw_iconst (pc := 250) dL_ask_250 ?_
                    refine lw_goto (pc := 251) (tgt := 277) dL_ask_251 (by decide) ?_
                    refine lw_istore (pc := 277) (ls' := [some (.inr (some 1)), some (.inl x1), some (.inl x2), some (.inl x3), some (.inl x4), some (.inl x5), some (.inl x6), some (.inl x7), some (.inl x8), some (.inl x9), some (.inl v246), some (.inl (-5)), some (.inl 0), none]) dL_ask_277 (Nat.le_of_ble_eq_true rfl) rfl ?_
                    refine lw_iload (pc := 279) dL_ask_279 rfl ?_
                    refine lw_iconst (pc := 281) dL_ask_281 ?_
                    obtain ⟨s465, G⟩ := G
                    refine lw_iadd (pc := 282) (v := x5 + 4) dL_ask_282 s465 rfl ?_
                    refine lw_iload_n (pc := 283) dL_ask_283 rfl ?_
                    obtain ⟨s466, G⟩ := G
                    refine lw_iadd (pc := 284) (v := (x5 + 4) + x1) dL_ask_284 s466 rfl ?_
                    refine lw_iload_n (pc := 285) dL_ask_285 rfl ?_
                    refine lw_if_ne (pc := 286) (tgt := 293) dL_ask_286 (by decide) (fun _ => ?_) (fun h => absurd (by omega) h)
                    refine lw_iload_n (pc := 293) dL_ask_293 rfl ?_
                    refine lw_bipush (pc := 294) dL_ask_294 ?_
                    refine lw_icmp_ne (pc := 296) (tgt := 303) dL_ask_296 (by decide) (fun c468 => ?_) (fun c468 => ?_)
                    · replace G := G.1 c468
                      refine lw_bipush (pc := 303) dL_ask_303 ?_
                      refine lw_iload_n (pc := 305) dL_ask_305 rfl ?_
                      refine lw_isub (pc := 306) (v := 8 - x1) dL_ask_306 s454 rfl ?_
                      obtain ⟨s469, G⟩ := G
                      refine lw_iadd (pc := 307) (v := ((x5 + 4) + x1) + (8 - x1)) dL_ask_307 s469 rfl ?_
                      refine lw_istore (pc := 308) (ls' := [some (.inr (some 1)), some (.inl x1), some (.inl x2), some (.inl x3), some (.inl x4), some (.inl x5), some (.inl x6), some (.inl x7), some (.inl x8), some (.inl x9), some (.inl v246), some (.inl (-5)), some (.inl 0), some (.inl (((x5 + 4) + x1) + (8 - x1)))]) dL_ask_308 (Nat.le_of_ble_eq_true rfl) rfl ?_
                      refine lw_iload (pc := 310) dL_ask_310 rfl ?_
                      refine lw_if_eq (pc := 312) (tgt := 398) dL_ask_312 (by decide) (fun _ => ?_) (fun h => absurd (by decide) h)
                      exact G
                    · replace G := G.2 c468
                      refine lw_iconst (pc := 299) dL_ask_299 ?_
                      refine lw_goto (pc := 300) (tgt := 307) dL_ask_300 (by decide) ?_
                      obtain ⟨s471, G⟩ := G
                      refine lw_iadd (pc := 307) (v := ((x5 + 4) + x1) + 1) dL_ask_307 s471 rfl ?_
                      refine lw_istore (pc := 308) (ls' := [some (.inr (some 1)), some (.inl x1), some (.inl x2), some (.inl x3), some (.inl x4), some (.inl x5), some (.inl x6), some (.inl x7), some (.inl x8), some (.inl x9), some (.inl v246), some (.inl (-5)), some (.inl 0), some (.inl (((x5 + 4) + x1) + 1))]) dL_ask_308 (Nat.le_of_ble_eq_true rfl) rfl ?_
                      refine lw_iload (pc := 310) dL_ask_310 rfl ?_
                      refine lw_if_eq (pc := 312) (tgt := 398) dL_ask_312 (by decide) (fun _ => ?_) (fun h => absurd (by decide) h)
                      exact G
                  · replace G := G.2 c464
                    refine lw_iconst (pc := 246) dL_ask_246 ?_
                    refine lw_goto (pc := 247) (tgt := 277) dL_ask_247 (by decide) ?_
                    refine lw_istore (pc := 277) (ls' := [some (.inr (some 1)), some (.inl x1), some (.inl x2), some (.inl x3), some (.inl x4), some (.inl x5), some (.inl x6), some (.inl x7), some (.inl x8), some (.inl x9), some (.inl v246), some (.inl (-5)), some (.inl 1), none]) dL_ask_277 (Nat.le_of_ble_eq_true rfl) rfl ?_
                    refine lw_iload (pc := 279) dL_ask_279 rfl ?_
                    refine lw_iconst (pc := 281) dL_ask_281 ?_
                    obtain ⟨s473, G⟩ := G
                    refine lw_iadd (pc := 282) (v := x5 + 4) dL_ask_282 s473 rfl ?_
                    refine lw_iload_n (pc := 283) dL_ask_283 rfl ?_
                    obtain ⟨s474, G⟩ := G
                    refine lw_iadd (pc := 284) (v := (x5 + 4) + x1) dL_ask_284 s474 rfl ?_
                    refine lw_iload_n (pc := 285) dL_ask_285 rfl ?_
                    refine lw_if_ne (pc := 286) (tgt := 293) dL_ask_286 (by decide) (fun _ => ?_) (fun h => absurd (by omega) h)
                    refine lw_iload_n (pc := 293) dL_ask_293 rfl ?_
                    refine lw_bipush (pc := 294) dL_ask_294 ?_
                    refine lw_icmp_ne (pc := 296) (tgt := 303) dL_ask_296 (by decide) (fun c476 => ?_) (fun c476 => ?_)
                    · replace G := G.1 c476
                      refine lw_bipush (pc := 303) dL_ask_303 ?_
                      refine lw_iload_n (pc := 305) dL_ask_305 rfl ?_
                      refine lw_isub (pc := 306) (v := 8 - x1) dL_ask_306 s454 rfl ?_
                      obtain ⟨s477, G⟩ := G
                      refine lw_iadd (pc := 307) (v := ((x5 + 4) + x1) + (8 - x1)) dL_ask_307 s477 rfl ?_
                      refine lw_istore (pc := 308) (ls' := [some (.inr (some 1)), some (.inl x1), some (.inl x2), some (.inl x3), some (.inl x4), some (.inl x5), some (.inl x6), some (.inl x7), some (.inl x8), some (.inl x9), some (.inl v246), some (.inl (-5)), some (.inl 1), some (.inl (((x5 + 4) + x1) + (8 - x1)))]) dL_ask_308 (Nat.le_of_ble_eq_true rfl) rfl ?_
                      refine lw_iload (pc := 310) dL_ask_310 rfl ?_
                      refine lw_if_eq (pc := 312) (tgt := 398) dL_ask_312 (by decide) (fun h => absurd h (by decide)) (fun _ => ?_)
                      refine lw_aload_n (pc := 315) dL_ask_315 rfl ?_
                      refine lw_bipush (pc := 316) dL_ask_316 ?_
                      refine lw_invV (pc := 318) (md' := m_X6_total) (as := [(.inl 9)]) dL_ask_318 mo_X6_total im_X6_total se_X6_total ml_L_13 rfl rfl (by omega) (Nat.le_of_ble_eq_true rfl) rfl ⟨Nat.le_of_ble_eq_true rfl, Nat.le_of_ble_eq_true rfl⟩ (lm_mono (lm_rg (kq_total (by omega))) (fun v479 g' e => ?_))
                      obtain ⟨r_v479, e_v479, rfl⟩ := e
                      replace G := G v479 r_v479 e_v479
                      refine lw_iload (pc := 321) dL_ask_321 rfl ?_
                      refine lw_icmp_ne (pc := 323) (tgt := 398) dL_ask_323 (by decide) (fun c480 => ?_) (fun c480 => ?_)
                      · replace G := G.1 c480
                        exact G
                      · replace G := G.2 c480
                        refine lw_aload_n (pc := 326) dL_ask_326 rfl ?_
                        refine lw_iconst (pc := 327) dL_ask_327 ?_
                        refine lw_invV (pc := 328) (md' := m_X6_total) (as := [(.inl 0)]) dL_ask_328 mo_X6_total im_X6_total se_X6_total ml_L_13 rfl rfl (by omega) (Nat.le_of_ble_eq_true rfl) rfl ⟨Nat.le_of_ble_eq_true rfl, Nat.le_of_ble_eq_true rfl⟩ (lm_mono (lm_rg (kq_total (by omega))) (fun v481 g' e => ?_))
                        obtain ⟨r_v481, e_v481, rfl⟩ := e
                        replace G := G v481 r_v481 e_v481
                        refine lw_iload (pc := 331) dL_ask_331 rfl ?_
                        refine lw_iload (pc := 333) dL_ask_333 rfl ?_
                        obtain ⟨s482, G⟩ := G
                        refine lw_isub (pc := 335) (v := x4 - x7) dL_ask_335 s482 rfl ?_
                        refine lw_icmp_ne (pc := 336) (tgt := 398) dL_ask_336 (by decide) (fun c483 => ?_) (fun c483 => ?_)
                        · replace G := G.1 c483
                          exact G
                        · replace G := G.2 c483
                          refine lw_aload_n (pc := 339) dL_ask_339 rfl ?_
                          refine lw_iconst (pc := 340) dL_ask_340 ?_
                          refine lw_invV (pc := 341) (md' := m_X6_total) (as := [(.inl 3)]) dL_ask_341 mo_X6_total im_X6_total se_X6_total ml_L_13 rfl rfl (by omega) (Nat.le_of_ble_eq_true rfl) rfl ⟨Nat.le_of_ble_eq_true rfl, Nat.le_of_ble_eq_true rfl⟩ (lm_mono (lm_rg (kq_total (by omega))) (fun v484 g' e => ?_))
                          obtain ⟨r_v484, e_v484, rfl⟩ := e
                          replace G := G v484 r_v484 e_v484
                          refine lw_iload_n (pc := 344) dL_ask_344 rfl ?_
                          refine lw_iconst (pc := 345) dL_ask_345 ?_
                          refine lw_icmp_ne (pc := 346) (tgt := 364) dL_ask_346 (by decide) (fun h => absurd h (by omega)) (fun _ => ?_)
                          refine lw_iload (pc := 349) dL_ask_349 rfl ?_
                          refine lw_sipush (pc := 351) dL_ask_351 ?_
                          refine lw_icmp_ge (pc := 354) (tgt := 364) dL_ask_354 (by decide) (fun c486 => ?_) (fun c486 => ?_)
                          · replace G := G.1 c486
                            refine lw_iload (pc := 364) dL_ask_364 rfl ?_
                            refine lw_icmp_ne (pc := 366) (tgt := 398) dL_ask_366 (by decide) (fun c487 => ?_) (fun c487 => ?_)
                            · replace G := G.1 c487
                              exact G
                            · replace G := G.2 c487
                              refine lw_iload_n (pc := 369) dL_ask_369 rfl ?_
                              refine lw_iconst (pc := 370) dL_ask_370 ?_
                              refine lw_icmp_ne (pc := 371) (tgt := 394) dL_ask_371 (by decide) (fun h => absurd h (by omega)) (fun _ => ?_)
                              refine lw_aload_n (pc := 374) dL_ask_374 rfl ?_
                              refine lw_bipush (pc := 375) dL_ask_375 ?_
                              refine lw_iload (pc := 377) dL_ask_377 rfl ?_
                              refine lw_invV (pc := 379) (md' := m_X6_count) (as := [(.inl 8), (.inl v246)]) dL_ask_379 mo_X6_count im_X6_count se_X6_count ml_L_29 rfl rfl (by omega) (Nat.le_of_ble_eq_true rfl) rfl ⟨Nat.le_of_ble_eq_true rfl, Nat.le_of_ble_eq_true rfl⟩ (lm_mono (lm_rg (kq_count (by omega))) (fun v489 g' e => ?_))
                              obtain ⟨r_v489, e_v489, rfl⟩ := e
                              replace G := G v489 r_v489 e_v489
                              refine lw_if_eq (pc := 382) (tgt := 394) dL_ask_382 (by decide) (fun c490 => ?_) (fun c490 => ?_)
                              · replace G := G.1 c490
                                refine lw_iconst (pc := 394) dL_ask_394 ?_
                                refine lw_goto (pc := 395) (tgt := 399) dL_ask_395 (by decide) ?_
                                refine lw_istore (pc := 399) (ls' := [some (.inr (some 1)), some (.inl x1), some (.inl x2), some (.inl x3), some (.inl x4), some (.inl x5), some (.inl x6), some (.inl x7), some (.inl x8), some (.inl x9), some (.inl v246), some (.inl (-5)), some (.inl 1), some (.inl (((x5 + 4) + x1) + (8 - x1)))]) dL_ask_399 (Nat.le_of_ble_eq_true rfl) rfl ?_
                                refine lw_iload (pc := 401) dL_ask_401 rfl ?_
                                refine lw_if_eq (pc := 403) (tgt := 411) dL_ask_403 (by decide) (fun h => absurd h (by decide)) (fun _ => ?_)
                                refine lw_iload (pc := 406) dL_ask_406 rfl ?_
                                refine lw_goto (pc := 408) (tgt := 413) dL_ask_408 (by decide) ?_
                                refine lw_ireturn (pc := 413) dL_ask_413 rfl ?_ (Nat.le_of_ble_eq_true rfl) (Nat.le_of_ble_eq_true rfl)
                                exact G
                              · replace G := G.2 c490
                                refine lw_aload_n (pc := 385) dL_ask_385 rfl ?_
                                refine lw_bipush (pc := 386) dL_ask_386 ?_
                                refine lw_invV (pc := 388) (md' := m_X6_total) (as := [(.inl 11)]) dL_ask_388 mo_X6_total im_X6_total se_X6_total ml_L_13 rfl rfl (by omega) (Nat.le_of_ble_eq_true rfl) rfl ⟨Nat.le_of_ble_eq_true rfl, Nat.le_of_ble_eq_true rfl⟩ (lm_mono (lm_rg (kq_total (by omega))) (fun v492 g' e => ?_))
                                obtain ⟨r_v492, e_v492, rfl⟩ := e
                                replace G := G v492 r_v492 e_v492
                                refine lw_if_ne (pc := 391) (tgt := 398) dL_ask_391 (by decide) (fun c493 => ?_) (fun c493 => ?_)
                                · replace G := G.1 c493
                                  exact G
                                · replace G := G.2 c493
                                  refine lw_iconst (pc := 394) dL_ask_394 ?_
                                  refine lw_goto (pc := 395) (tgt := 399) dL_ask_395 (by decide) ?_
                                  refine lw_istore (pc := 399) (ls' := [some (.inr (some 1)), some (.inl x1), some (.inl x2), some (.inl x3), some (.inl x4), some (.inl x5), some (.inl x6), some (.inl x7), some (.inl x8), some (.inl x9), some (.inl v246), some (.inl (-5)), some (.inl 1), some (.inl (((x5 + 4) + x1) + (8 - x1)))]) dL_ask_399 (Nat.le_of_ble_eq_true rfl) rfl ?_
                                  refine lw_iload (pc := 401) dL_ask_401 rfl ?_
                                  refine lw_if_eq (pc := 403) (tgt := 411) dL_ask_403 (by decide) (fun h => absurd h (by decide)) (fun _ => ?_)
                                  refine lw_iload (pc := 406) dL_ask_406 rfl ?_
                                  refine lw_goto (pc := 408) (tgt := 413) dL_ask_408 (by decide) ?_
                                  refine lw_ireturn (pc := 413) dL_ask_413 rfl ?_ (Nat.le_of_ble_eq_true rfl) (Nat.le_of_ble_eq_true rfl)
                                  exact G
                          · replace G := G.2 c486
                            refine lw_iload (pc := 357) dL_ask_357 rfl ?_
                            refine lw_iconst (pc := 359) dL_ask_359 ?_
                            obtain ⟨s495, G⟩ := G
                            refine lw_iadd (pc := 360) (v := x6 + 1) dL_ask_360 s495 rfl ?_
                            refine lw_goto (pc := 361) (tgt := 366) dL_ask_361 (by decide) ?_
                            refine lw_icmp_ne (pc := 366) (tgt := 398) dL_ask_366 (by decide) (fun c496 => ?_) (fun c496 => ?_)
                            · replace G := G.1 c496
                              exact G
                            · replace G := G.2 c496
                              refine lw_iload_n (pc := 369) dL_ask_369 rfl ?_
                              refine lw_iconst (pc := 370) dL_ask_370 ?_
                              refine lw_icmp_ne (pc := 371) (tgt := 394) dL_ask_371 (by decide) (fun h => absurd h (by omega)) (fun _ => ?_)
                              refine lw_aload_n (pc := 374) dL_ask_374 rfl ?_
                              refine lw_bipush (pc := 375) dL_ask_375 ?_
                              refine lw_iload (pc := 377) dL_ask_377 rfl ?_
                              refine lw_invV (pc := 379) (md' := m_X6_count) (as := [(.inl 8), (.inl v246)]) dL_ask_379 mo_X6_count im_X6_count se_X6_count ml_L_29 rfl rfl (by omega) (Nat.le_of_ble_eq_true rfl) rfl ⟨Nat.le_of_ble_eq_true rfl, Nat.le_of_ble_eq_true rfl⟩ (lm_mono (lm_rg (kq_count (by omega))) (fun v498 g' e => ?_))
                              obtain ⟨r_v498, e_v498, rfl⟩ := e
                              replace G := G v498 r_v498 e_v498
                              refine lw_if_eq (pc := 382) (tgt := 394) dL_ask_382 (by decide) (fun c499 => ?_) (fun c499 => ?_)
                              · replace G := G.1 c499
                                refine lw_iconst (pc := 394) dL_ask_394 ?_
                                refine lw_goto (pc := 395) (tgt := 399) dL_ask_395 (by decide) ?_
                                refine lw_istore (pc := 399) (ls' := [some (.inr (some 1)), some (.inl x1), some (.inl x2), some (.inl x3), some (.inl x4), some (.inl x5), some (.inl x6), some (.inl x7), some (.inl x8), some (.inl x9), some (.inl v246), some (.inl (-5)), some (.inl 1), some (.inl (((x5 + 4) + x1) + (8 - x1)))]) dL_ask_399 (Nat.le_of_ble_eq_true rfl) rfl ?_
                                refine lw_iload (pc := 401) dL_ask_401 rfl ?_
                                refine lw_if_eq (pc := 403) (tgt := 411) dL_ask_403 (by decide) (fun h => absurd h (by decide)) (fun _ => ?_)
                                refine lw_iload (pc := 406) dL_ask_406 rfl ?_
                                refine lw_goto (pc := 408) (tgt := 413) dL_ask_408 (by decide) ?_
                                refine lw_ireturn (pc := 413) dL_ask_413 rfl ?_ (Nat.le_of_ble_eq_true rfl) (Nat.le_of_ble_eq_true rfl)
                                exact G
                              · replace G := G.2 c499
                                refine lw_aload_n (pc := 385) dL_ask_385 rfl ?_
                                refine lw_bipush (pc := 386) dL_ask_386 ?_
                                refine lw_invV (pc := 388) (md' := m_X6_total) (as := [(.inl 11)]) dL_ask_388 mo_X6_total im_X6_total se_X6_total ml_L_13 rfl rfl (by omega) (Nat.le_of_ble_eq_true rfl) rfl ⟨Nat.le_of_ble_eq_true rfl, Nat.le_of_ble_eq_true rfl⟩ (lm_mono (lm_rg (kq_total (by omega))) (fun v501 g' e => ?_))
                                obtain ⟨r_v501, e_v501, rfl⟩ := e
                                replace G := G v501 r_v501 e_v501
                                refine lw_if_ne (pc := 391) (tgt := 398) dL_ask_391 (by decide) (fun c502 => ?_) (fun c502 => ?_)
                                · replace G := G.1 c502
                                  exact G
                                · replace G := G.2 c502
                                  refine lw_iconst (pc := 394) dL_ask_394 ?_
                                  refine lw_goto (pc := 395) (tgt := 399) dL_ask_395 (by decide) ?_
                                  refine lw_istore (pc := 399) (ls' := [some (.inr (some 1)), some (.inl x1), some (.inl x2), some (.inl x3), some (.inl x4), some (.inl x5), some (.inl x6), some (.inl x7), some (.inl x8), some (.inl x9), some (.inl v246), some (.inl (-5)), some (.inl 1), some (.inl (((x5 + 4) + x1) + (8 - x1)))]) dL_ask_399 (Nat.le_of_ble_eq_true rfl) rfl ?_
                                  refine lw_iload (pc := 401) dL_ask_401 rfl ?_
                                  refine lw_if_eq (pc := 403) (tgt := 411) dL_ask_403 (by decide) (fun h => absurd h (by decide)) (fun _ => ?_)
                                  refine lw_iload (pc := 406) dL_ask_406 rfl ?_
                                  refine lw_goto (pc := 408) (tgt := 413) dL_ask_408 (by decide) ?_
                                  refine lw_ireturn (pc := 413) dL_ask_413 rfl ?_ (Nat.le_of_ble_eq_true rfl) (Nat.le_of_ble_eq_true rfl)
                                  exact G
                    · replace G := G.2 c476
                      refine lw_iconst (pc := 299) dL_ask_299 ?_
                      refine lw_goto (pc := 300) (tgt := 307) dL_ask_300 (by decide) ?_
                      obtain ⟨s504, G⟩ := G
                      refine lw_iadd (pc := 307) (v := ((x5 + 4) + x1) + 1) dL_ask_307 s504 rfl ?_
                      refine lw_istore (pc := 308) (ls' := [some (.inr (some 1)), some (.inl x1), some (.inl x2), some (.inl x3), some (.inl x4), some (.inl x5), some (.inl x6), some (.inl x7), some (.inl x8), some (.inl x9), some (.inl v246), some (.inl (-5)), some (.inl 1), some (.inl (((x5 + 4) + x1) + 1))]) dL_ask_308 (Nat.le_of_ble_eq_true rfl) rfl ?_
                      refine lw_iload (pc := 310) dL_ask_310 rfl ?_
                      refine lw_if_eq (pc := 312) (tgt := 398) dL_ask_312 (by decide) (fun h => absurd h (by decide)) (fun _ => ?_)
                      refine lw_aload_n (pc := 315) dL_ask_315 rfl ?_
                      refine lw_bipush (pc := 316) dL_ask_316 ?_
                      refine lw_invV (pc := 318) (md' := m_X6_total) (as := [(.inl 9)]) dL_ask_318 mo_X6_total im_X6_total se_X6_total ml_L_13 rfl rfl (by omega) (Nat.le_of_ble_eq_true rfl) rfl ⟨Nat.le_of_ble_eq_true rfl, Nat.le_of_ble_eq_true rfl⟩ (lm_mono (lm_rg (kq_total (by omega))) (fun v506 g' e => ?_))
                      obtain ⟨r_v506, e_v506, rfl⟩ := e
                      replace G := G v506 r_v506 e_v506
                      refine lw_iload (pc := 321) dL_ask_321 rfl ?_
                      refine lw_icmp_ne (pc := 323) (tgt := 398) dL_ask_323 (by decide) (fun c507 => ?_) (fun c507 => ?_)
                      · replace G := G.1 c507
                        exact G
                      · replace G := G.2 c507
                        refine lw_aload_n (pc := 326) dL_ask_326 rfl ?_
                        refine lw_iconst (pc := 327) dL_ask_327 ?_
                        refine lw_invV (pc := 328) (md' := m_X6_total) (as := [(.inl 0)]) dL_ask_328 mo_X6_total im_X6_total se_X6_total ml_L_13 rfl rfl (by omega) (Nat.le_of_ble_eq_true rfl) rfl ⟨Nat.le_of_ble_eq_true rfl, Nat.le_of_ble_eq_true rfl⟩ (lm_mono (lm_rg (kq_total (by omega))) (fun v508 g' e => ?_))
                        obtain ⟨r_v508, e_v508, rfl⟩ := e
                        replace G := G v508 r_v508 e_v508
                        refine lw_iload (pc := 331) dL_ask_331 rfl ?_
                        refine lw_iload (pc := 333) dL_ask_333 rfl ?_
                        obtain ⟨s509, G⟩ := G
                        refine lw_isub (pc := 335) (v := x4 - x7) dL_ask_335 s509 rfl ?_
                        refine lw_icmp_ne (pc := 336) (tgt := 398) dL_ask_336 (by decide) (fun c510 => ?_) (fun c510 => ?_)
                        · replace G := G.1 c510
                          exact G
                        · replace G := G.2 c510
                          refine lw_aload_n (pc := 339) dL_ask_339 rfl ?_
                          refine lw_iconst (pc := 340) dL_ask_340 ?_
                          refine lw_invV (pc := 341) (md' := m_X6_total) (as := [(.inl 3)]) dL_ask_341 mo_X6_total im_X6_total se_X6_total ml_L_13 rfl rfl (by omega) (Nat.le_of_ble_eq_true rfl) rfl ⟨Nat.le_of_ble_eq_true rfl, Nat.le_of_ble_eq_true rfl⟩ (lm_mono (lm_rg (kq_total (by omega))) (fun v511 g' e => ?_))
                          obtain ⟨r_v511, e_v511, rfl⟩ := e
                          replace G := G v511 r_v511 e_v511
                          refine lw_iload_n (pc := 344) dL_ask_344 rfl ?_
                          refine lw_iconst (pc := 345) dL_ask_345 ?_
                          refine lw_icmp_ne (pc := 346) (tgt := 364) dL_ask_346 (by decide) (fun h => absurd h (by omega)) (fun _ => ?_)
                          refine lw_iload (pc := 349) dL_ask_349 rfl ?_
                          refine lw_sipush (pc := 351) dL_ask_351 ?_
                          refine lw_icmp_ge (pc := 354) (tgt := 364) dL_ask_354 (by decide) (fun c513 => ?_) (fun c513 => ?_)
                          · replace G := G.1 c513
                            refine lw_iload (pc := 364) dL_ask_364 rfl ?_
                            refine lw_icmp_ne (pc := 366) (tgt := 398) dL_ask_366 (by decide) (fun c514 => ?_) (fun c514 => ?_)
                            · replace G := G.1 c514
                              exact G
                            · replace G := G.2 c514
                              refine lw_iload_n (pc := 369) dL_ask_369 rfl ?_
                              refine lw_iconst (pc := 370) dL_ask_370 ?_
                              refine lw_icmp_ne (pc := 371) (tgt := 394) dL_ask_371 (by decide) (fun h => absurd h (by omega)) (fun _ => ?_)
                              refine lw_aload_n (pc := 374) dL_ask_374 rfl ?_
                              refine lw_bipush (pc := 375) dL_ask_375 ?_
                              refine lw_iload (pc := 377) dL_ask_377 rfl ?_
                              refine lw_invV (pc := 379) (md' := m_X6_count) (as := [(.inl 8), (.inl v246)]) dL_ask_379 mo_X6_count im_X6_count se_X6_count ml_L_29 rfl rfl (by omega) (Nat.le_of_ble_eq_true rfl) rfl ⟨Nat.le_of_ble_eq_true rfl, Nat.le_of_ble_eq_true rfl⟩ (lm_mono (lm_rg (kq_count (by omega))) (fun v516 g' e => ?_))
                              obtain ⟨r_v516, e_v516, rfl⟩ := e
                              replace G := G v516 r_v516 e_v516
                              refine lw_if_eq (pc := 382) (tgt := 394) dL_ask_382 (by decide) (fun c517 => ?_) (fun c517 => ?_)
                              · replace G := G.1 c517
                                refine lw_iconst (pc := 394) dL_ask_394 ?_
                                refine lw_goto (pc := 395) (tgt := 399) dL_ask_395 (by decide) ?_
                                refine lw_istore (pc := 399) (ls' := [some (.inr (some 1)), some (.inl x1), some (.inl x2), some (.inl x3), some (.inl x4), some (.inl x5), some (.inl x6), some (.inl x7), some (.inl x8), some (.inl x9), some (.inl v246), some (.inl (-5)), some (.inl 1), some (.inl (((x5 + 4) + x1) + 1))]) dL_ask_399 (Nat.le_of_ble_eq_true rfl) rfl ?_
                                refine lw_iload (pc := 401) dL_ask_401 rfl ?_
                                refine lw_if_eq (pc := 403) (tgt := 411) dL_ask_403 (by decide) (fun h => absurd h (by decide)) (fun _ => ?_)
                                refine lw_iload (pc := 406) dL_ask_406 rfl ?_
                                refine lw_goto (pc := 408) (tgt := 413) dL_ask_408 (by decide) ?_
                                refine lw_ireturn (pc := 413) dL_ask_413 rfl ?_ (Nat.le_of_ble_eq_true rfl) (Nat.le_of_ble_eq_true rfl)
                                exact G
                              · replace G := G.2 c517
                                refine lw_aload_n (pc := 385) dL_ask_385 rfl ?_
                                refine lw_bipush (pc := 386) dL_ask_386 ?_
                                refine lw_invV (pc := 388) (md' := m_X6_total) (as := [(.inl 11)]) dL_ask_388 mo_X6_total im_X6_total se_X6_total ml_L_13 rfl rfl (by omega) (Nat.le_of_ble_eq_true rfl) rfl ⟨Nat.le_of_ble_eq_true rfl, Nat.le_of_ble_eq_true rfl⟩ (lm_mono (lm_rg (kq_total (by omega))) (fun v519 g' e => ?_))
                                obtain ⟨r_v519, e_v519, rfl⟩ := e
                                replace G := G v519 r_v519 e_v519
                                refine lw_if_ne (pc := 391) (tgt := 398) dL_ask_391 (by decide) (fun c520 => ?_) (fun c520 => ?_)
                                · replace G := G.1 c520
                                  exact G
                                · replace G := G.2 c520
                                  refine lw_iconst (pc := 394) dL_ask_394 ?_
                                  refine lw_goto (pc := 395) (tgt := 399) dL_ask_395 (by decide) ?_
                                  refine lw_istore (pc := 399) (ls' := [some (.inr (some 1)), some (.inl x1), some (.inl x2), some (.inl x3), some (.inl x4), some (.inl x5), some (.inl x6), some (.inl x7), some (.inl x8), some (.inl x9), some (.inl v246), some (.inl (-5)), some (.inl 1), some (.inl (((x5 + 4) + x1) + 1))]) dL_ask_399 (Nat.le_of_ble_eq_true rfl) rfl ?_
                                  refine lw_iload (pc := 401) dL_ask_401 rfl ?_
                                  refine lw_if_eq (pc := 403) (tgt := 411) dL_ask_403 (by decide) (fun h => absurd h (by decide)) (fun _ => ?_)
                                  refine lw_iload (pc := 406) dL_ask_406 rfl ?_
                                  refine lw_goto (pc := 408) (tgt := 413) dL_ask_408 (by decide) ?_
                                  refine lw_ireturn (pc := 413) dL_ask_413 rfl ?_ (Nat.le_of_ble_eq_true rfl) (Nat.le_of_ble_eq_true rfl)
                                  exact G
                          · replace G := G.2 c513
                            refine lw_iload (pc := 357) dL_ask_357 rfl ?_
                            refine lw_iconst (pc := 359) dL_ask_359 ?_
                            obtain ⟨s522, G⟩ := G
                            refine lw_iadd (pc := 360) (v := x6 + 1) dL_ask_360 s522 rfl ?_
                            refine lw_goto (pc := 361) (tgt := 366) dL_ask_361 (by decide) ?_
                            refine lw_icmp_ne (pc := 366) (tgt := 398) dL_ask_366 (by decide) (fun c523 => ?_) (fun c523 => ?_)
                            · replace G := G.1 c523
                              exact G
                            · replace G := G.2 c523
                              refine lw_iload_n (pc := 369) dL_ask_369 rfl ?_
                              refine lw_iconst (pc := 370) dL_ask_370 ?_
                              refine lw_icmp_ne (pc := 371) (tgt := 394) dL_ask_371 (by decide) (fun h => absurd h (by omega)) (fun _ => ?_)
                              refine lw_aload_n (pc := 374) dL_ask_374 rfl ?_
                              refine lw_bipush (pc := 375) dL_ask_375 ?_
                              refine lw_iload (pc := 377) dL_ask_377 rfl ?_
                              refine lw_invV (pc := 379) (md' := m_X6_count) (as := [(.inl 8), (.inl v246)]) dL_ask_379 mo_X6_count im_X6_count se_X6_count ml_L_29 rfl rfl (by omega) (Nat.le_of_ble_eq_true rfl) rfl ⟨Nat.le_of_ble_eq_true rfl, Nat.le_of_ble_eq_true rfl⟩ (lm_mono (lm_rg (kq_count (by omega))) (fun v525 g' e => ?_))
                              obtain ⟨r_v525, e_v525, rfl⟩ := e
                              replace G := G v525 r_v525 e_v525
                              refine lw_if_eq (pc := 382) (tgt := 394) dL_ask_382 (by decide) (fun c526 => ?_) (fun c526 => ?_)
                              · replace G := G.1 c526
                                refine lw_iconst (pc := 394) dL_ask_394 ?_
                                refine lw_goto (pc := 395) (tgt := 399) dL_ask_395 (by decide) ?_
                                refine lw_istore (pc := 399) (ls' := [some (.inr (some 1)), some (.inl x1), some (.inl x2), some (.inl x3), some (.inl x4), some (.inl x5), some (.inl x6), some (.inl x7), some (.inl x8), some (.inl x9), some (.inl v246), some (.inl (-5)), some (.inl 1), some (.inl (((x5 + 4) + x1) + 1))]) dL_ask_399 (Nat.le_of_ble_eq_true rfl) rfl ?_
                                refine lw_iload (pc := 401) dL_ask_401 rfl ?_
                                refine lw_if_eq (pc := 403) (tgt := 411) dL_ask_403 (by decide) (fun h => absurd h (by decide)) (fun _ => ?_)
                                refine lw_iload (pc := 406) dL_ask_406 rfl ?_
                                refine lw_goto (pc := 408) (tgt := 413) dL_ask_408 (by decide) ?_
                                refine lw_ireturn (pc := 413) dL_ask_413 rfl ?_ (Nat.le_of_ble_eq_true rfl) (Nat.le_of_ble_eq_true rfl)
                                exact G
                              · replace G := G.2 c526
                                refine lw_aload_n (pc := 385) dL_ask_385 rfl ?_
                                refine lw_bipush (pc := 386) dL_ask_386 ?_
                                refine lw_invV (pc := 388) (md' := m_X6_total) (as := [(.inl 11)]) dL_ask_388 mo_X6_total im_X6_total se_X6_total ml_L_13 rfl rfl (by omega) (Nat.le_of_ble_eq_true rfl) rfl ⟨Nat.le_of_ble_eq_true rfl, Nat.le_of_ble_eq_true rfl⟩ (lm_mono (lm_rg (kq_total (by omega))) (fun v528 g' e => ?_))
                                obtain ⟨r_v528, e_v528, rfl⟩ := e
                                replace G := G v528 r_v528 e_v528
                                refine lw_if_ne (pc := 391) (tgt := 398) dL_ask_391 (by decide) (fun c529 => ?_) (fun c529 => ?_)
                                · replace G := G.1 c529
                                  exact G
                                · replace G := G.2 c529
                                  refine lw_iconst (pc := 394) dL_ask_394 ?_
                                  refine lw_goto (pc := 395) (tgt := 399) dL_ask_395 (by decide) ?_
                                  refine lw_istore (pc := 399) (ls' := [some (.inr (some 1)), some (.inl x1), some (.inl x2), some (.inl x3), some (.inl x4), some (.inl x5), some (.inl x6), some (.inl x7), some (.inl x8), some (.inl x9), some (.inl v246), some (.inl (-5)), some (.inl 1), some (.inl (((x5 + 4) + x1) + 1))]) dL_ask_399 (Nat.le_of_ble_eq_true rfl) rfl ?_
                                  refine lw_iload (pc := 401) dL_ask_401 rfl ?_
                                  refine lw_if_eq (pc := 403) (tgt := 411) dL_ask_403 (by decide) (fun h => absurd h (by decide)) (fun _ => ?_)
                                  refine lw_iload (pc := 406) dL_ask_406 rfl ?_
                                  refine lw_goto (pc := 408) (tgt := 413) dL_ask_408 (by decide) ?_
                                  refine lw_ireturn (pc := 413) dL_ask_413 rfl ?_ (Nat.le_of_ble_eq_true rfl) (Nat.le_of_ble_eq_true rfl)
                                  exact G
        · replace G := G.2 c400
          refine lw_iload (pc := 194) dL_ask_194 rfl ?_
          refine lw_sipush (pc := 196) dL_ask_196 ?_
          refine lw_icmp_ne (pc := 199) (tgt := 206) dL_ask_199 (by decide) (fun c531 => ?_) (fun c531 => ?_)
          · replace G := G.1 c531
            exact G
          · replace G := G.2 c531
            refine lw_iconst (pc := 202) dL_ask_202 ?_
            refine lw_goto (pc := 203) (tgt := 277) dL_ask_203 (by decide) ?_
            refine lw_istore (pc := 277) (ls' := [some (.inr (some 1)), some (.inl x1), some (.inl x2), some (.inl x3), some (.inl x4), some (.inl x5), some (.inl x6), some (.inl x7), some (.inl x8), some (.inl x9), some (.inl v246), some (.inl (-5)), some (.inl 1), none]) dL_ask_277 (Nat.le_of_ble_eq_true rfl) rfl ?_
            refine lw_iload (pc := 279) dL_ask_279 rfl ?_
            refine lw_iconst (pc := 281) dL_ask_281 ?_
            obtain ⟨s532, G⟩ := G
            refine lw_iadd (pc := 282) (v := x5 + 4) dL_ask_282 s532 rfl ?_
            refine lw_iload_n (pc := 283) dL_ask_283 rfl ?_
            obtain ⟨s533, G⟩ := G
            refine lw_iadd (pc := 284) (v := (x5 + 4) + x1) dL_ask_284 s533 rfl ?_
            refine lw_iload_n (pc := 285) dL_ask_285 rfl ?_
            refine lw_if_ne (pc := 286) (tgt := 293) dL_ask_286 (by decide) (fun h => absurd h (by omega)) (fun _ => ?_)
            refine lw_iconst (pc := 289) dL_ask_289 ?_
            refine lw_goto (pc := 290) (tgt := 307) dL_ask_290 (by decide) ?_
            obtain ⟨s535, G⟩ := G
            refine lw_iadd (pc := 307) (v := ((x5 + 4) + x1) + 2) dL_ask_307 s535 rfl ?_
            refine lw_istore (pc := 308) (ls' := [some (.inr (some 1)), some (.inl x1), some (.inl x2), some (.inl x3), some (.inl x4), some (.inl x5), some (.inl x6), some (.inl x7), some (.inl x8), some (.inl x9), some (.inl v246), some (.inl (-5)), some (.inl 1), some (.inl (((x5 + 4) + x1) + 2))]) dL_ask_308 (Nat.le_of_ble_eq_true rfl) rfl ?_
            refine lw_iload (pc := 310) dL_ask_310 rfl ?_
            refine lw_if_eq (pc := 312) (tgt := 398) dL_ask_312 (by decide) (fun h => absurd h (by decide)) (fun _ => ?_)
            refine lw_aload_n (pc := 315) dL_ask_315 rfl ?_
            refine lw_bipush (pc := 316) dL_ask_316 ?_
            refine lw_invV (pc := 318) (md' := m_X6_total) (as := [(.inl 9)]) dL_ask_318 mo_X6_total im_X6_total se_X6_total ml_L_13 rfl rfl (by omega) (Nat.le_of_ble_eq_true rfl) rfl ⟨Nat.le_of_ble_eq_true rfl, Nat.le_of_ble_eq_true rfl⟩ (lm_mono (lm_rg (kq_total (by omega))) (fun v537 g' e => ?_))
            obtain ⟨r_v537, e_v537, rfl⟩ := e
            replace G := G v537 r_v537 e_v537
            refine lw_iload (pc := 321) dL_ask_321 rfl ?_
            refine lw_icmp_ne (pc := 323) (tgt := 398) dL_ask_323 (by decide) (fun c538 => ?_) (fun c538 => ?_)
            · replace G := G.1 c538
              exact G
            · replace G := G.2 c538
              refine lw_aload_n (pc := 326) dL_ask_326 rfl ?_
              refine lw_iconst (pc := 327) dL_ask_327 ?_
              refine lw_invV (pc := 328) (md' := m_X6_total) (as := [(.inl 0)]) dL_ask_328 mo_X6_total im_X6_total se_X6_total ml_L_13 rfl rfl (by omega) (Nat.le_of_ble_eq_true rfl) rfl ⟨Nat.le_of_ble_eq_true rfl, Nat.le_of_ble_eq_true rfl⟩ (lm_mono (lm_rg (kq_total (by omega))) (fun v539 g' e => ?_))
              obtain ⟨r_v539, e_v539, rfl⟩ := e
              replace G := G v539 r_v539 e_v539
              refine lw_iload (pc := 331) dL_ask_331 rfl ?_
              refine lw_iload (pc := 333) dL_ask_333 rfl ?_
              obtain ⟨s540, G⟩ := G
              refine lw_isub (pc := 335) (v := x4 - x7) dL_ask_335 s540 rfl ?_
              refine lw_icmp_ne (pc := 336) (tgt := 398) dL_ask_336 (by decide) (fun c541 => ?_) (fun c541 => ?_)
              · replace G := G.1 c541
                exact G
              · replace G := G.2 c541
                refine lw_aload_n (pc := 339) dL_ask_339 rfl ?_
                refine lw_iconst (pc := 340) dL_ask_340 ?_
                refine lw_invV (pc := 341) (md' := m_X6_total) (as := [(.inl 3)]) dL_ask_341 mo_X6_total im_X6_total se_X6_total ml_L_13 rfl rfl (by omega) (Nat.le_of_ble_eq_true rfl) rfl ⟨Nat.le_of_ble_eq_true rfl, Nat.le_of_ble_eq_true rfl⟩ (lm_mono (lm_rg (kq_total (by omega))) (fun v542 g' e => ?_))
                obtain ⟨r_v542, e_v542, rfl⟩ := e
                replace G := G v542 r_v542 e_v542
                refine lw_iload_n (pc := 344) dL_ask_344 rfl ?_
                refine lw_iconst (pc := 345) dL_ask_345 ?_
                refine lw_icmp_ne (pc := 346) (tgt := 364) dL_ask_346 (by decide) (fun _ => ?_) (fun h => absurd (by omega) h)
                refine lw_iload (pc := 364) dL_ask_364 rfl ?_
                refine lw_icmp_ne (pc := 366) (tgt := 398) dL_ask_366 (by decide) (fun c544 => ?_) (fun c544 => ?_)
                · replace G := G.1 c544
                  exact G
                · replace G := G.2 c544
                  refine lw_iload_n (pc := 369) dL_ask_369 rfl ?_
                  refine lw_iconst (pc := 370) dL_ask_370 ?_
                  refine lw_icmp_ne (pc := 371) (tgt := 394) dL_ask_371 (by decide) (fun _ => ?_) (fun h => absurd (by omega) h)
                  refine lw_iconst (pc := 394) dL_ask_394 ?_
                  refine lw_goto (pc := 395) (tgt := 399) dL_ask_395 (by decide) ?_
                  refine lw_istore (pc := 399) (ls' := [some (.inr (some 1)), some (.inl x1), some (.inl x2), some (.inl x3), some (.inl x4), some (.inl x5), some (.inl x6), some (.inl x7), some (.inl x8), some (.inl x9), some (.inl v246), some (.inl (-5)), some (.inl 1), some (.inl (((x5 + 4) + x1) + 2))]) dL_ask_399 (Nat.le_of_ble_eq_true rfl) rfl ?_
                  refine lw_iload (pc := 401) dL_ask_401 rfl ?_
                  refine lw_if_eq (pc := 403) (tgt := 411) dL_ask_403 (by decide) (fun h => absurd h (by decide)) (fun _ => ?_)
                  refine lw_iload (pc := 406) dL_ask_406 rfl ?_
                  refine lw_goto (pc := 408) (tgt := 413) dL_ask_408 (by decide) ?_
                  refine lw_ireturn (pc := 413) dL_ask_413 rfl ?_ (Nat.le_of_ble_eq_true rfl) (Nat.le_of_ble_eq_true rfl)
                  exact G
    · replace G := G.2 c245
      refine lw_aload_n (pc := 91) dL_ask_91 rfl ?_
      refine lw_iload (pc := 92) dL_ask_92 rfl ?_
      refine lw_iconst (pc := 94) dL_ask_94 ?_
      obtain ⟨s547, G⟩ := G
      refine lw_iadd (pc := 95) (v := x8 + 1) dL_ask_95 s547 rfl ?_
      refine lw_iconst (pc := 96) dL_ask_96 ?_
      refine lw_iload (pc := 97) dL_ask_97 rfl ?_
      obtain ⟨s548, G⟩ := G
      refine lw_imul (pc := 99) (v := 2 * x9) dL_ask_99 s548 rfl ?_
      refine lw_invV (pc := 100) (md' := m_X6_count) (as := [(.inl (x8 + 1)), (.inl (2 * x9))]) dL_ask_100 mo_X6_count im_X6_count se_X6_count ml_L_29 rfl rfl (by omega) (Nat.le_of_ble_eq_true rfl) rfl ⟨Nat.le_of_ble_eq_true rfl, Nat.le_of_ble_eq_true rfl⟩ (lm_mono (lm_rg (kq_count (by omega))) (fun v549 g' e => ?_))
      obtain ⟨r_v549, e_v549, rfl⟩ := e
      replace G := G v549 r_v549 e_v549
      refine lw_if_eq (pc := 103) (tgt := 123) dL_ask_103 (by decide) (fun c550 => ?_) (fun c550 => ?_)
      · replace G := G.1 c550
        refine lw_iconst (pc := 123) dL_ask_123 ?_
        refine lw_iload (pc := 124) dL_ask_124 rfl ?_
        refine lw_imul (pc := 126) (v := 2 * x9) dL_ask_126 s548 rfl ?_
        refine lw_aload_n (pc := 127) dL_ask_127 rfl ?_
        refine lw_iload (pc := 128) dL_ask_128 rfl ?_
        refine lw_iconst (pc := 130) dL_ask_130 ?_
        refine lw_iadd (pc := 131) (v := x8 + 1) dL_ask_131 s547 rfl ?_
        refine lw_iconst (pc := 132) dL_ask_132 ?_
        refine lw_iload (pc := 133) dL_ask_133 rfl ?_
        refine lw_imul (pc := 135) (v := 2 * x9) dL_ask_135 s548 rfl ?_
        refine lw_invV (pc := 136) (md' := m_X6_count) (as := [(.inl (x8 + 1)), (.inl (2 * x9))]) dL_ask_136 mo_X6_count im_X6_count se_X6_count ml_L_29 rfl rfl (by omega) (Nat.le_of_ble_eq_true rfl) rfl ⟨Nat.le_of_ble_eq_true rfl, Nat.le_of_ble_eq_true rfl⟩ (lm_mono (lm_rg (kq_count (by omega))) (fun v551 g' e => ?_))
        obtain ⟨r_v551, e_v551, rfl⟩ := e
        replace G := G v551 r_v551 e_v551
        refine lw_if_ne (pc := 139) (tgt := 146) dL_ask_139 (by decide) (fun c552 => ?_) (fun c552 => ?_)
        · replace G := G.1 c552
          refine lw_iconst (pc := 146) dL_ask_146 ?_
          obtain ⟨s553, G⟩ := G
          refine lw_iadd (pc := 147) (v := (2 * x9) + 0) dL_ask_147 s553 rfl ?_
          refine lw_istore (pc := 148) (ls' := [some (.inr (some 1)), some (.inl x1), some (.inl x2), some (.inl x3), some (.inl x4), some (.inl x5), some (.inl x6), some (.inl x7), some (.inl x8), some (.inl ((2 * x9) + 0)), none, none, none, none]) dL_ask_148 (Nat.le_of_ble_eq_true rfl) rfl ?_
          refine lw_iinc (pc := 150) (v' := x8 + 1) (ls' := [some (.inr (some 1)), some (.inl x1), some (.inl x2), some (.inl x3), some (.inl x4), some (.inl x5), some (.inl x6), some (.inl x7), some (.inl (x8 + 1)), some (.inl ((2 * x9) + 0)), none, none, none, none]) dL_ask_150 rfl s547 rfl rfl ?_
          refine lw_goto (pc := 153) (tgt := 79) dL_ask_153 (by decide) ?_
          exact G
        · replace G := G.2 c552
          refine lw_iconst (pc := 142) dL_ask_142 ?_
          refine lw_goto (pc := 143) (tgt := 147) dL_ask_143 (by decide) ?_
          obtain ⟨s554, G⟩ := G
          refine lw_iadd (pc := 147) (v := (2 * x9) + 1) dL_ask_147 s554 rfl ?_
          refine lw_istore (pc := 148) (ls' := [some (.inr (some 1)), some (.inl x1), some (.inl x2), some (.inl x3), some (.inl x4), some (.inl x5), some (.inl x6), some (.inl x7), some (.inl x8), some (.inl ((2 * x9) + 1)), none, none, none, none]) dL_ask_148 (Nat.le_of_ble_eq_true rfl) rfl ?_
          refine lw_iinc (pc := 150) (v' := x8 + 1) (ls' := [some (.inr (some 1)), some (.inl x1), some (.inl x2), some (.inl x3), some (.inl x4), some (.inl x5), some (.inl x6), some (.inl x7), some (.inl (x8 + 1)), some (.inl ((2 * x9) + 1)), none, none, none, none]) dL_ask_150 rfl s547 rfl rfl ?_
          refine lw_goto (pc := 153) (tgt := 79) dL_ask_153 (by decide) ?_
          exact G
      · replace G := G.2 c550
        refine lw_aload_n (pc := 106) dL_ask_106 rfl ?_
        refine lw_iload (pc := 107) dL_ask_107 rfl ?_
        refine lw_iconst (pc := 109) dL_ask_109 ?_
        refine lw_iadd (pc := 110) (v := x8 + 1) dL_ask_110 s547 rfl ?_
        refine lw_iconst (pc := 111) dL_ask_111 ?_
        refine lw_iload (pc := 112) dL_ask_112 rfl ?_
        refine lw_imul (pc := 114) (v := 2 * x9) dL_ask_114 s548 rfl ?_
        refine lw_iconst (pc := 115) dL_ask_115 ?_
        obtain ⟨s555, G⟩ := G
        refine lw_iadd (pc := 116) (v := (2 * x9) + 1) dL_ask_116 s555 rfl ?_
        refine lw_invV (pc := 117) (md' := m_X6_count) (as := [(.inl (x8 + 1)), (.inl ((2 * x9) + 1))]) dL_ask_117 mo_X6_count im_X6_count se_X6_count ml_L_29 rfl rfl (by omega) (Nat.le_of_ble_eq_true rfl) rfl ⟨Nat.le_of_ble_eq_true rfl, Nat.le_of_ble_eq_true rfl⟩ (lm_mono (lm_rg (kq_count (by omega))) (fun v556 g' e => ?_))
        obtain ⟨r_v556, e_v556, rfl⟩ := e
        replace G := G v556 r_v556 e_v556
        refine lw_if_ne (pc := 120) (tgt := 156) dL_ask_120 (by decide) (fun c557 => ?_) (fun c557 => ?_)
        · replace G := G.1 c557
          refine lw_aload_n (pc := 156) dL_ask_156 rfl ?_
          refine lw_iload_n (pc := 157) dL_ask_157 rfl ?_
          refine lw_iload_n (pc := 158) dL_ask_158 rfl ?_
          refine lw_invV (pc := 159) (md' := m_X6_ask) (as := [(.inl x1), (.inl x2)]) dL_ask_159 mo_X6_ask im_X6_ask se_X6_ask ml_L_62 rfl rfl (by omega) (Nat.le_of_ble_eq_true rfl) rfl ⟨Nat.le_of_ble_eq_true rfl, Nat.le_of_ble_eq_true rfl⟩ (lm_mono (lm_rg (kc_ask (by omega))) (fun v558 g559 e => ?_))
          obtain ⟨r_v558, e_v558, f_v558⟩ := e
          replace G := G v558 g559 r_v558 e_v558 f_v558
          refine lw_istore (pc := 162) (ls' := [some (.inr (some 1)), some (.inl x1), some (.inl x2), some (.inl x3), some (.inl x4), some (.inl x5), some (.inl x6), some (.inl x7), some (.inl x8), some (.inl x9), some (.inl v558), none, none, none]) dL_ask_162 (Nat.le_of_ble_eq_true rfl) rfl ?_
          refine lw_aload_n (pc := 164) dL_ask_164 rfl ?_
          refine lw_iconst (pc := 165) dL_ask_165 ?_
          refine lw_invV (pc := 166) (md' := m_X6_total) (as := [(.inl 3)]) dL_ask_166 mo_X6_total im_X6_total se_X6_total ml_L_13 rfl rfl (by omega) (Nat.le_of_ble_eq_true rfl) rfl ⟨Nat.le_of_ble_eq_true rfl, Nat.le_of_ble_eq_true rfl⟩ (lm_mono (lm_rg (kq_total (by omega))) (fun v560 g' e => ?_))
          obtain ⟨r_v560, e_v560, rfl⟩ := e
          replace G := G v560 r_v560 e_v560
          refine lw_if_ne (pc := 169) (tgt := 177) dL_ask_169 (by decide) (fun c561 => ?_) (fun c561 => ?_)
          · replace G := G.1 c561
            refine lw_aload_n (pc := 177) dL_ask_177 rfl ?_
            refine lw_aload_n (pc := 178) dL_ask_178 rfl ?_
            refine lw_iconst (pc := 179) dL_ask_179 ?_
            refine lw_invV (pc := 180) (md' := m_X6_total) (as := [(.inl 3)]) dL_ask_180 mo_X6_total im_X6_total se_X6_total ml_L_13 rfl rfl (by omega) (Nat.le_of_ble_eq_true rfl) rfl ⟨Nat.le_of_ble_eq_true rfl, Nat.le_of_ble_eq_true rfl⟩ (lm_mono (lm_rg (kq_total (by omega))) (fun v562 g' e => ?_))
            obtain ⟨r_v562, e_v562, rfl⟩ := e
            replace G := G v562 r_v562 e_v562
            refine lw_iconst (pc := 183) dL_ask_183 ?_
            obtain ⟨s563, G⟩ := G
            refine lw_isub (pc := 184) (v := v562 - 1) dL_ask_184 s563 rfl ?_
            refine lw_invV (pc := 185) (md' := m_X6_told) (as := [(.inl (v562 - 1))]) dL_ask_185 mo_X6_told im_X6_told se_X6_told ml_L_26 rfl rfl (by omega) (Nat.le_of_ble_eq_true rfl) rfl ⟨Nat.le_of_ble_eq_true rfl, Nat.le_of_ble_eq_true rfl⟩ (lm_mono (lm_rg (kq_told (by omega))) (fun v564 g' e => ?_))
            obtain ⟨r_v564, e_v564, rfl⟩ := e
            replace G := G v564 r_v564 e_v564
            refine lw_istore (pc := 188) (ls' := [some (.inr (some 1)), some (.inl x1), some (.inl x2), some (.inl x3), some (.inl x4), some (.inl x5), some (.inl x6), some (.inl x7), some (.inl x8), some (.inl x9), some (.inl v558), some (.inl v564), none, none]) dL_ask_188 (Nat.le_of_ble_eq_true rfl) rfl ?_
            refine lw_iload_n (pc := 190) dL_ask_190 rfl ?_
            refine lw_if_ne (pc := 191) (tgt := 210) dL_ask_191 (by decide) (fun _ => ?_) (fun h => absurd (by omega) h)
            refine lw_iload_n (pc := 210) dL_ask_210 rfl ?_
            refine lw_iconst (pc := 211) dL_ask_211 ?_
            refine lw_icmp_ne (pc := 212) (tgt := 254) dL_ask_212 (by decide) (fun _ => ?_) (fun h => absurd (by omega) h)
            refine lw_iload (pc := 254) dL_ask_254 rfl ?_
            refine lw_sipush (pc := 256) dL_ask_256 ?_
            refine lw_iload (pc := 259) dL_ask_259 rfl ?_
            obtain ⟨s567, G⟩ := G
            refine lw_iadd (pc := 261) (v := 400 + x8) dL_ask_261 s567 rfl ?_
            refine lw_icmp_ne (pc := 262) (tgt := 276) dL_ask_262 (by decide) (fun c568 => ?_) (fun c568 => ?_)
            · replace G := G.1 c568
              exact G
            · replace G := G.2 c568
              refine lw_iload (pc := 265) dL_ask_265 rfl ?_
              refine lw_bipush (pc := 267) dL_ask_267 ?_
              refine lw_icmp_ge (pc := 269) (tgt := 276) dL_ask_269 (by decide) (fun h => absurd h (by omega)) (fun _ => ?_)
              refine lw_iconst (pc := 272) dL_ask_272 ?_
              refine lw_goto (pc := 273) (tgt := 277) dL_ask_273 (by decide) ?_
              refine lw_istore (pc := 277) (ls' := [some (.inr (some 1)), some (.inl x1), some (.inl x2), some (.inl x3), some (.inl x4), some (.inl x5), some (.inl x6), some (.inl x7), some (.inl x8), some (.inl x9), some (.inl v558), some (.inl v564), some (.inl 1), none]) dL_ask_277 (Nat.le_of_ble_eq_true rfl) rfl ?_
              refine lw_iload (pc := 279) dL_ask_279 rfl ?_
              refine lw_iconst (pc := 281) dL_ask_281 ?_
              obtain ⟨s570, G⟩ := G
              refine lw_iadd (pc := 282) (v := x5 + 4) dL_ask_282 s570 rfl ?_
              refine lw_iload_n (pc := 283) dL_ask_283 rfl ?_
              obtain ⟨s571, G⟩ := G
              refine lw_iadd (pc := 284) (v := (x5 + 4) + x1) dL_ask_284 s571 rfl ?_
              refine lw_iload_n (pc := 285) dL_ask_285 rfl ?_
              refine lw_if_ne (pc := 286) (tgt := 293) dL_ask_286 (by decide) (fun _ => ?_) (fun h => absurd (by omega) h)
              refine lw_iload_n (pc := 293) dL_ask_293 rfl ?_
              refine lw_bipush (pc := 294) dL_ask_294 ?_
              refine lw_icmp_ne (pc := 296) (tgt := 303) dL_ask_296 (by decide) (fun c573 => ?_) (fun c573 => ?_)
              · replace G := G.1 c573
                refine lw_bipush (pc := 303) dL_ask_303 ?_
                refine lw_iload_n (pc := 305) dL_ask_305 rfl ?_
                obtain ⟨s574, G⟩ := G
                refine lw_isub (pc := 306) (v := 8 - x1) dL_ask_306 s574 rfl ?_
                obtain ⟨s575, G⟩ := G
                refine lw_iadd (pc := 307) (v := ((x5 + 4) + x1) + (8 - x1)) dL_ask_307 s575 rfl ?_
                refine lw_istore (pc := 308) (ls' := [some (.inr (some 1)), some (.inl x1), some (.inl x2), some (.inl x3), some (.inl x4), some (.inl x5), some (.inl x6), some (.inl x7), some (.inl x8), some (.inl x9), some (.inl v558), some (.inl v564), some (.inl 1), some (.inl (((x5 + 4) + x1) + (8 - x1)))]) dL_ask_308 (Nat.le_of_ble_eq_true rfl) rfl ?_
                refine lw_iload (pc := 310) dL_ask_310 rfl ?_
                refine lw_if_eq (pc := 312) (tgt := 398) dL_ask_312 (by decide) (fun h => absurd h (by decide)) (fun _ => ?_)
                refine lw_aload_n (pc := 315) dL_ask_315 rfl ?_
                refine lw_bipush (pc := 316) dL_ask_316 ?_
                refine lw_invV (pc := 318) (md' := m_X6_total) (as := [(.inl 9)]) dL_ask_318 mo_X6_total im_X6_total se_X6_total ml_L_13 rfl rfl (by omega) (Nat.le_of_ble_eq_true rfl) rfl ⟨Nat.le_of_ble_eq_true rfl, Nat.le_of_ble_eq_true rfl⟩ (lm_mono (lm_rg (kq_total (by omega))) (fun v577 g' e => ?_))
                obtain ⟨r_v577, e_v577, rfl⟩ := e
                replace G := G v577 r_v577 e_v577
                refine lw_iload (pc := 321) dL_ask_321 rfl ?_
                refine lw_icmp_ne (pc := 323) (tgt := 398) dL_ask_323 (by decide) (fun c578 => ?_) (fun c578 => ?_)
                · replace G := G.1 c578
                  exact G
                · replace G := G.2 c578
                  refine lw_aload_n (pc := 326) dL_ask_326 rfl ?_
                  refine lw_iconst (pc := 327) dL_ask_327 ?_
                  refine lw_invV (pc := 328) (md' := m_X6_total) (as := [(.inl 0)]) dL_ask_328 mo_X6_total im_X6_total se_X6_total ml_L_13 rfl rfl (by omega) (Nat.le_of_ble_eq_true rfl) rfl ⟨Nat.le_of_ble_eq_true rfl, Nat.le_of_ble_eq_true rfl⟩ (lm_mono (lm_rg (kq_total (by omega))) (fun v579 g' e => ?_))
                  obtain ⟨r_v579, e_v579, rfl⟩ := e
                  replace G := G v579 r_v579 e_v579
                  refine lw_iload (pc := 331) dL_ask_331 rfl ?_
                  refine lw_iload (pc := 333) dL_ask_333 rfl ?_
                  obtain ⟨s580, G⟩ := G
                  refine lw_isub (pc := 335) (v := x4 - x7) dL_ask_335 s580 rfl ?_
                  refine lw_icmp_ne (pc := 336) (tgt := 398) dL_ask_336 (by decide) (fun c581 => ?_) (fun c581 => ?_)
                  · replace G := G.1 c581
                    exact G
                  · replace G := G.2 c581
                    refine lw_aload_n (pc := 339) dL_ask_339 rfl ?_
                    refine lw_iconst (pc := 340) dL_ask_340 ?_
                    refine lw_invV (pc := 341) (md' := m_X6_total) (as := [(.inl 3)]) dL_ask_341 mo_X6_total im_X6_total se_X6_total ml_L_13 rfl rfl (by omega) (Nat.le_of_ble_eq_true rfl) rfl ⟨Nat.le_of_ble_eq_true rfl, Nat.le_of_ble_eq_true rfl⟩ (lm_mono (lm_rg (kq_total (by omega))) (fun v582 g' e => ?_))
                    obtain ⟨r_v582, e_v582, rfl⟩ := e
                    replace G := G v582 r_v582 e_v582
                    refine lw_iload_n (pc := 344) dL_ask_344 rfl ?_
                    refine lw_iconst (pc := 345) dL_ask_345 ?_
                    refine lw_icmp_ne (pc := 346) (tgt := 364) dL_ask_346 (by decide) (fun _ => ?_) (fun h => absurd (by omega) h)
                    refine lw_iload (pc := 364) dL_ask_364 rfl ?_
                    refine lw_icmp_ne (pc := 366) (tgt := 398) dL_ask_366 (by decide) (fun c584 => ?_) (fun c584 => ?_)
                    · replace G := G.1 c584
                      exact G
                    · replace G := G.2 c584
                      refine lw_iload_n (pc := 369) dL_ask_369 rfl ?_
                      refine lw_iconst (pc := 370) dL_ask_370 ?_
                      refine lw_icmp_ne (pc := 371) (tgt := 394) dL_ask_371 (by decide) (fun _ => ?_) (fun h => absurd (by omega) h)
                      refine lw_iconst (pc := 394) dL_ask_394 ?_
                      refine lw_goto (pc := 395) (tgt := 399) dL_ask_395 (by decide) ?_
                      refine lw_istore (pc := 399) (ls' := [some (.inr (some 1)), some (.inl x1), some (.inl x2), some (.inl x3), some (.inl x4), some (.inl x5), some (.inl x6), some (.inl x7), some (.inl x8), some (.inl x9), some (.inl v558), some (.inl v564), some (.inl 1), some (.inl (((x5 + 4) + x1) + (8 - x1)))]) dL_ask_399 (Nat.le_of_ble_eq_true rfl) rfl ?_
                      refine lw_iload (pc := 401) dL_ask_401 rfl ?_
                      refine lw_if_eq (pc := 403) (tgt := 411) dL_ask_403 (by decide) (fun h => absurd h (by decide)) (fun _ => ?_)
                      refine lw_iload (pc := 406) dL_ask_406 rfl ?_
                      refine lw_goto (pc := 408) (tgt := 413) dL_ask_408 (by decide) ?_
                      refine lw_ireturn (pc := 413) dL_ask_413 rfl ?_ (Nat.le_of_ble_eq_true rfl) (Nat.le_of_ble_eq_true rfl)
                      exact G
              · replace G := G.2 c573
                refine lw_iconst (pc := 299) dL_ask_299 ?_
                refine lw_goto (pc := 300) (tgt := 307) dL_ask_300 (by decide) ?_
                obtain ⟨s587, G⟩ := G
                refine lw_iadd (pc := 307) (v := ((x5 + 4) + x1) + 1) dL_ask_307 s587 rfl ?_
                refine lw_istore (pc := 308) (ls' := [some (.inr (some 1)), some (.inl x1), some (.inl x2), some (.inl x3), some (.inl x4), some (.inl x5), some (.inl x6), some (.inl x7), some (.inl x8), some (.inl x9), some (.inl v558), some (.inl v564), some (.inl 1), some (.inl (((x5 + 4) + x1) + 1))]) dL_ask_308 (Nat.le_of_ble_eq_true rfl) rfl ?_
                refine lw_iload (pc := 310) dL_ask_310 rfl ?_
                refine lw_if_eq (pc := 312) (tgt := 398) dL_ask_312 (by decide) (fun h => absurd h (by decide)) (fun _ => ?_)
                refine lw_aload_n (pc := 315) dL_ask_315 rfl ?_
                refine lw_bipush (pc := 316) dL_ask_316 ?_
                refine lw_invV (pc := 318) (md' := m_X6_total) (as := [(.inl 9)]) dL_ask_318 mo_X6_total im_X6_total se_X6_total ml_L_13 rfl rfl (by omega) (Nat.le_of_ble_eq_true rfl) rfl ⟨Nat.le_of_ble_eq_true rfl, Nat.le_of_ble_eq_true rfl⟩ (lm_mono (lm_rg (kq_total (by omega))) (fun v589 g' e => ?_))
                obtain ⟨r_v589, e_v589, rfl⟩ := e
                replace G := G v589 r_v589 e_v589
                refine lw_iload (pc := 321) dL_ask_321 rfl ?_
                refine lw_icmp_ne (pc := 323) (tgt := 398) dL_ask_323 (by decide) (fun c590 => ?_) (fun c590 => ?_)
                · replace G := G.1 c590
                  exact G
                · replace G := G.2 c590
                  refine lw_aload_n (pc := 326) dL_ask_326 rfl ?_
                  refine lw_iconst (pc := 327) dL_ask_327 ?_
                  refine lw_invV (pc := 328) (md' := m_X6_total) (as := [(.inl 0)]) dL_ask_328 mo_X6_total im_X6_total se_X6_total ml_L_13 rfl rfl (by omega) (Nat.le_of_ble_eq_true rfl) rfl ⟨Nat.le_of_ble_eq_true rfl, Nat.le_of_ble_eq_true rfl⟩ (lm_mono (lm_rg (kq_total (by omega))) (fun v591 g' e => ?_))
                  obtain ⟨r_v591, e_v591, rfl⟩ := e
                  replace G := G v591 r_v591 e_v591
                  refine lw_iload (pc := 331) dL_ask_331 rfl ?_
                  refine lw_iload (pc := 333) dL_ask_333 rfl ?_
                  obtain ⟨s592, G⟩ := G
                  refine lw_isub (pc := 335) (v := x4 - x7) dL_ask_335 s592 rfl ?_
                  refine lw_icmp_ne (pc := 336) (tgt := 398) dL_ask_336 (by decide) (fun c593 => ?_) (fun c593 => ?_)
                  · replace G := G.1 c593
                    exact G
                  · replace G := G.2 c593
                    refine lw_aload_n (pc := 339) dL_ask_339 rfl ?_
                    refine lw_iconst (pc := 340) dL_ask_340 ?_
                    refine lw_invV (pc := 341) (md' := m_X6_total) (as := [(.inl 3)]) dL_ask_341 mo_X6_total im_X6_total se_X6_total ml_L_13 rfl rfl (by omega) (Nat.le_of_ble_eq_true rfl) rfl ⟨Nat.le_of_ble_eq_true rfl, Nat.le_of_ble_eq_true rfl⟩ (lm_mono (lm_rg (kq_total (by omega))) (fun v594 g' e => ?_))
                    obtain ⟨r_v594, e_v594, rfl⟩ := e
                    replace G := G v594 r_v594 e_v594
                    refine lw_iload_n (pc := 344) dL_ask_344 rfl ?_
                    refine lw_iconst (pc := 345) dL_ask_345 ?_
                    refine lw_icmp_ne (pc := 346) (tgt := 364) dL_ask_346 (by decide) (fun _ => ?_) (fun h => absurd (by omega) h)
                    refine lw_iload (pc := 364) dL_ask_364 rfl ?_
                    refine lw_icmp_ne (pc := 366) (tgt := 398) dL_ask_366 (by decide) (fun c596 => ?_) (fun c596 => ?_)
                    · replace G := G.1 c596
                      exact G
                    · replace G := G.2 c596
                      refine lw_iload_n (pc := 369) dL_ask_369 rfl ?_
                      refine lw_iconst (pc := 370) dL_ask_370 ?_
                      refine lw_icmp_ne (pc := 371) (tgt := 394) dL_ask_371 (by decide) (fun _ => ?_) (fun h => absurd (by omega) h)
                      refine lw_iconst (pc := 394) dL_ask_394 ?_
                      refine lw_goto (pc := 395) (tgt := 399) dL_ask_395 (by decide) ?_
                      refine lw_istore (pc := 399) (ls' := [some (.inr (some 1)), some (.inl x1), some (.inl x2), some (.inl x3), some (.inl x4), some (.inl x5), some (.inl x6), some (.inl x7), some (.inl x8), some (.inl x9), some (.inl v558), some (.inl v564), some (.inl 1), some (.inl (((x5 + 4) + x1) + 1))]) dL_ask_399 (Nat.le_of_ble_eq_true rfl) rfl ?_
                      refine lw_iload (pc := 401) dL_ask_401 rfl ?_
                      refine lw_if_eq (pc := 403) (tgt := 411) dL_ask_403 (by decide) (fun h => absurd h (by decide)) (fun _ => ?_)
                      refine lw_iload (pc := 406) dL_ask_406 rfl ?_
                      refine lw_goto (pc := 408) (tgt := 413) dL_ask_408 (by decide) ?_
                      refine lw_ireturn (pc := 413) dL_ask_413 rfl ?_ (Nat.le_of_ble_eq_true rfl) (Nat.le_of_ble_eq_true rfl)
                      exact G
          · replace G := G.2 c561
            refine lw_bipush (pc := 172) dL_ask_172 ?_
            refine lw_goto (pc := 174) (tgt := 188) dL_ask_174 (by decide) ?_
            refine lw_istore (pc := 188) (ls' := [some (.inr (some 1)), some (.inl x1), some (.inl x2), some (.inl x3), some (.inl x4), some (.inl x5), some (.inl x6), some (.inl x7), some (.inl x8), some (.inl x9), some (.inl v558), some (.inl (-5)), none, none]) dL_ask_188 (Nat.le_of_ble_eq_true rfl) rfl ?_
            refine lw_iload_n (pc := 190) dL_ask_190 rfl ?_
            refine lw_if_ne (pc := 191) (tgt := 210) dL_ask_191 (by decide) (fun _ => ?_) (fun h => absurd (by omega) h)
            refine lw_iload_n (pc := 210) dL_ask_210 rfl ?_
            refine lw_iconst (pc := 211) dL_ask_211 ?_
            refine lw_icmp_ne (pc := 212) (tgt := 254) dL_ask_212 (by decide) (fun _ => ?_) (fun h => absurd (by omega) h)
            refine lw_iload (pc := 254) dL_ask_254 rfl ?_
            refine lw_sipush (pc := 256) dL_ask_256 ?_
            refine lw_iload (pc := 259) dL_ask_259 rfl ?_
            obtain ⟨s601, G⟩ := G
            refine lw_iadd (pc := 261) (v := 400 + x8) dL_ask_261 s601 rfl ?_
            refine lw_icmp_ne (pc := 262) (tgt := 276) dL_ask_262 (by decide) (fun c602 => ?_) (fun c602 => ?_)
            · replace G := G.1 c602
              exact G
            · replace G := G.2 c602
              refine lw_iload (pc := 265) dL_ask_265 rfl ?_
              refine lw_bipush (pc := 267) dL_ask_267 ?_
              refine lw_icmp_ge (pc := 269) (tgt := 276) dL_ask_269 (by decide) (fun h => absurd h (by omega)) (fun _ => ?_)
              refine lw_iconst (pc := 272) dL_ask_272 ?_
              refine lw_goto (pc := 273) (tgt := 277) dL_ask_273 (by decide) ?_
              refine lw_istore (pc := 277) (ls' := [some (.inr (some 1)), some (.inl x1), some (.inl x2), some (.inl x3), some (.inl x4), some (.inl x5), some (.inl x6), some (.inl x7), some (.inl x8), some (.inl x9), some (.inl v558), some (.inl (-5)), some (.inl 1), none]) dL_ask_277 (Nat.le_of_ble_eq_true rfl) rfl ?_
              refine lw_iload (pc := 279) dL_ask_279 rfl ?_
              refine lw_iconst (pc := 281) dL_ask_281 ?_
              obtain ⟨s604, G⟩ := G
              refine lw_iadd (pc := 282) (v := x5 + 4) dL_ask_282 s604 rfl ?_
              refine lw_iload_n (pc := 283) dL_ask_283 rfl ?_
              obtain ⟨s605, G⟩ := G
              refine lw_iadd (pc := 284) (v := (x5 + 4) + x1) dL_ask_284 s605 rfl ?_
              refine lw_iload_n (pc := 285) dL_ask_285 rfl ?_
              refine lw_if_ne (pc := 286) (tgt := 293) dL_ask_286 (by decide) (fun _ => ?_) (fun h => absurd (by omega) h)
              refine lw_iload_n (pc := 293) dL_ask_293 rfl ?_
              refine lw_bipush (pc := 294) dL_ask_294 ?_
              refine lw_icmp_ne (pc := 296) (tgt := 303) dL_ask_296 (by decide) (fun c607 => ?_) (fun c607 => ?_)
              · replace G := G.1 c607
                refine lw_bipush (pc := 303) dL_ask_303 ?_
                refine lw_iload_n (pc := 305) dL_ask_305 rfl ?_
                obtain ⟨s608, G⟩ := G
                refine lw_isub (pc := 306) (v := 8 - x1) dL_ask_306 s608 rfl ?_
                obtain ⟨s609, G⟩ := G
                refine lw_iadd (pc := 307) (v := ((x5 + 4) + x1) + (8 - x1)) dL_ask_307 s609 rfl ?_
                refine lw_istore (pc := 308) (ls' := [some (.inr (some 1)), some (.inl x1), some (.inl x2), some (.inl x3), some (.inl x4), some (.inl x5), some (.inl x6), some (.inl x7), some (.inl x8), some (.inl x9), some (.inl v558), some (.inl (-5)), some (.inl 1), some (.inl (((x5 + 4) + x1) + (8 - x1)))]) dL_ask_308 (Nat.le_of_ble_eq_true rfl) rfl ?_
                refine lw_iload (pc := 310) dL_ask_310 rfl ?_
                refine lw_if_eq (pc := 312) (tgt := 398) dL_ask_312 (by decide) (fun h => absurd h (by decide)) (fun _ => ?_)
                refine lw_aload_n (pc := 315) dL_ask_315 rfl ?_
                refine lw_bipush (pc := 316) dL_ask_316 ?_
                refine lw_invV (pc := 318) (md' := m_X6_total) (as := [(.inl 9)]) dL_ask_318 mo_X6_total im_X6_total se_X6_total ml_L_13 rfl rfl (by omega) (Nat.le_of_ble_eq_true rfl) rfl ⟨Nat.le_of_ble_eq_true rfl, Nat.le_of_ble_eq_true rfl⟩ (lm_mono (lm_rg (kq_total (by omega))) (fun v611 g' e => ?_))
                obtain ⟨r_v611, e_v611, rfl⟩ := e
                replace G := G v611 r_v611 e_v611
                refine lw_iload (pc := 321) dL_ask_321 rfl ?_
                refine lw_icmp_ne (pc := 323) (tgt := 398) dL_ask_323 (by decide) (fun c612 => ?_) (fun c612 => ?_)
                · replace G := G.1 c612
                  exact G
                · replace G := G.2 c612
                  refine lw_aload_n (pc := 326) dL_ask_326 rfl ?_
                  refine lw_iconst (pc := 327) dL_ask_327 ?_
                  refine lw_invV (pc := 328) (md' := m_X6_total) (as := [(.inl 0)]) dL_ask_328 mo_X6_total im_X6_total se_X6_total ml_L_13 rfl rfl (by omega) (Nat.le_of_ble_eq_true rfl) rfl ⟨Nat.le_of_ble_eq_true rfl, Nat.le_of_ble_eq_true rfl⟩ (lm_mono (lm_rg (kq_total (by omega))) (fun v613 g' e => ?_))
                  obtain ⟨r_v613, e_v613, rfl⟩ := e
                  replace G := G v613 r_v613 e_v613
                  refine lw_iload (pc := 331) dL_ask_331 rfl ?_
                  refine lw_iload (pc := 333) dL_ask_333 rfl ?_
                  obtain ⟨s614, G⟩ := G
                  refine lw_isub (pc := 335) (v := x4 - x7) dL_ask_335 s614 rfl ?_
                  refine lw_icmp_ne (pc := 336) (tgt := 398) dL_ask_336 (by decide) (fun c615 => ?_) (fun c615 => ?_)
                  · replace G := G.1 c615
                    exact G
                  · replace G := G.2 c615
                    refine lw_aload_n (pc := 339) dL_ask_339 rfl ?_
                    refine lw_iconst (pc := 340) dL_ask_340 ?_
                    refine lw_invV (pc := 341) (md' := m_X6_total) (as := [(.inl 3)]) dL_ask_341 mo_X6_total im_X6_total se_X6_total ml_L_13 rfl rfl (by omega) (Nat.le_of_ble_eq_true rfl) rfl ⟨Nat.le_of_ble_eq_true rfl, Nat.le_of_ble_eq_true rfl⟩ (lm_mono (lm_rg (kq_total (by omega))) (fun v616 g' e => ?_))
                    obtain ⟨r_v616, e_v616, rfl⟩ := e
                    replace G := G v616 r_v616 e_v616
                    refine lw_iload_n (pc := 344) dL_ask_344 rfl ?_
                    refine lw_iconst (pc := 345) dL_ask_345 ?_
                    refine lw_icmp_ne (pc := 346) (tgt := 364) dL_ask_346 (by decide) (fun _ => ?_) (fun h => absurd (by omega) h)
                    refine lw_iload (pc := 364) dL_ask_364 rfl ?_
                    refine lw_icmp_ne (pc := 366) (tgt := 398) dL_ask_366 (by decide) (fun c618 => ?_) (fun c618 => ?_)
                    · replace G := G.1 c618
                      exact G
                    · replace G := G.2 c618
                      refine lw_iload_n (pc := 369) dL_ask_369 rfl ?_
                      refine lw_iconst (pc := 370) dL_ask_370 ?_
                      refine lw_icmp_ne (pc := 371) (tgt := 394) dL_ask_371 (by decide) (fun _ => ?_) (fun h => absurd (by omega) h)
                      refine lw_iconst (pc := 394) dL_ask_394 ?_
                      refine lw_goto (pc := 395) (tgt := 399) dL_ask_395 (by decide) ?_
                      refine lw_istore (pc := 399) (ls' := [some (.inr (some 1)), some (.inl x1), some (.inl x2), some (.inl x3), some (.inl x4), some (.inl x5), some (.inl x6), some (.inl x7), some (.inl x8), some (.inl x9), some (.inl v558), some (.inl (-5)), some (.inl 1), some (.inl (((x5 + 4) + x1) + (8 - x1)))]) dL_ask_399 (Nat.le_of_ble_eq_true rfl) rfl ?_
                      refine lw_iload (pc := 401) dL_ask_401 rfl ?_
                      refine lw_if_eq (pc := 403) (tgt := 411) dL_ask_403 (by decide) (fun h => absurd h (by decide)) (fun _ => ?_)
                      refine lw_iload (pc := 406) dL_ask_406 rfl ?_
                      refine lw_goto (pc := 408) (tgt := 413) dL_ask_408 (by decide) ?_
                      refine lw_ireturn (pc := 413) dL_ask_413 rfl ?_ (Nat.le_of_ble_eq_true rfl) (Nat.le_of_ble_eq_true rfl)
                      exact G
              · replace G := G.2 c607
                refine lw_iconst (pc := 299) dL_ask_299 ?_
                refine lw_goto (pc := 300) (tgt := 307) dL_ask_300 (by decide) ?_
                obtain ⟨s621, G⟩ := G
                refine lw_iadd (pc := 307) (v := ((x5 + 4) + x1) + 1) dL_ask_307 s621 rfl ?_
                refine lw_istore (pc := 308) (ls' := [some (.inr (some 1)), some (.inl x1), some (.inl x2), some (.inl x3), some (.inl x4), some (.inl x5), some (.inl x6), some (.inl x7), some (.inl x8), some (.inl x9), some (.inl v558), some (.inl (-5)), some (.inl 1), some (.inl (((x5 + 4) + x1) + 1))]) dL_ask_308 (Nat.le_of_ble_eq_true rfl) rfl ?_
                refine lw_iload (pc := 310) dL_ask_310 rfl ?_
                refine lw_if_eq (pc := 312) (tgt := 398) dL_ask_312 (by decide) (fun h => absurd h (by decide)) (fun _ => ?_)
                refine lw_aload_n (pc := 315) dL_ask_315 rfl ?_
                refine lw_bipush (pc := 316) dL_ask_316 ?_
                refine lw_invV (pc := 318) (md' := m_X6_total) (as := [(.inl 9)]) dL_ask_318 mo_X6_total im_X6_total se_X6_total ml_L_13 rfl rfl (by omega) (Nat.le_of_ble_eq_true rfl) rfl ⟨Nat.le_of_ble_eq_true rfl, Nat.le_of_ble_eq_true rfl⟩ (lm_mono (lm_rg (kq_total (by omega))) (fun v623 g' e => ?_))
                obtain ⟨r_v623, e_v623, rfl⟩ := e
                replace G := G v623 r_v623 e_v623
                refine lw_iload (pc := 321) dL_ask_321 rfl ?_
                refine lw_icmp_ne (pc := 323) (tgt := 398) dL_ask_323 (by decide) (fun c624 => ?_) (fun c624 => ?_)
                · replace G := G.1 c624
                  exact G
                · replace G := G.2 c624
                  refine lw_aload_n (pc := 326) dL_ask_326 rfl ?_
                  refine lw_iconst (pc := 327) dL_ask_327 ?_
                  refine lw_invV (pc := 328) (md' := m_X6_total) (as := [(.inl 0)]) dL_ask_328 mo_X6_total im_X6_total se_X6_total ml_L_13 rfl rfl (by omega) (Nat.le_of_ble_eq_true rfl) rfl ⟨Nat.le_of_ble_eq_true rfl, Nat.le_of_ble_eq_true rfl⟩ (lm_mono (lm_rg (kq_total (by omega))) (fun v625 g' e => ?_))
                  obtain ⟨r_v625, e_v625, rfl⟩ := e
                  replace G := G v625 r_v625 e_v625
                  refine lw_iload (pc := 331) dL_ask_331 rfl ?_
                  refine lw_iload (pc := 333) dL_ask_333 rfl ?_
                  obtain ⟨s626, G⟩ := G
                  refine lw_isub (pc := 335) (v := x4 - x7) dL_ask_335 s626 rfl ?_
                  refine lw_icmp_ne (pc := 336) (tgt := 398) dL_ask_336 (by decide) (fun c627 => ?_) (fun c627 => ?_)
                  · replace G := G.1 c627
                    exact G
                  · replace G := G.2 c627
                    refine lw_aload_n (pc := 339) dL_ask_339 rfl ?_
                    refine lw_iconst (pc := 340) dL_ask_340 ?_
                    refine lw_invV (pc := 341) (md' := m_X6_total) (as := [(.inl 3)]) dL_ask_341 mo_X6_total im_X6_total se_X6_total ml_L_13 rfl rfl (by omega) (Nat.le_of_ble_eq_true rfl) rfl ⟨Nat.le_of_ble_eq_true rfl, Nat.le_of_ble_eq_true rfl⟩ (lm_mono (lm_rg (kq_total (by omega))) (fun v628 g' e => ?_))
                    obtain ⟨r_v628, e_v628, rfl⟩ := e
                    replace G := G v628 r_v628 e_v628
                    refine lw_iload_n (pc := 344) dL_ask_344 rfl ?_
                    refine lw_iconst (pc := 345) dL_ask_345 ?_
                    refine lw_icmp_ne (pc := 346) (tgt := 364) dL_ask_346 (by decide) (fun _ => ?_) (fun h => absurd (by omega) h)
                    refine lw_iload (pc := 364) dL_ask_364 rfl ?_
                    refine lw_icmp_ne (pc := 366) (tgt := 398) dL_ask_366 (by decide) (fun c630 => ?_) (fun c630 => ?_)
                    · replace G := G.1 c630
                      exact G
                    · replace G := G.2 c630
                      refine lw_iload_n (pc := 369) dL_ask_369 rfl ?_
                      refine lw_iconst (pc := 370) dL_ask_370 ?_
                      refine lw_icmp_ne (pc := 371) (tgt := 394) dL_ask_371 (by decide) (fun _ => ?_) (fun h => absurd (by omega) h)
                      refine lw_iconst (pc := 394) dL_ask_394 ?_
                      refine lw_goto (pc := 395) (tgt := 399) dL_ask_395 (by decide) ?_
                      refine lw_istore (pc := 399) (ls' := [some (.inr (some 1)), some (.inl x1), some (.inl x2), some (.inl x3), some (.inl x4), some (.inl x5), some (.inl x6), some (.inl x7), some (.inl x8), some (.inl x9), some (.inl v558), some (.inl (-5)), some (.inl 1), some (.inl (((x5 + 4) + x1) + 1))]) dL_ask_399 (Nat.le_of_ble_eq_true rfl) rfl ?_
                      refine lw_iload (pc := 401) dL_ask_401 rfl ?_
                      refine lw_if_eq (pc := 403) (tgt := 411) dL_ask_403 (by decide) (fun h => absurd h (by decide)) (fun _ => ?_)
                      refine lw_iload (pc := 406) dL_ask_406 rfl ?_
                      refine lw_goto (pc := 408) (tgt := 413) dL_ask_408 (by decide) ?_
                      refine lw_ireturn (pc := 413) dL_ask_413 rfl ?_ (Nat.le_of_ble_eq_true rfl) (Nat.le_of_ble_eq_true rfl)
                      exact G
        · replace G := G.2 c557
          refine lw_iconst (pc := 123) dL_ask_123 ?_
          refine lw_iload (pc := 124) dL_ask_124 rfl ?_
          refine lw_imul (pc := 126) (v := 2 * x9) dL_ask_126 s548 rfl ?_
          refine lw_aload_n (pc := 127) dL_ask_127 rfl ?_
          refine lw_iload (pc := 128) dL_ask_128 rfl ?_
          refine lw_iconst (pc := 130) dL_ask_130 ?_
          refine lw_iadd (pc := 131) (v := x8 + 1) dL_ask_131 s547 rfl ?_
          refine lw_iconst (pc := 132) dL_ask_132 ?_
          refine lw_iload (pc := 133) dL_ask_133 rfl ?_
          refine lw_imul (pc := 135) (v := 2 * x9) dL_ask_135 s548 rfl ?_
          refine lw_invV (pc := 136) (md' := m_X6_count) (as := [(.inl (x8 + 1)), (.inl (2 * x9))]) dL_ask_136 mo_X6_count im_X6_count se_X6_count ml_L_29 rfl rfl (by omega) (Nat.le_of_ble_eq_true rfl) rfl ⟨Nat.le_of_ble_eq_true rfl, Nat.le_of_ble_eq_true rfl⟩ (lm_mono (lm_rg (kq_count (by omega))) (fun v633 g' e => ?_))
          obtain ⟨r_v633, e_v633, rfl⟩ := e
          replace G := G v633 r_v633 e_v633
          refine lw_if_ne (pc := 139) (tgt := 146) dL_ask_139 (by decide) (fun c634 => ?_) (fun c634 => ?_)
          · replace G := G.1 c634
            refine lw_iconst (pc := 146) dL_ask_146 ?_
            obtain ⟨s635, G⟩ := G
            refine lw_iadd (pc := 147) (v := (2 * x9) + 0) dL_ask_147 s635 rfl ?_
            refine lw_istore (pc := 148) (ls' := [some (.inr (some 1)), some (.inl x1), some (.inl x2), some (.inl x3), some (.inl x4), some (.inl x5), some (.inl x6), some (.inl x7), some (.inl x8), some (.inl ((2 * x9) + 0)), none, none, none, none]) dL_ask_148 (Nat.le_of_ble_eq_true rfl) rfl ?_
            refine lw_iinc (pc := 150) (v' := x8 + 1) (ls' := [some (.inr (some 1)), some (.inl x1), some (.inl x2), some (.inl x3), some (.inl x4), some (.inl x5), some (.inl x6), some (.inl x7), some (.inl (x8 + 1)), some (.inl ((2 * x9) + 0)), none, none, none, none]) dL_ask_150 rfl s547 rfl rfl ?_
            refine lw_goto (pc := 153) (tgt := 79) dL_ask_153 (by decide) ?_
            exact G
          · replace G := G.2 c634
            refine lw_iconst (pc := 142) dL_ask_142 ?_
            refine lw_goto (pc := 143) (tgt := 147) dL_ask_143 (by decide) ?_
            refine lw_iadd (pc := 147) (v := (2 * x9) + 1) dL_ask_147 s555 rfl ?_
            refine lw_istore (pc := 148) (ls' := [some (.inr (some 1)), some (.inl x1), some (.inl x2), some (.inl x3), some (.inl x4), some (.inl x5), some (.inl x6), some (.inl x7), some (.inl x8), some (.inl ((2 * x9) + 1)), none, none, none, none]) dL_ask_148 (Nat.le_of_ble_eq_true rfl) rfl ?_
            refine lw_iinc (pc := 150) (v' := x8 + 1) (ls' := [some (.inr (some 1)), some (.inl x1), some (.inl x2), some (.inl x3), some (.inl x4), some (.inl x5), some (.inl x6), some (.inl x7), some (.inl (x8 + 1)), some (.inl ((2 * x9) + 1)), none, none, none, none]) dL_ask_150 rfl s547 rfl rfl ?_
            refine lw_goto (pc := 153) (tgt := 79) dL_ask_153 (by decide) ?_
            exact G
set_option maxRecDepth 100000 in
set_option maxHeartbeats 4000000 in
theorem lc_change {d : Nat} {P : Int → Gs → Prop} {g : Gs} {x1 x2 : Int} (hd : 20 ≤ d)
  (G :
    (∀ v1 : Int, rg v1 → v1 = totO 0 g → (
      (∀ v2 : Int, rg v2 → v2 = totO 1 g → (
        ((v1 ≤ 0 → (
          (0 ≤ x2 ∧ x2 < 2147483648) ∧
          (0 ≤ x2 / 5 ∧ x2 / 5 < 2147483648) ∧
          LW m_L_change d none P 42 [some (.inr (some 1)), some (.inl x1), some (.inl x2), some (.inl v1), some (.inl v2), none, none, none, none, none] [(.inl ((x2 / 5) % 256))] g (0, 0)
          )) ∧ (¬ (v1 ≤ 0) → (
          (0 ≤ x2 ∧ x2 < 2147483648) ∧
          ((x2 % 5 ≤ 0 → (
            (0 ≤ x2 / 5 ∧ x2 / 5 < 2147483648) ∧
            LW m_L_change d none P 42 [some (.inr (some 1)), some (.inl x1), some (.inl x2), some (.inl v1), some (.inl v2), none, none, none, none, none] [(.inl ((x2 / 5) % 256))] g (0, 0)
            )) ∧ (¬ (x2 % 5 ≤ 0) → (
            (0 ≤ x2 / 5 ∧ x2 / 5 < 2147483648) ∧
            (0 < v1 ∧ v1 < 2147483648) ∧
            (∀ v11 : Int, rg v11 → v11 = cardO ((x2 / 5) % v1) g.1.1 → (
              LW m_L_change d none P 42 [some (.inr (some 1)), some (.inl x1), some (.inl x2), some (.inl v1), some (.inl v2), none, none, none, none, none] [(.inl v11)] g (0, 0)))
            )))
          )))))))) :
  LW m_L_change d none P 0 [some (.inr (some 1)), some (.inl x1), some (.inl x2), none, none, none, none, none, none, none] [] g (0, 0) := by
  refine lw_aload_n (pc := 0) dL_change_0 rfl ?_
  refine lw_iconst (pc := 1) dL_change_1 ?_
  refine lw_invV (pc := 2) (md' := m_X6_total) (as := [(.inl 0)]) dL_change_2 mo_X6_total im_X6_total se_X6_total ml_L_13 rfl rfl (by omega) (Nat.le_of_ble_eq_true rfl) rfl ⟨Nat.le_of_ble_eq_true rfl, Nat.le_of_ble_eq_true rfl⟩ (lm_mono (lm_rg (kq_total (by omega))) (fun v1 g' e => ?_))
  obtain ⟨r_v1, e_v1, rfl⟩ := e
  replace G := G v1 r_v1 e_v1
  refine lw_istore_n (pc := 5) (ls' := [some (.inr (some 1)), some (.inl x1), some (.inl x2), some (.inl v1), none, none, none, none, none, none]) dL_change_5 (Nat.le_of_ble_eq_true rfl) rfl ?_
  refine lw_aload_n (pc := 6) dL_change_6 rfl ?_
  refine lw_iconst (pc := 7) dL_change_7 ?_
  refine lw_invV (pc := 8) (md' := m_X6_total) (as := [(.inl 1)]) dL_change_8 mo_X6_total im_X6_total se_X6_total ml_L_13 rfl rfl (by omega) (Nat.le_of_ble_eq_true rfl) rfl ⟨Nat.le_of_ble_eq_true rfl, Nat.le_of_ble_eq_true rfl⟩ (lm_mono (lm_rg (kq_total (by omega))) (fun v2 g' e => ?_))
  obtain ⟨r_v2, e_v2, rfl⟩ := e
  replace G := G v2 r_v2 e_v2
  refine lw_istore (pc := 11) (ls' := [some (.inr (some 1)), some (.inl x1), some (.inl x2), some (.inl v1), some (.inl v2), none, none, none, none, none]) dL_change_11 (Nat.le_of_ble_eq_true rfl) rfl ?_
  refine lw_iload_n (pc := 13) dL_change_13 rfl ?_
  refine lw_if_le (pc := 14) (tgt := 35) dL_change_14 (by decide) (fun c3 => ?_) (fun c3 => ?_)
  · replace G := G.1 c3
    refine lw_iload_n (pc := 35) dL_change_35 rfl ?_
    refine lw_iconst (pc := 36) dL_change_36 ?_
    obtain ⟨s4, G⟩ := G
    refine lw_idiv (pc := 37) dL_change_37 s4 (by decide) ?_
    refine lw_sipush (pc := 38) dL_change_38 ?_
    obtain ⟨s5, G⟩ := G
    refine lw_irem (pc := 41) dL_change_41 s5 (by decide) ?_
    exact G
  · replace G := G.2 c3
    refine lw_iload_n (pc := 17) dL_change_17 rfl ?_
    refine lw_iconst (pc := 18) dL_change_18 ?_
    obtain ⟨s6, G⟩ := G
    refine lw_irem (pc := 19) dL_change_19 s6 (by decide) ?_
    refine lw_if_le (pc := 20) (tgt := 35) dL_change_20 (by decide) (fun c7 => ?_) (fun c7 => ?_)
    · replace G := G.1 c7
      refine lw_iload_n (pc := 35) dL_change_35 rfl ?_
      refine lw_iconst (pc := 36) dL_change_36 ?_
      refine lw_idiv (pc := 37) dL_change_37 s6 (by decide) ?_
      refine lw_sipush (pc := 38) dL_change_38 ?_
      obtain ⟨s8, G⟩ := G
      refine lw_irem (pc := 41) dL_change_41 s8 (by decide) ?_
      exact G
    · replace G := G.2 c7
      refine lw_aload_n (pc := 23) dL_change_23 rfl ?_
      refine lw_iload_n (pc := 24) dL_change_24 rfl ?_
      refine lw_iconst (pc := 25) dL_change_25 ?_
      refine lw_idiv (pc := 26) dL_change_26 s6 (by decide) ?_
      refine lw_iload_n (pc := 27) dL_change_27 rfl ?_
      obtain ⟨s9, G⟩ := G
      obtain ⟨s10, G⟩ := G
      refine lw_irem (pc := 28) dL_change_28 s9 s10 ?_
      refine lw_invV (pc := 29) (md' := m_X6_card) (as := [(.inl ((x2 / 5) % v1))]) dL_change_29 mo_X6_card im_X6_card se_X6_card ml_L_19 rfl rfl (by omega) (Nat.le_of_ble_eq_true rfl) rfl ⟨Nat.le_of_ble_eq_true rfl, Nat.le_of_ble_eq_true rfl⟩ (lm_mono (lm_rg (kq_card (by omega))) (fun v11 g' e => ?_))
      obtain ⟨r_v11, e_v11, rfl⟩ := e
      replace G := G v11 r_v11 e_v11
      refine lw_goto (pc := 32) (tgt := 42) dL_change_32 (by decide) ?_
      exact G
set_option maxRecDepth 100000 in
set_option maxHeartbeats 4000000 in
theorem lc_change_42 {d : Nat} {P : Int → Gs → Prop} {g : Gs} {x1 x2 x3 x4 u0 : Int} (hd : 20 ≤ d)
  (G :
    (∀ v1 : Int, rg v1 → v1 = ofO u0 0 g.1.1 → (
      ((¬ x1 = 0 → (
        ((¬ x1 = 1 → (
          ((¬ x1 = 2 → (
            (∀ v5 : Int, rg v5 → v5 = ofO u0 1 g.1.1 → (
              (0 ≤ x2 ∧ x2 < 2147483648) ∧
              (0 ≤ x2 / 11 ∧ x2 / 11 < 2147483648) ∧
              ((¬ (x2 / 11) % 3 = 0 → (
                (0 ≤ x2 / 33 ∧ x2 / 33 < 2147483648) ∧
                LW m_L_change d none P 254 [some (.inr (some 1)), some (.inl x1), some (.inl x2), some (.inl x3), some (.inl x4), some (.inl u0), some (.inl v1), some (.inl v5), none, none] [(.inl ((x2 / 33) % 8))] g (0, 0)
                )) ∧ (¬ (¬ (x2 / 11) % 3 = 0) → (
                (0 ≤ x2 / 33 ∧ x2 / 33 < 2147483648) ∧
                LW m_L_change d none P 254 [some (.inr (some 1)), some (.inl x1), some (.inl x2), some (.inl x3), some (.inl x4), some (.inl u0), some (.inl v1), some (.inl v5), none, none] [(.inl ((x2 / 33) % 201))] g (0, 0)
                )))))
            )) ∧ (¬ (¬ x1 = 2) → (
            (∀ (v11 : Int) (g12 : Gs), rg v11 → v11 = (recG (wakeO g.1) g).1 → g12 = (recG (wakeO g.1) g).2 → (
              ((¬ x4 = x3 → (
                (rg (x3 - x4)) ∧
                ((¬ v11 = x3 - x4 → (
                  P (-9) g12
                  )) ∧ (¬ (¬ v11 = x3 - x4) → (
                  (∀ v16 : Int, rg v16 → v16 = totO 1 g12 → (
                    ((¬ v16 = x3 → (
                      P (-9) g12
                      )) ∧ (¬ (¬ v16 = x3) → (
                      P v11 g12
                      )))))
                  )))
                )) ∧ (¬ (¬ x4 = x3) → (
                ((¬ v11 = (-5) → (
                  P (-9) g12
                  )) ∧ (¬ (¬ v11 = (-5)) → (
                  (∀ v19 : Int, rg v19 → v19 = totO 1 g12 → (
                    ((¬ v19 = x3 → (
                      P (-9) g12
                      )) ∧ (¬ (¬ v19 = x3) → (
                      P v11 g12
                      )))))
                  )))
                )))))
            )))
          )) ∧ (¬ (¬ x1 = 1) → (
          (∀ (v21 : Int) (g22 : Gs), rg v21 → v21 = (recG (sleepO u0 g.1) g).1 → g22 = (recG (sleepO u0 g.1) g).2 → (
            ((0 ≤ v1 → (
              ((¬ v1 = 0 → (
                (rg (x4 - 1)) ∧
                ((¬ v21 = x4 - 1 → (
                  P (-9) g22
                  )) ∧ (¬ (¬ v21 = x4 - 1) → (
                  (∀ v27 : Int, rg v27 → v27 = ofO u0 0 g22.1.1 → (
                    ((¬ v27 = 0 → (
                      P (-9) g22
                      )) ∧ (¬ (¬ v27 = 0) → (
                      P v21 g22
                      )))))
                  )))
                )) ∧ (¬ (¬ v1 = 0) → (
                ((¬ v21 = (-5) → (
                  P (-9) g22
                  )) ∧ (¬ (¬ v21 = (-5)) → (
                  (∀ v31 : Int, rg v31 → v31 = ofO u0 0 g22.1.1 → (
                    ((¬ v31 = 0 → (
                      P (-9) g22
                      )) ∧ (¬ (¬ v31 = 0) → (
                      P v21 g22
                      )))))
                  )))
                )))
              )) ∧ (¬ (0 ≤ v1) → (
              ((¬ v21 = (-1) → (
                P (-9) g22
                )) ∧ (¬ (¬ v21 = (-1)) → (
                (∀ v35 : Int, rg v35 → v35 = ofO u0 0 g22.1.1 → (
                  ((¬ v35 = (-1) → (
                    P (-9) g22
                    )) ∧ (¬ (¬ v35 = (-1)) → (
                    P v21 g22
                    )))))
                )))
              )))))
          )))
        )) ∧ (¬ (¬ x1 = 0) → (
        (∀ (v38 : Int) (g39 : Gs), rg v38 → v38 = (recG (takeO u0 g.1) g).1 → g39 = (recG (takeO u0 g.1) g).2 → (
          ((0 ≤ v1 → (
            (rg (x3 - 1)) ∧
            ((¬ v38 = x3 - 1 → (
              P (-9) g39
              )) ∧ (¬ (¬ v38 = x3 - 1) → (
              (∀ v43 : Int, rg v43 → v43 = ofO u0 0 g39.1.1 → (
                ((¬ v43 = (-1) → (
                  P (-9) g39
                  )) ∧ (¬ (¬ v43 = (-1)) → (
                  P v38 g39
                  )))))
              )))
            )) ∧ (¬ (0 ≤ v1) → (
            ((¬ v38 = (-1) → (
              P (-9) g39
              )) ∧ (¬ (¬ v38 = (-1)) → (
              (∀ v46 : Int, rg v46 → v46 = ofO u0 0 g39.1.1 → (
                ((¬ v46 = (-1) → (
                  P (-9) g39
                  )) ∧ (¬ (¬ v46 = (-1)) → (
                  P v38 g39
                  )))))
              )))
            )))))
        )))))) :
  LW m_L_change d none P 42 [some (.inr (some 1)), some (.inl x1), some (.inl x2), some (.inl x3), some (.inl x4), none, none, none, none, none] [(.inl u0)] g (0, 0) := by
  refine lw_istore (pc := 42) (ls' := [some (.inr (some 1)), some (.inl x1), some (.inl x2), some (.inl x3), some (.inl x4), some (.inl u0), none, none, none, none]) dL_change_42 (Nat.le_of_ble_eq_true rfl) rfl ?_
  refine lw_aload_n (pc := 44) dL_change_44 rfl ?_
  refine lw_iload (pc := 45) dL_change_45 rfl ?_
  refine lw_iconst (pc := 47) dL_change_47 ?_
  refine lw_invV (pc := 48) (md' := m_X6_ofCard) (as := [(.inl u0), (.inl 0)]) dL_change_48 mo_X6_ofCard im_X6_ofCard se_X6_ofCard ml_L_22 rfl rfl (by omega) (Nat.le_of_ble_eq_true rfl) rfl ⟨Nat.le_of_ble_eq_true rfl, Nat.le_of_ble_eq_true rfl⟩ (lm_mono (lm_rg (kq_ofCard (by omega))) (fun v1 g' e => ?_))
  obtain ⟨r_v1, e_v1, rfl⟩ := e
  replace G := G v1 r_v1 e_v1
  refine lw_istore (pc := 51) (ls' := [some (.inr (some 1)), some (.inl x1), some (.inl x2), some (.inl x3), some (.inl x4), some (.inl u0), some (.inl v1), none, none, none]) dL_change_51 (Nat.le_of_ble_eq_true rfl) rfl ?_
  refine lw_iload_n (pc := 53) dL_change_53 rfl ?_
  refine lw_if_ne (pc := 54) (tgt := 101) dL_change_54 (by decide) (fun c2 => ?_) (fun c2 => ?_)
  · replace G := G.1 c2
    refine lw_iload_n (pc := 101) dL_change_101 rfl ?_
    refine lw_iconst (pc := 102) dL_change_102 ?_
    refine lw_icmp_ne (pc := 103) (tgt := 170) dL_change_103 (by decide) (fun c3 => ?_) (fun c3 => ?_)
    · replace G := G.1 c3
      refine lw_iload_n (pc := 170) dL_change_170 rfl ?_
      refine lw_iconst (pc := 171) dL_change_171 ?_
      refine lw_icmp_ne (pc := 172) (tgt := 218) dL_change_172 (by decide) (fun c4 => ?_) (fun c4 => ?_)
      · replace G := G.1 c4
        refine lw_aload_n (pc := 218) dL_change_218 rfl ?_
        refine lw_iload (pc := 219) dL_change_219 rfl ?_
        refine lw_iconst (pc := 221) dL_change_221 ?_
        refine lw_invV (pc := 222) (md' := m_X6_ofCard) (as := [(.inl u0), (.inl 1)]) dL_change_222 mo_X6_ofCard im_X6_ofCard se_X6_ofCard ml_L_22 rfl rfl (by omega) (Nat.le_of_ble_eq_true rfl) rfl ⟨Nat.le_of_ble_eq_true rfl, Nat.le_of_ble_eq_true rfl⟩ (lm_mono (lm_rg (kq_ofCard (by omega))) (fun v5 g' e => ?_))
        obtain ⟨r_v5, e_v5, rfl⟩ := e
        replace G := G v5 r_v5 e_v5
        refine lw_istore (pc := 225) (ls' := [some (.inr (some 1)), some (.inl x1), some (.inl x2), some (.inl x3), some (.inl x4), some (.inl u0), some (.inl v1), some (.inl v5), none, none]) dL_change_225 (Nat.le_of_ble_eq_true rfl) rfl ?_
        refine lw_iload_n (pc := 227) dL_change_227 rfl ?_
        refine lw_bipush (pc := 228) dL_change_228 ?_
        obtain ⟨s6, G⟩ := G
        refine lw_idiv (pc := 230) dL_change_230 s6 (by decide) ?_
        refine lw_iconst (pc := 231) dL_change_231 ?_
        obtain ⟨s7, G⟩ := G
        refine lw_irem (pc := 232) dL_change_232 s7 (by decide) ?_
        refine lw_if_ne (pc := 233) (tgt := 247) dL_change_233 (by decide) (fun c8 => ?_) (fun c8 => ?_)
        · replace G := G.1 c8
          refine lw_iload_n (pc := 247) dL_change_247 rfl ?_
          refine lw_bipush (pc := 248) dL_change_248 ?_
          refine lw_idiv (pc := 250) dL_change_250 s6 (by decide) ?_
          refine lw_bipush (pc := 251) dL_change_251 ?_
          obtain ⟨s9, G⟩ := G
          refine lw_irem (pc := 253) dL_change_253 s9 (by decide) ?_
          exact G
        · replace G := G.2 c8
          refine lw_iload_n (pc := 236) dL_change_236 rfl ?_
          refine lw_bipush (pc := 237) dL_change_237 ?_
          refine lw_idiv (pc := 239) dL_change_239 s6 (by decide) ?_
          refine lw_sipush (pc := 240) dL_change_240 ?_
          obtain ⟨s10, G⟩ := G
          refine lw_irem (pc := 243) dL_change_243 s10 (by decide) ?_
          refine lw_goto (pc := 244) (tgt := 254) dL_change_244 (by decide) ?_
          exact G
      · replace G := G.2 c4
        refine lw_aload_n (pc := 175) dL_change_175 rfl ?_
        refine lw_invV (pc := 176) (md' := m_X6_wakeAll) (as := []) dL_change_176 mo_X6_wakeAll im_X6_wakeAll se_X6_wakeAll ml_L_46 rfl rfl (by omega) (Nat.le_of_ble_eq_true rfl) rfl ⟨Nat.le_of_ble_eq_true rfl, Nat.le_of_ble_eq_true rfl⟩ (lm_mono (lm_rg (kc_wakeAll (by omega))) (fun v11 g12 e => ?_))
        obtain ⟨r_v11, e_v11, f_v11⟩ := e
        replace G := G v11 g12 r_v11 e_v11 f_v11
        refine lw_istore (pc := 179) (ls' := [some (.inr (some 1)), some (.inl x1), some (.inl x2), some (.inl x3), some (.inl x4), some (.inl u0), some (.inl v1), some (.inl v11), none, none]) dL_change_179 (Nat.le_of_ble_eq_true rfl) rfl ?_
        refine lw_iload (pc := 181) dL_change_181 rfl ?_
        refine lw_iload (pc := 183) dL_change_183 rfl ?_
        refine lw_iload_n (pc := 185) dL_change_185 rfl ?_
        refine lw_icmp_ne (pc := 186) (tgt := 194) dL_change_186 (by decide) (fun c13 => ?_) (fun c13 => ?_)
        · replace G := G.1 c13
          refine lw_iload_n (pc := 194) dL_change_194 rfl ?_
          refine lw_iload (pc := 195) dL_change_195 rfl ?_
          obtain ⟨s14, G⟩ := G
          refine lw_isub (pc := 197) (v := x3 - x4) dL_change_197 s14 rfl ?_
          refine lw_icmp_ne (pc := 198) (tgt := 215) dL_change_198 (by decide) (fun c15 => ?_) (fun c15 => ?_)
          · replace G := G.1 c15
            refine lw_bipush (pc := 215) dL_change_215 ?_
            refine lw_ireturn (pc := 217) dL_change_217 rfl ?_ (Nat.le_of_ble_eq_true rfl) (Nat.le_of_ble_eq_true rfl)
            exact G
          · replace G := G.2 c15
            refine lw_aload_n (pc := 201) dL_change_201 rfl ?_
            refine lw_iconst (pc := 202) dL_change_202 ?_
            refine lw_invV (pc := 203) (md' := m_X6_total) (as := [(.inl 1)]) dL_change_203 mo_X6_total im_X6_total se_X6_total ml_L_13 rfl rfl (by omega) (Nat.le_of_ble_eq_true rfl) rfl ⟨Nat.le_of_ble_eq_true rfl, Nat.le_of_ble_eq_true rfl⟩ (lm_mono (lm_rg (kq_total (by omega))) (fun v16 g' e => ?_))
            obtain ⟨r_v16, e_v16, rfl⟩ := e
            replace G := G v16 r_v16 e_v16
            refine lw_iload_n (pc := 206) dL_change_206 rfl ?_
            refine lw_icmp_ne (pc := 207) (tgt := 215) dL_change_207 (by decide) (fun c17 => ?_) (fun c17 => ?_)
            · replace G := G.1 c17
              refine lw_bipush (pc := 215) dL_change_215 ?_
              refine lw_ireturn (pc := 217) dL_change_217 rfl ?_ (Nat.le_of_ble_eq_true rfl) (Nat.le_of_ble_eq_true rfl)
              exact G
            · replace G := G.2 c17
              refine lw_iload (pc := 210) dL_change_210 rfl ?_
              refine lw_goto (pc := 212) (tgt := 217) dL_change_212 (by decide) ?_
              refine lw_ireturn (pc := 217) dL_change_217 rfl ?_ (Nat.le_of_ble_eq_true rfl) (Nat.le_of_ble_eq_true rfl)
              exact G
        · replace G := G.2 c13
          refine lw_bipush (pc := 189) dL_change_189 ?_
          refine lw_goto (pc := 191) (tgt := 198) dL_change_191 (by decide) ?_
          refine lw_icmp_ne (pc := 198) (tgt := 215) dL_change_198 (by decide) (fun c18 => ?_) (fun c18 => ?_)
          · replace G := G.1 c18
            refine lw_bipush (pc := 215) dL_change_215 ?_
            refine lw_ireturn (pc := 217) dL_change_217 rfl ?_ (Nat.le_of_ble_eq_true rfl) (Nat.le_of_ble_eq_true rfl)
            exact G
          · replace G := G.2 c18
            refine lw_aload_n (pc := 201) dL_change_201 rfl ?_
            refine lw_iconst (pc := 202) dL_change_202 ?_
            refine lw_invV (pc := 203) (md' := m_X6_total) (as := [(.inl 1)]) dL_change_203 mo_X6_total im_X6_total se_X6_total ml_L_13 rfl rfl (by omega) (Nat.le_of_ble_eq_true rfl) rfl ⟨Nat.le_of_ble_eq_true rfl, Nat.le_of_ble_eq_true rfl⟩ (lm_mono (lm_rg (kq_total (by omega))) (fun v19 g' e => ?_))
            obtain ⟨r_v19, e_v19, rfl⟩ := e
            replace G := G v19 r_v19 e_v19
            refine lw_iload_n (pc := 206) dL_change_206 rfl ?_
            refine lw_icmp_ne (pc := 207) (tgt := 215) dL_change_207 (by decide) (fun c20 => ?_) (fun c20 => ?_)
            · replace G := G.1 c20
              refine lw_bipush (pc := 215) dL_change_215 ?_
              refine lw_ireturn (pc := 217) dL_change_217 rfl ?_ (Nat.le_of_ble_eq_true rfl) (Nat.le_of_ble_eq_true rfl)
              exact G
            · replace G := G.2 c20
              refine lw_iload (pc := 210) dL_change_210 rfl ?_
              refine lw_goto (pc := 212) (tgt := 217) dL_change_212 (by decide) ?_
              refine lw_ireturn (pc := 217) dL_change_217 rfl ?_ (Nat.le_of_ble_eq_true rfl) (Nat.le_of_ble_eq_true rfl)
              exact G
    · replace G := G.2 c3
      refine lw_aload_n (pc := 106) dL_change_106 rfl ?_
      refine lw_iload (pc := 107) dL_change_107 rfl ?_
      refine lw_invV (pc := 109) (md' := m_X6_sleep) (as := [(.inl u0)]) dL_change_109 mo_X6_sleep im_X6_sleep se_X6_sleep ml_L_43 rfl rfl (by omega) (Nat.le_of_ble_eq_true rfl) rfl ⟨Nat.le_of_ble_eq_true rfl, Nat.le_of_ble_eq_true rfl⟩ (lm_mono (lm_rg (kc_sleep (by omega))) (fun v21 g22 e => ?_))
      obtain ⟨r_v21, e_v21, f_v21⟩ := e
      replace G := G v21 g22 r_v21 e_v21 f_v21
      refine lw_istore (pc := 112) (ls' := [some (.inr (some 1)), some (.inl x1), some (.inl x2), some (.inl x3), some (.inl x4), some (.inl u0), some (.inl v1), some (.inl v21), none, none]) dL_change_112 (Nat.le_of_ble_eq_true rfl) rfl ?_
      refine lw_iload (pc := 114) dL_change_114 rfl ?_
      refine lw_iload (pc := 116) dL_change_116 rfl ?_
      refine lw_if_ge (pc := 118) (tgt := 125) dL_change_118 (by decide) (fun c23 => ?_) (fun c23 => ?_)
      · replace G := G.1 c23
        refine lw_iload (pc := 125) dL_change_125 rfl ?_
        refine lw_if_ne (pc := 127) (tgt := 135) dL_change_127 (by decide) (fun c24 => ?_) (fun c24 => ?_)
        · replace G := G.1 c24
          refine lw_iload (pc := 135) dL_change_135 rfl ?_
          refine lw_iconst (pc := 137) dL_change_137 ?_
          obtain ⟨s25, G⟩ := G
          refine lw_isub (pc := 138) (v := x4 - 1) dL_change_138 s25 rfl ?_
          refine lw_icmp_ne (pc := 139) (tgt := 167) dL_change_139 (by decide) (fun c26 => ?_) (fun c26 => ?_)
          · replace G := G.1 c26
            refine lw_bipush (pc := 167) dL_change_167 ?_
            refine lw_ireturn (pc := 169) dL_change_169 rfl ?_ (Nat.le_of_ble_eq_true rfl) (Nat.le_of_ble_eq_true rfl)
            exact G
          · replace G := G.2 c26
            refine lw_aload_n (pc := 142) dL_change_142 rfl ?_
            refine lw_iload (pc := 143) dL_change_143 rfl ?_
            refine lw_iconst (pc := 145) dL_change_145 ?_
            refine lw_invV (pc := 146) (md' := m_X6_ofCard) (as := [(.inl u0), (.inl 0)]) dL_change_146 mo_X6_ofCard im_X6_ofCard se_X6_ofCard ml_L_22 rfl rfl (by omega) (Nat.le_of_ble_eq_true rfl) rfl ⟨Nat.le_of_ble_eq_true rfl, Nat.le_of_ble_eq_true rfl⟩ (lm_mono (lm_rg (kq_ofCard (by omega))) (fun v27 g' e => ?_))
            obtain ⟨r_v27, e_v27, rfl⟩ := e
            replace G := G v27 r_v27 e_v27
            refine lw_iload (pc := 149) dL_change_149 rfl ?_
            refine lw_if_ge (pc := 151) (tgt := 158) dL_change_151 (by decide) (fun _ => ?_) (fun h => absurd (by omega) h)
            refine lw_iconst (pc := 158) dL_change_158 ?_
            refine lw_icmp_ne (pc := 159) (tgt := 167) dL_change_159 (by decide) (fun c29 => ?_) (fun c29 => ?_)
            · replace G := G.1 c29
              refine lw_bipush (pc := 167) dL_change_167 ?_
              refine lw_ireturn (pc := 169) dL_change_169 rfl ?_ (Nat.le_of_ble_eq_true rfl) (Nat.le_of_ble_eq_true rfl)
              exact G
            · replace G := G.2 c29
              refine lw_iload (pc := 162) dL_change_162 rfl ?_
              refine lw_goto (pc := 164) (tgt := 169) dL_change_164 (by decide) ?_
              refine lw_ireturn (pc := 169) dL_change_169 rfl ?_ (Nat.le_of_ble_eq_true rfl) (Nat.le_of_ble_eq_true rfl)
              exact G
        · replace G := G.2 c24
          refine lw_bipush (pc := 130) dL_change_130 ?_
          refine lw_goto (pc := 132) (tgt := 139) dL_change_132 (by decide) ?_
          refine lw_icmp_ne (pc := 139) (tgt := 167) dL_change_139 (by decide) (fun c30 => ?_) (fun c30 => ?_)
          · replace G := G.1 c30
            refine lw_bipush (pc := 167) dL_change_167 ?_
            refine lw_ireturn (pc := 169) dL_change_169 rfl ?_ (Nat.le_of_ble_eq_true rfl) (Nat.le_of_ble_eq_true rfl)
            exact G
          · replace G := G.2 c30
            refine lw_aload_n (pc := 142) dL_change_142 rfl ?_
            refine lw_iload (pc := 143) dL_change_143 rfl ?_
            refine lw_iconst (pc := 145) dL_change_145 ?_
            refine lw_invV (pc := 146) (md' := m_X6_ofCard) (as := [(.inl u0), (.inl 0)]) dL_change_146 mo_X6_ofCard im_X6_ofCard se_X6_ofCard ml_L_22 rfl rfl (by omega) (Nat.le_of_ble_eq_true rfl) rfl ⟨Nat.le_of_ble_eq_true rfl, Nat.le_of_ble_eq_true rfl⟩ (lm_mono (lm_rg (kq_ofCard (by omega))) (fun v31 g' e => ?_))
            obtain ⟨r_v31, e_v31, rfl⟩ := e
            replace G := G v31 r_v31 e_v31
            refine lw_iload (pc := 149) dL_change_149 rfl ?_
            refine lw_if_ge (pc := 151) (tgt := 158) dL_change_151 (by decide) (fun _ => ?_) (fun h => absurd (by omega) h)
            refine lw_iconst (pc := 158) dL_change_158 ?_
            refine lw_icmp_ne (pc := 159) (tgt := 167) dL_change_159 (by decide) (fun c33 => ?_) (fun c33 => ?_)
            · replace G := G.1 c33
              refine lw_bipush (pc := 167) dL_change_167 ?_
              refine lw_ireturn (pc := 169) dL_change_169 rfl ?_ (Nat.le_of_ble_eq_true rfl) (Nat.le_of_ble_eq_true rfl)
              exact G
            · replace G := G.2 c33
              refine lw_iload (pc := 162) dL_change_162 rfl ?_
              refine lw_goto (pc := 164) (tgt := 169) dL_change_164 (by decide) ?_
              refine lw_ireturn (pc := 169) dL_change_169 rfl ?_ (Nat.le_of_ble_eq_true rfl) (Nat.le_of_ble_eq_true rfl)
              exact G
      · replace G := G.2 c23
        refine lw_iconst (pc := 121) dL_change_121 ?_
        refine lw_goto (pc := 122) (tgt := 139) dL_change_122 (by decide) ?_
        refine lw_icmp_ne (pc := 139) (tgt := 167) dL_change_139 (by decide) (fun c34 => ?_) (fun c34 => ?_)
        · replace G := G.1 c34
          refine lw_bipush (pc := 167) dL_change_167 ?_
          refine lw_ireturn (pc := 169) dL_change_169 rfl ?_ (Nat.le_of_ble_eq_true rfl) (Nat.le_of_ble_eq_true rfl)
          exact G
        · replace G := G.2 c34
          refine lw_aload_n (pc := 142) dL_change_142 rfl ?_
          refine lw_iload (pc := 143) dL_change_143 rfl ?_
          refine lw_iconst (pc := 145) dL_change_145 ?_
          refine lw_invV (pc := 146) (md' := m_X6_ofCard) (as := [(.inl u0), (.inl 0)]) dL_change_146 mo_X6_ofCard im_X6_ofCard se_X6_ofCard ml_L_22 rfl rfl (by omega) (Nat.le_of_ble_eq_true rfl) rfl ⟨Nat.le_of_ble_eq_true rfl, Nat.le_of_ble_eq_true rfl⟩ (lm_mono (lm_rg (kq_ofCard (by omega))) (fun v35 g' e => ?_))
          obtain ⟨r_v35, e_v35, rfl⟩ := e
          replace G := G v35 r_v35 e_v35
          refine lw_iload (pc := 149) dL_change_149 rfl ?_
          refine lw_if_ge (pc := 151) (tgt := 158) dL_change_151 (by decide) (fun h => absurd h (by omega)) (fun _ => ?_)
          refine lw_iconst (pc := 154) dL_change_154 ?_
          refine lw_goto (pc := 155) (tgt := 159) dL_change_155 (by decide) ?_
          refine lw_icmp_ne (pc := 159) (tgt := 167) dL_change_159 (by decide) (fun c37 => ?_) (fun c37 => ?_)
          · replace G := G.1 c37
            refine lw_bipush (pc := 167) dL_change_167 ?_
            refine lw_ireturn (pc := 169) dL_change_169 rfl ?_ (Nat.le_of_ble_eq_true rfl) (Nat.le_of_ble_eq_true rfl)
            exact G
          · replace G := G.2 c37
            refine lw_iload (pc := 162) dL_change_162 rfl ?_
            refine lw_goto (pc := 164) (tgt := 169) dL_change_164 (by decide) ?_
            refine lw_ireturn (pc := 169) dL_change_169 rfl ?_ (Nat.le_of_ble_eq_true rfl) (Nat.le_of_ble_eq_true rfl)
            exact G
  · replace G := G.2 c2
    refine lw_aload_n (pc := 57) dL_change_57 rfl ?_
    refine lw_iload (pc := 58) dL_change_58 rfl ?_
    refine lw_invV (pc := 60) (md' := m_X6_take) (as := [(.inl u0)]) dL_change_60 mo_X6_take im_X6_take se_X6_take ml_L_40 rfl rfl (by omega) (Nat.le_of_ble_eq_true rfl) rfl ⟨Nat.le_of_ble_eq_true rfl, Nat.le_of_ble_eq_true rfl⟩ (lm_mono (lm_rg (kc_take (by omega))) (fun v38 g39 e => ?_))
    obtain ⟨r_v38, e_v38, f_v38⟩ := e
    replace G := G v38 g39 r_v38 e_v38 f_v38
    refine lw_istore (pc := 63) (ls' := [some (.inr (some 1)), some (.inl x1), some (.inl x2), some (.inl x3), some (.inl x4), some (.inl u0), some (.inl v1), some (.inl v38), none, none]) dL_change_63 (Nat.le_of_ble_eq_true rfl) rfl ?_
    refine lw_iload (pc := 65) dL_change_65 rfl ?_
    refine lw_iload (pc := 67) dL_change_67 rfl ?_
    refine lw_if_ge (pc := 69) (tgt := 76) dL_change_69 (by decide) (fun c40 => ?_) (fun c40 => ?_)
    · replace G := G.1 c40
      refine lw_iload_n (pc := 76) dL_change_76 rfl ?_
      refine lw_iconst (pc := 77) dL_change_77 ?_
      obtain ⟨s41, G⟩ := G
      refine lw_isub (pc := 78) (v := x3 - 1) dL_change_78 s41 rfl ?_
      refine lw_icmp_ne (pc := 79) (tgt := 98) dL_change_79 (by decide) (fun c42 => ?_) (fun c42 => ?_)
      · replace G := G.1 c42
        refine lw_bipush (pc := 98) dL_change_98 ?_
        refine lw_ireturn (pc := 100) dL_change_100 rfl ?_ (Nat.le_of_ble_eq_true rfl) (Nat.le_of_ble_eq_true rfl)
        exact G
      · replace G := G.2 c42
        refine lw_aload_n (pc := 82) dL_change_82 rfl ?_
        refine lw_iload (pc := 83) dL_change_83 rfl ?_
        refine lw_iconst (pc := 85) dL_change_85 ?_
        refine lw_invV (pc := 86) (md' := m_X6_ofCard) (as := [(.inl u0), (.inl 0)]) dL_change_86 mo_X6_ofCard im_X6_ofCard se_X6_ofCard ml_L_22 rfl rfl (by omega) (Nat.le_of_ble_eq_true rfl) rfl ⟨Nat.le_of_ble_eq_true rfl, Nat.le_of_ble_eq_true rfl⟩ (lm_mono (lm_rg (kq_ofCard (by omega))) (fun v43 g' e => ?_))
        obtain ⟨r_v43, e_v43, rfl⟩ := e
        replace G := G v43 r_v43 e_v43
        refine lw_iconst (pc := 89) dL_change_89 ?_
        refine lw_icmp_ne (pc := 90) (tgt := 98) dL_change_90 (by decide) (fun c44 => ?_) (fun c44 => ?_)
        · replace G := G.1 c44
          refine lw_bipush (pc := 98) dL_change_98 ?_
          refine lw_ireturn (pc := 100) dL_change_100 rfl ?_ (Nat.le_of_ble_eq_true rfl) (Nat.le_of_ble_eq_true rfl)
          exact G
        · replace G := G.2 c44
          refine lw_iload (pc := 93) dL_change_93 rfl ?_
          refine lw_goto (pc := 95) (tgt := 100) dL_change_95 (by decide) ?_
          refine lw_ireturn (pc := 100) dL_change_100 rfl ?_ (Nat.le_of_ble_eq_true rfl) (Nat.le_of_ble_eq_true rfl)
          exact G
    · replace G := G.2 c40
      refine lw_iconst (pc := 72) dL_change_72 ?_
      refine lw_goto (pc := 73) (tgt := 79) dL_change_73 (by decide) ?_
      refine lw_icmp_ne (pc := 79) (tgt := 98) dL_change_79 (by decide) (fun c45 => ?_) (fun c45 => ?_)
      · replace G := G.1 c45
        refine lw_bipush (pc := 98) dL_change_98 ?_
        refine lw_ireturn (pc := 100) dL_change_100 rfl ?_ (Nat.le_of_ble_eq_true rfl) (Nat.le_of_ble_eq_true rfl)
        exact G
      · replace G := G.2 c45
        refine lw_aload_n (pc := 82) dL_change_82 rfl ?_
        refine lw_iload (pc := 83) dL_change_83 rfl ?_
        refine lw_iconst (pc := 85) dL_change_85 ?_
        refine lw_invV (pc := 86) (md' := m_X6_ofCard) (as := [(.inl u0), (.inl 0)]) dL_change_86 mo_X6_ofCard im_X6_ofCard se_X6_ofCard ml_L_22 rfl rfl (by omega) (Nat.le_of_ble_eq_true rfl) rfl ⟨Nat.le_of_ble_eq_true rfl, Nat.le_of_ble_eq_true rfl⟩ (lm_mono (lm_rg (kq_ofCard (by omega))) (fun v46 g' e => ?_))
        obtain ⟨r_v46, e_v46, rfl⟩ := e
        replace G := G v46 r_v46 e_v46
        refine lw_iconst (pc := 89) dL_change_89 ?_
        refine lw_icmp_ne (pc := 90) (tgt := 98) dL_change_90 (by decide) (fun c47 => ?_) (fun c47 => ?_)
        · replace G := G.1 c47
          refine lw_bipush (pc := 98) dL_change_98 ?_
          refine lw_ireturn (pc := 100) dL_change_100 rfl ?_ (Nat.le_of_ble_eq_true rfl) (Nat.le_of_ble_eq_true rfl)
          exact G
        · replace G := G.2 c47
          refine lw_iload (pc := 93) dL_change_93 rfl ?_
          refine lw_goto (pc := 95) (tgt := 100) dL_change_95 (by decide) ?_
          refine lw_ireturn (pc := 100) dL_change_100 rfl ?_ (Nat.le_of_ble_eq_true rfl) (Nat.le_of_ble_eq_true rfl)
          exact G
set_option maxRecDepth 100000 in
set_option maxHeartbeats 4000000 in
theorem lc_change_254 {d : Nat} {P : Int → Gs → Prop} {g : Gs} {x1 x2 x3 x4 x5 x6 x7 u0 : Int} (hd : 20 ≤ d)
  (G :
    (∀ (v1 : Int) (g2 : Gs), rg v1 → v1 = (recG (leaveO x5 u0 g.1) g).1 → g2 = (recG (leaveO x5 u0 g.1) g).2 → (
      ((0 ≤ x6 → (
        ((¬ x7 = u0 → (
          ((¬ v1 = x7 → (
            P (-9) g2
            )) ∧ (¬ (¬ v1 = x7) → (
            (∀ v7 : Int, rg v7 → v7 = ofO x5 1 g2.1.1 → (
              ((¬ v7 = u0 → (
                P (-9) g2
                )) ∧ (¬ (¬ v7 = u0) → (
                P v1 g2
                )))))
            )))
          )) ∧ (¬ (¬ x7 = u0) → (
          ((¬ v1 = (-5) → (
            P (-9) g2
            )) ∧ (¬ (¬ v1 = (-5)) → (
            (∀ v11 : Int, rg v11 → v11 = ofO x5 1 g2.1.1 → (
              ((¬ v11 = u0 → (
                P (-9) g2
                )) ∧ (¬ (¬ v11 = u0) → (
                P v1 g2
                )))))
            )))
          )))
        )) ∧ (¬ (0 ≤ x6) → (
        ((¬ v1 = (-1) → (
          P (-9) g2
          )) ∧ (¬ (¬ v1 = (-1)) → (
          P v1 g2
          )))
        )))))) :
  LW m_L_change d none P 254 [some (.inr (some 1)), some (.inl x1), some (.inl x2), some (.inl x3), some (.inl x4), some (.inl x5), some (.inl x6), some (.inl x7), none, none] [(.inl u0)] g (0, 0) := by
  refine lw_istore (pc := 254) (ls' := [some (.inr (some 1)), some (.inl x1), some (.inl x2), some (.inl x3), some (.inl x4), some (.inl x5), some (.inl x6), some (.inl x7), some (.inl u0), none]) dL_change_254 (Nat.le_of_ble_eq_true rfl) rfl ?_
  refine lw_aload_n (pc := 256) dL_change_256 rfl ?_
  refine lw_iload (pc := 257) dL_change_257 rfl ?_
  refine lw_iload (pc := 259) dL_change_259 rfl ?_
  refine lw_invV (pc := 261) (md' := m_X6_leave) (as := [(.inl x5), (.inl u0)]) dL_change_261 mo_X6_leave im_X6_leave se_X6_leave ml_L_50 rfl rfl (by omega) (Nat.le_of_ble_eq_true rfl) rfl ⟨Nat.le_of_ble_eq_true rfl, Nat.le_of_ble_eq_true rfl⟩ (lm_mono (lm_rg (kc_leave (by omega))) (fun v1 g2 e => ?_))
  obtain ⟨r_v1, e_v1, f_v1⟩ := e
  replace G := G v1 g2 r_v1 e_v1 f_v1
  refine lw_istore (pc := 264) (ls' := [some (.inr (some 1)), some (.inl x1), some (.inl x2), some (.inl x3), some (.inl x4), some (.inl x5), some (.inl x6), some (.inl x7), some (.inl u0), some (.inl v1)]) dL_change_264 (Nat.le_of_ble_eq_true rfl) rfl ?_
  refine lw_iload (pc := 266) dL_change_266 rfl ?_
  refine lw_iload (pc := 268) dL_change_268 rfl ?_
  refine lw_if_ge (pc := 270) (tgt := 277) dL_change_270 (by decide) (fun c3 => ?_) (fun c3 => ?_)
  · replace G := G.1 c3
    refine lw_iload (pc := 277) dL_change_277 rfl ?_
    refine lw_iload (pc := 279) dL_change_279 rfl ?_
    refine lw_icmp_ne (pc := 281) (tgt := 289) dL_change_281 (by decide) (fun c4 => ?_) (fun c4 => ?_)
    · replace G := G.1 c4
      refine lw_iload (pc := 289) dL_change_289 rfl ?_
      refine lw_icmp_ne (pc := 291) (tgt := 316) dL_change_291 (by decide) (fun c5 => ?_) (fun c5 => ?_)
      · replace G := G.1 c5
        refine lw_bipush (pc := 316) dL_change_316 ?_
        refine lw_ireturn (pc := 318) dL_change_318 rfl ?_ (Nat.le_of_ble_eq_true rfl) (Nat.le_of_ble_eq_true rfl)
        exact G
      · replace G := G.2 c5
        refine lw_iload (pc := 294) dL_change_294 rfl ?_
        refine lw_if_lt (pc := 296) (tgt := 311) dL_change_296 (by decide) (fun h => absurd h (by omega)) (fun _ => ?_)
        refine lw_aload_n (pc := 299) dL_change_299 rfl ?_
        refine lw_iload (pc := 300) dL_change_300 rfl ?_
        refine lw_iconst (pc := 302) dL_change_302 ?_
        refine lw_invV (pc := 303) (md' := m_X6_ofCard) (as := [(.inl x5), (.inl 1)]) dL_change_303 mo_X6_ofCard im_X6_ofCard se_X6_ofCard ml_L_22 rfl rfl (by omega) (Nat.le_of_ble_eq_true rfl) rfl ⟨Nat.le_of_ble_eq_true rfl, Nat.le_of_ble_eq_true rfl⟩ (lm_mono (lm_rg (kq_ofCard (by omega))) (fun v7 g' e => ?_))
        obtain ⟨r_v7, e_v7, rfl⟩ := e
        replace G := G v7 r_v7 e_v7
        refine lw_iload (pc := 306) dL_change_306 rfl ?_
        refine lw_icmp_ne (pc := 308) (tgt := 316) dL_change_308 (by decide) (fun c8 => ?_) (fun c8 => ?_)
        · replace G := G.1 c8
          refine lw_bipush (pc := 316) dL_change_316 ?_
          refine lw_ireturn (pc := 318) dL_change_318 rfl ?_ (Nat.le_of_ble_eq_true rfl) (Nat.le_of_ble_eq_true rfl)
          exact G
        · replace G := G.2 c8
          refine lw_iload (pc := 311) dL_change_311 rfl ?_
          refine lw_goto (pc := 313) (tgt := 318) dL_change_313 (by decide) ?_
          refine lw_ireturn (pc := 318) dL_change_318 rfl ?_ (Nat.le_of_ble_eq_true rfl) (Nat.le_of_ble_eq_true rfl)
          exact G
    · replace G := G.2 c4
      refine lw_bipush (pc := 284) dL_change_284 ?_
      refine lw_goto (pc := 286) (tgt := 291) dL_change_286 (by decide) ?_
      refine lw_icmp_ne (pc := 291) (tgt := 316) dL_change_291 (by decide) (fun c9 => ?_) (fun c9 => ?_)
      · replace G := G.1 c9
        refine lw_bipush (pc := 316) dL_change_316 ?_
        refine lw_ireturn (pc := 318) dL_change_318 rfl ?_ (Nat.le_of_ble_eq_true rfl) (Nat.le_of_ble_eq_true rfl)
        exact G
      · replace G := G.2 c9
        refine lw_iload (pc := 294) dL_change_294 rfl ?_
        refine lw_if_lt (pc := 296) (tgt := 311) dL_change_296 (by decide) (fun h => absurd h (by omega)) (fun _ => ?_)
        refine lw_aload_n (pc := 299) dL_change_299 rfl ?_
        refine lw_iload (pc := 300) dL_change_300 rfl ?_
        refine lw_iconst (pc := 302) dL_change_302 ?_
        refine lw_invV (pc := 303) (md' := m_X6_ofCard) (as := [(.inl x5), (.inl 1)]) dL_change_303 mo_X6_ofCard im_X6_ofCard se_X6_ofCard ml_L_22 rfl rfl (by omega) (Nat.le_of_ble_eq_true rfl) rfl ⟨Nat.le_of_ble_eq_true rfl, Nat.le_of_ble_eq_true rfl⟩ (lm_mono (lm_rg (kq_ofCard (by omega))) (fun v11 g' e => ?_))
        obtain ⟨r_v11, e_v11, rfl⟩ := e
        replace G := G v11 r_v11 e_v11
        refine lw_iload (pc := 306) dL_change_306 rfl ?_
        refine lw_icmp_ne (pc := 308) (tgt := 316) dL_change_308 (by decide) (fun c12 => ?_) (fun c12 => ?_)
        · replace G := G.1 c12
          refine lw_bipush (pc := 316) dL_change_316 ?_
          refine lw_ireturn (pc := 318) dL_change_318 rfl ?_ (Nat.le_of_ble_eq_true rfl) (Nat.le_of_ble_eq_true rfl)
          exact G
        · replace G := G.2 c12
          refine lw_iload (pc := 311) dL_change_311 rfl ?_
          refine lw_goto (pc := 313) (tgt := 318) dL_change_313 (by decide) ?_
          refine lw_ireturn (pc := 318) dL_change_318 rfl ?_ (Nat.le_of_ble_eq_true rfl) (Nat.le_of_ble_eq_true rfl)
          exact G
  · replace G := G.2 c3
    refine lw_iconst (pc := 273) dL_change_273 ?_
    refine lw_goto (pc := 274) (tgt := 291) dL_change_274 (by decide) ?_
    refine lw_icmp_ne (pc := 291) (tgt := 316) dL_change_291 (by decide) (fun c13 => ?_) (fun c13 => ?_)
    · replace G := G.1 c13
      refine lw_bipush (pc := 316) dL_change_316 ?_
      refine lw_ireturn (pc := 318) dL_change_318 rfl ?_ (Nat.le_of_ble_eq_true rfl) (Nat.le_of_ble_eq_true rfl)
      exact G
    · replace G := G.2 c13
      refine lw_iload (pc := 294) dL_change_294 rfl ?_
      refine lw_if_lt (pc := 296) (tgt := 311) dL_change_296 (by decide) (fun _ => ?_) (fun h => absurd (by omega) h)
      refine lw_iload (pc := 311) dL_change_311 rfl ?_
      refine lw_goto (pc := 313) (tgt := 318) dL_change_313 (by decide) ?_
      refine lw_ireturn (pc := 318) dL_change_318 rfl ?_ (Nat.le_of_ble_eq_true rfl) (Nat.le_of_ble_eq_true rfl)
      exact G
