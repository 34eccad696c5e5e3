set_option maxRecDepth 100000 in
set_option maxHeartbeats 4000000 in
theorem lc_refusesAny {d : Nat} {P : Int → Gs → Prop} {g : Gs} {x1 : Int} (hd : 20 ≤ d)
  (G :
    (0 ≤ x1 ∧ x1 < 2147483648) ∧
    ((¬ x1 % 2 = 0 → (
      (rg (256 + (x1 % 99))) ∧
      (rg ((-1) - (x1 % 99))) ∧
      (∀ v5 : Int, rg v5 → v5 = cardO 0 g.1.1 → (
        (∀ (v6 : Int) (g7 : Gs), rg v6 → v6 = (recG (putO (256 + (x1 % 99)) g.1) g).1 → g7 = (recG (putO (256 + (x1 % 99)) g.1) g).2 → (
          ((¬ v6 = (-2) → (
            LW m_L_refusesAny d none P 320 [some (.inr (some 1)), some (.inl x1), some (.inl (256 + (x1 % 99))), some (.inl ((-1) - (x1 % 99))), some (.inl v5), none] [] g7 (0, 0)
            )) ∧ (¬ (¬ v6 = (-2)) → (
            ((v5 < 0 → (
              (∀ (v10 : Int) (g11 : Gs), rg v10 → v10 = (recG (takeO (256 + (x1 % 99)) g7.1) g7).1 → g11 = (recG (takeO (256 + (x1 % 99)) g7.1) g7).2 → (
                ((¬ v10 = (-1) → (
                  LW m_L_refusesAny d none P 320 [some (.inr (some 1)), some (.inl x1), some (.inl (256 + (x1 % 99))), some (.inl ((-1) - (x1 % 99))), some (.inl v5), none] [] g11 (0, 0)
                  )) ∧ (¬ (¬ v10 = (-1)) → (
                  (∀ (v13 : Int) (g14 : Gs), rg v13 → v13 = (recG (sleepO (256 + (x1 % 99)) g11.1) g11).1 → g14 = (recG (sleepO (256 + (x1 % 99)) g11.1) g11).2 → (
                    ((¬ v13 = (-1) → (
                      LW m_L_refusesAny d none P 320 [some (.inr (some 1)), some (.inl x1), some (.inl (256 + (x1 % 99))), some (.inl ((-1) - (x1 % 99))), some (.inl v5), none] [] g14 (0, 0)
                      )) ∧ (¬ (¬ v13 = (-1)) → (
                      LW m_L_refusesAny d none P 109 [some (.inr (some 1)), some (.inl x1), some (.inl (256 + (x1 % 99))), some (.inl ((-1) - (x1 % 99))), some (.inl v5), none] [] g14 (0, 0)
                      )))))
                  )))))
              )) ∧ (¬ (v5 < 0) → (
              (∀ (v17 : Int) (g18 : Gs), rg v17 → v17 = (recG (putO v5 g7.1) g7).1 → g18 = (recG (putO v5 g7.1) g7).2 → (
                ((¬ v17 = (-4) → (
                  LW m_L_refusesAny d none P 320 [some (.inr (some 1)), some (.inl x1), some (.inl (256 + (x1 % 99))), some (.inl ((-1) - (x1 % 99))), some (.inl v5), none] [] g18 (0, 0)
                  )) ∧ (¬ (¬ v17 = (-4)) → (
                  (∀ (v20 : Int) (g21 : Gs), rg v20 → v20 = (recG (takeO (256 + (x1 % 99)) g18.1) g18).1 → g21 = (recG (takeO (256 + (x1 % 99)) g18.1) g18).2 → (
                    ((¬ v20 = (-1) → (
                      LW m_L_refusesAny d none P 320 [some (.inr (some 1)), some (.inl x1), some (.inl (256 + (x1 % 99))), some (.inl ((-1) - (x1 % 99))), some (.inl v5), none] [] g21 (0, 0)
                      )) ∧ (¬ (¬ v20 = (-1)) → (
                      (∀ (v23 : Int) (g24 : Gs), rg v23 → v23 = (recG (sleepO (256 + (x1 % 99)) g21.1) g21).1 → g24 = (recG (sleepO (256 + (x1 % 99)) g21.1) g21).2 → (
                        ((¬ v23 = (-1) → (
                          LW m_L_refusesAny d none P 320 [some (.inr (some 1)), some (.inl x1), some (.inl (256 + (x1 % 99))), some (.inl ((-1) - (x1 % 99))), some (.inl v5), none] [] g24 (0, 0)
                          )) ∧ (¬ (¬ v23 = (-1)) → (
                          (∀ v27 : Int, rg v27 → v27 = ofO v5 0 g24.1.1 → (
                            ((v27 = 1 → (
                              LW m_L_refusesAny d none P 109 [some (.inr (some 1)), some (.inl x1), some (.inl (256 + (x1 % 99))), some (.inl ((-1) - (x1 % 99))), some (.inl v5), none] [] g24 (0, 0)
                              )) ∧ (¬ (v27 = 1) → (
                              (∀ (v29 : Int) (g30 : Gs), rg v29 → v29 = (recG (sleepO v5 g24.1) g24).1 → g30 = (recG (sleepO v5 g24.1) g24).2 → (
                                ((¬ v29 = (-5) → (
                                  LW m_L_refusesAny d none P 320 [some (.inr (some 1)), some (.inl x1), some (.inl (256 + (x1 % 99))), some (.inl ((-1) - (x1 % 99))), some (.inl v5), none] [] g30 (0, 0)
                                  )) ∧ (¬ (¬ v29 = (-5)) → (
                                  LW m_L_refusesAny d none P 109 [some (.inr (some 1)), some (.inl x1), some (.inl (256 + (x1 % 99))), some (.inl ((-1) - (x1 % 99))), some (.inl v5), none] [] g30 (0, 0)
                                  )))))
                              )))))
                          )))))
                      )))))
                  )))))
              )))
            )))))))
      )) ∧ (¬ (¬ x1 % 2 = 0) → (
      (rg ((-1) - (x1 % 99))) ∧
      (∀ v33 : Int, rg v33 → v33 = cardO 0 g.1.1 → (
        (∀ (v34 : Int) (g35 : Gs), rg v34 → v34 = (recG (putO ((-1) - (x1 % 99)) g.1) g).1 → g35 = (recG (putO ((-1) - (x1 % 99)) g.1) g).2 → (
          ((¬ v34 = (-2) → (
            LW m_L_refusesAny d none P 320 [some (.inr (some 1)), some (.inl x1), some (.inl ((-1) - (x1 % 99))), some (.inl ((-1) - (x1 % 99))), some (.inl v33), none] [] g35 (0, 0)
            )) ∧ (¬ (¬ v34 = (-2)) → (
            ((v33 < 0 → (
              (∀ (v38 : Int) (g39 : Gs), rg v38 → v38 = (recG (takeO ((-1) - (x1 % 99)) g35.1) g35).1 → g39 = (recG (takeO ((-1) - (x1 % 99)) g35.1) g35).2 → (
                ((¬ v38 = (-1) → (
                  LW m_L_refusesAny d none P 320 [some (.inr (some 1)), some (.inl x1), some (.inl ((-1) - (x1 % 99))), some (.inl ((-1) - (x1 % 99))), some (.inl v33), none] [] g39 (0, 0)
                  )) ∧ (¬ (¬ v38 = (-1)) → (
                  (∀ (v41 : Int) (g42 : Gs), rg v41 → v41 = (recG (sleepO ((-1) - (x1 % 99)) g39.1) g39).1 → g42 = (recG (sleepO ((-1) - (x1 % 99)) g39.1) g39).2 → (
                    ((¬ v41 = (-1) → (
                      LW m_L_refusesAny d none P 320 [some (.inr (some 1)), some (.inl x1), some (.inl ((-1) - (x1 % 99))), some (.inl ((-1) - (x1 % 99))), some (.inl v33), none] [] g42 (0, 0)
                      )) ∧ (¬ (¬ v41 = (-1)) → (
                      LW m_L_refusesAny d none P 109 [some (.inr (some 1)), some (.inl x1), some (.inl ((-1) - (x1 % 99))), some (.inl ((-1) - (x1 % 99))), some (.inl v33), none] [] g42 (0, 0)
                      )))))
                  )))))
              )) ∧ (¬ (v33 < 0) → (
              (∀ (v45 : Int) (g46 : Gs), rg v45 → v45 = (recG (putO v33 g35.1) g35).1 → g46 = (recG (putO v33 g35.1) g35).2 → (
                ((¬ v45 = (-4) → (
                  LW m_L_refusesAny d none P 320 [some (.inr (some 1)), some (.inl x1), some (.inl ((-1) - (x1 % 99))), some (.inl ((-1) - (x1 % 99))), some (.inl v33), none] [] g46 (0, 0)
                  )) ∧ (¬ (¬ v45 = (-4)) → (
                  (∀ (v48 : Int) (g49 : Gs), rg v48 → v48 = (recG (takeO ((-1) - (x1 % 99)) g46.1) g46).1 → g49 = (recG (takeO ((-1) - (x1 % 99)) g46.1) g46).2 → (
                    ((¬ v48 = (-1) → (
                      LW m_L_refusesAny d none P 320 [some (.inr (some 1)), some (.inl x1), some (.inl ((-1) - (x1 % 99))), some (.inl ((-1) - (x1 % 99))), some (.inl v33), none] [] g49 (0, 0)
                      )) ∧ (¬ (¬ v48 = (-1)) → (
                      (∀ (v51 : Int) (g52 : Gs), rg v51 → v51 = (recG (sleepO ((-1) - (x1 % 99)) g49.1) g49).1 → g52 = (recG (sleepO ((-1) - (x1 % 99)) g49.1) g49).2 → (
                        ((¬ v51 = (-1) → (
                          LW m_L_refusesAny d none P 320 [some (.inr (some 1)), some (.inl x1), some (.inl ((-1) - (x1 % 99))), some (.inl ((-1) - (x1 % 99))), some (.inl v33), none] [] g52 (0, 0)
                          )) ∧ (¬ (¬ v51 = (-1)) → (
                          (∀ v55 : Int, rg v55 → v55 = ofO v33 0 g52.1.1 → (
                            ((v55 = 1 → (
                              LW m_L_refusesAny d none P 109 [some (.inr (some 1)), some (.inl x1), some (.inl ((-1) - (x1 % 99))), some (.inl ((-1) - (x1 % 99))), some (.inl v33), none] [] g52 (0, 0)
                              )) ∧ (¬ (v55 = 1) → (
                              (∀ (v57 : Int) (g58 : Gs), rg v57 → v57 = (recG (sleepO v33 g52.1) g52).1 → g58 = (recG (sleepO v33 g52.1) g52).2 → (
                                ((¬ v57 = (-5) → (
                                  LW m_L_refusesAny d none P 320 [some (.inr (some 1)), some (.inl x1), some (.inl ((-1) - (x1 % 99))), some (.inl ((-1) - (x1 % 99))), some (.inl v33), none] [] g58 (0, 0)
                                  )) ∧ (¬ (¬ v57 = (-5)) → (
                                  LW m_L_refusesAny d none P 109 [some (.inr (some 1)), some (.inl x1), some (.inl ((-1) - (x1 % 99))), some (.inl ((-1) - (x1 % 99))), some (.inl v33), none] [] g58 (0, 0)
                                  )))))
                              )))))
                          )))))
                      )))))
                  )))))
              )))
            )))))))
      )))) :
  LW m_L_refusesAny d none P 0 [some (.inr (some 1)), some (.inl x1), none, none, none, none] [] g (0, 0) := by
  refine lw_iload_n (pc := 0) dL_refusesAny_0 rfl ?_
  refine lw_iconst (pc := 1) dL_refusesAny_1 ?_
  obtain ⟨s1, G⟩ := G
  refine lw_irem (pc := 2) dL_refusesAny_2 s1 (by decide) ?_
  refine lw_if_ne (pc := 3) (tgt := 15) dL_refusesAny_3 (by decide) (fun c2 => ?_) (fun c2 => ?_)
  · replace G := G.1 c2
    refine lw_sipush (pc := 15) dL_refusesAny_15 ?_
    refine lw_iload_n (pc := 18) dL_refusesAny_18 rfl ?_
    refine lw_bipush (pc := 19) dL_refusesAny_19 ?_
    refine lw_irem (pc := 21) dL_refusesAny_21 s1 (by decide) ?_
    obtain ⟨s3, G⟩ := G
    refine lw_iadd (pc := 22) (v := 256 + (x1 % 99)) dL_refusesAny_22 s3 rfl ?_
    refine lw_istore_n (pc := 23) (ls' := [some (.inr (some 1)), some (.inl x1), some (.inl (256 + (x1 % 99))), none, none, none]) dL_refusesAny_23 (Nat.le_of_ble_eq_true rfl) rfl ?_
    refine lw_iconst (pc := 24) dL_refusesAny_24 ?_
    refine lw_iload_n (pc := 25) dL_refusesAny_25 rfl ?_
    refine lw_bipush (pc := 26) dL_refusesAny_26 ?_
    refine lw_irem (pc := 28) dL_refusesAny_28 s1 (by decide) ?_
    obtain ⟨s4, G⟩ := G
    refine lw_isub (pc := 29) (v := (-1) - (x1 % 99)) dL_refusesAny_29 s4 rfl ?_
    refine lw_istore_n (pc := 30) (ls' := [some (.inr (some 1)), some (.inl x1), some (.inl (256 + (x1 % 99))), some (.inl ((-1) - (x1 % 99))), none, none]) dL_refusesAny_30 (Nat.le_of_ble_eq_true rfl) rfl ?_
    refine lw_aload_n (pc := 31) dL_refusesAny_31 rfl ?_
    refine lw_iconst (pc := 32) dL_refusesAny_32 ?_
    refine lw_invV (pc := 33) (md' := m_X6_card) (as := [(.inl 0)]) dL_refusesAny_33 mo_X6_card im_X6_card se_X6_card ml_L_19 rfl rfl (by omega) (Nat.le_of_ble_eq_true rfl) rfl ⟨Nat.le_of_ble_eq_true rfl, Nat.le_of_ble_eq_true rfl⟩ (lm_mono (lm_rg (kq_card (by omega))) (fun v5 g' e => ?_))
    obtain ⟨r_v5, e_v5, rfl⟩ := e
    replace G := G v5 r_v5 e_v5
    refine lw_istore (pc := 36) (ls' := [some (.inr (some 1)), some (.inl x1), some (.inl (256 + (x1 % 99))), some (.inl ((-1) - (x1 % 99))), some (.inl v5), none]) dL_refusesAny_36 (Nat.le_of_ble_eq_true rfl) rfl ?_
    refine lw_aload_n (pc := 38) dL_refusesAny_38 rfl ?_
    refine lw_iload_n (pc := 39) dL_refusesAny_39 rfl ?_
    refine lw_invV (pc := 40) (md' := m_X6_put) (as := [(.inl (256 + (x1 % 99)))]) dL_refusesAny_40 mo_X6_put im_X6_put se_X6_put ml_L_37 rfl rfl (by omega) (Nat.le_of_ble_eq_true rfl) rfl ⟨Nat.le_of_ble_eq_true rfl, Nat.le_of_ble_eq_true rfl⟩ (lm_mono (lm_rg (kc_put (by omega))) (fun v6 g7 e => ?_))
    obtain ⟨r_v6, e_v6, f_v6⟩ := e
    replace G := G v6 g7 r_v6 e_v6 f_v6
    refine lw_bipush (pc := 43) dL_refusesAny_43 ?_
    refine lw_icmp_ne (pc := 45) (tgt := 320) dL_refusesAny_45 (by decide) (fun c8 => ?_) (fun c8 => ?_)
    · replace G := G.1 c8
      exact G
    · replace G := G.2 c8
      refine lw_iload (pc := 48) dL_refusesAny_48 rfl ?_
      refine lw_if_lt (pc := 50) (tgt := 64) dL_refusesAny_50 (by decide) (fun c9 => ?_) (fun c9 => ?_)
      · replace G := G.1 c9
        refine lw_aload_n (pc := 64) dL_refusesAny_64 rfl ?_
        refine lw_iload_n (pc := 65) dL_refusesAny_65 rfl ?_
        refine lw_invV (pc := 66) (md' := m_X6_take) (as := [(.inl (256 + (x1 % 99)))]) dL_refusesAny_66 mo_X6_take im_X6_take se_X6_take ml_L_40 rfl rfl (by omega) (Nat.le_of_ble_eq_true rfl) rfl ⟨Nat.le_of_ble_eq_true rfl, Nat.le_of_ble_eq_true rfl⟩ (lm_mono (lm_rg (kc_take (by omega))) (fun v10 g11 e => ?_))
        obtain ⟨r_v10, e_v10, f_v10⟩ := e
        replace G := G v10 g11 r_v10 e_v10 f_v10
        refine lw_iconst (pc := 69) dL_refusesAny_69 ?_
        refine lw_icmp_ne (pc := 70) (tgt := 320) dL_refusesAny_70 (by decide) (fun c12 => ?_) (fun c12 => ?_)
        · replace G := G.1 c12
          exact G
        · replace G := G.2 c12
          refine lw_aload_n (pc := 73) dL_refusesAny_73 rfl ?_
          refine lw_iload_n (pc := 74) dL_refusesAny_74 rfl ?_
          refine lw_invV (pc := 75) (md' := m_X6_sleep) (as := [(.inl (256 + (x1 % 99)))]) dL_refusesAny_75 mo_X6_sleep im_X6_sleep se_X6_sleep ml_L_43 rfl rfl (by omega) (Nat.le_of_ble_eq_true rfl) rfl ⟨Nat.le_of_ble_eq_true rfl, Nat.le_of_ble_eq_true rfl⟩ (lm_mono (lm_rg (kc_sleep (by omega))) (fun v13 g14 e => ?_))
          obtain ⟨r_v13, e_v13, f_v13⟩ := e
          replace G := G v13 g14 r_v13 e_v13 f_v13
          refine lw_iconst (pc := 78) dL_refusesAny_78 ?_
          refine lw_icmp_ne (pc := 79) (tgt := 320) dL_refusesAny_79 (by decide) (fun c15 => ?_) (fun c15 => ?_)
          · replace G := G.1 c15
            exact G
          · replace G := G.2 c15
            refine lw_iload (pc := 82) dL_refusesAny_82 rfl ?_
            refine lw_if_lt (pc := 84) (tgt := 109) dL_refusesAny_84 (by decide) (fun _ => ?_) (fun h => absurd (by omega) h)
            exact G
      · replace G := G.2 c9
        refine lw_aload_n (pc := 53) dL_refusesAny_53 rfl ?_
        refine lw_iload (pc := 54) dL_refusesAny_54 rfl ?_
        refine lw_invV (pc := 56) (md' := m_X6_put) (as := [(.inl v5)]) dL_refusesAny_56 mo_X6_put im_X6_put se_X6_put ml_L_37 rfl rfl (by omega) (Nat.le_of_ble_eq_true rfl) rfl ⟨Nat.le_of_ble_eq_true rfl, Nat.le_of_ble_eq_true rfl⟩ (lm_mono (lm_rg (kc_put (by omega))) (fun v17 g18 e => ?_))
        obtain ⟨r_v17, e_v17, f_v17⟩ := e
        replace G := G v17 g18 r_v17 e_v17 f_v17
        refine lw_bipush (pc := 59) dL_refusesAny_59 ?_
        refine lw_icmp_ne (pc := 61) (tgt := 320) dL_refusesAny_61 (by decide) (fun c19 => ?_) (fun c19 => ?_)
        · replace G := G.1 c19
          exact G
        · replace G := G.2 c19
          refine lw_aload_n (pc := 64) dL_refusesAny_64 rfl ?_
          refine lw_iload_n (pc := 65) dL_refusesAny_65 rfl ?_
          refine lw_invV (pc := 66) (md' := m_X6_take) (as := [(.inl (256 + (x1 % 99)))]) dL_refusesAny_66 mo_X6_take im_X6_take se_X6_take ml_L_40 rfl rfl (by omega) (Nat.le_of_ble_eq_true rfl) rfl ⟨Nat.le_of_ble_eq_true rfl, Nat.le_of_ble_eq_true rfl⟩ (lm_mono (lm_rg (kc_take (by omega))) (fun v20 g21 e => ?_))
          obtain ⟨r_v20, e_v20, f_v20⟩ := e
          replace G := G v20 g21 r_v20 e_v20 f_v20
          refine lw_iconst (pc := 69) dL_refusesAny_69 ?_
          refine lw_icmp_ne (pc := 70) (tgt := 320) dL_refusesAny_70 (by decide) (fun c22 => ?_) (fun c22 => ?_)
          · replace G := G.1 c22
            exact G
          · replace G := G.2 c22
            refine lw_aload_n (pc := 73) dL_refusesAny_73 rfl ?_
            refine lw_iload_n (pc := 74) dL_refusesAny_74 rfl ?_
            refine lw_invV (pc := 75) (md' := m_X6_sleep) (as := [(.inl (256 + (x1 % 99)))]) dL_refusesAny_75 mo_X6_sleep im_X6_sleep se_X6_sleep ml_L_43 rfl rfl (by omega) (Nat.le_of_ble_eq_true rfl) rfl ⟨Nat.le_of_ble_eq_true rfl, Nat.le_of_ble_eq_true rfl⟩ (lm_mono (lm_rg (kc_sleep (by omega))) (fun v23 g24 e => ?_))
            obtain ⟨r_v23, e_v23, f_v23⟩ := e
            replace G := G v23 g24 r_v23 e_v23 f_v23
            refine lw_iconst (pc := 78) dL_refusesAny_78 ?_
            refine lw_icmp_ne (pc := 79) (tgt := 320) dL_refusesAny_79 (by decide) (fun c25 => ?_) (fun c25 => ?_)
            · replace G := G.1 c25
              exact G
            · replace G := G.2 c25
              refine lw_iload (pc := 82) dL_refusesAny_82 rfl ?_
              refine lw_if_lt (pc := 84) (tgt := 109) dL_refusesAny_84 (by decide) (fun h => absurd h (by omega)) (fun _ => ?_)
              refine lw_aload_n (pc := 87) dL_refusesAny_87 rfl ?_
              refine lw_iload (pc := 88) dL_refusesAny_88 rfl ?_
              refine lw_iconst (pc := 90) dL_refusesAny_90 ?_
              refine lw_invV (pc := 91) (md' := m_X6_ofCard) (as := [(.inl v5), (.inl 0)]) dL_refusesAny_91 mo_X6_ofCard im_X6_ofCard se_X6_ofCard ml_L_22 rfl rfl (by omega) (Nat.le_of_ble_eq_true rfl) rfl ⟨Nat.le_of_ble_eq_true rfl, Nat.le_of_ble_eq_true rfl⟩ (lm_mono (lm_rg (kq_ofCard (by omega))) (fun v27 g' e => ?_))
              obtain ⟨r_v27, e_v27, rfl⟩ := e
              replace G := G v27 r_v27 e_v27
              refine lw_iconst (pc := 94) dL_refusesAny_94 ?_
              refine lw_icmp_eq (pc := 95) (tgt := 109) dL_refusesAny_95 (by decide) (fun c28 => ?_) (fun c28 => ?_)
              · replace G := G.1 c28
                exact G
              · replace G := G.2 c28
                refine lw_aload_n (pc := 98) dL_refusesAny_98 rfl ?_
                refine lw_iload (pc := 99) dL_refusesAny_99 rfl ?_
                refine lw_invV (pc := 101) (md' := m_X6_sleep) (as := [(.inl v5)]) dL_refusesAny_101 mo_X6_sleep im_X6_sleep se_X6_sleep ml_L_43 rfl rfl (by omega) (Nat.le_of_ble_eq_true rfl) rfl ⟨Nat.le_of_ble_eq_true rfl, Nat.le_of_ble_eq_true rfl⟩ (lm_mono (lm_rg (kc_sleep (by omega))) (fun v29 g30 e => ?_))
                obtain ⟨r_v29, e_v29, f_v29⟩ := e
                replace G := G v29 g30 r_v29 e_v29 f_v29
                refine lw_bipush (pc := 104) dL_refusesAny_104 ?_
                refine lw_icmp_ne (pc := 106) (tgt := 320) dL_refusesAny_106 (by decide) (fun c31 => ?_) (fun c31 => ?_)
                · replace G := G.1 c31
                  exact G
                · replace G := G.2 c31
                  exact G
  · replace G := G.2 c2
    refine lw_iconst (pc := 6) dL_refusesAny_6 ?_
    refine lw_iload_n (pc := 7) dL_refusesAny_7 rfl ?_
    refine lw_bipush (pc := 8) dL_refusesAny_8 ?_
    refine lw_irem (pc := 10) dL_refusesAny_10 s1 (by decide) ?_
    obtain ⟨s32, G⟩ := G
    refine lw_isub (pc := 11) (v := (-1) - (x1 % 99)) dL_refusesAny_11 s32 rfl ?_
    refine lw_goto (pc := 12) (tgt := 23) dL_refusesAny_12 (by decide) ?_
    refine lw_istore_n (pc := 23) (ls' := [some (.inr (some 1)), some (.inl x1), some (.inl ((-1) - (x1 % 99))), none, none, none]) dL_refusesAny_23 (Nat.le_of_ble_eq_true rfl) rfl ?_
    refine lw_iconst (pc := 24) dL_refusesAny_24 ?_
    refine lw_iload_n (pc := 25) dL_refusesAny_25 rfl ?_
    refine lw_bipush (pc := 26) dL_refusesAny_26 ?_
    refine lw_irem (pc := 28) dL_refusesAny_28 s1 (by decide) ?_
    refine lw_isub (pc := 29) (v := (-1) - (x1 % 99)) dL_refusesAny_29 s32 rfl ?_
    refine lw_istore_n (pc := 30) (ls' := [some (.inr (some 1)), some (.inl x1), some (.inl ((-1) - (x1 % 99))), some (.inl ((-1) - (x1 % 99))), none, none]) dL_refusesAny_30 (Nat.le_of_ble_eq_true rfl) rfl ?_
    refine lw_aload_n (pc := 31) dL_refusesAny_31 rfl ?_
    refine lw_iconst (pc := 32) dL_refusesAny_32 ?_
    refine lw_invV (pc := 33) (md' := m_X6_card) (as := [(.inl 0)]) dL_refusesAny_33 mo_X6_card im_X6_card se_X6_card ml_L_19 rfl rfl (by omega) (Nat.le_of_ble_eq_true rfl) rfl ⟨Nat.le_of_ble_eq_true rfl, Nat.le_of_ble_eq_true rfl⟩ (lm_mono (lm_rg (kq_card (by omega))) (fun v33 g' e => ?_))
    obtain ⟨r_v33, e_v33, rfl⟩ := e
    replace G := G v33 r_v33 e_v33
    refine lw_istore (pc := 36) (ls' := [some (.inr (some 1)), some (.inl x1), some (.inl ((-1) - (x1 % 99))), some (.inl ((-1) - (x1 % 99))), some (.inl v33), none]) dL_refusesAny_36 (Nat.le_of_ble_eq_true rfl) rfl ?_
    refine lw_aload_n (pc := 38) dL_refusesAny_38 rfl ?_
    refine lw_iload_n (pc := 39) dL_refusesAny_39 rfl ?_
    refine lw_invV (pc := 40) (md' := m_X6_put) (as := [(.inl ((-1) - (x1 % 99)))]) dL_refusesAny_40 mo_X6_put im_X6_put se_X6_put ml_L_37 rfl rfl (by omega) (Nat.le_of_ble_eq_true rfl) rfl ⟨Nat.le_of_ble_eq_true rfl, Nat.le_of_ble_eq_true rfl⟩ (lm_mono (lm_rg (kc_put (by omega))) (fun v34 g35 e => ?_))
    obtain ⟨r_v34, e_v34, f_v34⟩ := e
    replace G := G v34 g35 r_v34 e_v34 f_v34
    refine lw_bipush (pc := 43) dL_refusesAny_43 ?_
    refine lw_icmp_ne (pc := 45) (tgt := 320) dL_refusesAny_45 (by decide) (fun c36 => ?_) (fun c36 => ?_)
    · replace G := G.1 c36
      exact G
    · replace G := G.2 c36
      refine lw_iload (pc := 48) dL_refusesAny_48 rfl ?_
      refine lw_if_lt (pc := 50) (tgt := 64) dL_refusesAny_50 (by decide) (fun c37 => ?_) (fun c37 => ?_)
      · replace G := G.1 c37
        refine lw_aload_n (pc := 64) dL_refusesAny_64 rfl ?_
        refine lw_iload_n (pc := 65) dL_refusesAny_65 rfl ?_
        refine lw_invV (pc := 66) (md' := m_X6_take) (as := [(.inl ((-1) - (x1 % 99)))]) dL_refusesAny_66 mo_X6_take im_X6_take se_X6_take ml_L_40 rfl rfl (by omega) (Nat.le_of_ble_eq_true rfl) rfl ⟨Nat.le_of_ble_eq_true rfl, Nat.le_of_ble_eq_true rfl⟩ (lm_mono (lm_rg (kc_take (by omega))) (fun v38 g39 e => ?_))
        obtain ⟨r_v38, e_v38, f_v38⟩ := e
        replace G := G v38 g39 r_v38 e_v38 f_v38
        refine lw_iconst (pc := 69) dL_refusesAny_69 ?_
        refine lw_icmp_ne (pc := 70) (tgt := 320) dL_refusesAny_70 (by decide) (fun c40 => ?_) (fun c40 => ?_)
        · replace G := G.1 c40
          exact G
        · replace G := G.2 c40
          refine lw_aload_n (pc := 73) dL_refusesAny_73 rfl ?_
          refine lw_iload_n (pc := 74) dL_refusesAny_74 rfl ?_
          refine lw_invV (pc := 75) (md' := m_X6_sleep) (as := [(.inl ((-1) - (x1 % 99)))]) dL_refusesAny_75 mo_X6_sleep im_X6_sleep se_X6_sleep ml_L_43 rfl rfl (by omega) (Nat.le_of_ble_eq_true rfl) rfl ⟨Nat.le_of_ble_eq_true rfl, Nat.le_of_ble_eq_true rfl⟩ (lm_mono (lm_rg (kc_sleep (by omega))) (fun v41 g42 e => ?_))
          obtain ⟨r_v41, e_v41, f_v41⟩ := e
          replace G := G v41 g42 r_v41 e_v41 f_v41
          refine lw_iconst (pc := 78) dL_refusesAny_78 ?_
          refine lw_icmp_ne (pc := 79) (tgt := 320) dL_refusesAny_79 (by decide) (fun c43 => ?_) (fun c43 => ?_)
          · replace G := G.1 c43
            exact G
          · replace G := G.2 c43
            refine lw_iload (pc := 82) dL_refusesAny_82 rfl ?_
            refine lw_if_lt (pc := 84) (tgt := 109) dL_refusesAny_84 (by decide) (fun _ => ?_) (fun h => absurd (by omega) h)
            exact G
      · replace G := G.2 c37
        refine lw_aload_n (pc := 53) dL_refusesAny_53 rfl ?_
        refine lw_iload (pc := 54) dL_refusesAny_54 rfl ?_
        refine lw_invV (pc := 56) (md' := m_X6_put) (as := [(.inl v33)]) dL_refusesAny_56 mo_X6_put im_X6_put se_X6_put ml_L_37 rfl rfl (by omega) (Nat.le_of_ble_eq_true rfl) rfl ⟨Nat.le_of_ble_eq_true rfl, Nat.le_of_ble_eq_true rfl⟩ (lm_mono (lm_rg (kc_put (by omega))) (fun v45 g46 e => ?_))
        obtain ⟨r_v45, e_v45, f_v45⟩ := e
        replace G := G v45 g46 r_v45 e_v45 f_v45
        refine lw_bipush (pc := 59) dL_refusesAny_59 ?_
        refine lw_icmp_ne (pc := 61) (tgt := 320) dL_refusesAny_61 (by decide) (fun c47 => ?_) (fun c47 => ?_)
        · replace G := G.1 c47
          exact G
        · replace G := G.2 c47
          refine lw_aload_n (pc := 64) dL_refusesAny_64 rfl ?_
          refine lw_iload_n (pc := 65) dL_refusesAny_65 rfl ?_
          refine lw_invV (pc := 66) (md' := m_X6_take) (as := [(.inl ((-1) - (x1 % 99)))]) dL_refusesAny_66 mo_X6_take im_X6_take se_X6_take ml_L_40 rfl rfl (by omega) (Nat.le_of_ble_eq_true rfl) rfl ⟨Nat.le_of_ble_eq_true rfl, Nat.le_of_ble_eq_true rfl⟩ (lm_mono (lm_rg (kc_take (by omega))) (fun v48 g49 e => ?_))
          obtain ⟨r_v48, e_v48, f_v48⟩ := e
          replace G := G v48 g49 r_v48 e_v48 f_v48
          refine lw_iconst (pc := 69) dL_refusesAny_69 ?_
          refine lw_icmp_ne (pc := 70) (tgt := 320) dL_refusesAny_70 (by decide) (fun c50 => ?_) (fun c50 => ?_)
          · replace G := G.1 c50
            exact G
          · replace G := G.2 c50
            refine lw_aload_n (pc := 73) dL_refusesAny_73 rfl ?_
            refine lw_iload_n (pc := 74) dL_refusesAny_74 rfl ?_
            refine lw_invV (pc := 75) (md' := m_X6_sleep) (as := [(.inl ((-1) - (x1 % 99)))]) dL_refusesAny_75 mo_X6_sleep im_X6_sleep se_X6_sleep ml_L_43 rfl rfl (by omega) (Nat.le_of_ble_eq_true rfl) rfl ⟨Nat.le_of_ble_eq_true rfl, Nat.le_of_ble_eq_true rfl⟩ (lm_mono (lm_rg (kc_sleep (by omega))) (fun v51 g52 e => ?_))
            obtain ⟨r_v51, e_v51, f_v51⟩ := e
            replace G := G v51 g52 r_v51 e_v51 f_v51
            refine lw_iconst (pc := 78) dL_refusesAny_78 ?_
            refine lw_icmp_ne (pc := 79) (tgt := 320) dL_refusesAny_79 (by decide) (fun c53 => ?_) (fun c53 => ?_)
            · replace G := G.1 c53
              exact G
            · replace G := G.2 c53
              refine lw_iload (pc := 82) dL_refusesAny_82 rfl ?_
              refine lw_if_lt (pc := 84) (tgt := 109) dL_refusesAny_84 (by decide) (fun h => absurd h (by omega)) (fun _ => ?_)
              refine lw_aload_n (pc := 87) dL_refusesAny_87 rfl ?_
              refine lw_iload (pc := 88) dL_refusesAny_88 rfl ?_
              refine lw_iconst (pc := 90) dL_refusesAny_90 ?_
              refine lw_invV (pc := 91) (md' := m_X6_ofCard) (as := [(.inl v33), (.inl 0)]) dL_refusesAny_91 mo_X6_ofCard im_X6_ofCard se_X6_ofCard ml_L_22 rfl rfl (by omega) (Nat.le_of_ble_eq_true rfl) rfl ⟨Nat.le_of_ble_eq_true rfl, Nat.le_of_ble_eq_true rfl⟩ (lm_mono (lm_rg (kq_ofCard (by omega))) (fun v55 g' e => ?_))
              obtain ⟨r_v55, e_v55, rfl⟩ := e
              replace G := G v55 r_v55 e_v55
              refine lw_iconst (pc := 94) dL_refusesAny_94 ?_
              refine lw_icmp_eq (pc := 95) (tgt := 109) dL_refusesAny_95 (by decide) (fun c56 => ?_) (fun c56 => ?_)
              · replace G := G.1 c56
                exact G
              · replace G := G.2 c56
                refine lw_aload_n (pc := 98) dL_refusesAny_98 rfl ?_
                refine lw_iload (pc := 99) dL_refusesAny_99 rfl ?_
                refine lw_invV (pc := 101) (md' := m_X6_sleep) (as := [(.inl v33)]) dL_refusesAny_101 mo_X6_sleep im_X6_sleep se_X6_sleep ml_L_43 rfl rfl (by omega) (Nat.le_of_ble_eq_true rfl) rfl ⟨Nat.le_of_ble_eq_true rfl, Nat.le_of_ble_eq_true rfl⟩ (lm_mono (lm_rg (kc_sleep (by omega))) (fun v57 g58 e => ?_))
                obtain ⟨r_v57, e_v57, f_v57⟩ := e
                replace G := G v57 g58 r_v57 e_v57 f_v57
                refine lw_bipush (pc := 104) dL_refusesAny_104 ?_
                refine lw_icmp_ne (pc := 106) (tgt := 320) dL_refusesAny_106 (by decide) (fun c59 => ?_) (fun c59 => ?_)
                · replace G := G.1 c59
                  exact G
                · replace G := G.2 c59
                  exact G
set_option maxRecDepth 100000 in
set_option maxHeartbeats 4000000 in
theorem lc_refusesAny_109 {d : Nat} {P : Int → Gs → Prop} {g : Gs} {x1 x2 x3 x4 : Int} (hd : 20 ≤ d)
  (G :
    (∀ v1 : Int, rg v1 → v1 = totO 1 g → (
      (∀ v2 : Int, rg v2 → v2 = totO 0 g → (
        ((v1 < v2 → (
          LW m_L_refusesAny d none P 131 [some (.inr (some 1)), some (.inl x1), some (.inl x2), some (.inl x3), some (.inl x4), none] [] g (0, 0)
          )) ∧ (¬ (v1 < v2) → (
          (∀ (v4 : Int) (g5 : Gs), rg v4 → v4 = (recG (wakeO g.1) g).1 → g5 = (recG (wakeO g.1) g).2 → (
            ((¬ v4 = (-5) → (
              LW m_L_refusesAny d none P 320 [some (.inr (some 1)), some (.inl x1), some (.inl x2), some (.inl x3), some (.inl x4), none] [] g5 (0, 0)
              )) ∧ (¬ (¬ v4 = (-5)) → (
              LW m_L_refusesAny d none P 131 [some (.inr (some 1)), some (.inl x1), some (.inl x2), some (.inl x3), some (.inl x4), none] [] g5 (0, 0)
              )))))
          )))))))) :
  LW m_L_refusesAny d none P 109 [some (.inr (some 1)), some (.inl x1), some (.inl x2), some (.inl x3), some (.inl x4), none] [] g (0, 0) := by
  refine lw_aload_n (pc := 109) dL_refusesAny_109 rfl ?_
  refine lw_iconst (pc := 110) dL_refusesAny_110 ?_
  refine lw_invV (pc := 111) (md' := m_X6_total) (as := [(.inl 1)]) dL_refusesAny_111 mo_X6_total im_X6_total se_X6_total ml_L_13 rfl rfl (by omega) (Nat.le_of_ble_eq_true rfl) rfl ⟨Nat.le_of_ble_eq_true rfl, Nat.le_of_ble_eq_true rfl⟩ (lm_mono (lm_rg (kq_total (by omega))) (fun v1 g' e => ?_))
  obtain ⟨r_v1, e_v1, rfl⟩ := e
  replace G := G v1 r_v1 e_v1
  refine lw_aload_n (pc := 114) dL_refusesAny_114 rfl ?_
  refine lw_iconst (pc := 115) dL_refusesAny_115 ?_
  refine lw_invV (pc := 116) (md' := m_X6_total) (as := [(.inl 0)]) dL_refusesAny_116 mo_X6_total im_X6_total se_X6_total ml_L_13 rfl rfl (by omega) (Nat.le_of_ble_eq_true rfl) rfl ⟨Nat.le_of_ble_eq_true rfl, Nat.le_of_ble_eq_true rfl⟩ (lm_mono (lm_rg (kq_total (by omega))) (fun v2 g' e => ?_))
  obtain ⟨r_v2, e_v2, rfl⟩ := e
  replace G := G v2 r_v2 e_v2
  refine lw_icmp_lt (pc := 119) (tgt := 131) dL_refusesAny_119 (by decide) (fun c3 => ?_) (fun c3 => ?_)
  · replace G := G.1 c3
    exact G
  · replace G := G.2 c3
    refine lw_aload_n (pc := 122) dL_refusesAny_122 rfl ?_
    refine lw_invV (pc := 123) (md' := m_X6_wakeAll) (as := []) dL_refusesAny_123 mo_X6_wakeAll im_X6_wakeAll se_X6_wakeAll ml_L_46 rfl rfl (by omega) (Nat.le_of_ble_eq_true rfl) rfl ⟨Nat.le_of_ble_eq_true rfl, Nat.le_of_ble_eq_true rfl⟩ (lm_mono (lm_rg (kc_wakeAll (by omega))) (fun v4 g5 e => ?_))
    obtain ⟨r_v4, e_v4, f_v4⟩ := e
    replace G := G v4 g5 r_v4 e_v4 f_v4
    refine lw_bipush (pc := 126) dL_refusesAny_126 ?_
    refine lw_icmp_ne (pc := 128) (tgt := 320) dL_refusesAny_128 (by decide) (fun c6 => ?_) (fun c6 => ?_)
    · replace G := G.1 c6
      exact G
    · replace G := G.2 c6
      exact G
set_option maxRecDepth 100000 in
set_option maxHeartbeats 4000000 in
theorem lc_refusesAny_131 {d : Nat} {P : Int → Gs → Prop} {g : Gs} {x1 x2 x3 x4 : Int} (hd : 20 ≤ d)
  (G :
    (∀ (v1 : Int) (g2 : Gs), rg v1 → v1 = (recG (leaveO x2 201 g.1) g).1 → g2 = (recG (leaveO x2 201 g.1) g).2 → (
      ((¬ v1 = (-1) → (
        LW m_L_refusesAny d none P 320 [some (.inr (some 1)), some (.inl x1), some (.inl x2), some (.inl x3), some (.inl x4), none] [] g2 (0, 0)
        )) ∧ (¬ (¬ v1 = (-1)) → (
        ((x4 < 0 → (
          (0 ≤ x1 ∧ x1 < 2147483648) ∧
          ((¬ x1 % 2 = 0 → (
            (∀ (v7 : Int) (g8 : Gs), rg v7 → v7 = (recG (setO 2 0 g2.1) g2).1 → g8 = (recG (setO 2 0 g2.1) g2).2 → (
              ((¬ v7 = (-1) → (
                LW m_L_refusesAny d none P 320 [some (.inr (some 1)), some (.inl x1), some (.inl x2), some (.inl x3), some (.inl x4), none] [] g8 (0, 0)
                )) ∧ (¬ (¬ v7 = (-1)) → (
                (∀ (v11 : Int) (g12 : Gs), rg v11 → v11 = (recG (setO 0 2 g8.1) g8).1 → g12 = (recG (setO 0 2 g8.1) g8).2 → (
                  ((¬ v11 = (-2) → (
                    LW m_L_refusesAny d none P 320 [some (.inr (some 1)), some (.inl x1), some (.inl x2), some (.inl x3), some (.inl x4), none] [] g12 (0, 0)
                    )) ∧ (¬ (¬ v11 = (-2)) → (
                    (∀ (v15 : Int) (g16 : Gs), rg v15 → v15 = (recG (setO 1 3 g12.1) g12).1 → g16 = (recG (setO 1 3 g12.1) g12).2 → (
                      ((¬ v15 = (-2) → (
                        LW m_L_refusesAny d none P 320 [some (.inr (some 1)), some (.inl x1), some (.inl x2), some (.inl x3), some (.inl x4), none] [] g16 (0, 0)
                        )) ∧ (¬ (¬ v15 = (-2)) → (
                        (rg (11 + (x1 % 2))) ∧
                        (∀ v19 : Int, rg v19 → v19 = totO (11 + (x1 % 2)) g16 → (
                          (∀ (v20 : Int) (g21 : Gs), rg v20 → v20 = (recG (setO (x1 % 2) v19 g16.1) g16).1 → g21 = (recG (setO (x1 % 2) v19 g16.1) g16).2 → (
                            ((¬ v20 = (-5) → (
                              LW m_L_refusesAny d none P 320 [some (.inr (some 1)), some (.inl x1), some (.inl x2), some (.inl x3), some (.inl x4), none] [] g21 (0, 0)
                              )) ∧ (¬ (¬ v20 = (-5)) → (
                              (x3 < 2147483648) ∧
                              (∀ (v23 : Int) (g24 : Gs), rg v23 → v23 = (recG (shufO x3 g21.1) g21).1 → g24 = (recG (shufO x3 g21.1) g21).2 → (
                                ((¬ v23 = (-2) → (
                                  LW m_L_refusesAny d none P 320 [some (.inr (some 1)), some (.inl x1), some (.inl x2), some (.inl x3), some (.inl x4), none] [] g24 (0, 0)
                                  )) ∧ (¬ (¬ v23 = (-2)) → (
                                  (∀ v27 : Int, rg v27 → v27 = totO 13 g24 → (
                                    (v27 < 2147483648) ∧
                                    (∀ (v28 : Int) (g29 : Gs), rg v28 → v28 = (recG (shufO v27 g24.1) g24).1 → g29 = (recG (shufO v27 g24.1) g24).2 → (
                                      ((¬ v28 = (-5) → (
                                        LW m_L_refusesAny d none P 320 [some (.inr (some 1)), some (.inl x1), some (.inl x2), some (.inl x3), some (.inl x4), none] [] g29 (0, 0)
                                        )) ∧ (¬ (¬ v28 = (-5)) → (
                                        (∀ v32 : Int, rg v32 → v32 = totO 3 g29 → (
                                          ((0 < v32 → (
                                            LW m_L_refusesAny d none P 328 [some (.inr (some 1)), some (.inl x1), some (.inl x2), some (.inl x3), some (.inl x4), some (.inl 1)] [] g29 (0, 0)
                                            )) ∧ (¬ (0 < v32) → (
                                            (∀ (v35 : Int) (g36 : Gs), rg v35 → v35 = (recG (forgO g29.1) g29).1 → g36 = (recG (forgO g29.1) g29).2 → (
                                              ((¬ v35 = (-5) → (
                                                LW m_L_refusesAny d none P 320 [some (.inr (some 1)), some (.inl x1), some (.inl x2), some (.inl x3), some (.inl x4), none] [] g36 (0, 0)
                                                )) ∧ (¬ (¬ v35 = (-5)) → (
                                                LW m_L_refusesAny d none P 328 [some (.inr (some 1)), some (.inl x1), some (.inl x2), some (.inl x3), some (.inl x4), some (.inl 1)] [] g36 (0, 0)
                                                )))))
                                            )))))
                                        )))))))
                                  )))))
                              )))))))
                        )))))
                    )))))
                )))))
            )) ∧ (¬ (¬ x1 % 2 = 0) → (
            (∀ (v39 : Int) (g40 : Gs), rg v39 → v39 = (recG (setO (-1) 0 g2.1) g2).1 → g40 = (recG (setO (-1) 0 g2.1) g2).2 → (
              ((¬ v39 = (-1) → (
                LW m_L_refusesAny d none P 320 [some (.inr (some 1)), some (.inl x1), some (.inl x2), some (.inl x3), some (.inl x4), none] [] g40 (0, 0)
                )) ∧ (¬ (¬ v39 = (-1)) → (
                (∀ (v43 : Int) (g44 : Gs), rg v43 → v43 = (recG (setO 0 (-1) g40.1) g40).1 → g44 = (recG (setO 0 (-1) g40.1) g40).2 → (
                  ((¬ v43 = (-2) → (
                    LW m_L_refusesAny d none P 320 [some (.inr (some 1)), some (.inl x1), some (.inl x2), some (.inl x3), some (.inl x4), none] [] g44 (0, 0)
                    )) ∧ (¬ (¬ v43 = (-2)) → (
                    (∀ (v47 : Int) (g48 : Gs), rg v47 → v47 = (recG (setO 1 (-1) g44.1) g44).1 → g48 = (recG (setO 1 (-1) g44.1) g44).2 → (
                      ((¬ v47 = (-2) → (
                        LW m_L_refusesAny d none P 320 [some (.inr (some 1)), some (.inl x1), some (.inl x2), some (.inl x3), some (.inl x4), none] [] g48 (0, 0)
                        )) ∧ (¬ (¬ v47 = (-2)) → (
                        (rg (11 + (x1 % 2))) ∧
                        (∀ v51 : Int, rg v51 → v51 = totO (11 + (x1 % 2)) g48 → (
                          (∀ (v52 : Int) (g53 : Gs), rg v52 → v52 = (recG (setO (x1 % 2) v51 g48.1) g48).1 → g53 = (recG (setO (x1 % 2) v51 g48.1) g48).2 → (
                            ((¬ v52 = (-5) → (
                              LW m_L_refusesAny d none P 320 [some (.inr (some 1)), some (.inl x1), some (.inl x2), some (.inl x3), some (.inl x4), none] [] g53 (0, 0)
                              )) ∧ (¬ (¬ v52 = (-5)) → (
                              (x3 < 2147483648) ∧
                              (∀ (v55 : Int) (g56 : Gs), rg v55 → v55 = (recG (shufO x3 g53.1) g53).1 → g56 = (recG (shufO x3 g53.1) g53).2 → (
                                ((¬ v55 = (-2) → (
                                  LW m_L_refusesAny d none P 320 [some (.inr (some 1)), some (.inl x1), some (.inl x2), some (.inl x3), some (.inl x4), none] [] g56 (0, 0)
                                  )) ∧ (¬ (¬ v55 = (-2)) → (
                                  (∀ v59 : Int, rg v59 → v59 = totO 13 g56 → (
                                    (v59 < 2147483648) ∧
                                    (∀ (v60 : Int) (g61 : Gs), rg v60 → v60 = (recG (shufO v59 g56.1) g56).1 → g61 = (recG (shufO v59 g56.1) g56).2 → (
                                      ((¬ v60 = (-5) → (
                                        LW m_L_refusesAny d none P 320 [some (.inr (some 1)), some (.inl x1), some (.inl x2), some (.inl x3), some (.inl x4), none] [] g61 (0, 0)
                                        )) ∧ (¬ (¬ v60 = (-5)) → (
                                        (∀ v64 : Int, rg v64 → v64 = totO 3 g61 → (
                                          ((0 < v64 → (
                                            LW m_L_refusesAny d none P 328 [some (.inr (some 1)), some (.inl x1), some (.inl x2), some (.inl x3), some (.inl x4), some (.inl 1)] [] g61 (0, 0)
                                            )) ∧ (¬ (0 < v64) → (
                                            (∀ (v67 : Int) (g68 : Gs), rg v67 → v67 = (recG (forgO g61.1) g61).1 → g68 = (recG (forgO g61.1) g61).2 → (
                                              ((¬ v67 = (-5) → (
                                                LW m_L_refusesAny d none P 320 [some (.inr (some 1)), some (.inl x1), some (.inl x2), some (.inl x3), some (.inl x4), none] [] g68 (0, 0)
                                                )) ∧ (¬ (¬ v67 = (-5)) → (
                                                LW m_L_refusesAny d none P 328 [some (.inr (some 1)), some (.inl x1), some (.inl x2), some (.inl x3), some (.inl x4), some (.inl 1)] [] g68 (0, 0)
                                                )))))
                                            )))))
                                        )))))))
                                  )))))
                              )))))))
                        )))))
                    )))))
                )))))
            )))
          )) ∧ (¬ (x4 < 0) → (
          (0 ≤ x1 ∧ x1 < 2147483648) ∧
          ((¬ x1 % 2 = 0 → (
            (∀ (v73 : Int) (g74 : Gs), rg v73 → v73 = (recG (leaveO x4 201 g2.1) g2).1 → g74 = (recG (leaveO x4 201 g2.1) g2).2 → (
              ((¬ v73 = (-2) → (
                LW m_L_refusesAny d none P 320 [some (.inr (some 1)), some (.inl x1), some (.inl x2), some (.inl x3), some (.inl x4), none] [] g74 (0, 0)
                )) ∧ (¬ (¬ v73 = (-2)) → (
                (∀ v76 : Int, rg v76 → v76 = ofO x4 1 g74.1.1 → (
                  (∀ (v77 : Int) (g78 : Gs), rg v77 → v77 = (recG (leaveO x4 v76 g74.1) g74).1 → g78 = (recG (leaveO x4 v76 g74.1) g74).2 → (
                    ((¬ v77 = (-5) → (
                      LW m_L_refusesAny d none P 320 [some (.inr (some 1)), some (.inl x1), some (.inl x2), some (.inl x3), some (.inl x4), none] [] g78 (0, 0)
                      )) ∧ (¬ (¬ v77 = (-5)) → (
                      (∀ (v81 : Int) (g82 : Gs), rg v81 → v81 = (recG (setO 2 0 g78.1) g78).1 → g82 = (recG (setO 2 0 g78.1) g78).2 → (
                        ((¬ v81 = (-1) → (
                          LW m_L_refusesAny d none P 320 [some (.inr (some 1)), some (.inl x1), some (.inl x2), some (.inl x3), some (.inl x4), none] [] g82 (0, 0)
                          )) ∧ (¬ (¬ v81 = (-1)) → (
                          (∀ (v85 : Int) (g86 : Gs), rg v85 → v85 = (recG (setO 0 2 g82.1) g82).1 → g86 = (recG (setO 0 2 g82.1) g82).2 → (
                            ((¬ v85 = (-2) → (
                              LW m_L_refusesAny d none P 320 [some (.inr (some 1)), some (.inl x1), some (.inl x2), some (.inl x3), some (.inl x4), none] [] g86 (0, 0)
                              )) ∧ (¬ (¬ v85 = (-2)) → (
                              (∀ (v89 : Int) (g90 : Gs), rg v89 → v89 = (recG (setO 1 3 g86.1) g86).1 → g90 = (recG (setO 1 3 g86.1) g86).2 → (
                                ((¬ v89 = (-2) → (
                                  LW m_L_refusesAny d none P 320 [some (.inr (some 1)), some (.inl x1), some (.inl x2), some (.inl x3), some (.inl x4), none] [] g90 (0, 0)
                                  )) ∧ (¬ (¬ v89 = (-2)) → (
                                  (rg (11 + (x1 % 2))) ∧
                                  (∀ v93 : Int, rg v93 → v93 = totO (11 + (x1 % 2)) g90 → (
                                    (∀ (v94 : Int) (g95 : Gs), rg v94 → v94 = (recG (setO (x1 % 2) v93 g90.1) g90).1 → g95 = (recG (setO (x1 % 2) v93 g90.1) g90).2 → (
                                      ((¬ v94 = (-5) → (
                                        LW m_L_refusesAny d none P 320 [some (.inr (some 1)), some (.inl x1), some (.inl x2), some (.inl x3), some (.inl x4), none] [] g95 (0, 0)
                                        )) ∧ (¬ (¬ v94 = (-5)) → (
                                        (x3 < 2147483648) ∧
                                        (∀ (v97 : Int) (g98 : Gs), rg v97 → v97 = (recG (shufO x3 g95.1) g95).1 → g98 = (recG (shufO x3 g95.1) g95).2 → (
                                          ((¬ v97 = (-2) → (
                                            LW m_L_refusesAny d none P 320 [some (.inr (some 1)), some (.inl x1), some (.inl x2), some (.inl x3), some (.inl x4), none] [] g98 (0, 0)
                                            )) ∧ (¬ (¬ v97 = (-2)) → (
                                            (∀ v101 : Int, rg v101 → v101 = totO 13 g98 → (
                                              (v101 < 2147483648) ∧
                                              (∀ (v102 : Int) (g103 : Gs), rg v102 → v102 = (recG (shufO v101 g98.1) g98).1 → g103 = (recG (shufO v101 g98.1) g98).2 → (
                                                ((¬ v102 = (-5) → (
                                                  LW m_L_refusesAny d none P 320 [some (.inr (some 1)), some (.inl x1), some (.inl x2), some (.inl x3), some (.inl x4), none] [] g103 (0, 0)
                                                  )) ∧ (¬ (¬ v102 = (-5)) → (
                                                  (∀ v106 : Int, rg v106 → v106 = totO 3 g103 → (
                                                    ((0 < v106 → (
                                                      LW m_L_refusesAny d none P 328 [some (.inr (some 1)), some (.inl x1), some (.inl x2), some (.inl x3), some (.inl x4), some (.inl 1)] [] g103 (0, 0)
                                                      )) ∧ (¬ (0 < v106) → (
                                                      (∀ (v109 : Int) (g110 : Gs), rg v109 → v109 = (recG (forgO g103.1) g103).1 → g110 = (recG (forgO g103.1) g103).2 → (
                                                        ((¬ v109 = (-5) → (
                                                          LW m_L_refusesAny d none P 320 [some (.inr (some 1)), some (.inl x1), some (.inl x2), some (.inl x3), some (.inl x4), none] [] g110 (0, 0)
                                                          )) ∧ (¬ (¬ v109 = (-5)) → (
                                                          LW m_L_refusesAny d none P 328 [some (.inr (some 1)), some (.inl x1), some (.inl x2), some (.inl x3), some (.inl x4), some (.inl 1)] [] g110 (0, 0)
                                                          )))))
                                                      )))))
                                                  )))))))
                                            )))))
                                        )))))))
                                  )))))
                              )))))
                          )))))
                      )))))))
                )))))
            )) ∧ (¬ (¬ x1 % 2 = 0) → (
            (∀ (v113 : Int) (g114 : Gs), rg v113 → v113 = (recG (leaveO x4 (-1) g2.1) g2).1 → g114 = (recG (leaveO x4 (-1) g2.1) g2).2 → (
              ((¬ v113 = (-2) → (
                LW m_L_refusesAny d none P 320 [some (.inr (some 1)), some (.inl x1), some (.inl x2), some (.inl x3), some (.inl x4), none] [] g114 (0, 0)
                )) ∧ (¬ (¬ v113 = (-2)) → (
                (∀ v116 : Int, rg v116 → v116 = ofO x4 1 g114.1.1 → (
                  (∀ (v117 : Int) (g118 : Gs), rg v117 → v117 = (recG (leaveO x4 v116 g114.1) g114).1 → g118 = (recG (leaveO x4 v116 g114.1) g114).2 → (
                    ((¬ v117 = (-5) → (
                      LW m_L_refusesAny d none P 320 [some (.inr (some 1)), some (.inl x1), some (.inl x2), some (.inl x3), some (.inl x4), none] [] g118 (0, 0)
                      )) ∧ (¬ (¬ v117 = (-5)) → (
                      (∀ (v121 : Int) (g122 : Gs), rg v121 → v121 = (recG (setO (-1) 0 g118.1) g118).1 → g122 = (recG (setO (-1) 0 g118.1) g118).2 → (
                        ((¬ v121 = (-1) → (
                          LW m_L_refusesAny d none P 320 [some (.inr (some 1)), some (.inl x1), some (.inl x2), some (.inl x3), some (.inl x4), none] [] g122 (0, 0)
                          )) ∧ (¬ (¬ v121 = (-1)) → (
                          (∀ (v125 : Int) (g126 : Gs), rg v125 → v125 = (recG (setO 0 (-1) g122.1) g122).1 → g126 = (recG (setO 0 (-1) g122.1) g122).2 → (
                            ((¬ v125 = (-2) → (
                              LW m_L_refusesAny d none P 320 [some (.inr (some 1)), some (.inl x1), some (.inl x2), some (.inl x3), some (.inl x4), none] [] g126 (0, 0)
                              )) ∧ (¬ (¬ v125 = (-2)) → (
                              (∀ (v129 : Int) (g130 : Gs), rg v129 → v129 = (recG (setO 1 (-1) g126.1) g126).1 → g130 = (recG (setO 1 (-1) g126.1) g126).2 → (
                                ((¬ v129 = (-2) → (
                                  LW m_L_refusesAny d none P 320 [some (.inr (some 1)), some (.inl x1), some (.inl x2), some (.inl x3), some (.inl x4), none] [] g130 (0, 0)
                                  )) ∧ (¬ (¬ v129 = (-2)) → (
                                  (rg (11 + (x1 % 2))) ∧
                                  (∀ v133 : Int, rg v133 → v133 = totO (11 + (x1 % 2)) g130 → (
                                    (∀ (v134 : Int) (g135 : Gs), rg v134 → v134 = (recG (setO (x1 % 2) v133 g130.1) g130).1 → g135 = (recG (setO (x1 % 2) v133 g130.1) g130).2 → (
                                      ((¬ v134 = (-5) → (
                                        LW m_L_refusesAny d none P 320 [some (.inr (some 1)), some (.inl x1), some (.inl x2), some (.inl x3), some (.inl x4), none] [] g135 (0, 0)
                                        )) ∧ (¬ (¬ v134 = (-5)) → (
                                        (x3 < 2147483648) ∧
                                        (∀ (v137 : Int) (g138 : Gs), rg v137 → v137 = (recG (shufO x3 g135.1) g135).1 → g138 = (recG (shufO x3 g135.1) g135).2 → (
                                          ((¬ v137 = (-2) → (
                                            LW m_L_refusesAny d none P 320 [some (.inr (some 1)), some (.inl x1), some (.inl x2), some (.inl x3), some (.inl x4), none] [] g138 (0, 0)
                                            )) ∧ (¬ (¬ v137 = (-2)) → (
                                            (∀ v141 : Int, rg v141 → v141 = totO 13 g138 → (
                                              (v141 < 2147483648) ∧
                                              (∀ (v142 : Int) (g143 : Gs), rg v142 → v142 = (recG (shufO v141 g138.1) g138).1 → g143 = (recG (shufO v141 g138.1) g138).2 → (
                                                ((¬ v142 = (-5) → (
                                                  LW m_L_refusesAny d none P 320 [some (.inr (some 1)), some (.inl x1), some (.inl x2), some (.inl x3), some (.inl x4), none] [] g143 (0, 0)
                                                  )) ∧ (¬ (¬ v142 = (-5)) → (
                                                  (∀ v146 : Int, rg v146 → v146 = totO 3 g143 → (
                                                    ((0 < v146 → (
                                                      LW m_L_refusesAny d none P 328 [some (.inr (some 1)), some (.inl x1), some (.inl x2), some (.inl x3), some (.inl x4), some (.inl 1)] [] g143 (0, 0)
                                                      )) ∧ (¬ (0 < v146) → (
                                                      (∀ (v149 : Int) (g150 : Gs), rg v149 → v149 = (recG (forgO g143.1) g143).1 → g150 = (recG (forgO g143.1) g143).2 → (
                                                        ((¬ v149 = (-5) → (
                                                          LW m_L_refusesAny d none P 320 [some (.inr (some 1)), some (.inl x1), some (.inl x2), some (.inl x3), some (.inl x4), none] [] g150 (0, 0)
                                                          )) ∧ (¬ (¬ v149 = (-5)) → (
                                                          LW m_L_refusesAny d none P 328 [some (.inr (some 1)), some (.inl x1), some (.inl x2), some (.inl x3), some (.inl x4), some (.inl 1)] [] g150 (0, 0)
                                                          )))))
                                                      )))))
                                                  )))))))
                                            )))))
                                        )))))))
                                  )))))
                              )))))
                          )))))
                      )))))))
                )))))
            )))
          )))
        )))))) :
  LW m_L_refusesAny d none P 131 [some (.inr (some 1)), some (.inl x1), some (.inl x2), some (.inl x3), some (.inl x4), none] [] g (0, 0) := by
  refine lw_aload_n (pc := 131) dL_refusesAny_131 rfl ?_
  refine lw_iload_n (pc := 132) dL_refusesAny_132 rfl ?_
  refine lw_sipush (pc := 133) dL_refusesAny_133 ?_
  refine lw_invV (pc := 136) (md' := m_X6_leave) (as := [(.inl x2), (.inl 201)]) dL_refusesAny_136 mo_X6_leave im_X6_leave se_X6_leave ml_L_50 rfl rfl (by omega) (Nat.le_of_ble_eq_true rfl) rfl ⟨Nat.le_of_ble_eq_true rfl, Nat.le_of_ble_eq_true rfl⟩ (lm_mono (lm_rg (kc_leave (by omega))) (fun v1 g2 e => ?_))
  obtain ⟨r_v1, e_v1, f_v1⟩ := e
  replace G := G v1 g2 r_v1 e_v1 f_v1
  refine lw_iconst (pc := 139) dL_refusesAny_139 ?_
  refine lw_icmp_ne (pc := 140) (tgt := 320) dL_refusesAny_140 (by decide) (fun c3 => ?_) (fun c3 => ?_)
  · replace G := G.1 c3
    exact G
  · replace G := G.2 c3
    refine lw_iload (pc := 143) dL_refusesAny_143 rfl ?_
    refine lw_if_lt (pc := 145) (tgt := 190) dL_refusesAny_145 (by decide) (fun c4 => ?_) (fun c4 => ?_)
    · replace G := G.1 c4
      refine lw_aload_n (pc := 190) dL_refusesAny_190 rfl ?_
      refine lw_iload_n (pc := 191) dL_refusesAny_191 rfl ?_
      refine lw_iconst (pc := 192) dL_refusesAny_192 ?_
      obtain ⟨s5, G⟩ := G
      refine lw_irem (pc := 193) dL_refusesAny_193 s5 (by decide) ?_
      refine lw_if_ne (pc := 194) (tgt := 201) dL_refusesAny_194 (by decide) (fun c6 => ?_) (fun c6 => ?_)
      · replace G := G.1 c6
        refine lw_iconst (pc := 201) dL_refusesAny_201 ?_
        refine lw_iconst (pc := 202) dL_refusesAny_202 ?_
        refine lw_invV (pc := 203) (md' := m_X6_set) (as := [(.inl 2), (.inl 0)]) dL_refusesAny_203 mo_X6_set im_X6_set se_X6_set ml_L_53 rfl rfl (by omega) (Nat.le_of_ble_eq_true rfl) rfl ⟨Nat.le_of_ble_eq_true rfl, Nat.le_of_ble_eq_true rfl⟩ (lm_mono (lm_rg (kc_set (by omega))) (fun v7 g8 e => ?_))
        obtain ⟨r_v7, e_v7, f_v7⟩ := e
        replace G := G v7 g8 r_v7 e_v7 f_v7
        refine lw_iconst (pc := 206) dL_refusesAny_206 ?_
        refine lw_icmp_ne (pc := 207) (tgt := 320) dL_refusesAny_207 (by decide) (fun c9 => ?_) (fun c9 => ?_)
        · replace G := G.1 c9
          exact G
        · replace G := G.2 c9
          refine lw_aload_n (pc := 210) dL_refusesAny_210 rfl ?_
          refine lw_iconst (pc := 211) dL_refusesAny_211 ?_
          refine lw_iload_n (pc := 212) dL_refusesAny_212 rfl ?_
          refine lw_iconst (pc := 213) dL_refusesAny_213 ?_
          refine lw_irem (pc := 214) dL_refusesAny_214 s5 (by decide) ?_
          refine lw_if_ne (pc := 215) (tgt := 222) dL_refusesAny_215 (by decide) (fun _ => ?_) (fun h => absurd (by omega) h)
          refine lw_iconst (pc := 222) dL_refusesAny_222 ?_
          refine lw_invV (pc := 223) (md' := m_X6_set) (as := [(.inl 0), (.inl 2)]) dL_refusesAny_223 mo_X6_set im_X6_set se_X6_set ml_L_53 rfl rfl (by omega) (Nat.le_of_ble_eq_true rfl) rfl ⟨Nat.le_of_ble_eq_true rfl, Nat.le_of_ble_eq_true rfl⟩ (lm_mono (lm_rg (kc_set (by omega))) (fun v11 g12 e => ?_))
          obtain ⟨r_v11, e_v11, f_v11⟩ := e
          replace G := G v11 g12 r_v11 e_v11 f_v11
          refine lw_bipush (pc := 226) dL_refusesAny_226 ?_
          refine lw_icmp_ne (pc := 228) (tgt := 320) dL_refusesAny_228 (by decide) (fun c13 => ?_) (fun c13 => ?_)
          · replace G := G.1 c13
            exact G
          · replace G := G.2 c13
            refine lw_aload_n (pc := 231) dL_refusesAny_231 rfl ?_
            refine lw_iconst (pc := 232) dL_refusesAny_232 ?_
            refine lw_iload_n (pc := 233) dL_refusesAny_233 rfl ?_
            refine lw_iconst (pc := 234) dL_refusesAny_234 ?_
            refine lw_irem (pc := 235) dL_refusesAny_235 s5 (by decide) ?_
            refine lw_if_ne (pc := 236) (tgt := 243) dL_refusesAny_236 (by decide) (fun _ => ?_) (fun h => absurd (by omega) h)
            refine lw_iconst (pc := 243) dL_refusesAny_243 ?_
            refine lw_invV (pc := 244) (md' := m_X6_set) (as := [(.inl 1), (.inl 3)]) dL_refusesAny_244 mo_X6_set im_X6_set se_X6_set ml_L_53 rfl rfl (by omega) (Nat.le_of_ble_eq_true rfl) rfl ⟨Nat.le_of_ble_eq_true rfl, Nat.le_of_ble_eq_true rfl⟩ (lm_mono (lm_rg (kc_set (by omega))) (fun v15 g16 e => ?_))
            obtain ⟨r_v15, e_v15, f_v15⟩ := e
            replace G := G v15 g16 r_v15 e_v15 f_v15
            refine lw_bipush (pc := 247) dL_refusesAny_247 ?_
            refine lw_icmp_ne (pc := 249) (tgt := 320) dL_refusesAny_249 (by decide) (fun c17 => ?_) (fun c17 => ?_)
            · replace G := G.1 c17
              exact G
            · replace G := G.2 c17
              refine lw_aload_n (pc := 252) dL_refusesAny_252 rfl ?_
              refine lw_iload_n (pc := 253) dL_refusesAny_253 rfl ?_
              refine lw_iconst (pc := 254) dL_refusesAny_254 ?_
              refine lw_irem (pc := 255) dL_refusesAny_255 s5 (by decide) ?_
              refine lw_aload_n (pc := 256) dL_refusesAny_256 rfl ?_
              refine lw_bipush (pc := 257) dL_refusesAny_257 ?_
              refine lw_iload_n (pc := 259) dL_refusesAny_259 rfl ?_
              refine lw_iconst (pc := 260) dL_refusesAny_260 ?_
              refine lw_irem (pc := 261) dL_refusesAny_261 s5 (by decide) ?_
              obtain ⟨s18, G⟩ := G
              refine lw_iadd (pc := 262) (v := 11 + (x1 % 2)) dL_refusesAny_262 s18 rfl ?_
              refine lw_invV (pc := 263) (md' := m_X6_total) (as := [(.inl (11 + (x1 % 2)))]) dL_refusesAny_263 mo_X6_total im_X6_total se_X6_total ml_L_13 rfl rfl (by omega) (Nat.le_of_ble_eq_true rfl) rfl ⟨Nat.le_of_ble_eq_true rfl, Nat.le_of_ble_eq_true rfl⟩ (lm_mono (lm_rg (kq_total (by omega))) (fun v19 g' e => ?_))
              obtain ⟨r_v19, e_v19, rfl⟩ := e
              replace G := G v19 r_v19 e_v19
              refine lw_invV (pc := 266) (md' := m_X6_set) (as := [(.inl (x1 % 2)), (.inl v19)]) dL_refusesAny_266 mo_X6_set im_X6_set se_X6_set ml_L_53 rfl rfl (by omega) (Nat.le_of_ble_eq_true rfl) rfl ⟨Nat.le_of_ble_eq_true rfl, Nat.le_of_ble_eq_true rfl⟩ (lm_mono (lm_rg (kc_set (by omega))) (fun v20 g21 e => ?_))
              obtain ⟨r_v20, e_v20, f_v20⟩ := e
              replace G := G v20 g21 r_v20 e_v20 f_v20
              refine lw_bipush (pc := 269) dL_refusesAny_269 ?_
              refine lw_icmp_ne (pc := 271) (tgt := 320) dL_refusesAny_271 (by decide) (fun c22 => ?_) (fun c22 => ?_)
              · replace G := G.1 c22
                exact G
              · replace G := G.2 c22
                refine lw_aload_n (pc := 274) dL_refusesAny_274 rfl ?_
                refine lw_iload_n (pc := 275) dL_refusesAny_275 rfl ?_
                obtain ⟨s25, G⟩ := G
                refine lw_invV (pc := 276) (md' := m_X6_shuffle) (as := [(.inl x3)]) dL_refusesAny_276 mo_X6_shuffle im_X6_shuffle se_X6_shuffle ml_L_56 rfl rfl (by omega) (Nat.le_of_ble_eq_true rfl) rfl ⟨Nat.le_of_ble_eq_true rfl, Nat.le_of_ble_eq_true rfl⟩ (lm_mono (lm_rg (kc_shuffle (by omega) s25)) (fun v23 g24 e => ?_))
                obtain ⟨r_v23, e_v23, f_v23⟩ := e
                replace G := G v23 g24 r_v23 e_v23 f_v23
                refine lw_bipush (pc := 279) dL_refusesAny_279 ?_
                refine lw_icmp_ne (pc := 281) (tgt := 320) dL_refusesAny_281 (by decide) (fun c26 => ?_) (fun c26 => ?_)
                · replace G := G.1 c26
                  exact G
                · replace G := G.2 c26
                  refine lw_aload_n (pc := 284) dL_refusesAny_284 rfl ?_
                  refine lw_aload_n (pc := 285) dL_refusesAny_285 rfl ?_
                  refine lw_bipush (pc := 286) dL_refusesAny_286 ?_
                  refine lw_invV (pc := 288) (md' := m_X6_total) (as := [(.inl 13)]) dL_refusesAny_288 mo_X6_total im_X6_total se_X6_total ml_L_13 rfl rfl (by omega) (Nat.le_of_ble_eq_true rfl) rfl ⟨Nat.le_of_ble_eq_true rfl, Nat.le_of_ble_eq_true rfl⟩ (lm_mono (lm_rg (kq_total (by omega))) (fun v27 g' e => ?_))
                  obtain ⟨r_v27, e_v27, rfl⟩ := e
                  replace G := G v27 r_v27 e_v27
                  obtain ⟨s30, G⟩ := G
                  refine lw_invV (pc := 291) (md' := m_X6_shuffle) (as := [(.inl v27)]) dL_refusesAny_291 mo_X6_shuffle im_X6_shuffle se_X6_shuffle ml_L_56 rfl rfl (by omega) (Nat.le_of_ble_eq_true rfl) rfl ⟨Nat.le_of_ble_eq_true rfl, Nat.le_of_ble_eq_true rfl⟩ (lm_mono (lm_rg (kc_shuffle (by omega) s30)) (fun v28 g29 e => ?_))
                  obtain ⟨r_v28, e_v28, f_v28⟩ := e
                  replace G := G v28 g29 r_v28 e_v28 f_v28
                  refine lw_bipush (pc := 294) dL_refusesAny_294 ?_
                  refine lw_icmp_ne (pc := 296) (tgt := 320) dL_refusesAny_296 (by decide) (fun c31 => ?_) (fun c31 => ?_)
                  · replace G := G.1 c31
                    exact G
                  · replace G := G.2 c31
                    refine lw_aload_n (pc := 299) dL_refusesAny_299 rfl ?_
                    refine lw_iconst (pc := 300) dL_refusesAny_300 ?_
                    refine lw_invV (pc := 301) (md' := m_X6_total) (as := [(.inl 3)]) dL_refusesAny_301 mo_X6_total im_X6_total se_X6_total ml_L_13 rfl rfl (by omega) (Nat.le_of_ble_eq_true rfl) rfl ⟨Nat.le_of_ble_eq_true rfl, Nat.le_of_ble_eq_true rfl⟩ (lm_mono (lm_rg (kq_total (by omega))) (fun v32 g' e => ?_))
                    obtain ⟨r_v32, e_v32, rfl⟩ := e
                    replace G := G v32 r_v32 e_v32
                    refine lw_if_gt (pc := 304) (tgt := 316) dL_refusesAny_304 (by decide) (fun c33 => ?_) (fun c33 => ?_)
                    · replace G := G.1 c33
                      refine lw_iconst (pc := 316) dL_refusesAny_316 ?_
                      refine lw_goto (pc := 317) (tgt := 321) dL_refusesAny_317 (by decide) ?_
                      refine lw_istore (pc := 321) (ls' := [some (.inr (some 1)), some (.inl x1), some (.inl x2), some (.inl x3), some (.inl x4), some (.inl 1)]) dL_refusesAny_321 (Nat.le_of_ble_eq_true rfl) rfl ?_
                      refine lw_iload (pc := 323) dL_refusesAny_323 rfl ?_
                      refine lw_if_eq (pc := 325) (tgt := 536) dL_refusesAny_325 (by decide) (fun h => absurd h (by decide)) (fun _ => ?_)
                      exact G
                    · replace G := G.2 c33
                      refine lw_aload_n (pc := 307) dL_refusesAny_307 rfl ?_
                      refine lw_invV (pc := 308) (md' := m_X6_forget) (as := []) dL_refusesAny_308 mo_X6_forget im_X6_forget se_X6_forget ml_L_59 rfl rfl (by omega) (Nat.le_of_ble_eq_true rfl) rfl ⟨Nat.le_of_ble_eq_true rfl, Nat.le_of_ble_eq_true rfl⟩ (lm_mono (lm_rg (kc_forget (by omega))) (fun v35 g36 e => ?_))
                      obtain ⟨r_v35, e_v35, f_v35⟩ := e
                      replace G := G v35 g36 r_v35 e_v35 f_v35
                      refine lw_bipush (pc := 311) dL_refusesAny_311 ?_
                      refine lw_icmp_ne (pc := 313) (tgt := 320) dL_refusesAny_313 (by decide) (fun c37 => ?_) (fun c37 => ?_)
                      · replace G := G.1 c37
                        exact G
                      · replace G := G.2 c37
                        refine lw_iconst (pc := 316) dL_refusesAny_316 ?_
                        refine lw_goto (pc := 317) (tgt := 321) dL_refusesAny_317 (by decide) ?_
                        refine lw_istore (pc := 321) (ls' := [some (.inr (some 1)), some (.inl x1), some (.inl x2), some (.inl x3), some (.inl x4), some (.inl 1)]) dL_refusesAny_321 (Nat.le_of_ble_eq_true rfl) rfl ?_
                        refine lw_iload (pc := 323) dL_refusesAny_323 rfl ?_
                        refine lw_if_eq (pc := 325) (tgt := 536) dL_refusesAny_325 (by decide) (fun h => absurd h (by decide)) (fun _ => ?_)
                        exact G
      · replace G := G.2 c6
        refine lw_iconst (pc := 197) dL_refusesAny_197 ?_
        refine lw_goto (pc := 198) (tgt := 202) dL_refusesAny_198 (by decide) ?_
        refine lw_iconst (pc := 202) dL_refusesAny_202 ?_
        refine lw_invV (pc := 203) (md' := m_X6_set) (as := [(.inl (-1)), (.inl 0)]) dL_refusesAny_203 mo_X6_set im_X6_set se_X6_set ml_L_53 rfl rfl (by omega) (Nat.le_of_ble_eq_true rfl) rfl ⟨Nat.le_of_ble_eq_true rfl, Nat.le_of_ble_eq_true rfl⟩ (lm_mono (lm_rg (kc_set (by omega))) (fun v39 g40 e => ?_))
        obtain ⟨r_v39, e_v39, f_v39⟩ := e
        replace G := G v39 g40 r_v39 e_v39 f_v39
        refine lw_iconst (pc := 206) dL_refusesAny_206 ?_
        refine lw_icmp_ne (pc := 207) (tgt := 320) dL_refusesAny_207 (by decide) (fun c41 => ?_) (fun c41 => ?_)
        · replace G := G.1 c41
          exact G
        · replace G := G.2 c41
          refine lw_aload_n (pc := 210) dL_refusesAny_210 rfl ?_
          refine lw_iconst (pc := 211) dL_refusesAny_211 ?_
          refine lw_iload_n (pc := 212) dL_refusesAny_212 rfl ?_
          refine lw_iconst (pc := 213) dL_refusesAny_213 ?_
          refine lw_irem (pc := 214) dL_refusesAny_214 s5 (by decide) ?_
          refine lw_if_ne (pc := 215) (tgt := 222) dL_refusesAny_215 (by decide) (fun h => absurd h (by omega)) (fun _ => ?_)
          refine lw_iconst (pc := 218) dL_refusesAny_218 ?_
          refine lw_goto (pc := 219) (tgt := 223) dL_refusesAny_219 (by decide) ?_
          refine lw_invV (pc := 223) (md' := m_X6_set) (as := [(.inl 0), (.inl (-1))]) dL_refusesAny_223 mo_X6_set im_X6_set se_X6_set ml_L_53 rfl rfl (by omega) (Nat.le_of_ble_eq_true rfl) rfl ⟨Nat.le_of_ble_eq_true rfl, Nat.le_of_ble_eq_true rfl⟩ (lm_mono (lm_rg (kc_set (by omega))) (fun v43 g44 e => ?_))
          obtain ⟨r_v43, e_v43, f_v43⟩ := e
          replace G := G v43 g44 r_v43 e_v43 f_v43
          refine lw_bipush (pc := 226) dL_refusesAny_226 ?_
          refine lw_icmp_ne (pc := 228) (tgt := 320) dL_refusesAny_228 (by decide) (fun c45 => ?_) (fun c45 => ?_)
          · replace G := G.1 c45
            exact G
          · replace G := G.2 c45
            refine lw_aload_n (pc := 231) dL_refusesAny_231 rfl ?_
            refine lw_iconst (pc := 232) dL_refusesAny_232 ?_
            refine lw_iload_n (pc := 233) dL_refusesAny_233 rfl ?_
            refine lw_iconst (pc := 234) dL_refusesAny_234 ?_
            refine lw_irem (pc := 235) dL_refusesAny_235 s5 (by decide) ?_
            refine lw_if_ne (pc := 236) (tgt := 243) dL_refusesAny_236 (by decide) (fun h => absurd h (by omega)) (fun _ => ?_)
            refine lw_iconst (pc := 239) dL_refusesAny_239 ?_
            refine lw_goto (pc := 240) (tgt := 244) dL_refusesAny_240 (by decide) ?_
            refine lw_invV (pc := 244) (md' := m_X6_set) (as := [(.inl 1), (.inl (-1))]) dL_refusesAny_244 mo_X6_set im_X6_set se_X6_set ml_L_53 rfl rfl (by omega) (Nat.le_of_ble_eq_true rfl) rfl ⟨Nat.le_of_ble_eq_true rfl, Nat.le_of_ble_eq_true rfl⟩ (lm_mono (lm_rg (kc_set (by omega))) (fun v47 g48 e => ?_))
            obtain ⟨r_v47, e_v47, f_v47⟩ := e
            replace G := G v47 g48 r_v47 e_v47 f_v47
            refine lw_bipush (pc := 247) dL_refusesAny_247 ?_
            refine lw_icmp_ne (pc := 249) (tgt := 320) dL_refusesAny_249 (by decide) (fun c49 => ?_) (fun c49 => ?_)
            · replace G := G.1 c49
              exact G
            · replace G := G.2 c49
              refine lw_aload_n (pc := 252) dL_refusesAny_252 rfl ?_
              refine lw_iload_n (pc := 253) dL_refusesAny_253 rfl ?_
              refine lw_iconst (pc := 254) dL_refusesAny_254 ?_
              refine lw_irem (pc := 255) dL_refusesAny_255 s5 (by decide) ?_
              refine lw_aload_n (pc := 256) dL_refusesAny_256 rfl ?_
              refine lw_bipush (pc := 257) dL_refusesAny_257 ?_
              refine lw_iload_n (pc := 259) dL_refusesAny_259 rfl ?_
              refine lw_iconst (pc := 260) dL_refusesAny_260 ?_
              refine lw_irem (pc := 261) dL_refusesAny_261 s5 (by decide) ?_
              obtain ⟨s50, G⟩ := G
              refine lw_iadd (pc := 262) (v := 11 + (x1 % 2)) dL_refusesAny_262 s50 rfl ?_
              refine lw_invV (pc := 263) (md' := m_X6_total) (as := [(.inl (11 + (x1 % 2)))]) dL_refusesAny_263 mo_X6_total im_X6_total se_X6_total ml_L_13 rfl rfl (by omega) (Nat.le_of_ble_eq_true rfl) rfl ⟨Nat.le_of_ble_eq_true rfl, Nat.le_of_ble_eq_true rfl⟩ (lm_mono (lm_rg (kq_total (by omega))) (fun v51 g' e => ?_))
              obtain ⟨r_v51, e_v51, rfl⟩ := e
              replace G := G v51 r_v51 e_v51
              refine lw_invV (pc := 266) (md' := m_X6_set) (as := [(.inl (x1 % 2)), (.inl v51)]) dL_refusesAny_266 mo_X6_set im_X6_set se_X6_set ml_L_53 rfl rfl (by omega) (Nat.le_of_ble_eq_true rfl) rfl ⟨Nat.le_of_ble_eq_true rfl, Nat.le_of_ble_eq_true rfl⟩ (lm_mono (lm_rg (kc_set (by omega))) (fun v52 g53 e => ?_))
              obtain ⟨r_v52, e_v52, f_v52⟩ := e
              replace G := G v52 g53 r_v52 e_v52 f_v52
              refine lw_bipush (pc := 269) dL_refusesAny_269 ?_
              refine lw_icmp_ne (pc := 271) (tgt := 320) dL_refusesAny_271 (by decide) (fun c54 => ?_) (fun c54 => ?_)
              · replace G := G.1 c54
                exact G
              · replace G := G.2 c54
                refine lw_aload_n (pc := 274) dL_refusesAny_274 rfl ?_
                refine lw_iload_n (pc := 275) dL_refusesAny_275 rfl ?_
                obtain ⟨s57, G⟩ := G
                refine lw_invV (pc := 276) (md' := m_X6_shuffle) (as := [(.inl x3)]) dL_refusesAny_276 mo_X6_shuffle im_X6_shuffle se_X6_shuffle ml_L_56 rfl rfl (by omega) (Nat.le_of_ble_eq_true rfl) rfl ⟨Nat.le_of_ble_eq_true rfl, Nat.le_of_ble_eq_true rfl⟩ (lm_mono (lm_rg (kc_shuffle (by omega) s57)) (fun v55 g56 e => ?_))
                obtain ⟨r_v55, e_v55, f_v55⟩ := e
                replace G := G v55 g56 r_v55 e_v55 f_v55
                refine lw_bipush (pc := 279) dL_refusesAny_279 ?_
                refine lw_icmp_ne (pc := 281) (tgt := 320) dL_refusesAny_281 (by decide) (fun c58 => ?_) (fun c58 => ?_)
                · replace G := G.1 c58
                  exact G
                · replace G := G.2 c58
                  refine lw_aload_n (pc := 284) dL_refusesAny_284 rfl ?_
                  refine lw_aload_n (pc := 285) dL_refusesAny_285 rfl ?_
                  refine lw_bipush (pc := 286) dL_refusesAny_286 ?_
                  refine lw_invV (pc := 288) (md' := m_X6_total) (as := [(.inl 13)]) dL_refusesAny_288 mo_X6_total im_X6_total se_X6_total ml_L_13 rfl rfl (by omega) (Nat.le_of_ble_eq_true rfl) rfl ⟨Nat.le_of_ble_eq_true rfl, Nat.le_of_ble_eq_true rfl⟩ (lm_mono (lm_rg (kq_total (by omega))) (fun v59 g' e => ?_))
                  obtain ⟨r_v59, e_v59, rfl⟩ := e
                  replace G := G v59 r_v59 e_v59
                  obtain ⟨s62, G⟩ := G
                  refine lw_invV (pc := 291) (md' := m_X6_shuffle) (as := [(.inl v59)]) dL_refusesAny_291 mo_X6_shuffle im_X6_shuffle se_X6_shuffle ml_L_56 rfl rfl (by omega) (Nat.le_of_ble_eq_true rfl) rfl ⟨Nat.le_of_ble_eq_true rfl, Nat.le_of_ble_eq_true rfl⟩ (lm_mono (lm_rg (kc_shuffle (by omega) s62)) (fun v60 g61 e => ?_))
                  obtain ⟨r_v60, e_v60, f_v60⟩ := e
                  replace G := G v60 g61 r_v60 e_v60 f_v60
                  refine lw_bipush (pc := 294) dL_refusesAny_294 ?_
                  refine lw_icmp_ne (pc := 296) (tgt := 320) dL_refusesAny_296 (by decide) (fun c63 => ?_) (fun c63 => ?_)
                  · replace G := G.1 c63
                    exact G
                  · replace G := G.2 c63
                    refine lw_aload_n (pc := 299) dL_refusesAny_299 rfl ?_
                    refine lw_iconst (pc := 300) dL_refusesAny_300 ?_
                    refine lw_invV (pc := 301) (md' := m_X6_total) (as := [(.inl 3)]) dL_refusesAny_301 mo_X6_total im_X6_total se_X6_total ml_L_13 rfl rfl (by omega) (Nat.le_of_ble_eq_true rfl) rfl ⟨Nat.le_of_ble_eq_true rfl, Nat.le_of_ble_eq_true rfl⟩ (lm_mono (lm_rg (kq_total (by omega))) (fun v64 g' e => ?_))
                    obtain ⟨r_v64, e_v64, rfl⟩ := e
                    replace G := G v64 r_v64 e_v64
                    refine lw_if_gt (pc := 304) (tgt := 316) dL_refusesAny_304 (by decide) (fun c65 => ?_) (fun c65 => ?_)
                    · replace G := G.1 c65
                      refine lw_iconst (pc := 316) dL_refusesAny_316 ?_
                      refine lw_goto (pc := 317) (tgt := 321) dL_refusesAny_317 (by decide) ?_
                      refine lw_istore (pc := 321) (ls' := [some (.inr (some 1)), some (.inl x1), some (.inl x2), some (.inl x3), some (.inl x4), some (.inl 1)]) dL_refusesAny_321 (Nat.le_of_ble_eq_true rfl) rfl ?_
                      refine lw_iload (pc := 323) dL_refusesAny_323 rfl ?_
                      refine lw_if_eq (pc := 325) (tgt := 536) dL_refusesAny_325 (by decide) (fun h => absurd h (by decide)) (fun _ => ?_)
                      exact G
                    · replace G := G.2 c65
                      refine lw_aload_n (pc := 307) dL_refusesAny_307 rfl ?_
                      refine lw_invV (pc := 308) (md' := m_X6_forget) (as := []) dL_refusesAny_308 mo_X6_forget im_X6_forget se_X6_forget ml_L_59 rfl rfl (by omega) (Nat.le_of_ble_eq_true rfl) rfl ⟨Nat.le_of_ble_eq_true rfl, Nat.le_of_ble_eq_true rfl⟩ (lm_mono (lm_rg (kc_forget (by omega))) (fun v67 g68 e => ?_))
                      obtain ⟨r_v67, e_v67, f_v67⟩ := e
                      replace G := G v67 g68 r_v67 e_v67 f_v67
                      refine lw_bipush (pc := 311) dL_refusesAny_311 ?_
                      refine lw_icmp_ne (pc := 313) (tgt := 320) dL_refusesAny_313 (by decide) (fun c69 => ?_) (fun c69 => ?_)
                      · replace G := G.1 c69
                        exact G
                      · replace G := G.2 c69
                        refine lw_iconst (pc := 316) dL_refusesAny_316 ?_
                        refine lw_goto (pc := 317) (tgt := 321) dL_refusesAny_317 (by decide) ?_
                        refine lw_istore (pc := 321) (ls' := [some (.inr (some 1)), some (.inl x1), some (.inl x2), some (.inl x3), some (.inl x4), some (.inl 1)]) dL_refusesAny_321 (Nat.le_of_ble_eq_true rfl) rfl ?_
                        refine lw_iload (pc := 323) dL_refusesAny_323 rfl ?_
                        refine lw_if_eq (pc := 325) (tgt := 536) dL_refusesAny_325 (by decide) (fun h => absurd h (by decide)) (fun _ => ?_)
                        exact G
    · replace G := G.2 c4
      refine lw_aload_n (pc := 148) dL_refusesAny_148 rfl ?_
      refine lw_iload (pc := 149) dL_refusesAny_149 rfl ?_
      refine lw_iload_n (pc := 151) dL_refusesAny_151 rfl ?_
      refine lw_iconst (pc := 152) dL_refusesAny_152 ?_
      obtain ⟨s71, G⟩ := G
      refine lw_irem (pc := 153) dL_refusesAny_153 s71 (by decide) ?_
      refine lw_if_ne (pc := 154) (tgt := 161) dL_refusesAny_154 (by decide) (fun c72 => ?_) (fun c72 => ?_)
      · replace G := G.1 c72
        refine lw_sipush (pc := 161) dL_refusesAny_161 ?_
        refine lw_invV (pc := 164) (md' := m_X6_leave) (as := [(.inl x4), (.inl 201)]) dL_refusesAny_164 mo_X6_leave im_X6_leave se_X6_leave ml_L_50 rfl rfl (by omega) (Nat.le_of_ble_eq_true rfl) rfl ⟨Nat.le_of_ble_eq_true rfl, Nat.le_of_ble_eq_true rfl⟩ (lm_mono (lm_rg (kc_leave (by omega))) (fun v73 g74 e => ?_))
        obtain ⟨r_v73, e_v73, f_v73⟩ := e
        replace G := G v73 g74 r_v73 e_v73 f_v73
        refine lw_bipush (pc := 167) dL_refusesAny_167 ?_
        refine lw_icmp_ne (pc := 169) (tgt := 320) dL_refusesAny_169 (by decide) (fun c75 => ?_) (fun c75 => ?_)
        · replace G := G.1 c75
          exact G
        · replace G := G.2 c75
          refine lw_aload_n (pc := 172) dL_refusesAny_172 rfl ?_
          refine lw_iload (pc := 173) dL_refusesAny_173 rfl ?_
          refine lw_aload_n (pc := 175) dL_refusesAny_175 rfl ?_
          refine lw_iload (pc := 176) dL_refusesAny_176 rfl ?_
          refine lw_iconst (pc := 178) dL_refusesAny_178 ?_
          refine lw_invV (pc := 179) (md' := m_X6_ofCard) (as := [(.inl x4), (.inl 1)]) dL_refusesAny_179 mo_X6_ofCard im_X6_ofCard se_X6_ofCard ml_L_22 rfl rfl (by omega) (Nat.le_of_ble_eq_true rfl) rfl ⟨Nat.le_of_ble_eq_true rfl, Nat.le_of_ble_eq_true rfl⟩ (lm_mono (lm_rg (kq_ofCard (by omega))) (fun v76 g' e => ?_))
          obtain ⟨r_v76, e_v76, rfl⟩ := e
          replace G := G v76 r_v76 e_v76
          refine lw_invV (pc := 182) (md' := m_X6_leave) (as := [(.inl x4), (.inl v76)]) dL_refusesAny_182 mo_X6_leave im_X6_leave se_X6_leave ml_L_50 rfl rfl (by omega) (Nat.le_of_ble_eq_true rfl) rfl ⟨Nat.le_of_ble_eq_true rfl, Nat.le_of_ble_eq_true rfl⟩ (lm_mono (lm_rg (kc_leave (by omega))) (fun v77 g78 e => ?_))
          obtain ⟨r_v77, e_v77, f_v77⟩ := e
          replace G := G v77 g78 r_v77 e_v77 f_v77
          refine lw_bipush (pc := 185) dL_refusesAny_185 ?_
          refine lw_icmp_ne (pc := 187) (tgt := 320) dL_refusesAny_187 (by decide) (fun c79 => ?_) (fun c79 => ?_)
          · replace G := G.1 c79
            exact G
          · replace G := G.2 c79
            refine lw_aload_n (pc := 190) dL_refusesAny_190 rfl ?_
            refine lw_iload_n (pc := 191) dL_refusesAny_191 rfl ?_
            refine lw_iconst (pc := 192) dL_refusesAny_192 ?_
            refine lw_irem (pc := 193) dL_refusesAny_193 s71 (by decide) ?_
            refine lw_if_ne (pc := 194) (tgt := 201) dL_refusesAny_194 (by decide) (fun _ => ?_) (fun h => absurd (by omega) h)
            refine lw_iconst (pc := 201) dL_refusesAny_201 ?_
            refine lw_iconst (pc := 202) dL_refusesAny_202 ?_
            refine lw_invV (pc := 203) (md' := m_X6_set) (as := [(.inl 2), (.inl 0)]) dL_refusesAny_203 mo_X6_set im_X6_set se_X6_set ml_L_53 rfl rfl (by omega) (Nat.le_of_ble_eq_true rfl) rfl ⟨Nat.le_of_ble_eq_true rfl, Nat.le_of_ble_eq_true rfl⟩ (lm_mono (lm_rg (kc_set (by omega))) (fun v81 g82 e => ?_))
            obtain ⟨r_v81, e_v81, f_v81⟩ := e
            replace G := G v81 g82 r_v81 e_v81 f_v81
            refine lw_iconst (pc := 206) dL_refusesAny_206 ?_
            refine lw_icmp_ne (pc := 207) (tgt := 320) dL_refusesAny_207 (by decide) (fun c83 => ?_) (fun c83 => ?_)
            · replace G := G.1 c83
              exact G
            · replace G := G.2 c83
              refine lw_aload_n (pc := 210) dL_refusesAny_210 rfl ?_
              refine lw_iconst (pc := 211) dL_refusesAny_211 ?_
              refine lw_iload_n (pc := 212) dL_refusesAny_212 rfl ?_
              refine lw_iconst (pc := 213) dL_refusesAny_213 ?_
              refine lw_irem (pc := 214) dL_refusesAny_214 s71 (by decide) ?_
              refine lw_if_ne (pc := 215) (tgt := 222) dL_refusesAny_215 (by decide) (fun _ => ?_) (fun h => absurd (by omega) h)
              refine lw_iconst (pc := 222) dL_refusesAny_222 ?_
              refine lw_invV (pc := 223) (md' := m_X6_set) (as := [(.inl 0), (.inl 2)]) dL_refusesAny_223 mo_X6_set im_X6_set se_X6_set ml_L_53 rfl rfl (by omega) (Nat.le_of_ble_eq_true rfl) rfl ⟨Nat.le_of_ble_eq_true rfl, Nat.le_of_ble_eq_true rfl⟩ (lm_mono (lm_rg (kc_set (by omega))) (fun v85 g86 e => ?_))
              obtain ⟨r_v85, e_v85, f_v85⟩ := e
              replace G := G v85 g86 r_v85 e_v85 f_v85
              refine lw_bipush (pc := 226) dL_refusesAny_226 ?_
              refine lw_icmp_ne (pc := 228) (tgt := 320) dL_refusesAny_228 (by decide) (fun c87 => ?_) (fun c87 => ?_)
              · replace G := G.1 c87
                exact G
              · replace G := G.2 c87
                refine lw_aload_n (pc := 231) dL_refusesAny_231 rfl ?_
                refine lw_iconst (pc := 232) dL_refusesAny_232 ?_
                refine lw_iload_n (pc := 233) dL_refusesAny_233 rfl ?_
                refine lw_iconst (pc := 234) dL_refusesAny_234 ?_
                refine lw_irem (pc := 235) dL_refusesAny_235 s71 (by decide) ?_
                refine lw_if_ne (pc := 236) (tgt := 243) dL_refusesAny_236 (by decide) (fun _ => ?_) (fun h => absurd (by omega) h)
                refine lw_iconst (pc := 243) dL_refusesAny_243 ?_
                refine lw_invV (pc := 244) (md' := m_X6_set) (as := [(.inl 1), (.inl 3)]) dL_refusesAny_244 mo_X6_set im_X6_set se_X6_set ml_L_53 rfl rfl (by omega) (Nat.le_of_ble_eq_true rfl) rfl ⟨Nat.le_of_ble_eq_true rfl, Nat.le_of_ble_eq_true rfl⟩ (lm_mono (lm_rg (kc_set (by omega))) (fun v89 g90 e => ?_))
                obtain ⟨r_v89, e_v89, f_v89⟩ := e
                replace G := G v89 g90 r_v89 e_v89 f_v89
                refine lw_bipush (pc := 247) dL_refusesAny_247 ?_
                refine lw_icmp_ne (pc := 249) (tgt := 320) dL_refusesAny_249 (by decide) (fun c91 => ?_) (fun c91 => ?_)
                · replace G := G.1 c91
                  exact G
                · replace G := G.2 c91
                  refine lw_aload_n (pc := 252) dL_refusesAny_252 rfl ?_
                  refine lw_iload_n (pc := 253) dL_refusesAny_253 rfl ?_
                  refine lw_iconst (pc := 254) dL_refusesAny_254 ?_
                  refine lw_irem (pc := 255) dL_refusesAny_255 s71 (by decide) ?_
                  refine lw_aload_n (pc := 256) dL_refusesAny_256 rfl ?_
                  refine lw_bipush (pc := 257) dL_refusesAny_257 ?_
                  refine lw_iload_n (pc := 259) dL_refusesAny_259 rfl ?_
                  refine lw_iconst (pc := 260) dL_refusesAny_260 ?_
                  refine lw_irem (pc := 261) dL_refusesAny_261 s71 (by decide) ?_
                  obtain ⟨s92, G⟩ := G
                  refine lw_iadd (pc := 262) (v := 11 + (x1 % 2)) dL_refusesAny_262 s92 rfl ?_
                  refine lw_invV (pc := 263) (md' := m_X6_total) (as := [(.inl (11 + (x1 % 2)))]) dL_refusesAny_263 mo_X6_total im_X6_total se_X6_total ml_L_13 rfl rfl (by omega) (Nat.le_of_ble_eq_true rfl) rfl ⟨Nat.le_of_ble_eq_true rfl, Nat.le_of_ble_eq_true rfl⟩ (lm_mono (lm_rg (kq_total (by omega))) (fun v93 g' e => ?_))
                  obtain ⟨r_v93, e_v93, rfl⟩ := e
                  replace G := G v93 r_v93 e_v93
                  refine lw_invV (pc := 266) (md' := m_X6_set) (as := [(.inl (x1 % 2)), (.inl v93)]) dL_refusesAny_266 mo_X6_set im_X6_set se_X6_set ml_L_53 rfl rfl (by omega) (Nat.le_of_ble_eq_true rfl) rfl ⟨Nat.le_of_ble_eq_true rfl, Nat.le_of_ble_eq_true rfl⟩ (lm_mono (lm_rg (kc_set (by omega))) (fun v94 g95 e => ?_))
                  obtain ⟨r_v94, e_v94, f_v94⟩ := e
                  replace G := G v94 g95 r_v94 e_v94 f_v94
                  refine lw_bipush (pc := 269) dL_refusesAny_269 ?_
                  refine lw_icmp_ne (pc := 271) (tgt := 320) dL_refusesAny_271 (by decide) (fun c96 => ?_) (fun c96 => ?_)
                  · replace G := G.1 c96
                    exact G
                  · replace G := G.2 c96
                    refine lw_aload_n (pc := 274) dL_refusesAny_274 rfl ?_
                    refine lw_iload_n (pc := 275) dL_refusesAny_275 rfl ?_
                    obtain ⟨s99, G⟩ := G
                    refine lw_invV (pc := 276) (md' := m_X6_shuffle) (as := [(.inl x3)]) dL_refusesAny_276 mo_X6_shuffle im_X6_shuffle se_X6_shuffle ml_L_56 rfl rfl (by omega) (Nat.le_of_ble_eq_true rfl) rfl ⟨Nat.le_of_ble_eq_true rfl, Nat.le_of_ble_eq_true rfl⟩ (lm_mono (lm_rg (kc_shuffle (by omega) s99)) (fun v97 g98 e => ?_))
                    obtain ⟨r_v97, e_v97, f_v97⟩ := e
                    replace G := G v97 g98 r_v97 e_v97 f_v97
                    refine lw_bipush (pc := 279) dL_refusesAny_279 ?_
                    refine lw_icmp_ne (pc := 281) (tgt := 320) dL_refusesAny_281 (by decide) (fun c100 => ?_) (fun c100 => ?_)
                    · replace G := G.1 c100
                      exact G
                    · replace G := G.2 c100
                      refine lw_aload_n (pc := 284) dL_refusesAny_284 rfl ?_
                      refine lw_aload_n (pc := 285) dL_refusesAny_285 rfl ?_
                      refine lw_bipush (pc := 286) dL_refusesAny_286 ?_
                      refine lw_invV (pc := 288) (md' := m_X6_total) (as := [(.inl 13)]) dL_refusesAny_288 mo_X6_total im_X6_total se_X6_total ml_L_13 rfl rfl (by omega) (Nat.le_of_ble_eq_true rfl) rfl ⟨Nat.le_of_ble_eq_true rfl, Nat.le_of_ble_eq_true rfl⟩ (lm_mono (lm_rg (kq_total (by omega))) (fun v101 g' e => ?_))
                      obtain ⟨r_v101, e_v101, rfl⟩ := e
                      replace G := G v101 r_v101 e_v101
                      obtain ⟨s104, G⟩ := G
                      refine lw_invV (pc := 291) (md' := m_X6_shuffle) (as := [(.inl v101)]) dL_refusesAny_291 mo_X6_shuffle im_X6_shuffle se_X6_shuffle ml_L_56 rfl rfl (by omega) (Nat.le_of_ble_eq_true rfl) rfl ⟨Nat.le_of_ble_eq_true rfl, Nat.le_of_ble_eq_true rfl⟩ (lm_mono (lm_rg (kc_shuffle (by omega) s104)) (fun v102 g103 e => ?_))
                      obtain ⟨r_v102, e_v102, f_v102⟩ := e
                      replace G := G v102 g103 r_v102 e_v102 f_v102
                      refine lw_bipush (pc := 294) dL_refusesAny_294 ?_
                      refine lw_icmp_ne (pc := 296) (tgt := 320) dL_refusesAny_296 (by decide) (fun c105 => ?_) (fun c105 => ?_)
                      · replace G := G.1 c105
                        exact G
                      · replace G := G.2 c105
                        refine lw_aload_n (pc := 299) dL_refusesAny_299 rfl ?_
                        refine lw_iconst (pc := 300) dL_refusesAny_300 ?_
                        refine lw_invV (pc := 301) (md' := m_X6_total) (as := [(.inl 3)]) dL_refusesAny_301 mo_X6_total im_X6_total se_X6_total ml_L_13 rfl rfl (by omega) (Nat.le_of_ble_eq_true rfl) rfl ⟨Nat.le_of_ble_eq_true rfl, Nat.le_of_ble_eq_true rfl⟩ (lm_mono (lm_rg (kq_total (by omega))) (fun v106 g' e => ?_))
                        obtain ⟨r_v106, e_v106, rfl⟩ := e
                        replace G := G v106 r_v106 e_v106
                        refine lw_if_gt (pc := 304) (tgt := 316) dL_refusesAny_304 (by decide) (fun c107 => ?_) (fun c107 => ?_)
                        · replace G := G.1 c107
                          refine lw_iconst (pc := 316) dL_refusesAny_316 ?_
                          refine lw_goto (pc := 317) (tgt := 321) dL_refusesAny_317 (by decide) ?_
                          refine lw_istore (pc := 321) (ls' := [some (.inr (some 1)), some (.inl x1), some (.inl x2), some (.inl x3), some (.inl x4), some (.inl 1)]) dL_refusesAny_321 (Nat.le_of_ble_eq_true rfl) rfl ?_
                          refine lw_iload (pc := 323) dL_refusesAny_323 rfl ?_
                          refine lw_if_eq (pc := 325) (tgt := 536) dL_refusesAny_325 (by decide) (fun h => absurd h (by decide)) (fun _ => ?_)
                          exact G
                        · replace G := G.2 c107
                          refine lw_aload_n (pc := 307) dL_refusesAny_307 rfl ?_
                          refine lw_invV (pc := 308) (md' := m_X6_forget) (as := []) dL_refusesAny_308 mo_X6_forget im_X6_forget se_X6_forget ml_L_59 rfl rfl (by omega) (Nat.le_of_ble_eq_true rfl) rfl ⟨Nat.le_of_ble_eq_true rfl, Nat.le_of_ble_eq_true rfl⟩ (lm_mono (lm_rg (kc_forget (by omega))) (fun v109 g110 e => ?_))
                          obtain ⟨r_v109, e_v109, f_v109⟩ := e
                          replace G := G v109 g110 r_v109 e_v109 f_v109
                          refine lw_bipush (pc := 311) dL_refusesAny_311 ?_
                          refine lw_icmp_ne (pc := 313) (tgt := 320) dL_refusesAny_313 (by decide) (fun c111 => ?_) (fun c111 => ?_)
                          · replace G := G.1 c111
                            exact G
                          · replace G := G.2 c111
                            refine lw_iconst (pc := 316) dL_refusesAny_316 ?_
                            refine lw_goto (pc := 317) (tgt := 321) dL_refusesAny_317 (by decide) ?_
                            refine lw_istore (pc := 321) (ls' := [some (.inr (some 1)), some (.inl x1), some (.inl x2), some (.inl x3), some (.inl x4), some (.inl 1)]) dL_refusesAny_321 (Nat.le_of_ble_eq_true rfl) rfl ?_
                            refine lw_iload (pc := 323) dL_refusesAny_323 rfl ?_
                            refine lw_if_eq (pc := 325) (tgt := 536) dL_refusesAny_325 (by decide) (fun h => absurd h (by decide)) (fun _ => ?_)
                            exact G
      · replace G := G.2 c72
        refine lw_iconst (pc := 157) dL_refusesAny_157 ?_
        refine lw_goto (pc := 158) (tgt := 164) dL_refusesAny_158 (by decide) ?_
        refine lw_invV (pc := 164) (md' := m_X6_leave) (as := [(.inl x4), (.inl (-1))]) dL_refusesAny_164 mo_X6_leave im_X6_leave se_X6_leave ml_L_50 rfl rfl (by omega) (Nat.le_of_ble_eq_true rfl) rfl ⟨Nat.le_of_ble_eq_true rfl, Nat.le_of_ble_eq_true rfl⟩ (lm_mono (lm_rg (kc_leave (by omega))) (fun v113 g114 e => ?_))
        obtain ⟨r_v113, e_v113, f_v113⟩ := e
        replace G := G v113 g114 r_v113 e_v113 f_v113
        refine lw_bipush (pc := 167) dL_refusesAny_167 ?_
        refine lw_icmp_ne (pc := 169) (tgt := 320) dL_refusesAny_169 (by decide) (fun c115 => ?_) (fun c115 => ?_)
        · replace G := G.1 c115
          exact G
        · replace G := G.2 c115
          refine lw_aload_n (pc := 172) dL_refusesAny_172 rfl ?_
          refine lw_iload (pc := 173) dL_refusesAny_173 rfl ?_
          refine lw_aload_n (pc := 175) dL_refusesAny_175 rfl ?_
          refine lw_iload (pc := 176) dL_refusesAny_176 rfl ?_
          refine lw_iconst (pc := 178) dL_refusesAny_178 ?_
          refine lw_invV (pc := 179) (md' := m_X6_ofCard) (as := [(.inl x4), (.inl 1)]) dL_refusesAny_179 mo_X6_ofCard im_X6_ofCard se_X6_ofCard ml_L_22 rfl rfl (by omega) (Nat.le_of_ble_eq_true rfl) rfl ⟨Nat.le_of_ble_eq_true rfl, Nat.le_of_ble_eq_true rfl⟩ (lm_mono (lm_rg (kq_ofCard (by omega))) (fun v116 g' e => ?_))
          obtain ⟨r_v116, e_v116, rfl⟩ := e
          replace G := G v116 r_v116 e_v116
          refine lw_invV (pc := 182) (md' := m_X6_leave) (as := [(.inl x4), (.inl v116)]) dL_refusesAny_182 mo_X6_leave im_X6_leave se_X6_leave ml_L_50 rfl rfl (by omega) (Nat.le_of_ble_eq_true rfl) rfl ⟨Nat.le_of_ble_eq_true rfl, Nat.le_of_ble_eq_true rfl⟩ (lm_mono (lm_rg (kc_leave (by omega))) (fun v117 g118 e => ?_))
          obtain ⟨r_v117, e_v117, f_v117⟩ := e
          replace G := G v117 g118 r_v117 e_v117 f_v117
          refine lw_bipush (pc := 185) dL_refusesAny_185 ?_
          refine lw_icmp_ne (pc := 187) (tgt := 320) dL_refusesAny_187 (by decide) (fun c119 => ?_) (fun c119 => ?_)
          · replace G := G.1 c119
            exact G
          · replace G := G.2 c119
            refine lw_aload_n (pc := 190) dL_refusesAny_190 rfl ?_
            refine lw_iload_n (pc := 191) dL_refusesAny_191 rfl ?_
            refine lw_iconst (pc := 192) dL_refusesAny_192 ?_
            refine lw_irem (pc := 193) dL_refusesAny_193 s71 (by decide) ?_
            refine lw_if_ne (pc := 194) (tgt := 201) dL_refusesAny_194 (by decide) (fun h => absurd h (by omega)) (fun _ => ?_)
            refine lw_iconst (pc := 197) dL_refusesAny_197 ?_
            refine lw_goto (pc := 198) (tgt := 202) dL_refusesAny_198 (by decide) ?_
            refine lw_iconst (pc := 202) dL_refusesAny_202 ?_
            refine lw_invV (pc := 203) (md' := m_X6_set) (as := [(.inl (-1)), (.inl 0)]) dL_refusesAny_203 mo_X6_set im_X6_set se_X6_set ml_L_53 rfl rfl (by omega) (Nat.le_of_ble_eq_true rfl) rfl ⟨Nat.le_of_ble_eq_true rfl, Nat.le_of_ble_eq_true rfl⟩ (lm_mono (lm_rg (kc_set (by omega))) (fun v121 g122 e => ?_))
            obtain ⟨r_v121, e_v121, f_v121⟩ := e
            replace G := G v121 g122 r_v121 e_v121 f_v121
            refine lw_iconst (pc := 206) dL_refusesAny_206 ?_
            refine lw_icmp_ne (pc := 207) (tgt := 320) dL_refusesAny_207 (by decide) (fun c123 => ?_) (fun c123 => ?_)
            · replace G := G.1 c123
              exact G
            · replace G := G.2 c123
              refine lw_aload_n (pc := 210) dL_refusesAny_210 rfl ?_
              refine lw_iconst (pc := 211) dL_refusesAny_211 ?_
              refine lw_iload_n (pc := 212) dL_refusesAny_212 rfl ?_
              refine lw_iconst (pc := 213) dL_refusesAny_213 ?_
              refine lw_irem (pc := 214) dL_refusesAny_214 s71 (by decide) ?_
              refine lw_if_ne (pc := 215) (tgt := 222) dL_refusesAny_215 (by decide) (fun h => absurd h (by omega)) (fun _ => ?_)
              refine lw_iconst (pc := 218) dL_refusesAny_218 ?_
              refine lw_goto (pc := 219) (tgt := 223) dL_refusesAny_219 (by decide) ?_
              refine lw_invV (pc := 223) (md' := m_X6_set) (as := [(.inl 0), (.inl (-1))]) dL_refusesAny_223 mo_X6_set im_X6_set se_X6_set ml_L_53 rfl rfl (by omega) (Nat.le_of_ble_eq_true rfl) rfl ⟨Nat.le_of_ble_eq_true rfl, Nat.le_of_ble_eq_true rfl⟩ (lm_mono (lm_rg (kc_set (by omega))) (fun v125 g126 e => ?_))
              obtain ⟨r_v125, e_v125, f_v125⟩ := e
              replace G := G v125 g126 r_v125 e_v125 f_v125
              refine lw_bipush (pc := 226) dL_refusesAny_226 ?_
              refine lw_icmp_ne (pc := 228) (tgt := 320) dL_refusesAny_228 (by decide) (fun c127 => ?_) (fun c127 => ?_)
              · replace G := G.1 c127
                exact G
              · replace G := G.2 c127
                refine lw_aload_n (pc := 231) dL_refusesAny_231 rfl ?_
                refine lw_iconst (pc := 232) dL_refusesAny_232 ?_
                refine lw_iload_n (pc := 233) dL_refusesAny_233 rfl ?_
                refine lw_iconst (pc := 234) dL_refusesAny_234 ?_
                refine lw_irem (pc := 235) dL_refusesAny_235 s71 (by decide) ?_
                refine lw_if_ne (pc := 236) (tgt := 243) dL_refusesAny_236 (by decide) (fun h => absurd h (by omega)) (fun _ => ?_)
                refine lw_iconst (pc := 239) dL_refusesAny_239 ?_
                refine lw_goto (pc := 240) (tgt := 244) dL_refusesAny_240 (by decide) ?_
                refine lw_invV (pc := 244) (md' := m_X6_set) (as := [(.inl 1), (.inl (-1))]) dL_refusesAny_244 mo_X6_set im_X6_set se_X6_set ml_L_53 rfl rfl (by omega) (Nat.le_of_ble_eq_true rfl) rfl ⟨Nat.le_of_ble_eq_true rfl, Nat.le_of_ble_eq_true rfl⟩ (lm_mono (lm_rg (kc_set (by omega))) (fun v129 g130 e => ?_))
                obtain ⟨r_v129, e_v129, f_v129⟩ := e
                replace G := G v129 g130 r_v129 e_v129 f_v129
                refine lw_bipush (pc := 247) dL_refusesAny_247 ?_
                refine lw_icmp_ne (pc := 249) (tgt := 320) dL_refusesAny_249 (by decide) (fun c131 => ?_) (fun c131 => ?_)
                · replace G := G.1 c131
                  exact G
                · replace G := G.2 c131
                  refine lw_aload_n (pc := 252) dL_refusesAny_252 rfl ?_
                  refine lw_iload_n (pc := 253) dL_refusesAny_253 rfl ?_
                  refine lw_iconst (pc := 254) dL_refusesAny_254 ?_
                  refine lw_irem (pc := 255) dL_refusesAny_255 s71 (by decide) ?_
                  refine lw_aload_n (pc := 256) dL_refusesAny_256 rfl ?_
                  refine lw_bipush (pc := 257) dL_refusesAny_257 ?_
                  refine lw_iload_n (pc := 259) dL_refusesAny_259 rfl ?_
                  refine lw_iconst (pc := 260) dL_refusesAny_260 ?_
                  refine lw_irem (pc := 261) dL_refusesAny_261 s71 (by decide) ?_
                  obtain ⟨s132, G⟩ := G
                  refine lw_iadd (pc := 262) (v := 11 + (x1 % 2)) dL_refusesAny_262 s132 rfl ?_
                  refine lw_invV (pc := 263) (md' := m_X6_total) (as := [(.inl (11 + (x1 % 2)))]) dL_refusesAny_263 mo_X6_total im_X6_total se_X6_total ml_L_13 rfl rfl (by omega) (Nat.le_of_ble_eq_true rfl) rfl ⟨Nat.le_of_ble_eq_true rfl, Nat.le_of_ble_eq_true rfl⟩ (lm_mono (lm_rg (kq_total (by omega))) (fun v133 g' e => ?_))
                  obtain ⟨r_v133, e_v133, rfl⟩ := e
                  replace G := G v133 r_v133 e_v133
                  refine lw_invV (pc := 266) (md' := m_X6_set) (as := [(.inl (x1 % 2)), (.inl v133)]) dL_refusesAny_266 mo_X6_set im_X6_set se_X6_set ml_L_53 rfl rfl (by omega) (Nat.le_of_ble_eq_true rfl) rfl ⟨Nat.le_of_ble_eq_true rfl, Nat.le_of_ble_eq_true rfl⟩ (lm_mono (lm_rg (kc_set (by omega))) (fun v134 g135 e => ?_))
                  obtain ⟨r_v134, e_v134, f_v134⟩ := e
                  replace G := G v134 g135 r_v134 e_v134 f_v134
                  refine lw_bipush (pc := 269) dL_refusesAny_269 ?_
                  refine lw_icmp_ne (pc := 271) (tgt := 320) dL_refusesAny_271 (by decide) (fun c136 => ?_) (fun c136 => ?_)
                  · replace G := G.1 c136
                    exact G
                  · replace G := G.2 c136
                    refine lw_aload_n (pc := 274) dL_refusesAny_274 rfl ?_
                    refine lw_iload_n (pc := 275) dL_refusesAny_275 rfl ?_
                    obtain ⟨s139, G⟩ := G
                    refine lw_invV (pc := 276) (md' := m_X6_shuffle) (as := [(.inl x3)]) dL_refusesAny_276 mo_X6_shuffle im_X6_shuffle se_X6_shuffle ml_L_56 rfl rfl (by omega) (Nat.le_of_ble_eq_true rfl) rfl ⟨Nat.le_of_ble_eq_true rfl, Nat.le_of_ble_eq_true rfl⟩ (lm_mono (lm_rg (kc_shuffle (by omega) s139)) (fun v137 g138 e => ?_))
                    obtain ⟨r_v137, e_v137, f_v137⟩ := e
                    replace G := G v137 g138 r_v137 e_v137 f_v137
                    refine lw_bipush (pc := 279) dL_refusesAny_279 ?_
                    refine lw_icmp_ne (pc := 281) (tgt := 320) dL_refusesAny_281 (by decide) (fun c140 => ?_) (fun c140 => ?_)
                    · replace G := G.1 c140
                      exact G
                    · replace G := G.2 c140
                      refine lw_aload_n (pc := 284) dL_refusesAny_284 rfl ?_
                      refine lw_aload_n (pc := 285) dL_refusesAny_285 rfl ?_
                      refine lw_bipush (pc := 286) dL_refusesAny_286 ?_
                      refine lw_invV (pc := 288) (md' := m_X6_total) (as := [(.inl 13)]) dL_refusesAny_288 mo_X6_total im_X6_total se_X6_total ml_L_13 rfl rfl (by omega) (Nat.le_of_ble_eq_true rfl) rfl ⟨Nat.le_of_ble_eq_true rfl, Nat.le_of_ble_eq_true rfl⟩ (lm_mono (lm_rg (kq_total (by omega))) (fun v141 g' e => ?_))
                      obtain ⟨r_v141, e_v141, rfl⟩ := e
                      replace G := G v141 r_v141 e_v141
                      obtain ⟨s144, G⟩ := G
                      refine lw_invV (pc := 291) (md' := m_X6_shuffle) (as := [(.inl v141)]) dL_refusesAny_291 mo_X6_shuffle im_X6_shuffle se_X6_shuffle ml_L_56 rfl rfl (by omega) (Nat.le_of_ble_eq_true rfl) rfl ⟨Nat.le_of_ble_eq_true rfl, Nat.le_of_ble_eq_true rfl⟩ (lm_mono (lm_rg (kc_shuffle (by omega) s144)) (fun v142 g143 e => ?_))
                      obtain ⟨r_v142, e_v142, f_v142⟩ := e
                      replace G := G v142 g143 r_v142 e_v142 f_v142
                      refine lw_bipush (pc := 294) dL_refusesAny_294 ?_
                      refine lw_icmp_ne (pc := 296) (tgt := 320) dL_refusesAny_296 (by decide) (fun c145 => ?_) (fun c145 => ?_)
                      · replace G := G.1 c145
                        exact G
                      · replace G := G.2 c145
                        refine lw_aload_n (pc := 299) dL_refusesAny_299 rfl ?_
                        refine lw_iconst (pc := 300) dL_refusesAny_300 ?_
                        refine lw_invV (pc := 301) (md' := m_X6_total) (as := [(.inl 3)]) dL_refusesAny_301 mo_X6_total im_X6_total se_X6_total ml_L_13 rfl rfl (by omega) (Nat.le_of_ble_eq_true rfl) rfl ⟨Nat.le_of_ble_eq_true rfl, Nat.le_of_ble_eq_true rfl⟩ (lm_mono (lm_rg (kq_total (by omega))) (fun v146 g' e => ?_))
                        obtain ⟨r_v146, e_v146, rfl⟩ := e
                        replace G := G v146 r_v146 e_v146
                        refine lw_if_gt (pc := 304) (tgt := 316) dL_refusesAny_304 (by decide) (fun c147 => ?_) (fun c147 => ?_)
                        · replace G := G.1 c147
                          refine lw_iconst (pc := 316) dL_refusesAny_316 ?_
                          refine lw_goto (pc := 317) (tgt := 321) dL_refusesAny_317 (by decide) ?_
                          refine lw_istore (pc := 321) (ls' := [some (.inr (some 1)), some (.inl x1), some (.inl x2), some (.inl x3), some (.inl x4), some (.inl 1)]) dL_refusesAny_321 (Nat.le_of_ble_eq_true rfl) rfl ?_
                          refine lw_iload (pc := 323) dL_refusesAny_323 rfl ?_
                          refine lw_if_eq (pc := 325) (tgt := 536) dL_refusesAny_325 (by decide) (fun h => absurd h (by decide)) (fun _ => ?_)
                          exact G
                        · replace G := G.2 c147
                          refine lw_aload_n (pc := 307) dL_refusesAny_307 rfl ?_
                          refine lw_invV (pc := 308) (md' := m_X6_forget) (as := []) dL_refusesAny_308 mo_X6_forget im_X6_forget se_X6_forget ml_L_59 rfl rfl (by omega) (Nat.le_of_ble_eq_true rfl) rfl ⟨Nat.le_of_ble_eq_true rfl, Nat.le_of_ble_eq_true rfl⟩ (lm_mono (lm_rg (kc_forget (by omega))) (fun v149 g150 e => ?_))
                          obtain ⟨r_v149, e_v149, f_v149⟩ := e
                          replace G := G v149 g150 r_v149 e_v149 f_v149
                          refine lw_bipush (pc := 311) dL_refusesAny_311 ?_
                          refine lw_icmp_ne (pc := 313) (tgt := 320) dL_refusesAny_313 (by decide) (fun c151 => ?_) (fun c151 => ?_)
                          · replace G := G.1 c151
                            exact G
                          · replace G := G.2 c151
                            refine lw_iconst (pc := 316) dL_refusesAny_316 ?_
                            refine lw_goto (pc := 317) (tgt := 321) dL_refusesAny_317 (by decide) ?_
                            refine lw_istore (pc := 321) (ls' := [some (.inr (some 1)), some (.inl x1), some (.inl x2), some (.inl x3), some (.inl x4), some (.inl 1)]) dL_refusesAny_321 (Nat.le_of_ble_eq_true rfl) rfl ?_
                            refine lw_iload (pc := 323) dL_refusesAny_323 rfl ?_
                            refine lw_if_eq (pc := 325) (tgt := 536) dL_refusesAny_325 (by decide) (fun h => absurd h (by decide)) (fun _ => ?_)
                            exact G
set_option maxRecDepth 100000 in
set_option maxHeartbeats 4000000 in
theorem lc_refusesAny_328 {d : Nat} {P : Int → Gs → Prop} {g : Gs} {x1 x2 x3 x4 x5 : Int} (hd : 20 ≤ d)
  (G :
    (0 ≤ x1 ∧ x1 < 2147483648) ∧
    ((¬ x1 % 2 = 0 → (
      (∀ (v3 : Int) (g4 : Gs), rg v3 → v3 = (askG 9 0 g).1 → g4 = (askG 9 0 g).2 → (
        ((¬ v3 = (-2) → (
          LW m_L_refusesAny d none P 536 [some (.inr (some 1)), some (.inl x1), some (.inl x2), some (.inl x3), some (.inl x4), some (.inl x5)] [] g4 (0, 0)
          )) ∧ (¬ (¬ v3 = (-2)) → (
          (∀ (v6 : Int) (g7 : Gs), rg v6 → v6 = (askG (x1 % 9) (sl 1 (x1 % 9)) g4).1 → g7 = (askG (x1 % 9) (sl 1 (x1 % 9)) g4).2 → (
            ((¬ v6 = (-2) → (
              LW m_L_refusesAny d none P 536 [some (.inr (some 1)), some (.inl x1), some (.inl x2), some (.inl x3), some (.inl x4), some (.inl x5)] [] g7 (0, 0)
              )) ∧ (¬ (¬ v6 = (-2)) → (
              (∀ (v9 : Int) (g10 : Gs), rg v9 → v9 = (askG (x1 % 9) x3 g7).1 → g10 = (askG (x1 % 9) x3 g7).2 → (
                ((¬ v9 = (-2) → (
                  LW m_L_refusesAny d none P 536 [some (.inr (some 1)), some (.inl x1), some (.inl x2), some (.inl x3), some (.inl x4), some (.inl x5)] [] g10 (0, 0)
                  )) ∧ (¬ (¬ v9 = (-2)) → (
                  (∀ (v13 : Int) (g14 : Gs), rg v13 → v13 = (recG (frameO 65 g10.1) g10).1 → g14 = (recG (frameO 65 g10.1) g10).2 → (
                    ((¬ v13 = (-2) → (
                      LW m_L_refusesAny d none P 536 [some (.inr (some 1)), some (.inl x1), some (.inl x2), some (.inl x3), some (.inl x4), some (.inl x5)] [] g14 (0, 0)
                      )) ∧ (¬ (¬ v13 = (-2)) → (
                      (∀ (v17 : Int) (g18 : Gs), rg v17 → v17 = (recG (roundsO 65 g14.1) g14).1 → g18 = (recG (roundsO 65 g14.1) g14).2 → (
                        ((¬ v17 = (-2) → (
                          LW m_L_refusesAny d none P 536 [some (.inr (some 1)), some (.inl x1), some (.inl x2), some (.inl x3), some (.inl x4), some (.inl x5)] [] g18 (0, 0)
                          )) ∧ (¬ (¬ v17 = (-2)) → (
                          (∀ v20 : Int, rg v20 → v20 = cardO x3 g18.1.1 → (
                            ((¬ v20 = (-2) → (
                              LW m_L_refusesAny d none P 536 [some (.inr (some 1)), some (.inl x1), some (.inl x2), some (.inl x3), some (.inl x4), some (.inl x5)] [] g18 (0, 0)
                              )) ∧ (¬ (¬ v20 = (-2)) → (
                              (∀ v22 : Int, rg v22 → v22 = totO 0 g18 → (
                                (∀ v23 : Int, rg v23 → v23 = cardO v22 g18.1.1 → (
                                  ((¬ v23 = (-5) → (
                                    LW m_L_refusesAny d none P 536 [some (.inr (some 1)), some (.inl x1), some (.inl x2), some (.inl x3), some (.inl x4), some (.inl x5)] [] g18 (0, 0)
                                    )) ∧ (¬ (¬ v23 = (-5)) → (
                                    (∀ v25 : Int, rg v25 → v25 = ofO x2 9 g18.1.1 → (
                                      ((¬ v25 = (-1) → (
                                        LW m_L_refusesAny d none P 536 [some (.inr (some 1)), some (.inl x1), some (.inl x2), some (.inl x3), some (.inl x4), some (.inl x5)] [] g18 (0, 0)
                                        )) ∧ (¬ (¬ v25 = (-1)) → (
                                        ((x4 < 0 → (
                                          (∀ v28 : Int, rg v28 → v28 = toldO x3 g18.1.2.1 → (
                                            ((¬ v28 = (-2) → (
                                              LW m_L_refusesAny d none P 536 [some (.inr (some 1)), some (.inl x1), some (.inl x2), some (.inl x3), some (.inl x4), some (.inl x5)] [] g18 (0, 0)
                                              )) ∧ (¬ (¬ v28 = (-2)) → (
                                              (∀ v30 : Int, rg v30 → v30 = totO 3 g18 → (
                                                (∀ v31 : Int, rg v31 → v31 = toldO v30 g18.1.2.1 → (
                                                  ((¬ v31 = (-5) → (
                                                    LW m_L_refusesAny d none P 536 [some (.inr (some 1)), some (.inl x1), some (.inl x2), some (.inl x3), some (.inl x4), some (.inl x5)] [] g18 (0, 0)
                                                    )) ∧ (¬ (¬ v31 = (-5)) → (
                                                    (∀ v34 : Int, rg v34 → v34 = totO 17 g18 → (
                                                      ((¬ v34 = (-2) → (
                                                        LW m_L_refusesAny d none P 536 [some (.inr (some 1)), some (.inl x1), some (.inl x2), some (.inl x3), some (.inl x4), some (.inl x5)] [] g18 (0, 0)
                                                        )) ∧ (¬ (¬ v34 = (-2)) → (
                                                        LW m_L_refusesAny d none P 544 [some (.inr (some 1)), some (.inl x1), some (.inl x2), some (.inl x3), some (.inl x4), some (.inl 1)] [] g18 (0, 0)
                                                        )))))
                                                    )))))))
                                              )))))
                                          )) ∧ (¬ (x4 < 0) → (
                                          (∀ v38 : Int, rg v38 → v38 = ofO x4 4 g18.1.1 → (
                                            ((¬ v38 = (-2) → (
                                              LW m_L_refusesAny d none P 536 [some (.inr (some 1)), some (.inl x1), some (.inl x2), some (.inl x3), some (.inl x4), some (.inl x5)] [] g18 (0, 0)
                                              )) ∧ (¬ (¬ v38 = (-2)) → (
                                              (∀ v40 : Int, rg v40 → v40 = toldO x3 g18.1.2.1 → (
                                                ((¬ v40 = (-2) → (
                                                  LW m_L_refusesAny d none P 536 [some (.inr (some 1)), some (.inl x1), some (.inl x2), some (.inl x3), some (.inl x4), some (.inl x5)] [] g18 (0, 0)
                                                  )) ∧ (¬ (¬ v40 = (-2)) → (
                                                  (∀ v42 : Int, rg v42 → v42 = totO 3 g18 → (
                                                    (∀ v43 : Int, rg v43 → v43 = toldO v42 g18.1.2.1 → (
                                                      ((¬ v43 = (-5) → (
                                                        LW m_L_refusesAny d none P 536 [some (.inr (some 1)), some (.inl x1), some (.inl x2), some (.inl x3), some (.inl x4), some (.inl x5)] [] g18 (0, 0)
                                                        )) ∧ (¬ (¬ v43 = (-5)) → (
                                                        (∀ v46 : Int, rg v46 → v46 = totO 17 g18 → (
                                                          ((¬ v46 = (-2) → (
                                                            LW m_L_refusesAny d none P 536 [some (.inr (some 1)), some (.inl x1), some (.inl x2), some (.inl x3), some (.inl x4), some (.inl x5)] [] g18 (0, 0)
                                                            )) ∧ (¬ (¬ v46 = (-2)) → (
                                                            LW m_L_refusesAny d none P 544 [some (.inr (some 1)), some (.inl x1), some (.inl x2), some (.inl x3), some (.inl x4), some (.inl 1)] [] g18 (0, 0)
                                                            )))))
                                                        )))))))
                                                  )))))
                                              )))))
                                          )))
                                        )))))
                                    )))))))
                              )))))
                          )))))
                      )))))
                  )))))
              )))))
          )))))
      )) ∧ (¬ (¬ x1 % 2 = 0) → (
      (∀ (v49 : Int) (g50 : Gs), rg v49 → v49 = (askG (-1) 0 g).1 → g50 = (askG (-1) 0 g).2 → (
        ((¬ v49 = (-2) → (
          LW m_L_refusesAny d none P 536 [some (.inr (some 1)), some (.inl x1), some (.inl x2), some (.inl x3), some (.inl x4), some (.inl x5)] [] g50 (0, 0)
          )) ∧ (¬ (¬ v49 = (-2)) → (
          (∀ (v52 : Int) (g53 : Gs), rg v52 → v52 = (askG (x1 % 9) (sl 1 (x1 % 9)) g50).1 → g53 = (askG (x1 % 9) (sl 1 (x1 % 9)) g50).2 → (
            ((¬ v52 = (-2) → (
              LW m_L_refusesAny d none P 536 [some (.inr (some 1)), some (.inl x1), some (.inl x2), some (.inl x3), some (.inl x4), some (.inl x5)] [] g53 (0, 0)
              )) ∧ (¬ (¬ v52 = (-2)) → (
              (∀ (v55 : Int) (g56 : Gs), rg v55 → v55 = (askG (x1 % 9) x3 g53).1 → g56 = (askG (x1 % 9) x3 g53).2 → (
                ((¬ v55 = (-2) → (
                  LW m_L_refusesAny d none P 536 [some (.inr (some 1)), some (.inl x1), some (.inl x2), some (.inl x3), some (.inl x4), some (.inl x5)] [] g56 (0, 0)
                  )) ∧ (¬ (¬ v55 = (-2)) → (
                  (∀ (v59 : Int) (g60 : Gs), rg v59 → v59 = (recG (frameO 0 g56.1) g56).1 → g60 = (recG (frameO 0 g56.1) g56).2 → (
                    ((¬ v59 = (-2) → (
                      LW m_L_refusesAny d none P 536 [some (.inr (some 1)), some (.inl x1), some (.inl x2), some (.inl x3), some (.inl x4), some (.inl x5)] [] g60 (0, 0)
                      )) ∧ (¬ (¬ v59 = (-2)) → (
                      (∀ (v63 : Int) (g64 : Gs), rg v63 → v63 = (recG (roundsO 0 g60.1) g60).1 → g64 = (recG (roundsO 0 g60.1) g60).2 → (
                        ((¬ v63 = (-2) → (
                          LW m_L_refusesAny d none P 536 [some (.inr (some 1)), some (.inl x1), some (.inl x2), some (.inl x3), some (.inl x4), some (.inl x5)] [] g64 (0, 0)
                          )) ∧ (¬ (¬ v63 = (-2)) → (
                          (∀ v66 : Int, rg v66 → v66 = cardO x3 g64.1.1 → (
                            ((¬ v66 = (-2) → (
                              LW m_L_refusesAny d none P 536 [some (.inr (some 1)), some (.inl x1), some (.inl x2), some (.inl x3), some (.inl x4), some (.inl x5)] [] g64 (0, 0)
                              )) ∧ (¬ (¬ v66 = (-2)) → (
                              (∀ v68 : Int, rg v68 → v68 = totO 0 g64 → (
                                (∀ v69 : Int, rg v69 → v69 = cardO v68 g64.1.1 → (
                                  ((¬ v69 = (-5) → (
                                    LW m_L_refusesAny d none P 536 [some (.inr (some 1)), some (.inl x1), some (.inl x2), some (.inl x3), some (.inl x4), some (.inl x5)] [] g64 (0, 0)
                                    )) ∧ (¬ (¬ v69 = (-5)) → (
                                    (∀ v71 : Int, rg v71 → v71 = ofO x2 9 g64.1.1 → (
                                      ((¬ v71 = (-1) → (
                                        LW m_L_refusesAny d none P 536 [some (.inr (some 1)), some (.inl x1), some (.inl x2), some (.inl x3), some (.inl x4), some (.inl x5)] [] g64 (0, 0)
                                        )) ∧ (¬ (¬ v71 = (-1)) → (
                                        ((x4 < 0 → (
                                          (∀ v74 : Int, rg v74 → v74 = toldO x3 g64.1.2.1 → (
                                            ((¬ v74 = (-2) → (
                                              LW m_L_refusesAny d none P 536 [some (.inr (some 1)), some (.inl x1), some (.inl x2), some (.inl x3), some (.inl x4), some (.inl x5)] [] g64 (0, 0)
                                              )) ∧ (¬ (¬ v74 = (-2)) → (
                                              (∀ v76 : Int, rg v76 → v76 = totO 3 g64 → (
                                                (∀ v77 : Int, rg v77 → v77 = toldO v76 g64.1.2.1 → (
                                                  ((¬ v77 = (-5) → (
                                                    LW m_L_refusesAny d none P 536 [some (.inr (some 1)), some (.inl x1), some (.inl x2), some (.inl x3), some (.inl x4), some (.inl x5)] [] g64 (0, 0)
                                                    )) ∧ (¬ (¬ v77 = (-5)) → (
                                                    (∀ v80 : Int, rg v80 → v80 = totO (-1) g64 → (
                                                      ((¬ v80 = (-2) → (
                                                        LW m_L_refusesAny d none P 536 [some (.inr (some 1)), some (.inl x1), some (.inl x2), some (.inl x3), some (.inl x4), some (.inl x5)] [] g64 (0, 0)
                                                        )) ∧ (¬ (¬ v80 = (-2)) → (
                                                        LW m_L_refusesAny d none P 544 [some (.inr (some 1)), some (.inl x1), some (.inl x2), some (.inl x3), some (.inl x4), some (.inl 1)] [] g64 (0, 0)
                                                        )))))
                                                    )))))))
                                              )))))
                                          )) ∧ (¬ (x4 < 0) → (
                                          (∀ v84 : Int, rg v84 → v84 = ofO x4 (-1) g64.1.1 → (
                                            ((¬ v84 = (-2) → (
                                              LW m_L_refusesAny d none P 536 [some (.inr (some 1)), some (.inl x1), some (.inl x2), some (.inl x3), some (.inl x4), some (.inl x5)] [] g64 (0, 0)
                                              )) ∧ (¬ (¬ v84 = (-2)) → (
                                              (∀ v86 : Int, rg v86 → v86 = toldO x3 g64.1.2.1 → (
                                                ((¬ v86 = (-2) → (
                                                  LW m_L_refusesAny d none P 536 [some (.inr (some 1)), some (.inl x1), some (.inl x2), some (.inl x3), some (.inl x4), some (.inl x5)] [] g64 (0, 0)
                                                  )) ∧ (¬ (¬ v86 = (-2)) → (
                                                  (∀ v88 : Int, rg v88 → v88 = totO 3 g64 → (
                                                    (∀ v89 : Int, rg v89 → v89 = toldO v88 g64.1.2.1 → (
                                                      ((¬ v89 = (-5) → (
                                                        LW m_L_refusesAny d none P 536 [some (.inr (some 1)), some (.inl x1), some (.inl x2), some (.inl x3), some (.inl x4), some (.inl x5)] [] g64 (0, 0)
                                                        )) ∧ (¬ (¬ v89 = (-5)) → (
                                                        (∀ v92 : Int, rg v92 → v92 = totO (-1) g64 → (
                                                          ((¬ v92 = (-2) → (
                                                            LW m_L_refusesAny d none P 536 [some (.inr (some 1)), some (.inl x1), some (.inl x2), some (.inl x3), some (.inl x4), some (.inl x5)] [] g64 (0, 0)
                                                            )) ∧ (¬ (¬ v92 = (-2)) → (
                                                            LW m_L_refusesAny d none P 544 [some (.inr (some 1)), some (.inl x1), some (.inl x2), some (.inl x3), some (.inl x4), some (.inl 1)] [] g64 (0, 0)
                                                            )))))
                                                        )))))))
                                                  )))))
                                              )))))
                                          )))
                                        )))))
                                    )))))))
                              )))))
                          )))))
                      )))))
                  )))))
              )))))
          )))))
      )))) :
  LW m_L_refusesAny d none P 328 [some (.inr (some 1)), some (.inl x1), some (.inl x2), some (.inl x3), some (.inl x4), some (.inl x5)] [] g (0, 0) := by
  refine lw_aload_n (pc := 328) dL_refusesAny_328 rfl ?_
  refine lw_iload_n (pc := 329) dL_refusesAny_329 rfl ?_
  refine lw_iconst (pc := 330) dL_refusesAny_330 ?_
  obtain ⟨s1, G⟩ := G
  refine lw_irem (pc := 331) dL_refusesAny_331 s1 (by decide) ?_
  refine lw_if_ne (pc := 332) (tgt := 339) dL_refusesAny_332 (by decide) (fun c2 => ?_) (fun c2 => ?_)
  · replace G := G.1 c2
    refine lw_bipush (pc := 339) dL_refusesAny_339 ?_
    refine lw_iconst (pc := 341) dL_refusesAny_341 ?_
    refine lw_invV (pc := 342) (md' := m_X6_ask) (as := [(.inl 9), (.inl 0)]) dL_refusesAny_342 mo_X6_ask im_X6_ask se_X6_ask ml_L_62 rfl rfl (by omega) (Nat.le_of_ble_eq_true rfl) rfl ⟨Nat.le_of_ble_eq_true rfl, Nat.le_of_ble_eq_true rfl⟩ (lm_mono (lm_rg (kc_ask (by omega))) (fun v3 g4 e => ?_))
    obtain ⟨r_v3, e_v3, f_v3⟩ := e
    replace G := G v3 g4 r_v3 e_v3 f_v3
    refine lw_bipush (pc := 345) dL_refusesAny_345 ?_
    refine lw_icmp_ne (pc := 347) (tgt := 536) dL_refusesAny_347 (by decide) (fun c5 => ?_) (fun c5 => ?_)
    · replace G := G.1 c5
      exact G
    · replace G := G.2 c5
      refine lw_aload_n (pc := 350) dL_refusesAny_350 rfl ?_
      refine lw_iload_n (pc := 351) dL_refusesAny_351 rfl ?_
      refine lw_bipush (pc := 352) dL_refusesAny_352 ?_
      refine lw_irem (pc := 354) dL_refusesAny_354 s1 (by decide) ?_
      refine lw_iconst (pc := 355) dL_refusesAny_355 ?_
      refine lw_iload_n (pc := 356) dL_refusesAny_356 rfl ?_
      refine lw_bipush (pc := 357) dL_refusesAny_357 ?_
      refine lw_irem (pc := 359) dL_refusesAny_359 s1 (by decide) ?_
      refine lw_ishl (pc := 360) dL_refusesAny_360 ?_
      refine lw_invV (pc := 361) (md' := m_X6_ask) (as := [(.inl (x1 % 9)), (.inl (sl 1 (x1 % 9)))]) dL_refusesAny_361 mo_X6_ask im_X6_ask se_X6_ask ml_L_62 rfl rfl (by omega) (Nat.le_of_ble_eq_true rfl) rfl ⟨Nat.le_of_ble_eq_true rfl, Nat.le_of_ble_eq_true rfl⟩ (lm_mono (lm_rg (kc_ask (by omega))) (fun v6 g7 e => ?_))
      obtain ⟨r_v6, e_v6, f_v6⟩ := e
      replace G := G v6 g7 r_v6 e_v6 f_v6
      refine lw_bipush (pc := 364) dL_refusesAny_364 ?_
      refine lw_icmp_ne (pc := 366) (tgt := 536) dL_refusesAny_366 (by decide) (fun c8 => ?_) (fun c8 => ?_)
      · replace G := G.1 c8
        exact G
      · replace G := G.2 c8
        refine lw_aload_n (pc := 369) dL_refusesAny_369 rfl ?_
        refine lw_iload_n (pc := 370) dL_refusesAny_370 rfl ?_
        refine lw_bipush (pc := 371) dL_refusesAny_371 ?_
        refine lw_irem (pc := 373) dL_refusesAny_373 s1 (by decide) ?_
        refine lw_iload_n (pc := 374) dL_refusesAny_374 rfl ?_
        refine lw_invV (pc := 375) (md' := m_X6_ask) (as := [(.inl (x1 % 9)), (.inl x3)]) dL_refusesAny_375 mo_X6_ask im_X6_ask se_X6_ask ml_L_62 rfl rfl (by omega) (Nat.le_of_ble_eq_true rfl) rfl ⟨Nat.le_of_ble_eq_true rfl, Nat.le_of_ble_eq_true rfl⟩ (lm_mono (lm_rg (kc_ask (by omega))) (fun v9 g10 e => ?_))
        obtain ⟨r_v9, e_v9, f_v9⟩ := e
        replace G := G v9 g10 r_v9 e_v9 f_v9
        refine lw_bipush (pc := 378) dL_refusesAny_378 ?_
        refine lw_icmp_ne (pc := 380) (tgt := 536) dL_refusesAny_380 (by decide) (fun c11 => ?_) (fun c11 => ?_)
        · replace G := G.1 c11
          exact G
        · replace G := G.2 c11
          refine lw_aload_n (pc := 383) dL_refusesAny_383 rfl ?_
          refine lw_iload_n (pc := 384) dL_refusesAny_384 rfl ?_
          refine lw_iconst (pc := 385) dL_refusesAny_385 ?_
          refine lw_irem (pc := 386) dL_refusesAny_386 s1 (by decide) ?_
          refine lw_if_ne (pc := 387) (tgt := 394) dL_refusesAny_387 (by decide) (fun _ => ?_) (fun h => absurd (by omega) h)
          refine lw_bipush (pc := 394) dL_refusesAny_394 ?_
          refine lw_invV (pc := 396) (md' := m_X6_frame) (as := [(.inl 65)]) dL_refusesAny_396 mo_X6_frame im_X6_frame se_X6_frame ml_L_65 rfl rfl (by omega) (Nat.le_of_ble_eq_true rfl) rfl ⟨Nat.le_of_ble_eq_true rfl, Nat.le_of_ble_eq_true rfl⟩ (lm_mono (lm_rg (kc_frame (by omega))) (fun v13 g14 e => ?_))
          obtain ⟨r_v13, e_v13, f_v13⟩ := e
          replace G := G v13 g14 r_v13 e_v13 f_v13
          refine lw_bipush (pc := 399) dL_refusesAny_399 ?_
          refine lw_icmp_ne (pc := 401) (tgt := 536) dL_refusesAny_401 (by decide) (fun c15 => ?_) (fun c15 => ?_)
          · replace G := G.1 c15
            exact G
          · replace G := G.2 c15
            refine lw_aload_n (pc := 404) dL_refusesAny_404 rfl ?_
            refine lw_iload_n (pc := 405) dL_refusesAny_405 rfl ?_
            refine lw_iconst (pc := 406) dL_refusesAny_406 ?_
            refine lw_irem (pc := 407) dL_refusesAny_407 s1 (by decide) ?_
            refine lw_if_ne (pc := 408) (tgt := 415) dL_refusesAny_408 (by decide) (fun _ => ?_) (fun h => absurd (by omega) h)
            refine lw_bipush (pc := 415) dL_refusesAny_415 ?_
            refine lw_invV (pc := 417) (md' := m_X6_rounds) (as := [(.inl 65)]) dL_refusesAny_417 mo_X6_rounds im_X6_rounds se_X6_rounds ml_L_68 rfl rfl (by omega) (Nat.le_of_ble_eq_true rfl) rfl ⟨Nat.le_of_ble_eq_true rfl, Nat.le_of_ble_eq_true rfl⟩ (lm_mono (lm_rg (kc_rounds (by omega))) (fun v17 g18 e => ?_))
            obtain ⟨r_v17, e_v17, f_v17⟩ := e
            replace G := G v17 g18 r_v17 e_v17 f_v17
            refine lw_bipush (pc := 420) dL_refusesAny_420 ?_
            refine lw_icmp_ne (pc := 422) (tgt := 536) dL_refusesAny_422 (by decide) (fun c19 => ?_) (fun c19 => ?_)
            · replace G := G.1 c19
              exact G
            · replace G := G.2 c19
              refine lw_aload_n (pc := 425) dL_refusesAny_425 rfl ?_
              refine lw_iload_n (pc := 426) dL_refusesAny_426 rfl ?_
              refine lw_invV (pc := 427) (md' := m_X6_card) (as := [(.inl x3)]) dL_refusesAny_427 mo_X6_card im_X6_card se_X6_card ml_L_19 rfl rfl (by omega) (Nat.le_of_ble_eq_true rfl) rfl ⟨Nat.le_of_ble_eq_true rfl, Nat.le_of_ble_eq_true rfl⟩ (lm_mono (lm_rg (kq_card (by omega))) (fun v20 g' e => ?_))
              obtain ⟨r_v20, e_v20, rfl⟩ := e
              replace G := G v20 r_v20 e_v20
              refine lw_bipush (pc := 430) dL_refusesAny_430 ?_
              refine lw_icmp_ne (pc := 432) (tgt := 536) dL_refusesAny_432 (by decide) (fun c21 => ?_) (fun c21 => ?_)
              · replace G := G.1 c21
                exact G
              · replace G := G.2 c21
                refine lw_aload_n (pc := 435) dL_refusesAny_435 rfl ?_
                refine lw_aload_n (pc := 436) dL_refusesAny_436 rfl ?_
                refine lw_iconst (pc := 437) dL_refusesAny_437 ?_
                refine lw_invV (pc := 438) (md' := m_X6_total) (as := [(.inl 0)]) dL_refusesAny_438 mo_X6_total im_X6_total se_X6_total ml_L_13 rfl rfl (by omega) (Nat.le_of_ble_eq_true rfl) rfl ⟨Nat.le_of_ble_eq_true rfl, Nat.le_of_ble_eq_true rfl⟩ (lm_mono (lm_rg (kq_total (by omega))) (fun v22 g' e => ?_))
                obtain ⟨r_v22, e_v22, rfl⟩ := e
                replace G := G v22 r_v22 e_v22
                refine lw_invV (pc := 441) (md' := m_X6_card) (as := [(.inl v22)]) dL_refusesAny_441 mo_X6_card im_X6_card se_X6_card ml_L_19 rfl rfl (by omega) (Nat.le_of_ble_eq_true rfl) rfl ⟨Nat.le_of_ble_eq_true rfl, Nat.le_of_ble_eq_true rfl⟩ (lm_mono (lm_rg (kq_card (by omega))) (fun v23 g' e => ?_))
                obtain ⟨r_v23, e_v23, rfl⟩ := e
                replace G := G v23 r_v23 e_v23
                refine lw_bipush (pc := 444) dL_refusesAny_444 ?_
                refine lw_icmp_ne (pc := 446) (tgt := 536) dL_refusesAny_446 (by decide) (fun c24 => ?_) (fun c24 => ?_)
                · replace G := G.1 c24
                  exact G
                · replace G := G.2 c24
                  refine lw_aload_n (pc := 449) dL_refusesAny_449 rfl ?_
                  refine lw_iload_n (pc := 450) dL_refusesAny_450 rfl ?_
                  refine lw_bipush (pc := 451) dL_refusesAny_451 ?_
                  refine lw_invV (pc := 453) (md' := m_X6_ofCard) (as := [(.inl x2), (.inl 9)]) dL_refusesAny_453 mo_X6_ofCard im_X6_ofCard se_X6_ofCard ml_L_22 rfl rfl (by omega) (Nat.le_of_ble_eq_true rfl) rfl ⟨Nat.le_of_ble_eq_true rfl, Nat.le_of_ble_eq_true rfl⟩ (lm_mono (lm_rg (kq_ofCard (by omega))) (fun v25 g' e => ?_))
                  obtain ⟨r_v25, e_v25, rfl⟩ := e
                  replace G := G v25 r_v25 e_v25
                  refine lw_iconst (pc := 456) dL_refusesAny_456 ?_
                  refine lw_icmp_ne (pc := 457) (tgt := 536) dL_refusesAny_457 (by decide) (fun c26 => ?_) (fun c26 => ?_)
                  · replace G := G.1 c26
                    exact G
                  · replace G := G.2 c26
                    refine lw_iload (pc := 460) dL_refusesAny_460 rfl ?_
                    refine lw_if_lt (pc := 462) (tgt := 487) dL_refusesAny_462 (by decide) (fun c27 => ?_) (fun c27 => ?_)
                    · replace G := G.1 c27
                      refine lw_aload_n (pc := 487) dL_refusesAny_487 rfl ?_
                      refine lw_iload_n (pc := 488) dL_refusesAny_488 rfl ?_
                      refine lw_invV (pc := 489) (md' := m_X6_told) (as := [(.inl x3)]) dL_refusesAny_489 mo_X6_told im_X6_told se_X6_told ml_L_26 rfl rfl (by omega) (Nat.le_of_ble_eq_true rfl) rfl ⟨Nat.le_of_ble_eq_true rfl, Nat.le_of_ble_eq_true rfl⟩ (lm_mono (lm_rg (kq_told (by omega))) (fun v28 g' e => ?_))
                      obtain ⟨r_v28, e_v28, rfl⟩ := e
                      replace G := G v28 r_v28 e_v28
                      refine lw_bipush (pc := 492) dL_refusesAny_492 ?_
                      refine lw_icmp_ne (pc := 494) (tgt := 536) dL_refusesAny_494 (by decide) (fun c29 => ?_) (fun c29 => ?_)
                      · replace G := G.1 c29
                        exact G
                      · replace G := G.2 c29
                        refine lw_aload_n (pc := 497) dL_refusesAny_497 rfl ?_
                        refine lw_aload_n (pc := 498) dL_refusesAny_498 rfl ?_
                        refine lw_iconst (pc := 499) dL_refusesAny_499 ?_
                        refine lw_invV (pc := 500) (md' := m_X6_total) (as := [(.inl 3)]) dL_refusesAny_500 mo_X6_total im_X6_total se_X6_total ml_L_13 rfl rfl (by omega) (Nat.le_of_ble_eq_true rfl) rfl ⟨Nat.le_of_ble_eq_true rfl, Nat.le_of_ble_eq_true rfl⟩ (lm_mono (lm_rg (kq_total (by omega))) (fun v30 g' e => ?_))
                        obtain ⟨r_v30, e_v30, rfl⟩ := e
                        replace G := G v30 r_v30 e_v30
                        refine lw_invV (pc := 503) (md' := m_X6_told) (as := [(.inl v30)]) dL_refusesAny_503 mo_X6_told im_X6_told se_X6_told ml_L_26 rfl rfl (by omega) (Nat.le_of_ble_eq_true rfl) rfl ⟨Nat.le_of_ble_eq_true rfl, Nat.le_of_ble_eq_true rfl⟩ (lm_mono (lm_rg (kq_told (by omega))) (fun v31 g' e => ?_))
                        obtain ⟨r_v31, e_v31, rfl⟩ := e
                        replace G := G v31 r_v31 e_v31
                        refine lw_bipush (pc := 506) dL_refusesAny_506 ?_
                        refine lw_icmp_ne (pc := 508) (tgt := 536) dL_refusesAny_508 (by decide) (fun c32 => ?_) (fun c32 => ?_)
                        · replace G := G.1 c32
                          exact G
                        · replace G := G.2 c32
                          refine lw_aload_n (pc := 511) dL_refusesAny_511 rfl ?_
                          refine lw_iload_n (pc := 512) dL_refusesAny_512 rfl ?_
                          refine lw_iconst (pc := 513) dL_refusesAny_513 ?_
                          refine lw_irem (pc := 514) dL_refusesAny_514 s1 (by decide) ?_
                          refine lw_if_ne (pc := 515) (tgt := 522) dL_refusesAny_515 (by decide) (fun _ => ?_) (fun h => absurd (by omega) h)
                          refine lw_bipush (pc := 522) dL_refusesAny_522 ?_
                          refine lw_invV (pc := 524) (md' := m_X6_total) (as := [(.inl 17)]) dL_refusesAny_524 mo_X6_total im_X6_total se_X6_total ml_L_13 rfl rfl (by omega) (Nat.le_of_ble_eq_true rfl) rfl ⟨Nat.le_of_ble_eq_true rfl, Nat.le_of_ble_eq_true rfl⟩ (lm_mono (lm_rg (kq_total (by omega))) (fun v34 g' e => ?_))
                          obtain ⟨r_v34, e_v34, rfl⟩ := e
                          replace G := G v34 r_v34 e_v34
                          refine lw_bipush (pc := 527) dL_refusesAny_527 ?_
                          refine lw_icmp_ne (pc := 529) (tgt := 536) dL_refusesAny_529 (by decide) (fun c35 => ?_) (fun c35 => ?_)
                          · replace G := G.1 c35
                            exact G
                          · replace G := G.2 c35
                            refine lw_iconst (pc := 532) dL_refusesAny_532 ?_
                            refine lw_goto (pc := 533) (tgt := 537) dL_refusesAny_533 (by decide) ?_
                            refine lw_istore (pc := 537) (ls' := [some (.inr (some 1)), some (.inl x1), some (.inl x2), some (.inl x3), some (.inl x4), some (.inl 1)]) dL_refusesAny_537 (Nat.le_of_ble_eq_true rfl) rfl ?_
                            refine lw_iload (pc := 539) dL_refusesAny_539 rfl ?_
                            refine lw_if_eq (pc := 541) (tgt := 698) dL_refusesAny_541 (by decide) (fun h => absurd h (by decide)) (fun _ => ?_)
                            exact G
                    · replace G := G.2 c27
                      refine lw_aload_n (pc := 465) dL_refusesAny_465 rfl ?_
                      refine lw_iload (pc := 466) dL_refusesAny_466 rfl ?_
                      refine lw_iload_n (pc := 468) dL_refusesAny_468 rfl ?_
                      refine lw_iconst (pc := 469) dL_refusesAny_469 ?_
                      refine lw_irem (pc := 470) dL_refusesAny_470 s1 (by decide) ?_
                      refine lw_if_ne (pc := 471) (tgt := 478) dL_refusesAny_471 (by decide) (fun _ => ?_) (fun h => absurd (by omega) h)
                      refine lw_iconst (pc := 478) dL_refusesAny_478 ?_
                      refine lw_invV (pc := 479) (md' := m_X6_ofCard) (as := [(.inl x4), (.inl 4)]) dL_refusesAny_479 mo_X6_ofCard im_X6_ofCard se_X6_ofCard ml_L_22 rfl rfl (by omega) (Nat.le_of_ble_eq_true rfl) rfl ⟨Nat.le_of_ble_eq_true rfl, Nat.le_of_ble_eq_true rfl⟩ (lm_mono (lm_rg (kq_ofCard (by omega))) (fun v38 g' e => ?_))
                      obtain ⟨r_v38, e_v38, rfl⟩ := e
                      replace G := G v38 r_v38 e_v38
                      refine lw_bipush (pc := 482) dL_refusesAny_482 ?_
                      refine lw_icmp_ne (pc := 484) (tgt := 536) dL_refusesAny_484 (by decide) (fun c39 => ?_) (fun c39 => ?_)
                      · replace G := G.1 c39
                        exact G
                      · replace G := G.2 c39
                        refine lw_aload_n (pc := 487) dL_refusesAny_487 rfl ?_
                        refine lw_iload_n (pc := 488) dL_refusesAny_488 rfl ?_
                        refine lw_invV (pc := 489) (md' := m_X6_told) (as := [(.inl x3)]) dL_refusesAny_489 mo_X6_told im_X6_told se_X6_told ml_L_26 rfl rfl (by omega) (Nat.le_of_ble_eq_true rfl) rfl ⟨Nat.le_of_ble_eq_true rfl, Nat.le_of_ble_eq_true rfl⟩ (lm_mono (lm_rg (kq_told (by omega))) (fun v40 g' e => ?_))
                        obtain ⟨r_v40, e_v40, rfl⟩ := e
                        replace G := G v40 r_v40 e_v40
                        refine lw_bipush (pc := 492) dL_refusesAny_492 ?_
                        refine lw_icmp_ne (pc := 494) (tgt := 536) dL_refusesAny_494 (by decide) (fun c41 => ?_) (fun c41 => ?_)
                        · replace G := G.1 c41
                          exact G
                        · replace G := G.2 c41
                          refine lw_aload_n (pc := 497) dL_refusesAny_497 rfl ?_
                          refine lw_aload_n (pc := 498) dL_refusesAny_498 rfl ?_
                          refine lw_iconst (pc := 499) dL_refusesAny_499 ?_
                          refine lw_invV (pc := 500) (md' := m_X6_total) (as := [(.inl 3)]) dL_refusesAny_500 mo_X6_total im_X6_total se_X6_total ml_L_13 rfl rfl (by omega) (Nat.le_of_ble_eq_true rfl) rfl ⟨Nat.le_of_ble_eq_true rfl, Nat.le_of_ble_eq_true rfl⟩ (lm_mono (lm_rg (kq_total (by omega))) (fun v42 g' e => ?_))
                          obtain ⟨r_v42, e_v42, rfl⟩ := e
                          replace G := G v42 r_v42 e_v42
                          refine lw_invV (pc := 503) (md' := m_X6_told) (as := [(.inl v42)]) dL_refusesAny_503 mo_X6_told im_X6_told se_X6_told ml_L_26 rfl rfl (by omega) (Nat.le_of_ble_eq_true rfl) rfl ⟨Nat.le_of_ble_eq_true rfl, Nat.le_of_ble_eq_true rfl⟩ (lm_mono (lm_rg (kq_told (by omega))) (fun v43 g' e => ?_))
                          obtain ⟨r_v43, e_v43, rfl⟩ := e
                          replace G := G v43 r_v43 e_v43
                          refine lw_bipush (pc := 506) dL_refusesAny_506 ?_
                          refine lw_icmp_ne (pc := 508) (tgt := 536) dL_refusesAny_508 (by decide) (fun c44 => ?_) (fun c44 => ?_)
                          · replace G := G.1 c44
                            exact G
                          · replace G := G.2 c44
                            refine lw_aload_n (pc := 511) dL_refusesAny_511 rfl ?_
                            refine lw_iload_n (pc := 512) dL_refusesAny_512 rfl ?_
                            refine lw_iconst (pc := 513) dL_refusesAny_513 ?_
                            refine lw_irem (pc := 514) dL_refusesAny_514 s1 (by decide) ?_
                            refine lw_if_ne (pc := 515) (tgt := 522) dL_refusesAny_515 (by decide) (fun _ => ?_) (fun h => absurd (by omega) h)
                            refine lw_bipush (pc := 522) dL_refusesAny_522 ?_
                            refine lw_invV (pc := 524) (md' := m_X6_total) (as := [(.inl 17)]) dL_refusesAny_524 mo_X6_total im_X6_total se_X6_total ml_L_13 rfl rfl (by omega) (Nat.le_of_ble_eq_true rfl) rfl ⟨Nat.le_of_ble_eq_true rfl, Nat.le_of_ble_eq_true rfl⟩ (lm_mono (lm_rg (kq_total (by omega))) (fun v46 g' e => ?_))
                            obtain ⟨r_v46, e_v46, rfl⟩ := e
                            replace G := G v46 r_v46 e_v46
                            refine lw_bipush (pc := 527) dL_refusesAny_527 ?_
                            refine lw_icmp_ne (pc := 529) (tgt := 536) dL_refusesAny_529 (by decide) (fun c47 => ?_) (fun c47 => ?_)
                            · replace G := G.1 c47
                              exact G
                            · replace G := G.2 c47
                              refine lw_iconst (pc := 532) dL_refusesAny_532 ?_
                              refine lw_goto (pc := 533) (tgt := 537) dL_refusesAny_533 (by decide) ?_
                              refine lw_istore (pc := 537) (ls' := [some (.inr (some 1)), some (.inl x1), some (.inl x2), some (.inl x3), some (.inl x4), some (.inl 1)]) dL_refusesAny_537 (Nat.le_of_ble_eq_true rfl) rfl ?_
                              refine lw_iload (pc := 539) dL_refusesAny_539 rfl ?_
                              refine lw_if_eq (pc := 541) (tgt := 698) dL_refusesAny_541 (by decide) (fun h => absurd h (by decide)) (fun _ => ?_)
                              exact G
  · replace G := G.2 c2
    refine lw_iconst (pc := 335) dL_refusesAny_335 ?_
    refine lw_goto (pc := 336) (tgt := 341) dL_refusesAny_336 (by decide) ?_
    refine lw_iconst (pc := 341) dL_refusesAny_341 ?_
    refine lw_invV (pc := 342) (md' := m_X6_ask) (as := [(.inl (-1)), (.inl 0)]) dL_refusesAny_342 mo_X6_ask im_X6_ask se_X6_ask ml_L_62 rfl rfl (by omega) (Nat.le_of_ble_eq_true rfl) rfl ⟨Nat.le_of_ble_eq_true rfl, Nat.le_of_ble_eq_true rfl⟩ (lm_mono (lm_rg (kc_ask (by omega))) (fun v49 g50 e => ?_))
    obtain ⟨r_v49, e_v49, f_v49⟩ := e
    replace G := G v49 g50 r_v49 e_v49 f_v49
    refine lw_bipush (pc := 345) dL_refusesAny_345 ?_
    refine lw_icmp_ne (pc := 347) (tgt := 536) dL_refusesAny_347 (by decide) (fun c51 => ?_) (fun c51 => ?_)
    · replace G := G.1 c51
      exact G
    · replace G := G.2 c51
      refine lw_aload_n (pc := 350) dL_refusesAny_350 rfl ?_
      refine lw_iload_n (pc := 351) dL_refusesAny_351 rfl ?_
      refine lw_bipush (pc := 352) dL_refusesAny_352 ?_
      refine lw_irem (pc := 354) dL_refusesAny_354 s1 (by decide) ?_
      refine lw_iconst (pc := 355) dL_refusesAny_355 ?_
      refine lw_iload_n (pc := 356) dL_refusesAny_356 rfl ?_
      refine lw_bipush (pc := 357) dL_refusesAny_357 ?_
      refine lw_irem (pc := 359) dL_refusesAny_359 s1 (by decide) ?_
      refine lw_ishl (pc := 360) dL_refusesAny_360 ?_
      refine lw_invV (pc := 361) (md' := m_X6_ask) (as := [(.inl (x1 % 9)), (.inl (sl 1 (x1 % 9)))]) dL_refusesAny_361 mo_X6_ask im_X6_ask se_X6_ask ml_L_62 rfl rfl (by omega) (Nat.le_of_ble_eq_true rfl) rfl ⟨Nat.le_of_ble_eq_true rfl, Nat.le_of_ble_eq_true rfl⟩ (lm_mono (lm_rg (kc_ask (by omega))) (fun v52 g53 e => ?_))
      obtain ⟨r_v52, e_v52, f_v52⟩ := e
      replace G := G v52 g53 r_v52 e_v52 f_v52
      refine lw_bipush (pc := 364) dL_refusesAny_364 ?_
      refine lw_icmp_ne (pc := 366) (tgt := 536) dL_refusesAny_366 (by decide) (fun c54 => ?_) (fun c54 => ?_)
      · replace G := G.1 c54
        exact G
      · replace G := G.2 c54
        refine lw_aload_n (pc := 369) dL_refusesAny_369 rfl ?_
        refine lw_iload_n (pc := 370) dL_refusesAny_370 rfl ?_
        refine lw_bipush (pc := 371) dL_refusesAny_371 ?_
        refine lw_irem (pc := 373) dL_refusesAny_373 s1 (by decide) ?_
        refine lw_iload_n (pc := 374) dL_refusesAny_374 rfl ?_
        refine lw_invV (pc := 375) (md' := m_X6_ask) (as := [(.inl (x1 % 9)), (.inl x3)]) dL_refusesAny_375 mo_X6_ask im_X6_ask se_X6_ask ml_L_62 rfl rfl (by omega) (Nat.le_of_ble_eq_true rfl) rfl ⟨Nat.le_of_ble_eq_true rfl, Nat.le_of_ble_eq_true rfl⟩ (lm_mono (lm_rg (kc_ask (by omega))) (fun v55 g56 e => ?_))
        obtain ⟨r_v55, e_v55, f_v55⟩ := e
        replace G := G v55 g56 r_v55 e_v55 f_v55
        refine lw_bipush (pc := 378) dL_refusesAny_378 ?_
        refine lw_icmp_ne (pc := 380) (tgt := 536) dL_refusesAny_380 (by decide) (fun c57 => ?_) (fun c57 => ?_)
        · replace G := G.1 c57
          exact G
        · replace G := G.2 c57
          refine lw_aload_n (pc := 383) dL_refusesAny_383 rfl ?_
          refine lw_iload_n (pc := 384) dL_refusesAny_384 rfl ?_
          refine lw_iconst (pc := 385) dL_refusesAny_385 ?_
          refine lw_irem (pc := 386) dL_refusesAny_386 s1 (by decide) ?_
          refine lw_if_ne (pc := 387) (tgt := 394) dL_refusesAny_387 (by decide) (fun h => absurd h (by omega)) (fun _ => ?_)
          refine lw_iconst (pc := 390) dL_refusesAny_390 ?_
          refine lw_goto (pc := 391) (tgt := 396) dL_refusesAny_391 (by decide) ?_
          refine lw_invV (pc := 396) (md' := m_X6_frame) (as := [(.inl 0)]) dL_refusesAny_396 mo_X6_frame im_X6_frame se_X6_frame ml_L_65 rfl rfl (by omega) (Nat.le_of_ble_eq_true rfl) rfl ⟨Nat.le_of_ble_eq_true rfl, Nat.le_of_ble_eq_true rfl⟩ (lm_mono (lm_rg (kc_frame (by omega))) (fun v59 g60 e => ?_))
          obtain ⟨r_v59, e_v59, f_v59⟩ := e
          replace G := G v59 g60 r_v59 e_v59 f_v59
          refine lw_bipush (pc := 399) dL_refusesAny_399 ?_
          refine lw_icmp_ne (pc := 401) (tgt := 536) dL_refusesAny_401 (by decide) (fun c61 => ?_) (fun c61 => ?_)
          · replace G := G.1 c61
            exact G
          · replace G := G.2 c61
            refine lw_aload_n (pc := 404) dL_refusesAny_404 rfl ?_
            refine lw_iload_n (pc := 405) dL_refusesAny_405 rfl ?_
            refine lw_iconst (pc := 406) dL_refusesAny_406 ?_
            refine lw_irem (pc := 407) dL_refusesAny_407 s1 (by decide) ?_
            refine lw_if_ne (pc := 408) (tgt := 415) dL_refusesAny_408 (by decide) (fun h => absurd h (by omega)) (fun _ => ?_)
            refine lw_iconst (pc := 411) dL_refusesAny_411 ?_
            refine lw_goto (pc := 412) (tgt := 417) dL_refusesAny_412 (by decide) ?_
            refine lw_invV (pc := 417) (md' := m_X6_rounds) (as := [(.inl 0)]) dL_refusesAny_417 mo_X6_rounds im_X6_rounds se_X6_rounds ml_L_68 rfl rfl (by omega) (Nat.le_of_ble_eq_true rfl) rfl ⟨Nat.le_of_ble_eq_true rfl, Nat.le_of_ble_eq_true rfl⟩ (lm_mono (lm_rg (kc_rounds (by omega))) (fun v63 g64 e => ?_))
            obtain ⟨r_v63, e_v63, f_v63⟩ := e
            replace G := G v63 g64 r_v63 e_v63 f_v63
            refine lw_bipush (pc := 420) dL_refusesAny_420 ?_
            refine lw_icmp_ne (pc := 422) (tgt := 536) dL_refusesAny_422 (by decide) (fun c65 => ?_) (fun c65 => ?_)
            · replace G := G.1 c65
              exact G
            · replace G := G.2 c65
              refine lw_aload_n (pc := 425) dL_refusesAny_425 rfl ?_
              refine lw_iload_n (pc := 426) dL_refusesAny_426 rfl ?_
              refine lw_invV (pc := 427) (md' := m_X6_card) (as := [(.inl x3)]) dL_refusesAny_427 mo_X6_card im_X6_card se_X6_card ml_L_19 rfl rfl (by omega) (Nat.le_of_ble_eq_true rfl) rfl ⟨Nat.le_of_ble_eq_true rfl, Nat.le_of_ble_eq_true rfl⟩ (lm_mono (lm_rg (kq_card (by omega))) (fun v66 g' e => ?_))
              obtain ⟨r_v66, e_v66, rfl⟩ := e
              replace G := G v66 r_v66 e_v66
              refine lw_bipush (pc := 430) dL_refusesAny_430 ?_
              refine lw_icmp_ne (pc := 432) (tgt := 536) dL_refusesAny_432 (by decide) (fun c67 => ?_) (fun c67 => ?_)
              · replace G := G.1 c67
                exact G
              · replace G := G.2 c67
                refine lw_aload_n (pc := 435) dL_refusesAny_435 rfl ?_
                refine lw_aload_n (pc := 436) dL_refusesAny_436 rfl ?_
                refine lw_iconst (pc := 437) dL_refusesAny_437 ?_
                refine lw_invV (pc := 438) (md' := m_X6_total) (as := [(.inl 0)]) dL_refusesAny_438 mo_X6_total im_X6_total se_X6_total ml_L_13 rfl rfl (by omega) (Nat.le_of_ble_eq_true rfl) rfl ⟨Nat.le_of_ble_eq_true rfl, Nat.le_of_ble_eq_true rfl⟩ (lm_mono (lm_rg (kq_total (by omega))) (fun v68 g' e => ?_))
                obtain ⟨r_v68, e_v68, rfl⟩ := e
                replace G := G v68 r_v68 e_v68
                refine lw_invV (pc := 441) (md' := m_X6_card) (as := [(.inl v68)]) dL_refusesAny_441 mo_X6_card im_X6_card se_X6_card ml_L_19 rfl rfl (by omega) (Nat.le_of_ble_eq_true rfl) rfl ⟨Nat.le_of_ble_eq_true rfl, Nat.le_of_ble_eq_true rfl⟩ (lm_mono (lm_rg (kq_card (by omega))) (fun v69 g' e => ?_))
                obtain ⟨r_v69, e_v69, rfl⟩ := e
                replace G := G v69 r_v69 e_v69
                refine lw_bipush (pc := 444) dL_refusesAny_444 ?_
                refine lw_icmp_ne (pc := 446) (tgt := 536) dL_refusesAny_446 (by decide) (fun c70 => ?_) (fun c70 => ?_)
                · replace G := G.1 c70
                  exact G
                · replace G := G.2 c70
                  refine lw_aload_n (pc := 449) dL_refusesAny_449 rfl ?_
                  refine lw_iload_n (pc := 450) dL_refusesAny_450 rfl ?_
                  refine lw_bipush (pc := 451) dL_refusesAny_451 ?_
                  refine lw_invV (pc := 453) (md' := m_X6_ofCard) (as := [(.inl x2), (.inl 9)]) dL_refusesAny_453 mo_X6_ofCard im_X6_ofCard se_X6_ofCard ml_L_22 rfl rfl (by omega) (Nat.le_of_ble_eq_true rfl) rfl ⟨Nat.le_of_ble_eq_true rfl, Nat.le_of_ble_eq_true rfl⟩ (lm_mono (lm_rg (kq_ofCard (by omega))) (fun v71 g' e => ?_))
                  obtain ⟨r_v71, e_v71, rfl⟩ := e
                  replace G := G v71 r_v71 e_v71
                  refine lw_iconst (pc := 456) dL_refusesAny_456 ?_
                  refine lw_icmp_ne (pc := 457) (tgt := 536) dL_refusesAny_457 (by decide) (fun c72 => ?_) (fun c72 => ?_)
                  · replace G := G.1 c72
                    exact G
                  · replace G := G.2 c72
                    refine lw_iload (pc := 460) dL_refusesAny_460 rfl ?_
                    refine lw_if_lt (pc := 462) (tgt := 487) dL_refusesAny_462 (by decide) (fun c73 => ?_) (fun c73 => ?_)
                    · replace G := G.1 c73
                      refine lw_aload_n (pc := 487) dL_refusesAny_487 rfl ?_
                      refine lw_iload_n (pc := 488) dL_refusesAny_488 rfl ?_
                      refine lw_invV (pc := 489) (md' := m_X6_told) (as := [(.inl x3)]) dL_refusesAny_489 mo_X6_told im_X6_told se_X6_told ml_L_26 rfl rfl (by omega) (Nat.le_of_ble_eq_true rfl) rfl ⟨Nat.le_of_ble_eq_true rfl, Nat.le_of_ble_eq_true rfl⟩ (lm_mono (lm_rg (kq_told (by omega))) (fun v74 g' e => ?_))
                      obtain ⟨r_v74, e_v74, rfl⟩ := e
                      replace G := G v74 r_v74 e_v74
                      refine lw_bipush (pc := 492) dL_refusesAny_492 ?_
                      refine lw_icmp_ne (pc := 494) (tgt := 536) dL_refusesAny_494 (by decide) (fun c75 => ?_) (fun c75 => ?_)
                      · replace G := G.1 c75
                        exact G
                      · replace G := G.2 c75
                        refine lw_aload_n (pc := 497) dL_refusesAny_497 rfl ?_
                        refine lw_aload_n (pc := 498) dL_refusesAny_498 rfl ?_
                        refine lw_iconst (pc := 499) dL_refusesAny_499 ?_
                        refine lw_invV (pc := 500) (md' := m_X6_total) (as := [(.inl 3)]) dL_refusesAny_500 mo_X6_total im_X6_total se_X6_total ml_L_13 rfl rfl (by omega) (Nat.le_of_ble_eq_true rfl) rfl ⟨Nat.le_of_ble_eq_true rfl, Nat.le_of_ble_eq_true rfl⟩ (lm_mono (lm_rg (kq_total (by omega))) (fun v76 g' e => ?_))
                        obtain ⟨r_v76, e_v76, rfl⟩ := e
                        replace G := G v76 r_v76 e_v76
                        refine lw_invV (pc := 503) (md' := m_X6_told) (as := [(.inl v76)]) dL_refusesAny_503 mo_X6_told im_X6_told se_X6_told ml_L_26 rfl rfl (by omega) (Nat.le_of_ble_eq_true rfl) rfl ⟨Nat.le_of_ble_eq_true rfl, Nat.le_of_ble_eq_true rfl⟩ (lm_mono (lm_rg (kq_told (by omega))) (fun v77 g' e => ?_))
                        obtain ⟨r_v77, e_v77, rfl⟩ := e
                        replace G := G v77 r_v77 e_v77
                        refine lw_bipush (pc := 506) dL_refusesAny_506 ?_
                        refine lw_icmp_ne (pc := 508) (tgt := 536) dL_refusesAny_508 (by decide) (fun c78 => ?_) (fun c78 => ?_)
                        · replace G := G.1 c78
                          exact G
                        · replace G := G.2 c78
                          refine lw_aload_n (pc := 511) dL_refusesAny_511 rfl ?_
                          refine lw_iload_n (pc := 512) dL_refusesAny_512 rfl ?_
                          refine lw_iconst (pc := 513) dL_refusesAny_513 ?_
                          refine lw_irem (pc := 514) dL_refusesAny_514 s1 (by decide) ?_
                          refine lw_if_ne (pc := 515) (tgt := 522) dL_refusesAny_515 (by decide) (fun h => absurd h (by omega)) (fun _ => ?_)
                          refine lw_iconst (pc := 518) dL_refusesAny_518 ?_
                          refine lw_goto (pc := 519) (tgt := 524) dL_refusesAny_519 (by decide) ?_
                          refine lw_invV (pc := 524) (md' := m_X6_total) (as := [(.inl (-1))]) dL_refusesAny_524 mo_X6_total im_X6_total se_X6_total ml_L_13 rfl rfl (by omega) (Nat.le_of_ble_eq_true rfl) rfl ⟨Nat.le_of_ble_eq_true rfl, Nat.le_of_ble_eq_true rfl⟩ (lm_mono (lm_rg (kq_total (by omega))) (fun v80 g' e => ?_))
                          obtain ⟨r_v80, e_v80, rfl⟩ := e
                          replace G := G v80 r_v80 e_v80
                          refine lw_bipush (pc := 527) dL_refusesAny_527 ?_
                          refine lw_icmp_ne (pc := 529) (tgt := 536) dL_refusesAny_529 (by decide) (fun c81 => ?_) (fun c81 => ?_)
                          · replace G := G.1 c81
                            exact G
                          · replace G := G.2 c81
                            refine lw_iconst (pc := 532) dL_refusesAny_532 ?_
                            refine lw_goto (pc := 533) (tgt := 537) dL_refusesAny_533 (by decide) ?_
                            refine lw_istore (pc := 537) (ls' := [some (.inr (some 1)), some (.inl x1), some (.inl x2), some (.inl x3), some (.inl x4), some (.inl 1)]) dL_refusesAny_537 (Nat.le_of_ble_eq_true rfl) rfl ?_
                            refine lw_iload (pc := 539) dL_refusesAny_539 rfl ?_
                            refine lw_if_eq (pc := 541) (tgt := 698) dL_refusesAny_541 (by decide) (fun h => absurd h (by decide)) (fun _ => ?_)
                            exact G
                    · replace G := G.2 c73
                      refine lw_aload_n (pc := 465) dL_refusesAny_465 rfl ?_
                      refine lw_iload (pc := 466) dL_refusesAny_466 rfl ?_
                      refine lw_iload_n (pc := 468) dL_refusesAny_468 rfl ?_
                      refine lw_iconst (pc := 469) dL_refusesAny_469 ?_
                      refine lw_irem (pc := 470) dL_refusesAny_470 s1 (by decide) ?_
                      refine lw_if_ne (pc := 471) (tgt := 478) dL_refusesAny_471 (by decide) (fun h => absurd h (by omega)) (fun _ => ?_)
                      refine lw_iconst (pc := 474) dL_refusesAny_474 ?_
                      refine lw_goto (pc := 475) (tgt := 479) dL_refusesAny_475 (by decide) ?_
                      refine lw_invV (pc := 479) (md' := m_X6_ofCard) (as := [(.inl x4), (.inl (-1))]) dL_refusesAny_479 mo_X6_ofCard im_X6_ofCard se_X6_ofCard ml_L_22 rfl rfl (by omega) (Nat.le_of_ble_eq_true rfl) rfl ⟨Nat.le_of_ble_eq_true rfl, Nat.le_of_ble_eq_true rfl⟩ (lm_mono (lm_rg (kq_ofCard (by omega))) (fun v84 g' e => ?_))
                      obtain ⟨r_v84, e_v84, rfl⟩ := e
                      replace G := G v84 r_v84 e_v84
                      refine lw_bipush (pc := 482) dL_refusesAny_482 ?_
                      refine lw_icmp_ne (pc := 484) (tgt := 536) dL_refusesAny_484 (by decide) (fun c85 => ?_) (fun c85 => ?_)
                      · replace G := G.1 c85
                        exact G
                      · replace G := G.2 c85
                        refine lw_aload_n (pc := 487) dL_refusesAny_487 rfl ?_
                        refine lw_iload_n (pc := 488) dL_refusesAny_488 rfl ?_
                        refine lw_invV (pc := 489) (md' := m_X6_told) (as := [(.inl x3)]) dL_refusesAny_489 mo_X6_told im_X6_told se_X6_told ml_L_26 rfl rfl (by omega) (Nat.le_of_ble_eq_true rfl) rfl ⟨Nat.le_of_ble_eq_true rfl, Nat.le_of_ble_eq_true rfl⟩ (lm_mono (lm_rg (kq_told (by omega))) (fun v86 g' e => ?_))
                        obtain ⟨r_v86, e_v86, rfl⟩ := e
                        replace G := G v86 r_v86 e_v86
                        refine lw_bipush (pc := 492) dL_refusesAny_492 ?_
                        refine lw_icmp_ne (pc := 494) (tgt := 536) dL_refusesAny_494 (by decide) (fun c87 => ?_) (fun c87 => ?_)
                        · replace G := G.1 c87
                          exact G
                        · replace G := G.2 c87
                          refine lw_aload_n (pc := 497) dL_refusesAny_497 rfl ?_
                          refine lw_aload_n (pc := 498) dL_refusesAny_498 rfl ?_
                          refine lw_iconst (pc := 499) dL_refusesAny_499 ?_
                          refine lw_invV (pc := 500) (md' := m_X6_total) (as := [(.inl 3)]) dL_refusesAny_500 mo_X6_total im_X6_total se_X6_total ml_L_13 rfl rfl (by omega) (Nat.le_of_ble_eq_true rfl) rfl ⟨Nat.le_of_ble_eq_true rfl, Nat.le_of_ble_eq_true rfl⟩ (lm_mono (lm_rg (kq_total (by omega))) (fun v88 g' e => ?_))
                          obtain ⟨r_v88, e_v88, rfl⟩ := e
                          replace G := G v88 r_v88 e_v88
                          refine lw_invV (pc := 503) (md' := m_X6_told) (as := [(.inl v88)]) dL_refusesAny_503 mo_X6_told im_X6_told se_X6_told ml_L_26 rfl rfl (by omega) (Nat.le_of_ble_eq_true rfl) rfl ⟨Nat.le_of_ble_eq_true rfl, Nat.le_of_ble_eq_true rfl⟩ (lm_mono (lm_rg (kq_told (by omega))) (fun v89 g' e => ?_))
                          obtain ⟨r_v89, e_v89, rfl⟩ := e
                          replace G := G v89 r_v89 e_v89
                          refine lw_bipush (pc := 506) dL_refusesAny_506 ?_
                          refine lw_icmp_ne (pc := 508) (tgt := 536) dL_refusesAny_508 (by decide) (fun c90 => ?_) (fun c90 => ?_)
                          · replace G := G.1 c90
                            exact G
                          · replace G := G.2 c90
                            refine lw_aload_n (pc := 511) dL_refusesAny_511 rfl ?_
                            refine lw_iload_n (pc := 512) dL_refusesAny_512 rfl ?_
                            refine lw_iconst (pc := 513) dL_refusesAny_513 ?_
                            refine lw_irem (pc := 514) dL_refusesAny_514 s1 (by decide) ?_
                            refine lw_if_ne (pc := 515) (tgt := 522) dL_refusesAny_515 (by decide) (fun h => absurd h (by omega)) (fun _ => ?_)
                            refine lw_iconst (pc := 518) dL_refusesAny_518 ?_
                            refine lw_goto (pc := 519) (tgt := 524) dL_refusesAny_519 (by decide) ?_
                            refine lw_invV (pc := 524) (md' := m_X6_total) (as := [(.inl (-1))]) dL_refusesAny_524 mo_X6_total im_X6_total se_X6_total ml_L_13 rfl rfl (by omega) (Nat.le_of_ble_eq_true rfl) rfl ⟨Nat.le_of_ble_eq_true rfl, Nat.le_of_ble_eq_true rfl⟩ (lm_mono (lm_rg (kq_total (by omega))) (fun v92 g' e => ?_))
                            obtain ⟨r_v92, e_v92, rfl⟩ := e
                            replace G := G v92 r_v92 e_v92
                            refine lw_bipush (pc := 527) dL_refusesAny_527 ?_
                            refine lw_icmp_ne (pc := 529) (tgt := 536) dL_refusesAny_529 (by decide) (fun c93 => ?_) (fun c93 => ?_)
                            · replace G := G.1 c93
                              exact G
                            · replace G := G.2 c93
                              refine lw_iconst (pc := 532) dL_refusesAny_532 ?_
                              refine lw_goto (pc := 533) (tgt := 537) dL_refusesAny_533 (by decide) ?_
                              refine lw_istore (pc := 537) (ls' := [some (.inr (some 1)), some (.inl x1), some (.inl x2), some (.inl x3), some (.inl x4), some (.inl 1)]) dL_refusesAny_537 (Nat.le_of_ble_eq_true rfl) rfl ?_
                              refine lw_iload (pc := 539) dL_refusesAny_539 rfl ?_
                              refine lw_if_eq (pc := 541) (tgt := 698) dL_refusesAny_541 (by decide) (fun h => absurd h (by decide)) (fun _ => ?_)
                              exact G
set_option maxRecDepth 100000 in
set_option maxHeartbeats 4000000 in
theorem lc_refusesAny_544 {d : Nat} {P : Int → Gs → Prop} {g : Gs} {x1 x2 x3 x4 x5 : Int} (hd : 20 ≤ d)
  (G :
    (0 ≤ x1 ∧ x1 < 2147483648) ∧
    ((¬ x1 % 2 = 0 → (
      (∀ v3 : Int, rg v3 → v3 = countO 9 0 g.1.1 → (
        ((¬ v3 = (-2) → (
          LW m_L_refusesAny d none P 698 [some (.inr (some 1)), some (.inl x1), some (.inl x2), some (.inl x3), some (.inl x4), some (.inl x5)] [] g (0, 0)
          )) ∧ (¬ (¬ v3 = (-2)) → (
          (∀ v5 : Int, rg v5 → v5 = countO (x1 % 9) (sl 1 (x1 % 9)) g.1.1 → (
            ((¬ v5 = (-2) → (
              LW m_L_refusesAny d none P 698 [some (.inr (some 1)), some (.inl x1), some (.inl x2), some (.inl x3), some (.inl x4), some (.inl x5)] [] g (0, 0)
              )) ∧ (¬ (¬ v5 = (-2)) → (
              (∀ v7 : Int, rg v7 → v7 = countO (x1 % 9) x3 g.1.1 → (
                ((¬ v7 = (-2) → (
                  LW m_L_refusesAny d none P 698 [some (.inr (some 1)), some (.inl x1), some (.inl x2), some (.inl x3), some (.inl x4), some (.inl x5)] [] g (0, 0)
                  )) ∧ (¬ (¬ v7 = (-2)) → (
                  ((¬ x1 % 3 = 0 → (
                    (∀ v11 : Int, rg v11 → v11 = walkTO 0 5 g.1 → (
                      ((¬ v11 = (-2) → (
                        LW m_L_refusesAny d none P 698 [some (.inr (some 1)), some (.inl x1), some (.inl x2), some (.inl x3), some (.inl x4), some (.inl x5)] [] g (0, 0)
                        )) ∧ (¬ (¬ v11 = (-2)) → (
                        (∀ v14 : Int, rg v14 → v14 = roundsTO 65 0 g.1 → (
                          ((¬ v14 = (-2) → (
                            LW m_L_refusesAny d none P 698 [some (.inr (some 1)), some (.inl x1), some (.inl x2), some (.inl x3), some (.inl x4), some (.inl x5)] [] g (0, 0)
                            )) ∧ (¬ (¬ v14 = (-2)) → (
                            (∀ v17 : Int, rg v17 → v17 = roundsTO 1 5 g.1 → (
                              ((¬ v17 = (-2) → (
                                LW m_L_refusesAny d none P 698 [some (.inr (some 1)), some (.inl x1), some (.inl x2), some (.inl x3), some (.inl x4), some (.inl x5)] [] g (0, 0)
                                )) ∧ (¬ (¬ v17 = (-2)) → (
                                (∀ v20 : Int, rg v20 → v20 = thickO 9 g.1.1 → (
                                  ((¬ v20 = (-2) → (
                                    LW m_L_refusesAny d none P 698 [some (.inr (some 1)), some (.inl x1), some (.inl x2), some (.inl x3), some (.inl x4), some (.inl x5)] [] g (0, 0)
                                    )) ∧ (¬ (¬ v20 = (-2)) → (
                                    LW m_L_refusesAny d none P 706 [some (.inr (some 1)), some (.inl x1), some (.inl x2), some (.inl x3), some (.inl x4), some (.inl 1)] [] g (0, 0)
                                    )))))
                                )))))
                            )))))
                        )))))
                    )) ∧ (¬ (¬ x1 % 3 = 0) → (
                    (∀ v23 : Int, rg v23 → v23 = walkTO 0 (-1) g.1 → (
                      ((¬ v23 = (-2) → (
                        LW m_L_refusesAny d none P 698 [some (.inr (some 1)), some (.inl x1), some (.inl x2), some (.inl x3), some (.inl x4), some (.inl x5)] [] g (0, 0)
                        )) ∧ (¬ (¬ v23 = (-2)) → (
                        (∀ v26 : Int, rg v26 → v26 = roundsTO 65 0 g.1 → (
                          ((¬ v26 = (-2) → (
                            LW m_L_refusesAny d none P 698 [some (.inr (some 1)), some (.inl x1), some (.inl x2), some (.inl x3), some (.inl x4), some (.inl x5)] [] g (0, 0)
                            )) ∧ (¬ (¬ v26 = (-2)) → (
                            (∀ v29 : Int, rg v29 → v29 = roundsTO 1 5 g.1 → (
                              ((¬ v29 = (-2) → (
                                LW m_L_refusesAny d none P 698 [some (.inr (some 1)), some (.inl x1), some (.inl x2), some (.inl x3), some (.inl x4), some (.inl x5)] [] g (0, 0)
                                )) ∧ (¬ (¬ v29 = (-2)) → (
                                (∀ v32 : Int, rg v32 → v32 = thickO 9 g.1.1 → (
                                  ((¬ v32 = (-2) → (
                                    LW m_L_refusesAny d none P 698 [some (.inr (some 1)), some (.inl x1), some (.inl x2), some (.inl x3), some (.inl x4), some (.inl x5)] [] g (0, 0)
                                    )) ∧ (¬ (¬ v32 = (-2)) → (
                                    LW m_L_refusesAny d none P 706 [some (.inr (some 1)), some (.inl x1), some (.inl x2), some (.inl x3), some (.inl x4), some (.inl 1)] [] g (0, 0)
                                    )))))
                                )))))
                            )))))
                        )))))
                    )))
                  )))))
              )))))
          )))))
      )) ∧ (¬ (¬ x1 % 2 = 0) → (
      (∀ v35 : Int, rg v35 → v35 = countO (-1) 0 g.1.1 → (
        ((¬ v35 = (-2) → (
          LW m_L_refusesAny d none P 698 [some (.inr (some 1)), some (.inl x1), some (.inl x2), some (.inl x3), some (.inl x4), some (.inl x5)] [] g (0, 0)
          )) ∧ (¬ (¬ v35 = (-2)) → (
          (∀ v37 : Int, rg v37 → v37 = countO (x1 % 9) (sl 1 (x1 % 9)) g.1.1 → (
            ((¬ v37 = (-2) → (
              LW m_L_refusesAny d none P 698 [some (.inr (some 1)), some (.inl x1), some (.inl x2), some (.inl x3), some (.inl x4), some (.inl x5)] [] g (0, 0)
              )) ∧ (¬ (¬ v37 = (-2)) → (
              (∀ v39 : Int, rg v39 → v39 = countO (x1 % 9) x3 g.1.1 → (
                ((¬ v39 = (-2) → (
                  LW m_L_refusesAny d none P 698 [some (.inr (some 1)), some (.inl x1), some (.inl x2), some (.inl x3), some (.inl x4), some (.inl x5)] [] g (0, 0)
                  )) ∧ (¬ (¬ v39 = (-2)) → (
                  ((¬ x1 % 3 = 0 → (
                    (∀ v43 : Int, rg v43 → v43 = walkTO 1 5 g.1 → (
                      ((¬ v43 = (-2) → (
                        LW m_L_refusesAny d none P 698 [some (.inr (some 1)), some (.inl x1), some (.inl x2), some (.inl x3), some (.inl x4), some (.inl x5)] [] g (0, 0)
                        )) ∧ (¬ (¬ v43 = (-2)) → (
                        (∀ v46 : Int, rg v46 → v46 = roundsTO 0 0 g.1 → (
                          ((¬ v46 = (-2) → (
                            LW m_L_refusesAny d none P 698 [some (.inr (some 1)), some (.inl x1), some (.inl x2), some (.inl x3), some (.inl x4), some (.inl x5)] [] g (0, 0)
                            )) ∧ (¬ (¬ v46 = (-2)) → (
                            (∀ v49 : Int, rg v49 → v49 = roundsTO 1 (-1) g.1 → (
                              ((¬ v49 = (-2) → (
                                LW m_L_refusesAny d none P 698 [some (.inr (some 1)), some (.inl x1), some (.inl x2), some (.inl x3), some (.inl x4), some (.inl x5)] [] g (0, 0)
                                )) ∧ (¬ (¬ v49 = (-2)) → (
                                (∀ v52 : Int, rg v52 → v52 = thickO (-1) g.1.1 → (
                                  ((¬ v52 = (-2) → (
                                    LW m_L_refusesAny d none P 698 [some (.inr (some 1)), some (.inl x1), some (.inl x2), some (.inl x3), some (.inl x4), some (.inl x5)] [] g (0, 0)
                                    )) ∧ (¬ (¬ v52 = (-2)) → (
                                    LW m_L_refusesAny d none P 706 [some (.inr (some 1)), some (.inl x1), some (.inl x2), some (.inl x3), some (.inl x4), some (.inl 1)] [] g (0, 0)
                                    )))))
                                )))))
                            )))))
                        )))))
                    )) ∧ (¬ (¬ x1 % 3 = 0) → (
                    (∀ v55 : Int, rg v55 → v55 = walkTO 1 (-1) g.1 → (
                      ((¬ v55 = (-2) → (
                        LW m_L_refusesAny d none P 698 [some (.inr (some 1)), some (.inl x1), some (.inl x2), some (.inl x3), some (.inl x4), some (.inl x5)] [] g (0, 0)
                        )) ∧ (¬ (¬ v55 = (-2)) → (
                        (∀ v58 : Int, rg v58 → v58 = roundsTO 0 0 g.1 → (
                          ((¬ v58 = (-2) → (
                            LW m_L_refusesAny d none P 698 [some (.inr (some 1)), some (.inl x1), some (.inl x2), some (.inl x3), some (.inl x4), some (.inl x5)] [] g (0, 0)
                            )) ∧ (¬ (¬ v58 = (-2)) → (
                            (∀ v61 : Int, rg v61 → v61 = roundsTO 1 (-1) g.1 → (
                              ((¬ v61 = (-2) → (
                                LW m_L_refusesAny d none P 698 [some (.inr (some 1)), some (.inl x1), some (.inl x2), some (.inl x3), some (.inl x4), some (.inl x5)] [] g (0, 0)
                                )) ∧ (¬ (¬ v61 = (-2)) → (
                                (∀ v64 : Int, rg v64 → v64 = thickO (-1) g.1.1 → (
                                  ((¬ v64 = (-2) → (
                                    LW m_L_refusesAny d none P 698 [some (.inr (some 1)), some (.inl x1), some (.inl x2), some (.inl x3), some (.inl x4), some (.inl x5)] [] g (0, 0)
                                    )) ∧ (¬ (¬ v64 = (-2)) → (
                                    LW m_L_refusesAny d none P 706 [some (.inr (some 1)), some (.inl x1), some (.inl x2), some (.inl x3), some (.inl x4), some (.inl 1)] [] g (0, 0)
                                    )))))
                                )))))
                            )))))
                        )))))
                    )))
                  )))))
              )))))
          )))))
      )))) :
  LW m_L_refusesAny d none P 544 [some (.inr (some 1)), some (.inl x1), some (.inl x2), some (.inl x3), some (.inl x4), some (.inl x5)] [] g (0, 0) := by
  refine lw_aload_n (pc := 544) dL_refusesAny_544 rfl ?_
  refine lw_iload_n (pc := 545) dL_refusesAny_545 rfl ?_
  refine lw_iconst (pc := 546) dL_refusesAny_546 ?_
  obtain ⟨s1, G⟩ := G
  refine lw_irem (pc := 547) dL_refusesAny_547 s1 (by decide) ?_
  refine lw_if_ne (pc := 548) (tgt := 555) dL_refusesAny_548 (by decide) (fun c2 => ?_) (fun c2 => ?_)
  · replace G := G.1 c2
    refine lw_bipush (pc := 555) dL_refusesAny_555 ?_
    refine lw_iconst (pc := 557) dL_refusesAny_557 ?_
    refine lw_invV (pc := 558) (md' := m_X6_count) (as := [(.inl 9), (.inl 0)]) dL_refusesAny_558 mo_X6_count im_X6_count se_X6_count ml_L_29 rfl rfl (by omega) (Nat.le_of_ble_eq_true rfl) rfl ⟨Nat.le_of_ble_eq_true rfl, Nat.le_of_ble_eq_true rfl⟩ (lm_mono (lm_rg (kq_count (by omega))) (fun v3 g' e => ?_))
    obtain ⟨r_v3, e_v3, rfl⟩ := e
    replace G := G v3 r_v3 e_v3
    refine lw_bipush (pc := 561) dL_refusesAny_561 ?_
    refine lw_icmp_ne (pc := 563) (tgt := 698) dL_refusesAny_563 (by decide) (fun c4 => ?_) (fun c4 => ?_)
    · replace G := G.1 c4
      exact G
    · replace G := G.2 c4
      refine lw_aload_n (pc := 566) dL_refusesAny_566 rfl ?_
      refine lw_iload_n (pc := 567) dL_refusesAny_567 rfl ?_
      refine lw_bipush (pc := 568) dL_refusesAny_568 ?_
      refine lw_irem (pc := 570) dL_refusesAny_570 s1 (by decide) ?_
      refine lw_iconst (pc := 571) dL_refusesAny_571 ?_
      refine lw_iload_n (pc := 572) dL_refusesAny_572 rfl ?_
      refine lw_bipush (pc := 573) dL_refusesAny_573 ?_
      refine lw_irem (pc := 575) dL_refusesAny_575 s1 (by decide) ?_
      refine lw_ishl (pc := 576) dL_refusesAny_576 ?_
      refine lw_invV (pc := 577) (md' := m_X6_count) (as := [(.inl (x1 % 9)), (.inl (sl 1 (x1 % 9)))]) dL_refusesAny_577 mo_X6_count im_X6_count se_X6_count ml_L_29 rfl rfl (by omega) (Nat.le_of_ble_eq_true rfl) rfl ⟨Nat.le_of_ble_eq_true rfl, Nat.le_of_ble_eq_true rfl⟩ (lm_mono (lm_rg (kq_count (by omega))) (fun v5 g' e => ?_))
      obtain ⟨r_v5, e_v5, rfl⟩ := e
      replace G := G v5 r_v5 e_v5
      refine lw_bipush (pc := 580) dL_refusesAny_580 ?_
      refine lw_icmp_ne (pc := 582) (tgt := 698) dL_refusesAny_582 (by decide) (fun c6 => ?_) (fun c6 => ?_)
      · replace G := G.1 c6
        exact G
      · replace G := G.2 c6
        refine lw_aload_n (pc := 585) dL_refusesAny_585 rfl ?_
        refine lw_iload_n (pc := 586) dL_refusesAny_586 rfl ?_
        refine lw_bipush (pc := 587) dL_refusesAny_587 ?_
        refine lw_irem (pc := 589) dL_refusesAny_589 s1 (by decide) ?_
        refine lw_iload_n (pc := 590) dL_refusesAny_590 rfl ?_
        refine lw_invV (pc := 591) (md' := m_X6_count) (as := [(.inl (x1 % 9)), (.inl x3)]) dL_refusesAny_591 mo_X6_count im_X6_count se_X6_count ml_L_29 rfl rfl (by omega) (Nat.le_of_ble_eq_true rfl) rfl ⟨Nat.le_of_ble_eq_true rfl, Nat.le_of_ble_eq_true rfl⟩ (lm_mono (lm_rg (kq_count (by omega))) (fun v7 g' e => ?_))
        obtain ⟨r_v7, e_v7, rfl⟩ := e
        replace G := G v7 r_v7 e_v7
        refine lw_bipush (pc := 594) dL_refusesAny_594 ?_
        refine lw_icmp_ne (pc := 596) (tgt := 698) dL_refusesAny_596 (by decide) (fun c8 => ?_) (fun c8 => ?_)
        · replace G := G.1 c8
          exact G
        · replace G := G.2 c8
          refine lw_aload_n (pc := 599) dL_refusesAny_599 rfl ?_
          refine lw_iload_n (pc := 600) dL_refusesAny_600 rfl ?_
          refine lw_iconst (pc := 601) dL_refusesAny_601 ?_
          refine lw_irem (pc := 602) dL_refusesAny_602 s1 (by decide) ?_
          refine lw_if_ne (pc := 603) (tgt := 610) dL_refusesAny_603 (by decide) (fun _ => ?_) (fun h => absurd (by omega) h)
          refine lw_iconst (pc := 610) dL_refusesAny_610 ?_
          refine lw_iload_n (pc := 611) dL_refusesAny_611 rfl ?_
          refine lw_iconst (pc := 612) dL_refusesAny_612 ?_
          refine lw_irem (pc := 613) dL_refusesAny_613 s1 (by decide) ?_
          refine lw_if_ne (pc := 614) (tgt := 621) dL_refusesAny_614 (by decide) (fun c10 => ?_) (fun c10 => ?_)
          · replace G := G.1 c10
            refine lw_iconst (pc := 621) dL_refusesAny_621 ?_
            refine lw_invV (pc := 622) (md' := m_X6_walkTakes) (as := [(.inl 0), (.inl 5)]) dL_refusesAny_622 mo_X6_walkTakes im_X6_walkTakes se_X6_walkTakes ml_L_71 rfl rfl (by omega) (Nat.le_of_ble_eq_true rfl) rfl ⟨Nat.le_of_ble_eq_true rfl, Nat.le_of_ble_eq_true rfl⟩ (lm_mono (lm_rg (kq_walkTakes (by omega))) (fun v11 g' e => ?_))
            obtain ⟨r_v11, e_v11, rfl⟩ := e
            replace G := G v11 r_v11 e_v11
            refine lw_bipush (pc := 625) dL_refusesAny_625 ?_
            refine lw_icmp_ne (pc := 627) (tgt := 698) dL_refusesAny_627 (by decide) (fun c12 => ?_) (fun c12 => ?_)
            · replace G := G.1 c12
              exact G
            · replace G := G.2 c12
              refine lw_aload_n (pc := 630) dL_refusesAny_630 rfl ?_
              refine lw_iload_n (pc := 631) dL_refusesAny_631 rfl ?_
              refine lw_iconst (pc := 632) dL_refusesAny_632 ?_
              refine lw_irem (pc := 633) dL_refusesAny_633 s1 (by decide) ?_
              refine lw_if_ne (pc := 634) (tgt := 641) dL_refusesAny_634 (by decide) (fun _ => ?_) (fun h => absurd (by omega) h)
              refine lw_bipush (pc := 641) dL_refusesAny_641 ?_
              refine lw_iconst (pc := 643) dL_refusesAny_643 ?_
              refine lw_invV (pc := 644) (md' := m_X6_roundsTake) (as := [(.inl 65), (.inl 0)]) dL_refusesAny_644 mo_X6_roundsTake im_X6_roundsTake se_X6_roundsTake ml_L_75 rfl rfl (by omega) (Nat.le_of_ble_eq_true rfl) rfl ⟨Nat.le_of_ble_eq_true rfl, Nat.le_of_ble_eq_true rfl⟩ (lm_mono (lm_rg (kq_roundsTake (by omega))) (fun v14 g' e => ?_))
              obtain ⟨r_v14, e_v14, rfl⟩ := e
              replace G := G v14 r_v14 e_v14
              refine lw_bipush (pc := 647) dL_refusesAny_647 ?_
              refine lw_icmp_ne (pc := 649) (tgt := 698) dL_refusesAny_649 (by decide) (fun c15 => ?_) (fun c15 => ?_)
              · replace G := G.1 c15
                exact G
              · replace G := G.2 c15
                refine lw_aload_n (pc := 652) dL_refusesAny_652 rfl ?_
                refine lw_iconst (pc := 653) dL_refusesAny_653 ?_
                refine lw_iload_n (pc := 654) dL_refusesAny_654 rfl ?_
                refine lw_iconst (pc := 655) dL_refusesAny_655 ?_
                refine lw_irem (pc := 656) dL_refusesAny_656 s1 (by decide) ?_
                refine lw_if_ne (pc := 657) (tgt := 664) dL_refusesAny_657 (by decide) (fun _ => ?_) (fun h => absurd (by omega) h)
                refine lw_iconst (pc := 664) dL_refusesAny_664 ?_
                refine lw_invV (pc := 665) (md' := m_X6_roundsTake) (as := [(.inl 1), (.inl 5)]) dL_refusesAny_665 mo_X6_roundsTake im_X6_roundsTake se_X6_roundsTake ml_L_75 rfl rfl (by omega) (Nat.le_of_ble_eq_true rfl) rfl ⟨Nat.le_of_ble_eq_true rfl, Nat.le_of_ble_eq_true rfl⟩ (lm_mono (lm_rg (kq_roundsTake (by omega))) (fun v17 g' e => ?_))
                obtain ⟨r_v17, e_v17, rfl⟩ := e
                replace G := G v17 r_v17 e_v17
                refine lw_bipush (pc := 668) dL_refusesAny_668 ?_
                refine lw_icmp_ne (pc := 670) (tgt := 698) dL_refusesAny_670 (by decide) (fun c18 => ?_) (fun c18 => ?_)
                · replace G := G.1 c18
                  exact G
                · replace G := G.2 c18
                  refine lw_aload_n (pc := 673) dL_refusesAny_673 rfl ?_
                  refine lw_iload_n (pc := 674) dL_refusesAny_674 rfl ?_
                  refine lw_iconst (pc := 675) dL_refusesAny_675 ?_
                  refine lw_irem (pc := 676) dL_refusesAny_676 s1 (by decide) ?_
                  refine lw_if_ne (pc := 677) (tgt := 684) dL_refusesAny_677 (by decide) (fun _ => ?_) (fun h => absurd (by omega) h)
                  refine lw_bipush (pc := 684) dL_refusesAny_684 ?_
                  refine lw_invV (pc := 686) (md' := m_X6_thickest) (as := [(.inl 9)]) dL_refusesAny_686 mo_X6_thickest im_X6_thickest se_X6_thickest ml_L_34 rfl rfl (by omega) (Nat.le_of_ble_eq_true rfl) rfl ⟨Nat.le_of_ble_eq_true rfl, Nat.le_of_ble_eq_true rfl⟩ (lm_mono (lm_rg (kq_thickest (by omega))) (fun v20 g' e => ?_))
                  obtain ⟨r_v20, e_v20, rfl⟩ := e
                  replace G := G v20 r_v20 e_v20
                  refine lw_bipush (pc := 689) dL_refusesAny_689 ?_
                  refine lw_icmp_ne (pc := 691) (tgt := 698) dL_refusesAny_691 (by decide) (fun c21 => ?_) (fun c21 => ?_)
                  · replace G := G.1 c21
                    exact G
                  · replace G := G.2 c21
                    refine lw_iconst (pc := 694) dL_refusesAny_694 ?_
                    refine lw_goto (pc := 695) (tgt := 699) dL_refusesAny_695 (by decide) ?_
                    refine lw_istore (pc := 699) (ls' := [some (.inr (some 1)), some (.inl x1), some (.inl x2), some (.inl x3), some (.inl x4), some (.inl 1)]) dL_refusesAny_699 (Nat.le_of_ble_eq_true rfl) rfl ?_
                    refine lw_iload (pc := 701) dL_refusesAny_701 rfl ?_
                    refine lw_if_eq (pc := 703) (tgt := 726) dL_refusesAny_703 (by decide) (fun h => absurd h (by decide)) (fun _ => ?_)
                    exact G
          · replace G := G.2 c10
            refine lw_iconst (pc := 617) dL_refusesAny_617 ?_
            refine lw_goto (pc := 618) (tgt := 622) dL_refusesAny_618 (by decide) ?_
            refine lw_invV (pc := 622) (md' := m_X6_walkTakes) (as := [(.inl 0), (.inl (-1))]) dL_refusesAny_622 mo_X6_walkTakes im_X6_walkTakes se_X6_walkTakes ml_L_71 rfl rfl (by omega) (Nat.le_of_ble_eq_true rfl) rfl ⟨Nat.le_of_ble_eq_true rfl, Nat.le_of_ble_eq_true rfl⟩ (lm_mono (lm_rg (kq_walkTakes (by omega))) (fun v23 g' e => ?_))
            obtain ⟨r_v23, e_v23, rfl⟩ := e
            replace G := G v23 r_v23 e_v23
            refine lw_bipush (pc := 625) dL_refusesAny_625 ?_
            refine lw_icmp_ne (pc := 627) (tgt := 698) dL_refusesAny_627 (by decide) (fun c24 => ?_) (fun c24 => ?_)
            · replace G := G.1 c24
              exact G
            · replace G := G.2 c24
              refine lw_aload_n (pc := 630) dL_refusesAny_630 rfl ?_
              refine lw_iload_n (pc := 631) dL_refusesAny_631 rfl ?_
              refine lw_iconst (pc := 632) dL_refusesAny_632 ?_
              refine lw_irem (pc := 633) dL_refusesAny_633 s1 (by decide) ?_
              refine lw_if_ne (pc := 634) (tgt := 641) dL_refusesAny_634 (by decide) (fun _ => ?_) (fun h => absurd (by omega) h)
              refine lw_bipush (pc := 641) dL_refusesAny_641 ?_
              refine lw_iconst (pc := 643) dL_refusesAny_643 ?_
              refine lw_invV (pc := 644) (md' := m_X6_roundsTake) (as := [(.inl 65), (.inl 0)]) dL_refusesAny_644 mo_X6_roundsTake im_X6_roundsTake se_X6_roundsTake ml_L_75 rfl rfl (by omega) (Nat.le_of_ble_eq_true rfl) rfl ⟨Nat.le_of_ble_eq_true rfl, Nat.le_of_ble_eq_true rfl⟩ (lm_mono (lm_rg (kq_roundsTake (by omega))) (fun v26 g' e => ?_))
              obtain ⟨r_v26, e_v26, rfl⟩ := e
              replace G := G v26 r_v26 e_v26
              refine lw_bipush (pc := 647) dL_refusesAny_647 ?_
              refine lw_icmp_ne (pc := 649) (tgt := 698) dL_refusesAny_649 (by decide) (fun c27 => ?_) (fun c27 => ?_)
              · replace G := G.1 c27
                exact G
              · replace G := G.2 c27
                refine lw_aload_n (pc := 652) dL_refusesAny_652 rfl ?_
                refine lw_iconst (pc := 653) dL_refusesAny_653 ?_
                refine lw_iload_n (pc := 654) dL_refusesAny_654 rfl ?_
                refine lw_iconst (pc := 655) dL_refusesAny_655 ?_
                refine lw_irem (pc := 656) dL_refusesAny_656 s1 (by decide) ?_
                refine lw_if_ne (pc := 657) (tgt := 664) dL_refusesAny_657 (by decide) (fun _ => ?_) (fun h => absurd (by omega) h)
                refine lw_iconst (pc := 664) dL_refusesAny_664 ?_
                refine lw_invV (pc := 665) (md' := m_X6_roundsTake) (as := [(.inl 1), (.inl 5)]) dL_refusesAny_665 mo_X6_roundsTake im_X6_roundsTake se_X6_roundsTake ml_L_75 rfl rfl (by omega) (Nat.le_of_ble_eq_true rfl) rfl ⟨Nat.le_of_ble_eq_true rfl, Nat.le_of_ble_eq_true rfl⟩ (lm_mono (lm_rg (kq_roundsTake (by omega))) (fun v29 g' e => ?_))
                obtain ⟨r_v29, e_v29, rfl⟩ := e
                replace G := G v29 r_v29 e_v29
                refine lw_bipush (pc := 668) dL_refusesAny_668 ?_
                refine lw_icmp_ne (pc := 670) (tgt := 698) dL_refusesAny_670 (by decide) (fun c30 => ?_) (fun c30 => ?_)
                · replace G := G.1 c30
                  exact G
                · replace G := G.2 c30
                  refine lw_aload_n (pc := 673) dL_refusesAny_673 rfl ?_
                  refine lw_iload_n (pc := 674) dL_refusesAny_674 rfl ?_
                  refine lw_iconst (pc := 675) dL_refusesAny_675 ?_
                  refine lw_irem (pc := 676) dL_refusesAny_676 s1 (by decide) ?_
                  refine lw_if_ne (pc := 677) (tgt := 684) dL_refusesAny_677 (by decide) (fun _ => ?_) (fun h => absurd (by omega) h)
                  refine lw_bipush (pc := 684) dL_refusesAny_684 ?_
                  refine lw_invV (pc := 686) (md' := m_X6_thickest) (as := [(.inl 9)]) dL_refusesAny_686 mo_X6_thickest im_X6_thickest se_X6_thickest ml_L_34 rfl rfl (by omega) (Nat.le_of_ble_eq_true rfl) rfl ⟨Nat.le_of_ble_eq_true rfl, Nat.le_of_ble_eq_true rfl⟩ (lm_mono (lm_rg (kq_thickest (by omega))) (fun v32 g' e => ?_))
                  obtain ⟨r_v32, e_v32, rfl⟩ := e
                  replace G := G v32 r_v32 e_v32
                  refine lw_bipush (pc := 689) dL_refusesAny_689 ?_
                  refine lw_icmp_ne (pc := 691) (tgt := 698) dL_refusesAny_691 (by decide) (fun c33 => ?_) (fun c33 => ?_)
                  · replace G := G.1 c33
                    exact G
                  · replace G := G.2 c33
                    refine lw_iconst (pc := 694) dL_refusesAny_694 ?_
                    refine lw_goto (pc := 695) (tgt := 699) dL_refusesAny_695 (by decide) ?_
                    refine lw_istore (pc := 699) (ls' := [some (.inr (some 1)), some (.inl x1), some (.inl x2), some (.inl x3), some (.inl x4), some (.inl 1)]) dL_refusesAny_699 (Nat.le_of_ble_eq_true rfl) rfl ?_
                    refine lw_iload (pc := 701) dL_refusesAny_701 rfl ?_
                    refine lw_if_eq (pc := 703) (tgt := 726) dL_refusesAny_703 (by decide) (fun h => absurd h (by decide)) (fun _ => ?_)
                    exact G
  · replace G := G.2 c2
    refine lw_iconst (pc := 551) dL_refusesAny_551 ?_
    refine lw_goto (pc := 552) (tgt := 557) dL_refusesAny_552 (by decide) ?_
    refine lw_iconst (pc := 557) dL_refusesAny_557 ?_
    refine lw_invV (pc := 558) (md' := m_X6_count) (as := [(.inl (-1)), (.inl 0)]) dL_refusesAny_558 mo_X6_count im_X6_count se_X6_count ml_L_29 rfl rfl (by omega) (Nat.le_of_ble_eq_true rfl) rfl ⟨Nat.le_of_ble_eq_true rfl, Nat.le_of_ble_eq_true rfl⟩ (lm_mono (lm_rg (kq_count (by omega))) (fun v35 g' e => ?_))
    obtain ⟨r_v35, e_v35, rfl⟩ := e
    replace G := G v35 r_v35 e_v35
    refine lw_bipush (pc := 561) dL_refusesAny_561 ?_
    refine lw_icmp_ne (pc := 563) (tgt := 698) dL_refusesAny_563 (by decide) (fun c36 => ?_) (fun c36 => ?_)
    · replace G := G.1 c36
      exact G
    · replace G := G.2 c36
      refine lw_aload_n (pc := 566) dL_refusesAny_566 rfl ?_
      refine lw_iload_n (pc := 567) dL_refusesAny_567 rfl ?_
      refine lw_bipush (pc := 568) dL_refusesAny_568 ?_
      refine lw_irem (pc := 570) dL_refusesAny_570 s1 (by decide) ?_
      refine lw_iconst (pc := 571) dL_refusesAny_571 ?_
      refine lw_iload_n (pc := 572) dL_refusesAny_572 rfl ?_
      refine lw_bipush (pc := 573) dL_refusesAny_573 ?_
      refine lw_irem (pc := 575) dL_refusesAny_575 s1 (by decide) ?_
      refine lw_ishl (pc := 576) dL_refusesAny_576 ?_
      refine lw_invV (pc := 577) (md' := m_X6_count) (as := [(.inl (x1 % 9)), (.inl (sl 1 (x1 % 9)))]) dL_refusesAny_577 mo_X6_count im_X6_count se_X6_count ml_L_29 rfl rfl (by omega) (Nat.le_of_ble_eq_true rfl) rfl ⟨Nat.le_of_ble_eq_true rfl, Nat.le_of_ble_eq_true rfl⟩ (lm_mono (lm_rg (kq_count (by omega))) (fun v37 g' e => ?_))
      obtain ⟨r_v37, e_v37, rfl⟩ := e
      replace G := G v37 r_v37 e_v37
      refine lw_bipush (pc := 580) dL_refusesAny_580 ?_
      refine lw_icmp_ne (pc := 582) (tgt := 698) dL_refusesAny_582 (by decide) (fun c38 => ?_) (fun c38 => ?_)
      · replace G := G.1 c38
        exact G
      · replace G := G.2 c38
        refine lw_aload_n (pc := 585) dL_refusesAny_585 rfl ?_
        refine lw_iload_n (pc := 586) dL_refusesAny_586 rfl ?_
        refine lw_bipush (pc := 587) dL_refusesAny_587 ?_
        refine lw_irem (pc := 589) dL_refusesAny_589 s1 (by decide) ?_
        refine lw_iload_n (pc := 590) dL_refusesAny_590 rfl ?_
        refine lw_invV (pc := 591) (md' := m_X6_count) (as := [(.inl (x1 % 9)), (.inl x3)]) dL_refusesAny_591 mo_X6_count im_X6_count se_X6_count ml_L_29 rfl rfl (by omega) (Nat.le_of_ble_eq_true rfl) rfl ⟨Nat.le_of_ble_eq_true rfl, Nat.le_of_ble_eq_true rfl⟩ (lm_mono (lm_rg (kq_count (by omega))) (fun v39 g' e => ?_))
        obtain ⟨r_v39, e_v39, rfl⟩ := e
        replace G := G v39 r_v39 e_v39
        refine lw_bipush (pc := 594) dL_refusesAny_594 ?_
        refine lw_icmp_ne (pc := 596) (tgt := 698) dL_refusesAny_596 (by decide) (fun c40 => ?_) (fun c40 => ?_)
        · replace G := G.1 c40
          exact G
        · replace G := G.2 c40
          refine lw_aload_n (pc := 599) dL_refusesAny_599 rfl ?_
          refine lw_iload_n (pc := 600) dL_refusesAny_600 rfl ?_
          refine lw_iconst (pc := 601) dL_refusesAny_601 ?_
          refine lw_irem (pc := 602) dL_refusesAny_602 s1 (by decide) ?_
          refine lw_if_ne (pc := 603) (tgt := 610) dL_refusesAny_603 (by decide) (fun h => absurd h (by omega)) (fun _ => ?_)
          refine lw_iconst (pc := 606) dL_refusesAny_606 ?_
          refine lw_goto (pc := 607) (tgt := 611) dL_refusesAny_607 (by decide) ?_
          refine lw_iload_n (pc := 611) dL_refusesAny_611 rfl ?_
          refine lw_iconst (pc := 612) dL_refusesAny_612 ?_
          refine lw_irem (pc := 613) dL_refusesAny_613 s1 (by decide) ?_
          refine lw_if_ne (pc := 614) (tgt := 621) dL_refusesAny_614 (by decide) (fun c42 => ?_) (fun c42 => ?_)
          · replace G := G.1 c42
            refine lw_iconst (pc := 621) dL_refusesAny_621 ?_
            refine lw_invV (pc := 622) (md' := m_X6_walkTakes) (as := [(.inl 1), (.inl 5)]) dL_refusesAny_622 mo_X6_walkTakes im_X6_walkTakes se_X6_walkTakes ml_L_71 rfl rfl (by omega) (Nat.le_of_ble_eq_true rfl) rfl ⟨Nat.le_of_ble_eq_true rfl, Nat.le_of_ble_eq_true rfl⟩ (lm_mono (lm_rg (kq_walkTakes (by omega))) (fun v43 g' e => ?_))
            obtain ⟨r_v43, e_v43, rfl⟩ := e
            replace G := G v43 r_v43 e_v43
            refine lw_bipush (pc := 625) dL_refusesAny_625 ?_
            refine lw_icmp_ne (pc := 627) (tgt := 698) dL_refusesAny_627 (by decide) (fun c44 => ?_) (fun c44 => ?_)
            · replace G := G.1 c44
              exact G
            · replace G := G.2 c44
              refine lw_aload_n (pc := 630) dL_refusesAny_630 rfl ?_
              refine lw_iload_n (pc := 631) dL_refusesAny_631 rfl ?_
              refine lw_iconst (pc := 632) dL_refusesAny_632 ?_
              refine lw_irem (pc := 633) dL_refusesAny_633 s1 (by decide) ?_
              refine lw_if_ne (pc := 634) (tgt := 641) dL_refusesAny_634 (by decide) (fun h => absurd h (by omega)) (fun _ => ?_)
              refine lw_iconst (pc := 637) dL_refusesAny_637 ?_
              refine lw_goto (pc := 638) (tgt := 643) dL_refusesAny_638 (by decide) ?_
              refine lw_iconst (pc := 643) dL_refusesAny_643 ?_
              refine lw_invV (pc := 644) (md' := m_X6_roundsTake) (as := [(.inl 0), (.inl 0)]) dL_refusesAny_644 mo_X6_roundsTake im_X6_roundsTake se_X6_roundsTake ml_L_75 rfl rfl (by omega) (Nat.le_of_ble_eq_true rfl) rfl ⟨Nat.le_of_ble_eq_true rfl, Nat.le_of_ble_eq_true rfl⟩ (lm_mono (lm_rg (kq_roundsTake (by omega))) (fun v46 g' e => ?_))
              obtain ⟨r_v46, e_v46, rfl⟩ := e
              replace G := G v46 r_v46 e_v46
              refine lw_bipush (pc := 647) dL_refusesAny_647 ?_
              refine lw_icmp_ne (pc := 649) (tgt := 698) dL_refusesAny_649 (by decide) (fun c47 => ?_) (fun c47 => ?_)
              · replace G := G.1 c47
                exact G
              · replace G := G.2 c47
                refine lw_aload_n (pc := 652) dL_refusesAny_652 rfl ?_
                refine lw_iconst (pc := 653) dL_refusesAny_653 ?_
                refine lw_iload_n (pc := 654) dL_refusesAny_654 rfl ?_
                refine lw_iconst (pc := 655) dL_refusesAny_655 ?_
                refine lw_irem (pc := 656) dL_refusesAny_656 s1 (by decide) ?_
                refine lw_if_ne (pc := 657) (tgt := 664) dL_refusesAny_657 (by decide) (fun h => absurd h (by omega)) (fun _ => ?_)
                refine lw_iconst (pc := 660) dL_refusesAny_660 ?_
                refine lw_goto (pc := 661) (tgt := 665) dL_refusesAny_661 (by decide) ?_
                refine lw_invV (pc := 665) (md' := m_X6_roundsTake) (as := [(.inl 1), (.inl (-1))]) dL_refusesAny_665 mo_X6_roundsTake im_X6_roundsTake se_X6_roundsTake ml_L_75 rfl rfl (by omega) (Nat.le_of_ble_eq_true rfl) rfl ⟨Nat.le_of_ble_eq_true rfl, Nat.le_of_ble_eq_true rfl⟩ (lm_mono (lm_rg (kq_roundsTake (by omega))) (fun v49 g' e => ?_))
                obtain ⟨r_v49, e_v49, rfl⟩ := e
                replace G := G v49 r_v49 e_v49
                refine lw_bipush (pc := 668) dL_refusesAny_668 ?_
                refine lw_icmp_ne (pc := 670) (tgt := 698) dL_refusesAny_670 (by decide) (fun c50 => ?_) (fun c50 => ?_)
                · replace G := G.1 c50
                  exact G
                · replace G := G.2 c50
                  refine lw_aload_n (pc := 673) dL_refusesAny_673 rfl ?_
                  refine lw_iload_n (pc := 674) dL_refusesAny_674 rfl ?_
                  refine lw_iconst (pc := 675) dL_refusesAny_675 ?_
                  refine lw_irem (pc := 676) dL_refusesAny_676 s1 (by decide) ?_
                  refine lw_if_ne (pc := 677) (tgt := 684) dL_refusesAny_677 (by decide) (fun h => absurd h (by omega)) (fun _ => ?_)
                  refine lw_iconst (pc := 680) dL_refusesAny_680 ?_
                  refine lw_goto (pc := 681) (tgt := 686) dL_refusesAny_681 (by decide) ?_
                  refine lw_invV (pc := 686) (md' := m_X6_thickest) (as := [(.inl (-1))]) dL_refusesAny_686 mo_X6_thickest im_X6_thickest se_X6_thickest ml_L_34 rfl rfl (by omega) (Nat.le_of_ble_eq_true rfl) rfl ⟨Nat.le_of_ble_eq_true rfl, Nat.le_of_ble_eq_true rfl⟩ (lm_mono (lm_rg (kq_thickest (by omega))) (fun v52 g' e => ?_))
                  obtain ⟨r_v52, e_v52, rfl⟩ := e
                  replace G := G v52 r_v52 e_v52
                  refine lw_bipush (pc := 689) dL_refusesAny_689 ?_
                  refine lw_icmp_ne (pc := 691) (tgt := 698) dL_refusesAny_691 (by decide) (fun c53 => ?_) (fun c53 => ?_)
                  · replace G := G.1 c53
                    exact G
                  · replace G := G.2 c53
                    refine lw_iconst (pc := 694) dL_refusesAny_694 ?_
                    refine lw_goto (pc := 695) (tgt := 699) dL_refusesAny_695 (by decide) ?_
                    refine lw_istore (pc := 699) (ls' := [some (.inr (some 1)), some (.inl x1), some (.inl x2), some (.inl x3), some (.inl x4), some (.inl 1)]) dL_refusesAny_699 (Nat.le_of_ble_eq_true rfl) rfl ?_
                    refine lw_iload (pc := 701) dL_refusesAny_701 rfl ?_
                    refine lw_if_eq (pc := 703) (tgt := 726) dL_refusesAny_703 (by decide) (fun h => absurd h (by decide)) (fun _ => ?_)
                    exact G
          · replace G := G.2 c42
            refine lw_iconst (pc := 617) dL_refusesAny_617 ?_
            refine lw_goto (pc := 618) (tgt := 622) dL_refusesAny_618 (by decide) ?_
            refine lw_invV (pc := 622) (md' := m_X6_walkTakes) (as := [(.inl 1), (.inl (-1))]) dL_refusesAny_622 mo_X6_walkTakes im_X6_walkTakes se_X6_walkTakes ml_L_71 rfl rfl (by omega) (Nat.le_of_ble_eq_true rfl) rfl ⟨Nat.le_of_ble_eq_true rfl, Nat.le_of_ble_eq_true rfl⟩ (lm_mono (lm_rg (kq_walkTakes (by omega))) (fun v55 g' e => ?_))
            obtain ⟨r_v55, e_v55, rfl⟩ := e
            replace G := G v55 r_v55 e_v55
            refine lw_bipush (pc := 625) dL_refusesAny_625 ?_
            refine lw_icmp_ne (pc := 627) (tgt := 698) dL_refusesAny_627 (by decide) (fun c56 => ?_) (fun c56 => ?_)
            · replace G := G.1 c56
              exact G
            · replace G := G.2 c56
              refine lw_aload_n (pc := 630) dL_refusesAny_630 rfl ?_
              refine lw_iload_n (pc := 631) dL_refusesAny_631 rfl ?_
              refine lw_iconst (pc := 632) dL_refusesAny_632 ?_
              refine lw_irem (pc := 633) dL_refusesAny_633 s1 (by decide) ?_
              refine lw_if_ne (pc := 634) (tgt := 641) dL_refusesAny_634 (by decide) (fun h => absurd h (by omega)) (fun _ => ?_)
              refine lw_iconst (pc := 637) dL_refusesAny_637 ?_
              refine lw_goto (pc := 638) (tgt := 643) dL_refusesAny_638 (by decide) ?_
              refine lw_iconst (pc := 643) dL_refusesAny_643 ?_
              refine lw_invV (pc := 644) (md' := m_X6_roundsTake) (as := [(.inl 0), (.inl 0)]) dL_refusesAny_644 mo_X6_roundsTake im_X6_roundsTake se_X6_roundsTake ml_L_75 rfl rfl (by omega) (Nat.le_of_ble_eq_true rfl) rfl ⟨Nat.le_of_ble_eq_true rfl, Nat.le_of_ble_eq_true rfl⟩ (lm_mono (lm_rg (kq_roundsTake (by omega))) (fun v58 g' e => ?_))
              obtain ⟨r_v58, e_v58, rfl⟩ := e
              replace G := G v58 r_v58 e_v58
              refine lw_bipush (pc := 647) dL_refusesAny_647 ?_
              refine lw_icmp_ne (pc := 649) (tgt := 698) dL_refusesAny_649 (by decide) (fun c59 => ?_) (fun c59 => ?_)
              · replace G := G.1 c59
                exact G
              · replace G := G.2 c59
                refine lw_aload_n (pc := 652) dL_refusesAny_652 rfl ?_
                refine lw_iconst (pc := 653) dL_refusesAny_653 ?_
                refine lw_iload_n (pc := 654) dL_refusesAny_654 rfl ?_
                refine lw_iconst (pc := 655) dL_refusesAny_655 ?_
                refine lw_irem (pc := 656) dL_refusesAny_656 s1 (by decide) ?_
                refine lw_if_ne (pc := 657) (tgt := 664) dL_refusesAny_657 (by decide) (fun h => absurd h (by omega)) (fun _ => ?_)
                refine lw_iconst (pc := 660) dL_refusesAny_660 ?_
                refine lw_goto (pc := 661) (tgt := 665) dL_refusesAny_661 (by decide) ?_
                refine lw_invV (pc := 665) (md' := m_X6_roundsTake) (as := [(.inl 1), (.inl (-1))]) dL_refusesAny_665 mo_X6_roundsTake im_X6_roundsTake se_X6_roundsTake ml_L_75 rfl rfl (by omega) (Nat.le_of_ble_eq_true rfl) rfl ⟨Nat.le_of_ble_eq_true rfl, Nat.le_of_ble_eq_true rfl⟩ (lm_mono (lm_rg (kq_roundsTake (by omega))) (fun v61 g' e => ?_))
                obtain ⟨r_v61, e_v61, rfl⟩ := e
                replace G := G v61 r_v61 e_v61
                refine lw_bipush (pc := 668) dL_refusesAny_668 ?_
                refine lw_icmp_ne (pc := 670) (tgt := 698) dL_refusesAny_670 (by decide) (fun c62 => ?_) (fun c62 => ?_)
                · replace G := G.1 c62
                  exact G
                · replace G := G.2 c62
                  refine lw_aload_n (pc := 673) dL_refusesAny_673 rfl ?_
                  refine lw_iload_n (pc := 674) dL_refusesAny_674 rfl ?_
                  refine lw_iconst (pc := 675) dL_refusesAny_675 ?_
                  refine lw_irem (pc := 676) dL_refusesAny_676 s1 (by decide) ?_
                  refine lw_if_ne (pc := 677) (tgt := 684) dL_refusesAny_677 (by decide) (fun h => absurd h (by omega)) (fun _ => ?_)
                  refine lw_iconst (pc := 680) dL_refusesAny_680 ?_
                  refine lw_goto (pc := 681) (tgt := 686) dL_refusesAny_681 (by decide) ?_
                  refine lw_invV (pc := 686) (md' := m_X6_thickest) (as := [(.inl (-1))]) dL_refusesAny_686 mo_X6_thickest im_X6_thickest se_X6_thickest ml_L_34 rfl rfl (by omega) (Nat.le_of_ble_eq_true rfl) rfl ⟨Nat.le_of_ble_eq_true rfl, Nat.le_of_ble_eq_true rfl⟩ (lm_mono (lm_rg (kq_thickest (by omega))) (fun v64 g' e => ?_))
                  obtain ⟨r_v64, e_v64, rfl⟩ := e
                  replace G := G v64 r_v64 e_v64
                  refine lw_bipush (pc := 689) dL_refusesAny_689 ?_
                  refine lw_icmp_ne (pc := 691) (tgt := 698) dL_refusesAny_691 (by decide) (fun c65 => ?_) (fun c65 => ?_)
                  · replace G := G.1 c65
                    exact G
                  · replace G := G.2 c65
                    refine lw_iconst (pc := 694) dL_refusesAny_694 ?_
                    refine lw_goto (pc := 695) (tgt := 699) dL_refusesAny_695 (by decide) ?_
                    refine lw_istore (pc := 699) (ls' := [some (.inr (some 1)), some (.inl x1), some (.inl x2), some (.inl x3), some (.inl x4), some (.inl 1)]) dL_refusesAny_699 (Nat.le_of_ble_eq_true rfl) rfl ?_
                    refine lw_iload (pc := 701) dL_refusesAny_701 rfl ?_
                    refine lw_if_eq (pc := 703) (tgt := 726) dL_refusesAny_703 (by decide) (fun h => absurd h (by decide)) (fun _ => ?_)
                    exact G
set_option maxRecDepth 100000 in
set_option maxHeartbeats 4000000 in
theorem lc_refusesAny_706 {d : Nat} {P : Int → Gs → Prop} {g : Gs} {x1 x2 x3 x4 x5 : Int} (hd : 20 ≤ d)
  (G :
    (∀ (v1 : Int) (g2 : Gs), rg v1 → v1 = (clearG g).1 → g2 = (clearG g).2 → (
      ((¬ v1 = 0 → (
        LW m_L_refusesAny d none P 726 [some (.inr (some 1)), some (.inl x1), some (.inl x2), some (.inl x3), some (.inl x4), some (.inl x5)] [] g2 (0, 0)
        )) ∧ (¬ (¬ v1 = 0) → (
        (∀ (v4 : Int) (g5 : Gs), rg v4 → v4 = (perfG g2).1 → g5 = (perfG g2).2 → (
          ((¬ v4 = (-100) → (
            LW m_L_refusesAny d none P 726 [some (.inr (some 1)), some (.inl x1), some (.inl x2), some (.inl x3), some (.inl x4), some (.inl x5)] [] g5 (0, 0)
            )) ∧ (¬ (¬ v4 = (-100)) → (
            P 1 g5
            )))))
        )))))) :
  LW m_L_refusesAny d none P 706 [some (.inr (some 1)), some (.inl x1), some (.inl x2), some (.inl x3), some (.inl x4), some (.inl x5)] [] g (0, 0) := by
  refine lw_aload_n (pc := 706) dL_refusesAny_706 rfl ?_
  refine lw_invV (pc := 707) (md' := m_X6_clearText) (as := []) dL_refusesAny_707 mo_X6_clearText im_X6_clearText se_X6_clearText ml_L_78 rfl rfl (by omega) (Nat.le_of_ble_eq_true rfl) rfl ⟨Nat.le_of_ble_eq_true rfl, Nat.le_of_ble_eq_true rfl⟩ (lm_mono (lm_rg (kc_clearText (by omega))) (fun v1 g2 e => ?_))
  obtain ⟨r_v1, e_v1, f_v1⟩ := e
  replace G := G v1 g2 r_v1 e_v1 f_v1
  refine lw_if_ne (pc := 710) (tgt := 726) dL_refusesAny_710 (by decide) (fun c3 => ?_) (fun c3 => ?_)
  · replace G := G.1 c3
    exact G
  · replace G := G.2 c3
    refine lw_aload_n (pc := 713) dL_refusesAny_713 rfl ?_
    refine lw_invV (pc := 714) (md' := m_X6_perform) (as := []) dL_refusesAny_714 mo_X6_perform im_X6_perform se_X6_perform ml_L_81 rfl rfl (by omega) (Nat.le_of_ble_eq_true rfl) rfl ⟨Nat.le_of_ble_eq_true rfl, Nat.le_of_ble_eq_true rfl⟩ (lm_mono (lm_rg (kc_perform (by omega))) (fun v4 g5 e => ?_))
    obtain ⟨r_v4, e_v4, f_v4⟩ := e
    replace G := G v4 g5 r_v4 e_v4 f_v4
    refine lw_bipush (pc := 717) dL_refusesAny_717 ?_
    refine lw_icmp_ne (pc := 719) (tgt := 726) dL_refusesAny_719 (by decide) (fun c6 => ?_) (fun c6 => ?_)
    · replace G := G.1 c6
      exact G
    · replace G := G.2 c6
      refine lw_iconst (pc := 722) dL_refusesAny_722 ?_
      refine lw_goto (pc := 723) (tgt := 727) dL_refusesAny_723 (by decide) ?_
      refine lw_zreturn (pc := 727) dL_refusesAny_727 rfl (by decide) ?_ (Nat.le_of_ble_eq_true rfl) (Nat.le_of_ble_eq_true rfl)
      exact G
