set_option maxRecDepth 100000 in
set_option maxHeartbeats 4000000 in
theorem lc_act {d : Nat} {P : Int → Gs → Prop} {g : Gs} {x1 : Int} (hd : 20 ≤ d)
  (G :
    (0 ≤ x1 ∧ x1 < 2147483648) ∧
    ((5 ≤ x1 % 16 → (
      ((9 ≤ x1 % 16 → (
        ((12 ≤ x1 % 16 → (
          ((¬ x1 % 16 = 12 → (
            ((¬ x1 % 16 = 13 → (
              ((¬ x1 % 16 = 14 → (
                (0 ≤ x1 / 16 ∧ x1 / 16 < 2147483648) ∧
                ((¬ (x1 / 16) % 2 = 0 → (
                  (∀ v10 : Int, rg v10 → v10 = totO 13 g → (
                    (x1 / 16 < 2147483648) ∧
                    (∀ (v12 : Int) (g13 : Gs), rg v12 → v12 = (recG (shufO (x1 / 16) g.1) g).1 → g13 = (recG (shufO (x1 / 16) g.1) g).2 → (
                      ((¬ v10 = x1 / 16 → (
                        ((¬ v12 = v10 → (
                          P (-9) g13
                          )) ∧ (¬ (¬ v12 = v10) → (
                          (∀ v18 : Int, rg v18 → v18 = totO 13 g13 → (
                            ((¬ v18 = x1 / 16 → (
                              P (-9) g13
                              )) ∧ (¬ (¬ v18 = x1 / 16) → (
                              P v12 g13
                              )))))
                          )))
                        )) ∧ (¬ (¬ v10 = x1 / 16) → (
                        ((¬ v12 = (-5) → (
                          P (-9) g13
                          )) ∧ (¬ (¬ v12 = (-5)) → (
                          (∀ v21 : Int, rg v21 → v21 = totO 13 g13 → (
                            ((¬ v21 = x1 / 16 → (
                              P (-9) g13
                              )) ∧ (¬ (¬ v21 = x1 / 16) → (
                              P v12 g13
                              )))))
                          )))
                        )))))))
                  )) ∧ (¬ (¬ (x1 / 16) % 2 = 0) → (
                  (∀ v23 : Int, rg v23 → v23 = totO 3 g → (
                    (∀ (v25 : Int) (g26 : Gs), rg v25 → v25 = (recG (forgO g.1) g).1 → g26 = (recG (forgO g.1) g).2 → (
                      ((¬ v23 = 0 → (
                        ((¬ v25 = v23 → (
                          P (-9) g26
                          )) ∧ (¬ (¬ v25 = v23) → (
                          (∀ v30 : Int, rg v30 → v30 = totO 3 g26 → (
                            ((¬ v30 = 0 → (
                              P (-9) g26
                              )) ∧ (¬ (¬ v30 = 0) → (
                              P v25 g26
                              )))))
                          )))
                        )) ∧ (¬ (¬ v23 = 0) → (
                        ((¬ v25 = (-5) → (
                          P (-9) g26
                          )) ∧ (¬ (¬ v25 = (-5)) → (
                          (∀ v33 : Int, rg v33 → v33 = totO 3 g26 → (
                            ((¬ v33 = 0 → (
                              P (-9) g26
                              )) ∧ (¬ (¬ v33 = 0) → (
                              P v25 g26
                              )))))
                          )))
                        )))))))
                  )))
                )) ∧ (¬ (¬ x1 % 16 = 14) → (
                (0 ≤ x1 / 16 ∧ x1 / 16 < 2147483648) ∧
                (rg (11 + ((x1 / 16) % 2))) ∧
                (∀ v37 : Int, rg v37 → v37 = totO (11 + ((x1 / 16) % 2)) g → (
                  (rg (2 + ((x1 / 16) % 2))) ∧
                  (0 ≤ (x1 / 16) / 2 ∧ (x1 / 16) / 2 < 2147483648) ∧
                  (0 < 2 + ((x1 / 16) % 2) ∧ 2 + ((x1 / 16) % 2) < 2147483648) ∧
                  (∀ (v41 : Int) (g42 : Gs), rg v41 → v41 = (recG (setO ((x1 / 16) % 2) (((x1 / 16) / 2) % (2 + ((x1 / 16) % 2))) g.1) g).1 → g42 = (recG (setO ((x1 / 16) % 2) (((x1 / 16) / 2) % (2 + ((x1 / 16) % 2))) g.1) g).2 → (
                    ((¬ v37 = ((x1 / 16) / 2) % (2 + ((x1 / 16) % 2)) → (
                      ((¬ v41 = v37 → (
                        P (-9) g42
                        )) ∧ (¬ (¬ v41 = v37) → (
                        (∀ v45 : Int, rg v45 → v45 = totO (11 + ((x1 / 16) % 2)) g42 → (
                          ((¬ v45 = ((x1 / 16) / 2) % (2 + ((x1 / 16) % 2)) → (
                            P (-9) g42
                            )) ∧ (¬ (¬ v45 = ((x1 / 16) / 2) % (2 + ((x1 / 16) % 2))) → (
                            P v41 g42
                            )))))
                        )))
                      )) ∧ (¬ (¬ v37 = ((x1 / 16) / 2) % (2 + ((x1 / 16) % 2))) → (
                      ((¬ v41 = (-5) → (
                        P (-9) g42
                        )) ∧ (¬ (¬ v41 = (-5)) → (
                        (∀ v48 : Int, rg v48 → v48 = totO (11 + ((x1 / 16) % 2)) g42 → (
                          ((¬ v48 = ((x1 / 16) / 2) % (2 + ((x1 / 16) % 2)) → (
                            P (-9) g42
                            )) ∧ (¬ (¬ v48 = ((x1 / 16) / 2) % (2 + ((x1 / 16) % 2))) → (
                            P v41 g42
                            )))))
                        )))
                      )))))))
                )))
              )) ∧ (¬ (¬ x1 % 16 = 13) → (
              (∀ v50 : Int, rg v50 → v50 = totO 10 g → (
                (0 ≤ x1 / 16 ∧ x1 / 16 < 2147483648) ∧
                ((¬ (x1 / 16) % 2 = 0 → (
                  (0 ≤ (x1 / 16) / 2 ∧ (x1 / 16) / 2 < 2147483648) ∧
                  (rg (1 + (((x1 / 16) / 2) % 64))) ∧
                  (∀ (v55 : Int) (g56 : Gs), rg v55 → v55 = (recG (frameO (1 + (((x1 / 16) / 2) % 64)) g.1) g).1 → g56 = (recG (frameO (1 + (((x1 / 16) / 2) % 64)) g.1) g).2 → (
                    ((v55 < 0 → (
                      P (-9) g56
                      )) ∧ (¬ (v55 < 0) → (
                      (∀ v58 : Int, rg v58 → v58 = totO 10 g56 → (
                        (rg (v50 + 1)) ∧
                        ((¬ v58 = v50 + 1 → (
                          P (-9) g56
                          )) ∧ (¬ (¬ v58 = v50 + 1) → (
                          P v55 g56
                          )))))
                      )))))
                  )) ∧ (¬ (¬ (x1 / 16) % 2 = 0) → (
                  (0 ≤ (x1 / 16) / 2 ∧ (x1 / 16) / 2 < 2147483648) ∧
                  (rg (1 + (((x1 / 16) / 2) % 64))) ∧
                  (∀ (v64 : Int) (g65 : Gs), rg v64 → v64 = (recG (roundsO (1 + (((x1 / 16) / 2) % 64)) g.1) g).1 → g65 = (recG (roundsO (1 + (((x1 / 16) / 2) % 64)) g.1) g).2 → (
                    ((v64 < 0 → (
                      P (-9) g65
                      )) ∧ (¬ (v64 < 0) → (
                      (∀ v67 : Int, rg v67 → v67 = totO 10 g65 → (
                        (rg (v50 + v64)) ∧
                        ((¬ v67 = v50 + v64 → (
                          P (-9) g65
                          )) ∧ (¬ (¬ v67 = v50 + v64) → (
                          P v64 g65
                          )))))
                      )))))
                  )))))
              )))
            )) ∧ (¬ (¬ x1 % 16 = 12) → (
            (∀ v71 : Int, rg v71 → v71 = totO 7 g → (
              (0 ≤ x1 / 16 ∧ x1 / 16 < 2147483648) ∧
              ((¬ (x1 / 16) % 2 = 0 → (
                (∀ (v74 : Int) (g75 : Gs), rg v74 → v74 = (recG (walkO 0 g.1) g).1 → g75 = (recG (walkO 0 g.1) g).2 → (
                  ((v74 < 0 → (
                    P (-9) g75
                    )) ∧ (¬ (v74 < 0) → (
                    (∀ v77 : Int, rg v77 → v77 = totO 7 g75 → (
                      (rg (v71 + v74)) ∧
                      ((¬ v77 = v71 + v74 → (
                        P (-9) g75
                        )) ∧ (¬ (¬ v77 = v71 + v74) → (
                        P v74 g75
                        )))))
                    )))))
                )) ∧ (¬ (¬ (x1 / 16) % 2 = 0) → (
                (∀ (v80 : Int) (g81 : Gs), rg v80 → v80 = (recG (walkO 1 g.1) g).1 → g81 = (recG (walkO 1 g.1) g).2 → (
                  ((v80 < 0 → (
                    P (-9) g81
                    )) ∧ (¬ (v80 < 0) → (
                    (∀ v83 : Int, rg v83 → v83 = totO 7 g81 → (
                      (rg (v71 + v80)) ∧
                      ((¬ v83 = v71 + v80 → (
                        P (-9) g81
                        )) ∧ (¬ (¬ v83 = v71 + v80) → (
                        P v80 g81
                        )))))
                    )))))
                )))))
            )))
          )) ∧ (¬ (12 ≤ x1 % 16) → (
          (0 ≤ x1 / 16 ∧ x1 / 16 < 2147483648) ∧
          (∀ v87 : Int, rg v87 → v87 = totO 0 g → (
            ((v87 ≤ 0 → (
              (0 ≤ (x1 / 16) / 9 ∧ (x1 / 16) / 9 < 2147483648) ∧
              (rg (8 - ((x1 / 16) % 9))) ∧
              LM (d - 1) m_L_ask [(.inr (some 1)), (.inl ((x1 / 16) % 9)), (.inl (sr (((x1 / 16) / 9) % 256) (8 - ((x1 / 16) % 9))))] g (fun v91 g92 => (
                P v91 g92))
              )) ∧ (¬ (v87 ≤ 0) → (
              (((x1 / 16) % 4 ≤ 0 → (
                (0 ≤ (x1 / 16) / 9 ∧ (x1 / 16) / 9 < 2147483648) ∧
                (rg (8 - ((x1 / 16) % 9))) ∧
                LM (d - 1) m_L_ask [(.inr (some 1)), (.inl ((x1 / 16) % 9)), (.inl (sr (((x1 / 16) / 9) % 256) (8 - ((x1 / 16) % 9))))] g (fun v96 g97 => (
                  P v96 g97))
                )) ∧ (¬ ((x1 / 16) % 4 ≤ 0) → (
                (∀ v98 : Int, rg v98 → v98 = totO 0 g → (
                  (0 ≤ (x1 / 16) / 9 ∧ (x1 / 16) / 9 < 2147483648) ∧
                  (0 < v98 ∧ v98 < 2147483648) ∧
                  (∀ v101 : Int, rg v101 → v101 = cardO (((x1 / 16) / 9) % v98) g.1.1 → (
                    (rg (8 - ((x1 / 16) % 9))) ∧
                    LM (d - 1) m_L_ask [(.inr (some 1)), (.inl ((x1 / 16) % 9)), (.inl (sr v101 (8 - ((x1 / 16) % 9))))] g (fun v103 g104 => (
                      P v103 g104))))))
                )))
              )))))
          )))
        )) ∧ (¬ (9 ≤ x1 % 16) → (
        (rg ((x1 % 16) - 5)) ∧
        LM (d - 1) m_L_change [(.inr (some 1)), (.inl ((x1 % 16) - 5)), (.inl (x1 / 16))] g (fun v106 g107 => (
          P v106 g107))
        )))
      )) ∧ (¬ (5 ≤ x1 % 16) → (
      (0 ≤ x1 / 16 ∧ x1 / 16 < 2147483648) ∧
      ((¬ (x1 / 16) % 3 = 0 → (
        (0 ≤ (x1 / 16) / 3 ∧ (x1 / 16) / 3 < 2147483648) ∧
        LM (d - 1) m_L_put [(.inr (some 1)), (.inl (((x1 / 16) / 3) % 256))] g (fun v111 g112 => (
          P v111 g112))
        )) ∧ (¬ (¬ (x1 / 16) % 3 = 0) → (
        (0 ≤ (x1 / 16) / 3 ∧ (x1 / 16) / 3 < 2147483648) ∧
        (rg ((((x1 / 16) / 3) % 16) * 8)) ∧
        LM (d - 1) m_L_put [(.inr (some 1)), (.inl ((((x1 / 16) / 3) % 16) * 8))] g (fun v115 g116 => (
          P v115 g116))
        )))
      )))) :
  LW m_L_act d none P 0 [some (.inr (some 1)), some (.inl x1), none, none, none, none, none, none] [] g (0, 0) := by
  refine lw_iload_n (pc := 0) dL_act_0 rfl ?_
  refine lw_bipush (pc := 1) dL_act_1 ?_
  obtain ⟨s1, G⟩ := G
  refine lw_irem (pc := 3) dL_act_3 s1 (by decide) ?_
  refine lw_istore_n (pc := 4) (ls' := [some (.inr (some 1)), some (.inl x1), some (.inl (x1 % 16)), none, none, none, none, none]) dL_act_4 (Nat.le_of_ble_eq_true rfl) rfl ?_
  refine lw_iload_n (pc := 5) dL_act_5 rfl ?_
  refine lw_bipush (pc := 6) dL_act_6 ?_
  refine lw_idiv (pc := 8) dL_act_8 s1 (by decide) ?_
  refine lw_istore_n (pc := 9) (ls' := [some (.inr (some 1)), some (.inl x1), some (.inl (x1 % 16)), some (.inl (x1 / 16)), none, none, none, none]) dL_act_9 (Nat.le_of_ble_eq_true rfl) rfl ?_
  refine lw_iload_n (pc := 10) dL_act_10 rfl ?_
  refine lw_iconst (pc := 11) dL_act_11 ?_
  refine lw_icmp_ge (pc := 12) (tgt := 45) dL_act_12 (by decide) (fun c2 => ?_) (fun c2 => ?_)
  · replace G := G.1 c2
    refine lw_iload_n (pc := 45) dL_act_45 rfl ?_
    refine lw_bipush (pc := 46) dL_act_46 ?_
    refine lw_icmp_ge (pc := 48) (tgt := 60) dL_act_48 (by decide) (fun c3 => ?_) (fun c3 => ?_)
    · replace G := G.1 c3
      refine lw_iload_n (pc := 60) dL_act_60 rfl ?_
      refine lw_bipush (pc := 61) dL_act_61 ?_
      refine lw_icmp_ge (pc := 63) (tgt := 128) dL_act_63 (by decide) (fun c4 => ?_) (fun c4 => ?_)
      · replace G := G.1 c4
        refine lw_iload_n (pc := 128) dL_act_128 rfl ?_
        refine lw_bipush (pc := 129) dL_act_129 ?_
        refine lw_icmp_ne (pc := 131) (tgt := 186) dL_act_131 (by decide) (fun c5 => ?_) (fun c5 => ?_)
        · replace G := G.1 c5
          refine lw_iload_n (pc := 186) dL_act_186 rfl ?_
          refine lw_bipush (pc := 187) dL_act_187 ?_
          refine lw_icmp_ne (pc := 189) (tgt := 272) dL_act_189 (by decide) (fun c6 => ?_) (fun c6 => ?_)
          · replace G := G.1 c6
            refine lw_iload_n (pc := 272) dL_act_272 rfl ?_
            refine lw_bipush (pc := 273) dL_act_273 ?_
            refine lw_icmp_ne (pc := 275) (tgt := 355) dL_act_275 (by decide) (fun c7 => ?_) (fun c7 => ?_)
            · replace G := G.1 c7
              refine lw_iload_n (pc := 355) dL_act_355 rfl ?_
              refine lw_iconst (pc := 356) dL_act_356 ?_
              obtain ⟨s8, G⟩ := G
              refine lw_irem (pc := 357) dL_act_357 s8 (by decide) ?_
              refine lw_if_ne (pc := 358) (tgt := 369) dL_act_358 (by decide) (fun c9 => ?_) (fun c9 => ?_)
              · replace G := G.1 c9
                refine lw_aload_n (pc := 369) dL_act_369 rfl ?_
                refine lw_bipush (pc := 370) dL_act_370 ?_
                refine lw_invV (pc := 372) (md' := m_X6_total) (as := [(.inl 13)]) dL_act_372 mo_X6_total im_X6_total se_X6_total ml_L_13 rfl rfl (by omega) (Nat.le_of_ble_eq_true rfl) rfl ⟨Nat.le_of_ble_eq_true rfl, Nat.le_of_ble_eq_true rfl⟩ (lm_mono (lm_rg (kq_total (by omega))) (fun v10 g' e => ?_))
                obtain ⟨r_v10, e_v10, rfl⟩ := e
                replace G := G v10 r_v10 e_v10
                refine lw_istore (pc := 375) (ls' := [some (.inr (some 1)), some (.inl x1), some (.inl (x1 % 16)), some (.inl (x1 / 16)), some (.inl v10), none, none, none]) dL_act_375 (Nat.le_of_ble_eq_true rfl) rfl ?_
                refine lw_iload_n (pc := 377) dL_act_377 rfl ?_
                refine lw_iconst (pc := 378) dL_act_378 ?_
                refine lw_irem (pc := 379) dL_act_379 s8 (by decide) ?_
                refine lw_if_ne (pc := 380) (tgt := 390) dL_act_380 (by decide) (fun _ => ?_) (fun h => absurd (by omega) h)
                refine lw_aload_n (pc := 390) dL_act_390 rfl ?_
                refine lw_iload_n (pc := 391) dL_act_391 rfl ?_
                obtain ⟨s14, G⟩ := G
                refine lw_invV (pc := 392) (md' := m_X6_shuffle) (as := [(.inl (x1 / 16))]) dL_act_392 mo_X6_shuffle im_X6_shuffle se_X6_shuffle ml_L_56 rfl rfl (by omega) (Nat.le_of_ble_eq_true rfl) rfl ⟨Nat.le_of_ble_eq_true rfl, Nat.le_of_ble_eq_true rfl⟩ (lm_mono (lm_rg (kc_shuffle (by omega) s14)) (fun v12 g13 e => ?_))
                obtain ⟨r_v12, e_v12, f_v12⟩ := e
                replace G := G v12 g13 r_v12 e_v12 f_v12
                refine lw_istore (pc := 395) (ls' := [some (.inr (some 1)), some (.inl x1), some (.inl (x1 % 16)), some (.inl (x1 / 16)), some (.inl v10), some (.inl v12), none, none]) dL_act_395 (Nat.le_of_ble_eq_true rfl) rfl ?_
                refine lw_iload_n (pc := 397) dL_act_397 rfl ?_
                refine lw_iconst (pc := 398) dL_act_398 ?_
                refine lw_irem (pc := 399) dL_act_399 s8 (by decide) ?_
                refine lw_if_ne (pc := 400) (tgt := 438) dL_act_400 (by decide) (fun _ => ?_) (fun h => absurd (by omega) h)
                refine lw_iload (pc := 438) dL_act_438 rfl ?_
                refine lw_iload (pc := 440) dL_act_440 rfl ?_
                refine lw_iload_n (pc := 442) dL_act_442 rfl ?_
                refine lw_icmp_ne (pc := 443) (tgt := 451) dL_act_443 (by decide) (fun c16 => ?_) (fun c16 => ?_)
                · replace G := G.1 c16
                  refine lw_iload (pc := 451) dL_act_451 rfl ?_
                  refine lw_icmp_ne (pc := 453) (tgt := 471) dL_act_453 (by decide) (fun c17 => ?_) (fun c17 => ?_)
                  · replace G := G.1 c17
                    refine lw_bipush (pc := 471) dL_act_471 ?_
                    refine lw_ireturn (pc := 473) dL_act_473 rfl ?_ (Nat.le_of_ble_eq_true rfl) (Nat.le_of_ble_eq_true rfl)
                    exact G
                  · replace G := G.2 c17
                    refine lw_aload_n (pc := 456) dL_act_456 rfl ?_
                    refine lw_bipush (pc := 457) dL_act_457 ?_
                    refine lw_invV (pc := 459) (md' := m_X6_total) (as := [(.inl 13)]) dL_act_459 mo_X6_total im_X6_total se_X6_total ml_L_13 rfl rfl (by omega) (Nat.le_of_ble_eq_true rfl) rfl ⟨Nat.le_of_ble_eq_true rfl, Nat.le_of_ble_eq_true rfl⟩ (lm_mono (lm_rg (kq_total (by omega))) (fun v18 g' e => ?_))
                    obtain ⟨r_v18, e_v18, rfl⟩ := e
                    replace G := G v18 r_v18 e_v18
                    refine lw_iload_n (pc := 462) dL_act_462 rfl ?_
                    refine lw_icmp_ne (pc := 463) (tgt := 471) dL_act_463 (by decide) (fun c19 => ?_) (fun c19 => ?_)
                    · replace G := G.1 c19
                      refine lw_bipush (pc := 471) dL_act_471 ?_
                      refine lw_ireturn (pc := 473) dL_act_473 rfl ?_ (Nat.le_of_ble_eq_true rfl) (Nat.le_of_ble_eq_true rfl)
                      exact G
                    · replace G := G.2 c19
                      refine lw_iload (pc := 466) dL_act_466 rfl ?_
                      refine lw_goto (pc := 468) (tgt := 473) dL_act_468 (by decide) ?_
                      refine lw_ireturn (pc := 473) dL_act_473 rfl ?_ (Nat.le_of_ble_eq_true rfl) (Nat.le_of_ble_eq_true rfl)
                      exact G
                · replace G := G.2 c16
                  refine lw_bipush (pc := 446) dL_act_446 ?_
                  refine lw_goto (pc := 448) (tgt := 453) dL_act_448 (by decide) ?_
                  refine lw_icmp_ne (pc := 453) (tgt := 471) dL_act_453 (by decide) (fun c20 => ?_) (fun c20 => ?_)
                  · replace G := G.1 c20
                    refine lw_bipush (pc := 471) dL_act_471 ?_
                    refine lw_ireturn (pc := 473) dL_act_473 rfl ?_ (Nat.le_of_ble_eq_true rfl) (Nat.le_of_ble_eq_true rfl)
                    exact G
                  · replace G := G.2 c20
                    refine lw_aload_n (pc := 456) dL_act_456 rfl ?_
                    refine lw_bipush (pc := 457) dL_act_457 ?_
                    refine lw_invV (pc := 459) (md' := m_X6_total) (as := [(.inl 13)]) dL_act_459 mo_X6_total im_X6_total se_X6_total ml_L_13 rfl rfl (by omega) (Nat.le_of_ble_eq_true rfl) rfl ⟨Nat.le_of_ble_eq_true rfl, Nat.le_of_ble_eq_true rfl⟩ (lm_mono (lm_rg (kq_total (by omega))) (fun v21 g' e => ?_))
                    obtain ⟨r_v21, e_v21, rfl⟩ := e
                    replace G := G v21 r_v21 e_v21
                    refine lw_iload_n (pc := 462) dL_act_462 rfl ?_
                    refine lw_icmp_ne (pc := 463) (tgt := 471) dL_act_463 (by decide) (fun c22 => ?_) (fun c22 => ?_)
                    · replace G := G.1 c22
                      refine lw_bipush (pc := 471) dL_act_471 ?_
                      refine lw_ireturn (pc := 473) dL_act_473 rfl ?_ (Nat.le_of_ble_eq_true rfl) (Nat.le_of_ble_eq_true rfl)
                      exact G
                    · replace G := G.2 c22
                      refine lw_iload (pc := 466) dL_act_466 rfl ?_
                      refine lw_goto (pc := 468) (tgt := 473) dL_act_468 (by decide) ?_
                      refine lw_ireturn (pc := 473) dL_act_473 rfl ?_ (Nat.le_of_ble_eq_true rfl) (Nat.le_of_ble_eq_true rfl)
                      exact G
              · replace G := G.2 c9
                refine lw_aload_n (pc := 361) dL_act_361 rfl ?_
                refine lw_iconst (pc := 362) dL_act_362 ?_
                refine lw_invV (pc := 363) (md' := m_X6_total) (as := [(.inl 3)]) dL_act_363 mo_X6_total im_X6_total se_X6_total ml_L_13 rfl rfl (by omega) (Nat.le_of_ble_eq_true rfl) rfl ⟨Nat.le_of_ble_eq_true rfl, Nat.le_of_ble_eq_true rfl⟩ (lm_mono (lm_rg (kq_total (by omega))) (fun v23 g' e => ?_))
                obtain ⟨r_v23, e_v23, rfl⟩ := e
                replace G := G v23 r_v23 e_v23
                refine lw_goto (pc := 366) (tgt := 375) dL_act_366 (by decide) ?_
                refine lw_istore (pc := 375) (ls' := [some (.inr (some 1)), some (.inl x1), some (.inl (x1 % 16)), some (.inl (x1 / 16)), some (.inl v23), none, none, none]) dL_act_375 (Nat.le_of_ble_eq_true rfl) rfl ?_
                refine lw_iload_n (pc := 377) dL_act_377 rfl ?_
                refine lw_iconst (pc := 378) dL_act_378 ?_
                refine lw_irem (pc := 379) dL_act_379 s8 (by decide) ?_
                refine lw_if_ne (pc := 380) (tgt := 390) dL_act_380 (by decide) (fun h => absurd h (by omega)) (fun _ => ?_)
                refine lw_aload_n (pc := 383) dL_act_383 rfl ?_
                refine lw_invV (pc := 384) (md' := m_X6_forget) (as := []) dL_act_384 mo_X6_forget im_X6_forget se_X6_forget ml_L_59 rfl rfl (by omega) (Nat.le_of_ble_eq_true rfl) rfl ⟨Nat.le_of_ble_eq_true rfl, Nat.le_of_ble_eq_true rfl⟩ (lm_mono (lm_rg (kc_forget (by omega))) (fun v25 g26 e => ?_))
                obtain ⟨r_v25, e_v25, f_v25⟩ := e
                replace G := G v25 g26 r_v25 e_v25 f_v25
                refine lw_goto (pc := 387) (tgt := 395) dL_act_387 (by decide) ?_
                refine lw_istore (pc := 395) (ls' := [some (.inr (some 1)), some (.inl x1), some (.inl (x1 % 16)), some (.inl (x1 / 16)), some (.inl v23), some (.inl v25), none, none]) dL_act_395 (Nat.le_of_ble_eq_true rfl) rfl ?_
                refine lw_iload_n (pc := 397) dL_act_397 rfl ?_
                refine lw_iconst (pc := 398) dL_act_398 ?_
                refine lw_irem (pc := 399) dL_act_399 s8 (by decide) ?_
                refine lw_if_ne (pc := 400) (tgt := 438) dL_act_400 (by decide) (fun h => absurd h (by omega)) (fun _ => ?_)
                refine lw_iload (pc := 403) dL_act_403 rfl ?_
                refine lw_iload (pc := 405) dL_act_405 rfl ?_
                refine lw_if_ne (pc := 407) (tgt := 415) dL_act_407 (by decide) (fun c28 => ?_) (fun c28 => ?_)
                · replace G := G.1 c28
                  refine lw_iload (pc := 415) dL_act_415 rfl ?_
                  refine lw_icmp_ne (pc := 417) (tgt := 433) dL_act_417 (by decide) (fun c29 => ?_) (fun c29 => ?_)
                  · replace G := G.1 c29
                    refine lw_bipush (pc := 433) dL_act_433 ?_
                    refine lw_goto (pc := 435) (tgt := 473) dL_act_435 (by decide) ?_
                    refine lw_ireturn (pc := 473) dL_act_473 rfl ?_ (Nat.le_of_ble_eq_true rfl) (Nat.le_of_ble_eq_true rfl)
                    exact G
                  · replace G := G.2 c29
                    refine lw_aload_n (pc := 420) dL_act_420 rfl ?_
                    refine lw_iconst (pc := 421) dL_act_421 ?_
                    refine lw_invV (pc := 422) (md' := m_X6_total) (as := [(.inl 3)]) dL_act_422 mo_X6_total im_X6_total se_X6_total ml_L_13 rfl rfl (by omega) (Nat.le_of_ble_eq_true rfl) rfl ⟨Nat.le_of_ble_eq_true rfl, Nat.le_of_ble_eq_true rfl⟩ (lm_mono (lm_rg (kq_total (by omega))) (fun v30 g' e => ?_))
                    obtain ⟨r_v30, e_v30, rfl⟩ := e
                    replace G := G v30 r_v30 e_v30
                    refine lw_if_ne (pc := 425) (tgt := 433) dL_act_425 (by decide) (fun c31 => ?_) (fun c31 => ?_)
                    · replace G := G.1 c31
                      refine lw_bipush (pc := 433) dL_act_433 ?_
                      refine lw_goto (pc := 435) (tgt := 473) dL_act_435 (by decide) ?_
                      refine lw_ireturn (pc := 473) dL_act_473 rfl ?_ (Nat.le_of_ble_eq_true rfl) (Nat.le_of_ble_eq_true rfl)
                      exact G
                    · replace G := G.2 c31
                      refine lw_iload (pc := 428) dL_act_428 rfl ?_
                      refine lw_goto (pc := 430) (tgt := 473) dL_act_430 (by decide) ?_
                      refine lw_ireturn (pc := 473) dL_act_473 rfl ?_ (Nat.le_of_ble_eq_true rfl) (Nat.le_of_ble_eq_true rfl)
                      exact G
                · replace G := G.2 c28
                  refine lw_bipush (pc := 410) dL_act_410 ?_
                  refine lw_goto (pc := 412) (tgt := 417) dL_act_412 (by decide) ?_
                  refine lw_icmp_ne (pc := 417) (tgt := 433) dL_act_417 (by decide) (fun c32 => ?_) (fun c32 => ?_)
                  · replace G := G.1 c32
                    refine lw_bipush (pc := 433) dL_act_433 ?_
                    refine lw_goto (pc := 435) (tgt := 473) dL_act_435 (by decide) ?_
                    refine lw_ireturn (pc := 473) dL_act_473 rfl ?_ (Nat.le_of_ble_eq_true rfl) (Nat.le_of_ble_eq_true rfl)
                    exact G
                  · replace G := G.2 c32
                    refine lw_aload_n (pc := 420) dL_act_420 rfl ?_
                    refine lw_iconst (pc := 421) dL_act_421 ?_
                    refine lw_invV (pc := 422) (md' := m_X6_total) (as := [(.inl 3)]) dL_act_422 mo_X6_total im_X6_total se_X6_total ml_L_13 rfl rfl (by omega) (Nat.le_of_ble_eq_true rfl) rfl ⟨Nat.le_of_ble_eq_true rfl, Nat.le_of_ble_eq_true rfl⟩ (lm_mono (lm_rg (kq_total (by omega))) (fun v33 g' e => ?_))
                    obtain ⟨r_v33, e_v33, rfl⟩ := e
                    replace G := G v33 r_v33 e_v33
                    refine lw_if_ne (pc := 425) (tgt := 433) dL_act_425 (by decide) (fun c34 => ?_) (fun c34 => ?_)
                    · replace G := G.1 c34
                      refine lw_bipush (pc := 433) dL_act_433 ?_
                      refine lw_goto (pc := 435) (tgt := 473) dL_act_435 (by decide) ?_
                      refine lw_ireturn (pc := 473) dL_act_473 rfl ?_ (Nat.le_of_ble_eq_true rfl) (Nat.le_of_ble_eq_true rfl)
                      exact G
                    · replace G := G.2 c34
                      refine lw_iload (pc := 428) dL_act_428 rfl ?_
                      refine lw_goto (pc := 430) (tgt := 473) dL_act_430 (by decide) ?_
                      refine lw_ireturn (pc := 473) dL_act_473 rfl ?_ (Nat.le_of_ble_eq_true rfl) (Nat.le_of_ble_eq_true rfl)
                      exact G
            · replace G := G.2 c7
              refine lw_iload_n (pc := 278) dL_act_278 rfl ?_
              refine lw_iconst (pc := 279) dL_act_279 ?_
              obtain ⟨s35, G⟩ := G
              refine lw_irem (pc := 280) dL_act_280 s35 (by decide) ?_
              refine lw_istore (pc := 281) (ls' := [some (.inr (some 1)), some (.inl x1), some (.inl (x1 % 16)), some (.inl (x1 / 16)), some (.inl ((x1 / 16) % 2)), none, none, none]) dL_act_281 (Nat.le_of_ble_eq_true rfl) rfl ?_
              refine lw_aload_n (pc := 283) dL_act_283 rfl ?_
              refine lw_bipush (pc := 284) dL_act_284 ?_
              refine lw_iload (pc := 286) dL_act_286 rfl ?_
              obtain ⟨s36, G⟩ := G
              refine lw_iadd (pc := 288) (v := 11 + ((x1 / 16) % 2)) dL_act_288 s36 rfl ?_
              refine lw_invV (pc := 289) (md' := m_X6_total) (as := [(.inl (11 + ((x1 / 16) % 2)))]) dL_act_289 mo_X6_total im_X6_total se_X6_total ml_L_13 rfl rfl (by omega) (Nat.le_of_ble_eq_true rfl) rfl ⟨Nat.le_of_ble_eq_true rfl, Nat.le_of_ble_eq_true rfl⟩ (lm_mono (lm_rg (kq_total (by omega))) (fun v37 g' e => ?_))
              obtain ⟨r_v37, e_v37, rfl⟩ := e
              replace G := G v37 r_v37 e_v37
              refine lw_istore (pc := 292) (ls' := [some (.inr (some 1)), some (.inl x1), some (.inl (x1 % 16)), some (.inl (x1 / 16)), some (.inl ((x1 / 16) % 2)), some (.inl v37), none, none]) dL_act_292 (Nat.le_of_ble_eq_true rfl) rfl ?_
              refine lw_iload_n (pc := 294) dL_act_294 rfl ?_
              refine lw_iconst (pc := 295) dL_act_295 ?_
              refine lw_idiv (pc := 296) dL_act_296 s35 (by decide) ?_
              refine lw_iconst (pc := 297) dL_act_297 ?_
              refine lw_iload (pc := 298) dL_act_298 rfl ?_
              obtain ⟨s38, G⟩ := G
              refine lw_iadd (pc := 300) (v := 2 + ((x1 / 16) % 2)) dL_act_300 s38 rfl ?_
              obtain ⟨s39, G⟩ := G
              obtain ⟨s40, G⟩ := G
              refine lw_irem (pc := 301) dL_act_301 s39 s40 ?_
              refine lw_istore (pc := 302) (ls' := [some (.inr (some 1)), some (.inl x1), some (.inl (x1 % 16)), some (.inl (x1 / 16)), some (.inl ((x1 / 16) % 2)), some (.inl v37), some (.inl (((x1 / 16) / 2) % (2 + ((x1 / 16) % 2)))), none]) dL_act_302 (Nat.le_of_ble_eq_true rfl) rfl ?_
              refine lw_aload_n (pc := 304) dL_act_304 rfl ?_
              refine lw_iload (pc := 305) dL_act_305 rfl ?_
              refine lw_iload (pc := 307) dL_act_307 rfl ?_
              refine lw_invV (pc := 309) (md' := m_X6_set) (as := [(.inl ((x1 / 16) % 2)), (.inl (((x1 / 16) / 2) % (2 + ((x1 / 16) % 2))))]) dL_act_309 mo_X6_set im_X6_set se_X6_set ml_L_53 rfl rfl (by omega) (Nat.le_of_ble_eq_true rfl) rfl ⟨Nat.le_of_ble_eq_true rfl, Nat.le_of_ble_eq_true rfl⟩ (lm_mono (lm_rg (kc_set (by omega))) (fun v41 g42 e => ?_))
              obtain ⟨r_v41, e_v41, f_v41⟩ := e
              replace G := G v41 g42 r_v41 e_v41 f_v41
              refine lw_istore (pc := 312) (ls' := [some (.inr (some 1)), some (.inl x1), some (.inl (x1 % 16)), some (.inl (x1 / 16)), some (.inl ((x1 / 16) % 2)), some (.inl v37), some (.inl (((x1 / 16) / 2) % (2 + ((x1 / 16) % 2)))), some (.inl v41)]) dL_act_312 (Nat.le_of_ble_eq_true rfl) rfl ?_
              refine lw_iload (pc := 314) dL_act_314 rfl ?_
              refine lw_iload (pc := 316) dL_act_316 rfl ?_
              refine lw_iload (pc := 318) dL_act_318 rfl ?_
              refine lw_icmp_ne (pc := 320) (tgt := 328) dL_act_320 (by decide) (fun c43 => ?_) (fun c43 => ?_)
              · replace G := G.1 c43
                refine lw_iload (pc := 328) dL_act_328 rfl ?_
                refine lw_icmp_ne (pc := 330) (tgt := 352) dL_act_330 (by decide) (fun c44 => ?_) (fun c44 => ?_)
                · replace G := G.1 c44
                  refine lw_bipush (pc := 352) dL_act_352 ?_
                  refine lw_ireturn (pc := 354) dL_act_354 rfl ?_ (Nat.le_of_ble_eq_true rfl) (Nat.le_of_ble_eq_true rfl)
                  exact G
                · replace G := G.2 c44
                  refine lw_aload_n (pc := 333) dL_act_333 rfl ?_
                  refine lw_bipush (pc := 334) dL_act_334 ?_
                  refine lw_iload (pc := 336) dL_act_336 rfl ?_
                  refine lw_iadd (pc := 338) (v := 11 + ((x1 / 16) % 2)) dL_act_338 s36 rfl ?_
                  refine lw_invV (pc := 339) (md' := m_X6_total) (as := [(.inl (11 + ((x1 / 16) % 2)))]) dL_act_339 mo_X6_total im_X6_total se_X6_total ml_L_13 rfl rfl (by omega) (Nat.le_of_ble_eq_true rfl) rfl ⟨Nat.le_of_ble_eq_true rfl, Nat.le_of_ble_eq_true rfl⟩ (lm_mono (lm_rg (kq_total (by omega))) (fun v45 g' e => ?_))
                  obtain ⟨r_v45, e_v45, rfl⟩ := e
                  replace G := G v45 r_v45 e_v45
                  refine lw_iload (pc := 342) dL_act_342 rfl ?_
                  refine lw_icmp_ne (pc := 344) (tgt := 352) dL_act_344 (by decide) (fun c46 => ?_) (fun c46 => ?_)
                  · replace G := G.1 c46
                    refine lw_bipush (pc := 352) dL_act_352 ?_
                    refine lw_ireturn (pc := 354) dL_act_354 rfl ?_ (Nat.le_of_ble_eq_true rfl) (Nat.le_of_ble_eq_true rfl)
                    exact G
                  · replace G := G.2 c46
                    refine lw_iload (pc := 347) dL_act_347 rfl ?_
                    refine lw_goto (pc := 349) (tgt := 354) dL_act_349 (by decide) ?_
                    refine lw_ireturn (pc := 354) dL_act_354 rfl ?_ (Nat.le_of_ble_eq_true rfl) (Nat.le_of_ble_eq_true rfl)
                    exact G
              · replace G := G.2 c43
                refine lw_bipush (pc := 323) dL_act_323 ?_
                refine lw_goto (pc := 325) (tgt := 330) dL_act_325 (by decide) ?_
                refine lw_icmp_ne (pc := 330) (tgt := 352) dL_act_330 (by decide) (fun c47 => ?_) (fun c47 => ?_)
                · replace G := G.1 c47
                  refine lw_bipush (pc := 352) dL_act_352 ?_
                  refine lw_ireturn (pc := 354) dL_act_354 rfl ?_ (Nat.le_of_ble_eq_true rfl) (Nat.le_of_ble_eq_true rfl)
                  exact G
                · replace G := G.2 c47
                  refine lw_aload_n (pc := 333) dL_act_333 rfl ?_
                  refine lw_bipush (pc := 334) dL_act_334 ?_
                  refine lw_iload (pc := 336) dL_act_336 rfl ?_
                  refine lw_iadd (pc := 338) (v := 11 + ((x1 / 16) % 2)) dL_act_338 s36 rfl ?_
                  refine lw_invV (pc := 339) (md' := m_X6_total) (as := [(.inl (11 + ((x1 / 16) % 2)))]) dL_act_339 mo_X6_total im_X6_total se_X6_total ml_L_13 rfl rfl (by omega) (Nat.le_of_ble_eq_true rfl) rfl ⟨Nat.le_of_ble_eq_true rfl, Nat.le_of_ble_eq_true rfl⟩ (lm_mono (lm_rg (kq_total (by omega))) (fun v48 g' e => ?_))
                  obtain ⟨r_v48, e_v48, rfl⟩ := e
                  replace G := G v48 r_v48 e_v48
                  refine lw_iload (pc := 342) dL_act_342 rfl ?_
                  refine lw_icmp_ne (pc := 344) (tgt := 352) dL_act_344 (by decide) (fun c49 => ?_) (fun c49 => ?_)
                  · replace G := G.1 c49
                    refine lw_bipush (pc := 352) dL_act_352 ?_
                    refine lw_ireturn (pc := 354) dL_act_354 rfl ?_ (Nat.le_of_ble_eq_true rfl) (Nat.le_of_ble_eq_true rfl)
                    exact G
                  · replace G := G.2 c49
                    refine lw_iload (pc := 347) dL_act_347 rfl ?_
                    refine lw_goto (pc := 349) (tgt := 354) dL_act_349 (by decide) ?_
                    refine lw_ireturn (pc := 354) dL_act_354 rfl ?_ (Nat.le_of_ble_eq_true rfl) (Nat.le_of_ble_eq_true rfl)
                    exact G
          · replace G := G.2 c6
            refine lw_aload_n (pc := 192) dL_act_192 rfl ?_
            refine lw_bipush (pc := 193) dL_act_193 ?_
            refine lw_invV (pc := 195) (md' := m_X6_total) (as := [(.inl 10)]) dL_act_195 mo_X6_total im_X6_total se_X6_total ml_L_13 rfl rfl (by omega) (Nat.le_of_ble_eq_true rfl) rfl ⟨Nat.le_of_ble_eq_true rfl, Nat.le_of_ble_eq_true rfl⟩ (lm_mono (lm_rg (kq_total (by omega))) (fun v50 g' e => ?_))
            obtain ⟨r_v50, e_v50, rfl⟩ := e
            replace G := G v50 r_v50 e_v50
            refine lw_istore (pc := 198) (ls' := [some (.inr (some 1)), some (.inl x1), some (.inl (x1 % 16)), some (.inl (x1 / 16)), some (.inl v50), none, none, none]) dL_act_198 (Nat.le_of_ble_eq_true rfl) rfl ?_
            refine lw_iload_n (pc := 200) dL_act_200 rfl ?_
            refine lw_iconst (pc := 201) dL_act_201 ?_
            obtain ⟨s51, G⟩ := G
            refine lw_irem (pc := 202) dL_act_202 s51 (by decide) ?_
            refine lw_if_ne (pc := 203) (tgt := 221) dL_act_203 (by decide) (fun c52 => ?_) (fun c52 => ?_)
            · replace G := G.1 c52
              refine lw_aload_n (pc := 221) dL_act_221 rfl ?_
              refine lw_iconst (pc := 222) dL_act_222 ?_
              refine lw_iload_n (pc := 223) dL_act_223 rfl ?_
              refine lw_iconst (pc := 224) dL_act_224 ?_
              refine lw_idiv (pc := 225) dL_act_225 s51 (by decide) ?_
              refine lw_bipush (pc := 226) dL_act_226 ?_
              obtain ⟨s53, G⟩ := G
              refine lw_irem (pc := 228) dL_act_228 s53 (by decide) ?_
              obtain ⟨s54, G⟩ := G
              refine lw_iadd (pc := 229) (v := 1 + (((x1 / 16) / 2) % 64)) dL_act_229 s54 rfl ?_
              refine lw_invV (pc := 230) (md' := m_X6_frame) (as := [(.inl (1 + (((x1 / 16) / 2) % 64)))]) dL_act_230 mo_X6_frame im_X6_frame se_X6_frame ml_L_65 rfl rfl (by omega) (Nat.le_of_ble_eq_true rfl) rfl ⟨Nat.le_of_ble_eq_true rfl, Nat.le_of_ble_eq_true rfl⟩ (lm_mono (lm_rg (kc_frame (by omega))) (fun v55 g56 e => ?_))
              obtain ⟨r_v55, e_v55, f_v55⟩ := e
              replace G := G v55 g56 r_v55 e_v55 f_v55
              refine lw_istore (pc := 233) (ls' := [some (.inr (some 1)), some (.inl x1), some (.inl (x1 % 16)), some (.inl (x1 / 16)), some (.inl v50), some (.inl v55), none, none]) dL_act_233 (Nat.le_of_ble_eq_true rfl) rfl ?_
              refine lw_iload (pc := 235) dL_act_235 rfl ?_
              refine lw_if_lt (pc := 237) (tgt := 269) dL_act_237 (by decide) (fun c57 => ?_) (fun c57 => ?_)
              · replace G := G.1 c57
                refine lw_bipush (pc := 269) dL_act_269 ?_
                refine lw_ireturn (pc := 271) dL_act_271 rfl ?_ (Nat.le_of_ble_eq_true rfl) (Nat.le_of_ble_eq_true rfl)
                exact G
              · replace G := G.2 c57
                refine lw_aload_n (pc := 240) dL_act_240 rfl ?_
                refine lw_bipush (pc := 241) dL_act_241 ?_
                refine lw_invV (pc := 243) (md' := m_X6_total) (as := [(.inl 10)]) dL_act_243 mo_X6_total im_X6_total se_X6_total ml_L_13 rfl rfl (by omega) (Nat.le_of_ble_eq_true rfl) rfl ⟨Nat.le_of_ble_eq_true rfl, Nat.le_of_ble_eq_true rfl⟩ (lm_mono (lm_rg (kq_total (by omega))) (fun v58 g' e => ?_))
                obtain ⟨r_v58, e_v58, rfl⟩ := e
                replace G := G v58 r_v58 e_v58
                refine lw_iload (pc := 246) dL_act_246 rfl ?_
                refine lw_iload_n (pc := 248) dL_act_248 rfl ?_
                refine lw_iconst (pc := 249) dL_act_249 ?_
                refine lw_irem (pc := 250) dL_act_250 s51 (by decide) ?_
                refine lw_if_ne (pc := 251) (tgt := 259) dL_act_251 (by decide) (fun _ => ?_) (fun h => absurd (by omega) h)
                refine lw_iconst (pc := 259) dL_act_259 ?_
                obtain ⟨s60, G⟩ := G
                refine lw_iadd (pc := 260) (v := v50 + 1) dL_act_260 s60 rfl ?_
                refine lw_icmp_ne (pc := 261) (tgt := 269) dL_act_261 (by decide) (fun c61 => ?_) (fun c61 => ?_)
                · replace G := G.1 c61
                  refine lw_bipush (pc := 269) dL_act_269 ?_
                  refine lw_ireturn (pc := 271) dL_act_271 rfl ?_ (Nat.le_of_ble_eq_true rfl) (Nat.le_of_ble_eq_true rfl)
                  exact G
                · replace G := G.2 c61
                  refine lw_iload (pc := 264) dL_act_264 rfl ?_
                  refine lw_goto (pc := 266) (tgt := 271) dL_act_266 (by decide) ?_
                  refine lw_ireturn (pc := 271) dL_act_271 rfl ?_ (Nat.le_of_ble_eq_true rfl) (Nat.le_of_ble_eq_true rfl)
                  exact G
            · replace G := G.2 c52
              refine lw_aload_n (pc := 206) dL_act_206 rfl ?_
              refine lw_iconst (pc := 207) dL_act_207 ?_
              refine lw_iload_n (pc := 208) dL_act_208 rfl ?_
              refine lw_iconst (pc := 209) dL_act_209 ?_
              refine lw_idiv (pc := 210) dL_act_210 s51 (by decide) ?_
              refine lw_bipush (pc := 211) dL_act_211 ?_
              obtain ⟨s62, G⟩ := G
              refine lw_irem (pc := 213) dL_act_213 s62 (by decide) ?_
              obtain ⟨s63, G⟩ := G
              refine lw_iadd (pc := 214) (v := 1 + (((x1 / 16) / 2) % 64)) dL_act_214 s63 rfl ?_
              refine lw_invV (pc := 215) (md' := m_X6_rounds) (as := [(.inl (1 + (((x1 / 16) / 2) % 64)))]) dL_act_215 mo_X6_rounds im_X6_rounds se_X6_rounds ml_L_68 rfl rfl (by omega) (Nat.le_of_ble_eq_true rfl) rfl ⟨Nat.le_of_ble_eq_true rfl, Nat.le_of_ble_eq_true rfl⟩ (lm_mono (lm_rg (kc_rounds (by omega))) (fun v64 g65 e => ?_))
              obtain ⟨r_v64, e_v64, f_v64⟩ := e
              replace G := G v64 g65 r_v64 e_v64 f_v64
              refine lw_goto (pc := 218) (tgt := 233) dL_act_218 (by decide) ?_
              refine lw_istore (pc := 233) (ls' := [some (.inr (some 1)), some (.inl x1), some (.inl (x1 % 16)), some (.inl (x1 / 16)), some (.inl v50), some (.inl v64), none, none]) dL_act_233 (Nat.le_of_ble_eq_true rfl) rfl ?_
              refine lw_iload (pc := 235) dL_act_235 rfl ?_
              refine lw_if_lt (pc := 237) (tgt := 269) dL_act_237 (by decide) (fun c66 => ?_) (fun c66 => ?_)
              · replace G := G.1 c66
                refine lw_bipush (pc := 269) dL_act_269 ?_
                refine lw_ireturn (pc := 271) dL_act_271 rfl ?_ (Nat.le_of_ble_eq_true rfl) (Nat.le_of_ble_eq_true rfl)
                exact G
              · replace G := G.2 c66
                refine lw_aload_n (pc := 240) dL_act_240 rfl ?_
                refine lw_bipush (pc := 241) dL_act_241 ?_
                refine lw_invV (pc := 243) (md' := m_X6_total) (as := [(.inl 10)]) dL_act_243 mo_X6_total im_X6_total se_X6_total ml_L_13 rfl rfl (by omega) (Nat.le_of_ble_eq_true rfl) rfl ⟨Nat.le_of_ble_eq_true rfl, Nat.le_of_ble_eq_true rfl⟩ (lm_mono (lm_rg (kq_total (by omega))) (fun v67 g' e => ?_))
                obtain ⟨r_v67, e_v67, rfl⟩ := e
                replace G := G v67 r_v67 e_v67
                refine lw_iload (pc := 246) dL_act_246 rfl ?_
                refine lw_iload_n (pc := 248) dL_act_248 rfl ?_
                refine lw_iconst (pc := 249) dL_act_249 ?_
                refine lw_irem (pc := 250) dL_act_250 s51 (by decide) ?_
                refine lw_if_ne (pc := 251) (tgt := 259) dL_act_251 (by decide) (fun h => absurd h (by omega)) (fun _ => ?_)
                refine lw_iload (pc := 254) dL_act_254 rfl ?_
                refine lw_goto (pc := 256) (tgt := 260) dL_act_256 (by decide) ?_
                obtain ⟨s69, G⟩ := G
                refine lw_iadd (pc := 260) (v := v50 + v64) dL_act_260 s69 rfl ?_
                refine lw_icmp_ne (pc := 261) (tgt := 269) dL_act_261 (by decide) (fun c70 => ?_) (fun c70 => ?_)
                · replace G := G.1 c70
                  refine lw_bipush (pc := 269) dL_act_269 ?_
                  refine lw_ireturn (pc := 271) dL_act_271 rfl ?_ (Nat.le_of_ble_eq_true rfl) (Nat.le_of_ble_eq_true rfl)
                  exact G
                · replace G := G.2 c70
                  refine lw_iload (pc := 264) dL_act_264 rfl ?_
                  refine lw_goto (pc := 266) (tgt := 271) dL_act_266 (by decide) ?_
                  refine lw_ireturn (pc := 271) dL_act_271 rfl ?_ (Nat.le_of_ble_eq_true rfl) (Nat.le_of_ble_eq_true rfl)
                  exact G
        · replace G := G.2 c5
          refine lw_aload_n (pc := 134) dL_act_134 rfl ?_
          refine lw_bipush (pc := 135) dL_act_135 ?_
          refine lw_invV (pc := 137) (md' := m_X6_total) (as := [(.inl 7)]) dL_act_137 mo_X6_total im_X6_total se_X6_total ml_L_13 rfl rfl (by omega) (Nat.le_of_ble_eq_true rfl) rfl ⟨Nat.le_of_ble_eq_true rfl, Nat.le_of_ble_eq_true rfl⟩ (lm_mono (lm_rg (kq_total (by omega))) (fun v71 g' e => ?_))
          obtain ⟨r_v71, e_v71, rfl⟩ := e
          replace G := G v71 r_v71 e_v71
          refine lw_istore (pc := 140) (ls' := [some (.inr (some 1)), some (.inl x1), some (.inl (x1 % 16)), some (.inl (x1 / 16)), some (.inl v71), none, none, none]) dL_act_140 (Nat.le_of_ble_eq_true rfl) rfl ?_
          refine lw_aload_n (pc := 142) dL_act_142 rfl ?_
          refine lw_iload_n (pc := 143) dL_act_143 rfl ?_
          refine lw_iconst (pc := 144) dL_act_144 ?_
          obtain ⟨s72, G⟩ := G
          refine lw_irem (pc := 145) dL_act_145 s72 (by decide) ?_
          refine lw_if_ne (pc := 146) (tgt := 153) dL_act_146 (by decide) (fun c73 => ?_) (fun c73 => ?_)
          · replace G := G.1 c73
            refine lw_iconst (pc := 153) dL_act_153 ?_
            refine lw_invV (pc := 154) (md' := m_X6_walk) (as := [(.inl 0)]) dL_act_154 mo_X6_walk im_X6_walk se_X6_walk ml_L_101 rfl rfl (by omega) (Nat.le_of_ble_eq_true rfl) rfl ⟨Nat.le_of_ble_eq_true rfl, Nat.le_of_ble_eq_true rfl⟩ (lm_mono (lm_rg (kc_walk (by omega))) (fun v74 g75 e => ?_))
            obtain ⟨r_v74, e_v74, f_v74⟩ := e
            replace G := G v74 g75 r_v74 e_v74 f_v74
            refine lw_istore (pc := 157) (ls' := [some (.inr (some 1)), some (.inl x1), some (.inl (x1 % 16)), some (.inl (x1 / 16)), some (.inl v71), some (.inl v74), none, none]) dL_act_157 (Nat.le_of_ble_eq_true rfl) rfl ?_
            refine lw_iload (pc := 159) dL_act_159 rfl ?_
            refine lw_if_lt (pc := 161) (tgt := 183) dL_act_161 (by decide) (fun c76 => ?_) (fun c76 => ?_)
            · replace G := G.1 c76
              refine lw_bipush (pc := 183) dL_act_183 ?_
              refine lw_ireturn (pc := 185) dL_act_185 rfl ?_ (Nat.le_of_ble_eq_true rfl) (Nat.le_of_ble_eq_true rfl)
              exact G
            · replace G := G.2 c76
              refine lw_aload_n (pc := 164) dL_act_164 rfl ?_
              refine lw_bipush (pc := 165) dL_act_165 ?_
              refine lw_invV (pc := 167) (md' := m_X6_total) (as := [(.inl 7)]) dL_act_167 mo_X6_total im_X6_total se_X6_total ml_L_13 rfl rfl (by omega) (Nat.le_of_ble_eq_true rfl) rfl ⟨Nat.le_of_ble_eq_true rfl, Nat.le_of_ble_eq_true rfl⟩ (lm_mono (lm_rg (kq_total (by omega))) (fun v77 g' e => ?_))
              obtain ⟨r_v77, e_v77, rfl⟩ := e
              replace G := G v77 r_v77 e_v77
              refine lw_iload (pc := 170) dL_act_170 rfl ?_
              refine lw_iload (pc := 172) dL_act_172 rfl ?_
              obtain ⟨s78, G⟩ := G
              refine lw_iadd (pc := 174) (v := v71 + v74) dL_act_174 s78 rfl ?_
              refine lw_icmp_ne (pc := 175) (tgt := 183) dL_act_175 (by decide) (fun c79 => ?_) (fun c79 => ?_)
              · replace G := G.1 c79
                refine lw_bipush (pc := 183) dL_act_183 ?_
                refine lw_ireturn (pc := 185) dL_act_185 rfl ?_ (Nat.le_of_ble_eq_true rfl) (Nat.le_of_ble_eq_true rfl)
                exact G
              · replace G := G.2 c79
                refine lw_iload (pc := 178) dL_act_178 rfl ?_
                refine lw_goto (pc := 180) (tgt := 185) dL_act_180 (by decide) ?_
                refine lw_ireturn (pc := 185) dL_act_185 rfl ?_ (Nat.le_of_ble_eq_true rfl) (Nat.le_of_ble_eq_true rfl)
                exact G
          · replace G := G.2 c73
            refine lw_iconst (pc := 149) dL_act_149 ?_
            refine lw_goto (pc := 150) (tgt := 154) dL_act_150 (by decide) ?_
            refine lw_invV (pc := 154) (md' := m_X6_walk) (as := [(.inl 1)]) dL_act_154 mo_X6_walk im_X6_walk se_X6_walk ml_L_101 rfl rfl (by omega) (Nat.le_of_ble_eq_true rfl) rfl ⟨Nat.le_of_ble_eq_true rfl, Nat.le_of_ble_eq_true rfl⟩ (lm_mono (lm_rg (kc_walk (by omega))) (fun v80 g81 e => ?_))
            obtain ⟨r_v80, e_v80, f_v80⟩ := e
            replace G := G v80 g81 r_v80 e_v80 f_v80
            refine lw_istore (pc := 157) (ls' := [some (.inr (some 1)), some (.inl x1), some (.inl (x1 % 16)), some (.inl (x1 / 16)), some (.inl v71), some (.inl v80), none, none]) dL_act_157 (Nat.le_of_ble_eq_true rfl) rfl ?_
            refine lw_iload (pc := 159) dL_act_159 rfl ?_
            refine lw_if_lt (pc := 161) (tgt := 183) dL_act_161 (by decide) (fun c82 => ?_) (fun c82 => ?_)
            · replace G := G.1 c82
              refine lw_bipush (pc := 183) dL_act_183 ?_
              refine lw_ireturn (pc := 185) dL_act_185 rfl ?_ (Nat.le_of_ble_eq_true rfl) (Nat.le_of_ble_eq_true rfl)
              exact G
            · replace G := G.2 c82
              refine lw_aload_n (pc := 164) dL_act_164 rfl ?_
              refine lw_bipush (pc := 165) dL_act_165 ?_
              refine lw_invV (pc := 167) (md' := m_X6_total) (as := [(.inl 7)]) dL_act_167 mo_X6_total im_X6_total se_X6_total ml_L_13 rfl rfl (by omega) (Nat.le_of_ble_eq_true rfl) rfl ⟨Nat.le_of_ble_eq_true rfl, Nat.le_of_ble_eq_true rfl⟩ (lm_mono (lm_rg (kq_total (by omega))) (fun v83 g' e => ?_))
              obtain ⟨r_v83, e_v83, rfl⟩ := e
              replace G := G v83 r_v83 e_v83
              refine lw_iload (pc := 170) dL_act_170 rfl ?_
              refine lw_iload (pc := 172) dL_act_172 rfl ?_
              obtain ⟨s84, G⟩ := G
              refine lw_iadd (pc := 174) (v := v71 + v80) dL_act_174 s84 rfl ?_
              refine lw_icmp_ne (pc := 175) (tgt := 183) dL_act_175 (by decide) (fun c85 => ?_) (fun c85 => ?_)
              · replace G := G.1 c85
                refine lw_bipush (pc := 183) dL_act_183 ?_
                refine lw_ireturn (pc := 185) dL_act_185 rfl ?_ (Nat.le_of_ble_eq_true rfl) (Nat.le_of_ble_eq_true rfl)
                exact G
              · replace G := G.2 c85
                refine lw_iload (pc := 178) dL_act_178 rfl ?_
                refine lw_goto (pc := 180) (tgt := 185) dL_act_180 (by decide) ?_
                refine lw_ireturn (pc := 185) dL_act_185 rfl ?_ (Nat.le_of_ble_eq_true rfl) (Nat.le_of_ble_eq_true rfl)
                exact G
      · replace G := G.2 c4
        refine lw_iload_n (pc := 66) dL_act_66 rfl ?_
        refine lw_bipush (pc := 67) dL_act_67 ?_
        obtain ⟨s86, G⟩ := G
        refine lw_irem (pc := 69) dL_act_69 s86 (by decide) ?_
        refine lw_istore (pc := 70) (ls' := [some (.inr (some 1)), some (.inl x1), some (.inl (x1 % 16)), some (.inl (x1 / 16)), some (.inl ((x1 / 16) % 9)), none, none, none]) dL_act_70 (Nat.le_of_ble_eq_true rfl) rfl ?_
        refine lw_aload_n (pc := 72) dL_act_72 rfl ?_
        refine lw_iconst (pc := 73) dL_act_73 ?_
        refine lw_invV (pc := 74) (md' := m_X6_total) (as := [(.inl 0)]) dL_act_74 mo_X6_total im_X6_total se_X6_total ml_L_13 rfl rfl (by omega) (Nat.le_of_ble_eq_true rfl) rfl ⟨Nat.le_of_ble_eq_true rfl, Nat.le_of_ble_eq_true rfl⟩ (lm_mono (lm_rg (kq_total (by omega))) (fun v87 g' e => ?_))
        obtain ⟨r_v87, e_v87, rfl⟩ := e
        replace G := G v87 r_v87 e_v87
        refine lw_if_le (pc := 77) (tgt := 103) dL_act_77 (by decide) (fun c88 => ?_) (fun c88 => ?_)
        · replace G := G.1 c88
          refine lw_iload_n (pc := 103) dL_act_103 rfl ?_
          refine lw_bipush (pc := 104) dL_act_104 ?_
          refine lw_idiv (pc := 106) dL_act_106 s86 (by decide) ?_
          refine lw_sipush (pc := 107) dL_act_107 ?_
          obtain ⟨s89, G⟩ := G
          refine lw_irem (pc := 110) dL_act_110 s89 (by decide) ?_
          refine lw_istore (pc := 111) (ls' := [some (.inr (some 1)), some (.inl x1), some (.inl (x1 % 16)), some (.inl (x1 / 16)), some (.inl ((x1 / 16) % 9)), some (.inl (((x1 / 16) / 9) % 256)), none, none]) dL_act_111 (Nat.le_of_ble_eq_true rfl) rfl ?_
          refine lw_aload_n (pc := 113) dL_act_113 rfl ?_
          refine lw_iload (pc := 114) dL_act_114 rfl ?_
          refine lw_iload (pc := 116) dL_act_116 rfl ?_
          refine lw_bipush (pc := 118) dL_act_118 ?_
          refine lw_iload (pc := 120) dL_act_120 rfl ?_
          obtain ⟨s90, G⟩ := G
          refine lw_isub (pc := 122) (v := 8 - ((x1 / 16) % 9)) dL_act_122 s90 rfl ?_
          refine lw_ishr (pc := 123) dL_act_123 ?_
          refine lw_invS (pc := 124) (md' := m_L_ask) (as := [(.inr (some 1)), (.inl ((x1 / 16) % 9)), (.inl (sr (((x1 / 16) / 9) % 256) (8 - ((x1 / 16) % 9))))]) dL_act_124 mo_L_ask sm_L_ask ml_L_99 rfl rfl (by omega) (Nat.le_of_ble_eq_true rfl) rfl ⟨Nat.le_of_ble_eq_true rfl, Nat.le_of_ble_eq_true rfl⟩ (lm_mono G (fun v91 g92 G => ?_))
          refine lw_ireturn (pc := 127) dL_act_127 rfl ?_ (Nat.le_of_ble_eq_true rfl) (Nat.le_of_ble_eq_true rfl)
          exact G
        · replace G := G.2 c88
          refine lw_iload_n (pc := 80) dL_act_80 rfl ?_
          refine lw_iconst (pc := 81) dL_act_81 ?_
          refine lw_irem (pc := 82) dL_act_82 s86 (by decide) ?_
          refine lw_if_le (pc := 83) (tgt := 103) dL_act_83 (by decide) (fun c93 => ?_) (fun c93 => ?_)
          · replace G := G.1 c93
            refine lw_iload_n (pc := 103) dL_act_103 rfl ?_
            refine lw_bipush (pc := 104) dL_act_104 ?_
            refine lw_idiv (pc := 106) dL_act_106 s86 (by decide) ?_
            refine lw_sipush (pc := 107) dL_act_107 ?_
            obtain ⟨s94, G⟩ := G
            refine lw_irem (pc := 110) dL_act_110 s94 (by decide) ?_
            refine lw_istore (pc := 111) (ls' := [some (.inr (some 1)), some (.inl x1), some (.inl (x1 % 16)), some (.inl (x1 / 16)), some (.inl ((x1 / 16) % 9)), some (.inl (((x1 / 16) / 9) % 256)), none, none]) dL_act_111 (Nat.le_of_ble_eq_true rfl) rfl ?_
            refine lw_aload_n (pc := 113) dL_act_113 rfl ?_
            refine lw_iload (pc := 114) dL_act_114 rfl ?_
            refine lw_iload (pc := 116) dL_act_116 rfl ?_
            refine lw_bipush (pc := 118) dL_act_118 ?_
            refine lw_iload (pc := 120) dL_act_120 rfl ?_
            obtain ⟨s95, G⟩ := G
            refine lw_isub (pc := 122) (v := 8 - ((x1 / 16) % 9)) dL_act_122 s95 rfl ?_
            refine lw_ishr (pc := 123) dL_act_123 ?_
            refine lw_invS (pc := 124) (md' := m_L_ask) (as := [(.inr (some 1)), (.inl ((x1 / 16) % 9)), (.inl (sr (((x1 / 16) / 9) % 256) (8 - ((x1 / 16) % 9))))]) dL_act_124 mo_L_ask sm_L_ask ml_L_99 rfl rfl (by omega) (Nat.le_of_ble_eq_true rfl) rfl ⟨Nat.le_of_ble_eq_true rfl, Nat.le_of_ble_eq_true rfl⟩ (lm_mono G (fun v96 g97 G => ?_))
            refine lw_ireturn (pc := 127) dL_act_127 rfl ?_ (Nat.le_of_ble_eq_true rfl) (Nat.le_of_ble_eq_true rfl)
            exact G
          · replace G := G.2 c93
            refine lw_aload_n (pc := 86) dL_act_86 rfl ?_
            refine lw_iload_n (pc := 87) dL_act_87 rfl ?_
            refine lw_bipush (pc := 88) dL_act_88 ?_
            refine lw_idiv (pc := 90) dL_act_90 s86 (by decide) ?_
            refine lw_aload_n (pc := 91) dL_act_91 rfl ?_
            refine lw_iconst (pc := 92) dL_act_92 ?_
            refine lw_invV (pc := 93) (md' := m_X6_total) (as := [(.inl 0)]) dL_act_93 mo_X6_total im_X6_total se_X6_total ml_L_13 rfl rfl (by omega) (Nat.le_of_ble_eq_true rfl) rfl ⟨Nat.le_of_ble_eq_true rfl, Nat.le_of_ble_eq_true rfl⟩ (lm_mono (lm_rg (kq_total (by omega))) (fun v98 g' e => ?_))
            obtain ⟨r_v98, e_v98, rfl⟩ := e
            replace G := G v98 r_v98 e_v98
            obtain ⟨s99, G⟩ := G
            obtain ⟨s100, G⟩ := G
            refine lw_irem (pc := 96) dL_act_96 s99 s100 ?_
            refine lw_invV (pc := 97) (md' := m_X6_card) (as := [(.inl (((x1 / 16) / 9) % v98))]) dL_act_97 mo_X6_card im_X6_card se_X6_card ml_L_19 rfl rfl (by omega) (Nat.le_of_ble_eq_true rfl) rfl ⟨Nat.le_of_ble_eq_true rfl, Nat.le_of_ble_eq_true rfl⟩ (lm_mono (lm_rg (kq_card (by omega))) (fun v101 g' e => ?_))
            obtain ⟨r_v101, e_v101, rfl⟩ := e
            replace G := G v101 r_v101 e_v101
            refine lw_goto (pc := 100) (tgt := 111) dL_act_100 (by decide) ?_
            refine lw_istore (pc := 111) (ls' := [some (.inr (some 1)), some (.inl x1), some (.inl (x1 % 16)), some (.inl (x1 / 16)), some (.inl ((x1 / 16) % 9)), some (.inl v101), none, none]) dL_act_111 (Nat.le_of_ble_eq_true rfl) rfl ?_
            refine lw_aload_n (pc := 113) dL_act_113 rfl ?_
            refine lw_iload (pc := 114) dL_act_114 rfl ?_
            refine lw_iload (pc := 116) dL_act_116 rfl ?_
            refine lw_bipush (pc := 118) dL_act_118 ?_
            refine lw_iload (pc := 120) dL_act_120 rfl ?_
            obtain ⟨s102, G⟩ := G
            refine lw_isub (pc := 122) (v := 8 - ((x1 / 16) % 9)) dL_act_122 s102 rfl ?_
            refine lw_ishr (pc := 123) dL_act_123 ?_
            refine lw_invS (pc := 124) (md' := m_L_ask) (as := [(.inr (some 1)), (.inl ((x1 / 16) % 9)), (.inl (sr v101 (8 - ((x1 / 16) % 9))))]) dL_act_124 mo_L_ask sm_L_ask ml_L_99 rfl rfl (by omega) (Nat.le_of_ble_eq_true rfl) rfl ⟨Nat.le_of_ble_eq_true rfl, Nat.le_of_ble_eq_true rfl⟩ (lm_mono G (fun v103 g104 G => ?_))
            refine lw_ireturn (pc := 127) dL_act_127 rfl ?_ (Nat.le_of_ble_eq_true rfl) (Nat.le_of_ble_eq_true rfl)
            exact G
    · replace G := G.2 c3
      refine lw_aload_n (pc := 51) dL_act_51 rfl ?_
      refine lw_iload_n (pc := 52) dL_act_52 rfl ?_
      refine lw_iconst (pc := 53) dL_act_53 ?_
      obtain ⟨s105, G⟩ := G
      refine lw_isub (pc := 54) (v := (x1 % 16) - 5) dL_act_54 s105 rfl ?_
      refine lw_iload_n (pc := 55) dL_act_55 rfl ?_
      refine lw_invS (pc := 56) (md' := m_L_change) (as := [(.inr (some 1)), (.inl ((x1 % 16) - 5)), (.inl (x1 / 16))]) dL_act_56 mo_L_change sm_L_change ml_L_95 rfl rfl (by omega) (Nat.le_of_ble_eq_true rfl) rfl ⟨Nat.le_of_ble_eq_true rfl, Nat.le_of_ble_eq_true rfl⟩ (lm_mono G (fun v106 g107 G => ?_))
      refine lw_ireturn (pc := 59) dL_act_59 rfl ?_ (Nat.le_of_ble_eq_true rfl) (Nat.le_of_ble_eq_true rfl)
      exact G
  · replace G := G.2 c2
    refine lw_aload_n (pc := 15) dL_act_15 rfl ?_
    refine lw_iload_n (pc := 16) dL_act_16 rfl ?_
    refine lw_iconst (pc := 17) dL_act_17 ?_
    obtain ⟨s108, G⟩ := G
    refine lw_irem (pc := 18) dL_act_18 s108 (by decide) ?_
    refine lw_if_ne (pc := 19) (tgt := 34) dL_act_19 (by decide) (fun c109 => ?_) (fun c109 => ?_)
    · replace G := G.1 c109
      refine lw_iload_n (pc := 34) dL_act_34 rfl ?_
      refine lw_iconst (pc := 35) dL_act_35 ?_
      refine lw_idiv (pc := 36) dL_act_36 s108 (by decide) ?_
      refine lw_sipush (pc := 37) dL_act_37 ?_
      obtain ⟨s110, G⟩ := G
      refine lw_irem (pc := 40) dL_act_40 s110 (by decide) ?_
      refine lw_invS (pc := 41) (md' := m_L_put) (as := [(.inr (some 1)), (.inl (((x1 / 16) / 3) % 256))]) dL_act_41 mo_L_put sm_L_put ml_L_92 rfl rfl (by omega) (Nat.le_of_ble_eq_true rfl) rfl ⟨Nat.le_of_ble_eq_true rfl, Nat.le_of_ble_eq_true rfl⟩ (lm_mono G (fun v111 g112 G => ?_))
      refine lw_ireturn (pc := 44) dL_act_44 rfl ?_ (Nat.le_of_ble_eq_true rfl) (Nat.le_of_ble_eq_true rfl)
      exact G
    · replace G := G.2 c109
      refine lw_iload_n (pc := 22) dL_act_22 rfl ?_
      refine lw_iconst (pc := 23) dL_act_23 ?_
      refine lw_idiv (pc := 24) dL_act_24 s108 (by decide) ?_
      refine lw_bipush (pc := 25) dL_act_25 ?_
      obtain ⟨s113, G⟩ := G
      refine lw_irem (pc := 27) dL_act_27 s113 (by decide) ?_
      refine lw_bipush (pc := 28) dL_act_28 ?_
      obtain ⟨s114, G⟩ := G
      refine lw_imul (pc := 30) (v := (((x1 / 16) / 3) % 16) * 8) dL_act_30 s114 rfl ?_
      refine lw_goto (pc := 31) (tgt := 41) dL_act_31 (by decide) ?_
      refine lw_invS (pc := 41) (md' := m_L_put) (as := [(.inr (some 1)), (.inl ((((x1 / 16) / 3) % 16) * 8))]) dL_act_41 mo_L_put sm_L_put ml_L_92 rfl rfl (by omega) (Nat.le_of_ble_eq_true rfl) rfl ⟨Nat.le_of_ble_eq_true rfl, Nat.le_of_ble_eq_true rfl⟩ (lm_mono G (fun v115 g116 G => ?_))
      refine lw_ireturn (pc := 44) dL_act_44 rfl ?_ (Nat.le_of_ble_eq_true rfl) (Nat.le_of_ble_eq_true rfl)
      exact G
set_option maxRecDepth 100000 in
set_option maxHeartbeats 4000000 in
theorem lc_law_8 {d : Nat} {P : Int → Gs → Prop} {g : Gs} {q : Nat × (Nat → Int)} (hd : 20 ≤ d)
  (G :
    (∀ (v1 : Int) (g2 : Gs), rg v1 → v1 = (undoG g).1 → g2 = (undoG g).2 → (
      ((¬ v1 = (-5) → (
        LW m_L_law d (some (some q, [], [])) P 92 [some (.inr (some 0)), some (.inr (some 1)), none, none, none, none, none, none, none, none, none, none, none, none, none, none] [] g2 (103, 2908)
        )) ∧ (¬ (¬ v1 = (-5)) → (
        (∀ (v4 : Int) (g5 : Gs), rg v4 → v4 = (restG g2).1 → g5 = (restG g2).2 → (
          ((¬ v4 = (-5) → (
            LW m_L_law d (some (some q, [], [])) P 92 [some (.inr (some 0)), some (.inr (some 1)), none, none, none, none, none, none, none, none, none, none, none, none, none, none] [] g5 (103, 2908)
            )) ∧ (¬ (¬ v4 = (-5)) → (
            (∀ v7 : Int, rg v7 → v7 = totO 11 g5 → (
              ((¬ v7 = 1 → (
                LW m_L_law d (some (some q, [], [])) P 92 [some (.inr (some 0)), some (.inr (some 1)), none, none, none, none, none, none, none, none, none, none, none, none, none, none] [] g5 (103, 2908)
                )) ∧ (¬ (¬ v7 = 1) → (
                (∀ v9 : Int, rg v9 → v9 = totO 12 g5 → (
                  ((¬ v9 = 0 → (
                    LW m_L_law d (some (some q, [], [])) P 92 [some (.inr (some 0)), some (.inr (some 1)), none, none, none, none, none, none, none, none, none, none, none, none, none, none] [] g5 (103, 2908)
                    )) ∧ (¬ (¬ v9 = 0) → (
                    (∀ v11 : Int, rg v11 → v11 = totO 13 g5 → (
                      ((¬ v11 = 1 → (
                        LW m_L_law d (some (some q, [], [])) P 92 [some (.inr (some 0)), some (.inr (some 1)), none, none, none, none, none, none, none, none, none, none, none, none, none, none] [] g5 (103, 2908)
                        )) ∧ (¬ (¬ v11 = 1) → (
                        (∀ v13 : Int, rg v13 → v13 = cardO 0 g5.1.1 → (
                          ((¬ v13 = (-5) → (
                            LW m_L_law d (some (some q, [], [])) P 92 [some (.inr (some 0)), some (.inr (some 1)), none, none, none, none, none, none, none, none, none, none, none, none, none, none] [] g5 (103, 2908)
                            )) ∧ (¬ (¬ v13 = (-5)) → (
                            LM (d - 1) m_L_refuses [(.inr (some 1)), (.inl 0)] g5 (fun v15 g16 => (
                              ((v15 = 0 → (
                                LW m_L_law d (some (some q, [], [])) P 92 [some (.inr (some 0)), some (.inr (some 1)), none, none, none, none, none, none, none, none, none, none, none, none, none, none] [] g16 (103, 2908)
                                )) ∧ (¬ (v15 = 0) → (
                                LM (d - 1) m_L_refuses [(.inr (some 1)), (.inl 1)] g16 (fun v18 g19 => (
                                  ((v18 = 0 → (
                                    LW m_L_law d (some (some q, [], [])) P 92 [some (.inr (some 0)), some (.inr (some 1)), none, none, none, none, none, none, none, none, none, none, none, none, none, none] [] g19 (103, 2908)
                                    )) ∧ (¬ (v18 = 0) → (
                                    (∀ (v21 : Int) (g22 : Gs), rg v21 → v21 = (keepG g19).1 → g22 = (keepG g19).2 → (
                                      ((¬ v21 = 0 → (
                                        LW m_L_law d (some (some q, [], [])) P 92 [some (.inr (some 0)), some (.inr (some 1)), none, none, none, none, none, none, none, none, none, none, none, none, none, none] [] g22 (103, 2908)
                                        )) ∧ (¬ (¬ v21 = 0) → (
                                        LJ (d - 1) m_L_seen [(.inr (some 1))] g22 (fun y26 g25 => (
                                          LW m_L_law d (some (some q, [], [(3, y26)])) P 105 [some (.inr (some 0)), some (.inr (some 1)), some (.inl 1), none, none, some (.inl 0), some (.inl 0), none, none, none, none, none, none, none, none, none] [] g25 (103, 2908)))
                                        )))))
                                    )))))
                                )))))
                            )))))
                        )))))
                    )))))
                )))))
            )))))
        )))))) :
  LW m_L_law d (some (some q, [], [])) P 8 [some (.inr (some 0)), some (.inr (some 1)), none, none, none, none, none, none, none, none, none, none, none, none, none, none] [] g (103, 2908) := by
  refine lw_aload_n (pc := 8) dL_law_8 rfl ?_
  refine lw_invV (pc := 9) (md' := m_X6_undo) (as := []) dL_law_9 mo_X6_undo im_X6_undo se_X6_undo ml_L_106 rfl rfl (by omega) (Nat.le_of_ble_eq_true rfl) rfl ⟨Nat.le_of_ble_eq_true rfl, Nat.le_of_ble_eq_true rfl⟩ (lm_mono (lm_rg (kc_undo (by omega))) (fun v1 g2 e => ?_))
  obtain ⟨r_v1, e_v1, f_v1⟩ := e
  replace G := G v1 g2 r_v1 e_v1 f_v1
  refine lw_bipush (pc := 12) dL_law_12 ?_
  refine lw_icmp_ne (pc := 14) (tgt := 92) dL_law_14 (by decide) (fun c3 => ?_) (fun c3 => ?_)
  · replace G := G.1 c3
    exact G
  · replace G := G.2 c3
    refine lw_aload_n (pc := 17) dL_law_17 rfl ?_
    refine lw_invV (pc := 18) (md' := m_X6_restore) (as := []) dL_law_18 mo_X6_restore im_X6_restore se_X6_restore ml_L_109 rfl rfl (by omega) (Nat.le_of_ble_eq_true rfl) rfl ⟨Nat.le_of_ble_eq_true rfl, Nat.le_of_ble_eq_true rfl⟩ (lm_mono (lm_rg (kc_restore (by omega))) (fun v4 g5 e => ?_))
    obtain ⟨r_v4, e_v4, f_v4⟩ := e
    replace G := G v4 g5 r_v4 e_v4 f_v4
    refine lw_bipush (pc := 21) dL_law_21 ?_
    refine lw_icmp_ne (pc := 23) (tgt := 92) dL_law_23 (by decide) (fun c6 => ?_) (fun c6 => ?_)
    · replace G := G.1 c6
      exact G
    · replace G := G.2 c6
      refine lw_aload_n (pc := 26) dL_law_26 rfl ?_
      refine lw_bipush (pc := 27) dL_law_27 ?_
      refine lw_invV (pc := 29) (md' := m_X6_total) (as := [(.inl 11)]) dL_law_29 mo_X6_total im_X6_total se_X6_total ml_L_13 rfl rfl (by omega) (Nat.le_of_ble_eq_true rfl) rfl ⟨Nat.le_of_ble_eq_true rfl, Nat.le_of_ble_eq_true rfl⟩ (lm_mono (lm_rg (kq_total (by omega))) (fun v7 g' e => ?_))
      obtain ⟨r_v7, e_v7, rfl⟩ := e
      replace G := G v7 r_v7 e_v7
      refine lw_iconst (pc := 32) dL_law_32 ?_
      refine lw_icmp_ne (pc := 33) (tgt := 92) dL_law_33 (by decide) (fun c8 => ?_) (fun c8 => ?_)
      · replace G := G.1 c8
        exact G
      · replace G := G.2 c8
        refine lw_aload_n (pc := 36) dL_law_36 rfl ?_
        refine lw_bipush (pc := 37) dL_law_37 ?_
        refine lw_invV (pc := 39) (md' := m_X6_total) (as := [(.inl 12)]) dL_law_39 mo_X6_total im_X6_total se_X6_total ml_L_13 rfl rfl (by omega) (Nat.le_of_ble_eq_true rfl) rfl ⟨Nat.le_of_ble_eq_true rfl, Nat.le_of_ble_eq_true rfl⟩ (lm_mono (lm_rg (kq_total (by omega))) (fun v9 g' e => ?_))
        obtain ⟨r_v9, e_v9, rfl⟩ := e
        replace G := G v9 r_v9 e_v9
        refine lw_if_ne (pc := 42) (tgt := 92) dL_law_42 (by decide) (fun c10 => ?_) (fun c10 => ?_)
        · replace G := G.1 c10
          exact G
        · replace G := G.2 c10
          refine lw_aload_n (pc := 45) dL_law_45 rfl ?_
          refine lw_bipush (pc := 46) dL_law_46 ?_
          refine lw_invV (pc := 48) (md' := m_X6_total) (as := [(.inl 13)]) dL_law_48 mo_X6_total im_X6_total se_X6_total ml_L_13 rfl rfl (by omega) (Nat.le_of_ble_eq_true rfl) rfl ⟨Nat.le_of_ble_eq_true rfl, Nat.le_of_ble_eq_true rfl⟩ (lm_mono (lm_rg (kq_total (by omega))) (fun v11 g' e => ?_))
          obtain ⟨r_v11, e_v11, rfl⟩ := e
          replace G := G v11 r_v11 e_v11
          refine lw_iconst (pc := 51) dL_law_51 ?_
          refine lw_icmp_ne (pc := 52) (tgt := 92) dL_law_52 (by decide) (fun c12 => ?_) (fun c12 => ?_)
          · replace G := G.1 c12
            exact G
          · replace G := G.2 c12
            refine lw_aload_n (pc := 55) dL_law_55 rfl ?_
            refine lw_iconst (pc := 56) dL_law_56 ?_
            refine lw_invV (pc := 57) (md' := m_X6_card) (as := [(.inl 0)]) dL_law_57 mo_X6_card im_X6_card se_X6_card ml_L_19 rfl rfl (by omega) (Nat.le_of_ble_eq_true rfl) rfl ⟨Nat.le_of_ble_eq_true rfl, Nat.le_of_ble_eq_true rfl⟩ (lm_mono (lm_rg (kq_card (by omega))) (fun v13 g' e => ?_))
            obtain ⟨r_v13, e_v13, rfl⟩ := e
            replace G := G v13 r_v13 e_v13
            refine lw_bipush (pc := 60) dL_law_60 ?_
            refine lw_icmp_ne (pc := 62) (tgt := 92) dL_law_62 (by decide) (fun c14 => ?_) (fun c14 => ?_)
            · replace G := G.1 c14
              exact G
            · replace G := G.2 c14
              refine lw_aload_n (pc := 65) dL_law_65 rfl ?_
              refine lw_iconst (pc := 66) dL_law_66 ?_
              refine lw_invS (pc := 67) (md' := m_L_refuses) (as := [(.inr (some 1)), (.inl 0)]) dL_law_67 mo_L_refuses sm_L_refuses ml_L_112 rfl rfl (by omega) (Nat.le_of_ble_eq_true rfl) rfl ⟨Nat.le_of_ble_eq_true rfl, Nat.le_of_ble_eq_true rfl⟩ (lm_mono G (fun v15 g16 G => ?_))
              refine lw_if_eq (pc := 70) (tgt := 92) dL_law_70 (by decide) (fun c17 => ?_) (fun c17 => ?_)
              · replace G := G.1 c17
                exact G
              · replace G := G.2 c17
                refine lw_aload_n (pc := 73) dL_law_73 rfl ?_
                refine lw_iconst (pc := 74) dL_law_74 ?_
                refine lw_invS (pc := 75) (md' := m_L_refuses) (as := [(.inr (some 1)), (.inl 1)]) dL_law_75 mo_L_refuses sm_L_refuses ml_L_112 rfl rfl (by omega) (Nat.le_of_ble_eq_true rfl) rfl ⟨Nat.le_of_ble_eq_true rfl, Nat.le_of_ble_eq_true rfl⟩ (lm_mono G (fun v18 g19 G => ?_))
                refine lw_if_eq (pc := 78) (tgt := 92) dL_law_78 (by decide) (fun c20 => ?_) (fun c20 => ?_)
                · replace G := G.1 c20
                  exact G
                · replace G := G.2 c20
                  refine lw_aload_n (pc := 81) dL_law_81 rfl ?_
                  refine lw_invV (pc := 82) (md' := m_X6_keep) (as := []) dL_law_82 mo_X6_keep im_X6_keep se_X6_keep ml_L_115 rfl rfl (by omega) (Nat.le_of_ble_eq_true rfl) rfl ⟨Nat.le_of_ble_eq_true rfl, Nat.le_of_ble_eq_true rfl⟩ (lm_mono (lm_rg (kc_keep (by omega))) (fun v21 g22 e => ?_))
                  obtain ⟨r_v21, e_v21, f_v21⟩ := e
                  replace G := G v21 g22 r_v21 e_v21 f_v21
                  refine lw_if_ne (pc := 85) (tgt := 92) dL_law_85 (by decide) (fun c23 => ?_) (fun c23 => ?_)
                  · replace G := G.1 c23
                    exact G
                  · replace G := G.2 c23
                    refine lw_iconst (pc := 88) dL_law_88 ?_
                    refine lw_goto (pc := 89) (tgt := 93) dL_law_89 (by decide) ?_
                    refine lw_istore_n (pc := 93) (ls' := [some (.inr (some 0)), some (.inr (some 1)), some (.inl 1), none, none, none, none, none, none, none, none, none, none, none, none, none]) dL_law_93 (Nat.le_of_ble_eq_true rfl) rfl ?_
                    refine lw_aload_n (pc := 94) dL_law_94 rfl ?_
                    refine lw_invJ (pc := 95) (md' := m_L_seen) (as := [(.inr (some 1))]) dL_law_95 mo_L_seen sm_L_seen ml_L_84 rfl rfl (by omega) (Nat.le_of_ble_eq_true rfl) rfl ⟨Nat.le_of_ble_eq_true rfl, Nat.le_of_ble_eq_true rfl⟩ (lj_mono G (fun y26 g25 G => ?_))
                    refine lw_lstore_n (pc := 98) (j := 3) (xl' := [(3, y26)]) dL_law_98 rfl rfl (by simp) ?_
                    refine lw_iconst (pc := 99) dL_law_99 ?_
                    refine lw_istore (pc := 100) (ls' := [some (.inr (some 0)), some (.inr (some 1)), some (.inl 1), none, none, some (.inl 0), none, none, none, none, none, none, none, none, none, none]) dL_law_100 (Nat.le_of_ble_eq_true rfl) rfl ?_
                    refine lw_iconst (pc := 102) dL_law_102 ?_
                    refine lw_istore (pc := 103) (ls' := [some (.inr (some 0)), some (.inr (some 1)), some (.inl 1), none, none, some (.inl 0), some (.inl 0), none, none, none, none, none, none, none, none, none]) dL_law_103 (Nat.le_of_ble_eq_true rfl) rfl ?_
                    exact G
set_option maxRecDepth 100000 in
set_option maxHeartbeats 4000000 in
theorem lc_law_105 {d : Nat} {P : Int → Gs → Prop} {g : Gs} {x2 x5 x6 : Int} {z3 : Int64} {q : Nat × (Nat → Int)} (hd : 20 ≤ d)
  (G :
    ((64 ≤ x6 → (
      (x2 = 0 ∨ x2 = 1) ∧
      P x2 g
      )) ∧ (¬ (64 ≤ x6) → (
      ((x2 = 0 → (
        (x2 = 0 ∨ x2 = 1) ∧
        P x2 g
        )) ∧ (¬ (x2 = 0) → (
        LX (d - 1) m_L_cell q [(.inr (some 0)), (.inl x6)] g (fun v5 g6 => (
          LJ (d - 1) m_L_seen [(.inr (some 1))] g6 (fun y9 g8 => (
            (∀ v10 : Int, rg v10 → v10 = totO 15 g8 → (
              LM (d - 1) m_L_act [(.inr (some 1)), (.inl v5)] g8 (fun v11 g12 => (
                (∀ v13 : Int, rg v13 → v13 = totO 15 g12 → (
                  ((v11 ≤ -9 → (
                    LW m_L_law d (some (some q, [], [(3, z3), (8, y9)])) P 238 [some (.inr (some 0)), some (.inr (some 1)), some (.inl x2), none, none, some (.inl x5), some (.inl x6), some (.inl v5), none, none, some (.inl v10), some (.inl v11), some (.inl v13), none, none, none] [] g12 (103, 2908)
                    )) ∧ (¬ (v11 ≤ -9) → (
                    ((0 ≤ v11 → (
                      ((4 ≤ v10 → (
                        ((¬ v13 = 4 → (
                          LW m_L_law d (some (some q, [], [(3, z3), (8, y9)])) P 238 [some (.inr (some 0)), some (.inr (some 1)), some (.inl x2), none, none, some (.inl x5), some (.inl x6), some (.inl v5), none, none, some (.inl v10), some (.inl v11), some (.inl v13), none, none, none] [] g12 (103, 2908)
                          )) ∧ (¬ (¬ v13 = 4) → (
                          LM (d - 1) m_L_isWhole [(.inr (some 1))] g12 (fun v18 g19 => (
                            ((v18 = 0 → (
                              LW m_L_law d (some (some q, [], [(3, z3), (8, y9)])) P 238 [some (.inr (some 0)), some (.inr (some 1)), some (.inl x2), none, none, some (.inl x5), some (.inl x6), some (.inl v5), none, none, some (.inl v10), some (.inl v11), some (.inl v13), none, none, none] [] g19 (103, 2908)
                              )) ∧ (¬ (v18 = 0) → (
                              (0 ≤ x6 ∧ x6 < 2147483648) ∧
                              ((¬ x6 % 7 = 6 → (
                                LW m_L_law d (some (some q, [], [(3, z3), (8, y9)])) P 240 [some (.inr (some 0)), some (.inr (some 1)), some (.inl 1), none, none, some (.inl x5), some (.inl x6), some (.inl v5), none, none, some (.inl v10), some (.inl v11), some (.inl v13), none, none, none] [] g19 (103, 2908)
                                )) ∧ (¬ (¬ x6 % 7 = 6) → (
                                (0 ≤ v5 ∧ v5 < 2147483648) ∧
                                LM (d - 1) m_L_refuses [(.inr (some 1)), (.inl (v5 / 7))] g19 (fun v24 g25 => (
                                  ((v24 = 0 → (
                                    LW m_L_law d (some (some q, [], [(3, z3), (8, y9)])) P 238 [some (.inr (some 0)), some (.inr (some 1)), some (.inl x2), none, none, some (.inl x5), some (.inl x6), some (.inl v5), none, none, some (.inl v10), some (.inl v11), some (.inl v13), none, none, none] [] g25 (103, 2908)
                                    )) ∧ (¬ (v24 = 0) → (
                                    LW m_L_law d (some (some q, [], [(3, z3), (8, y9)])) P 240 [some (.inr (some 0)), some (.inr (some 1)), some (.inl 1), none, none, some (.inl x5), some (.inl x6), some (.inl v5), none, none, some (.inl v10), some (.inl v11), some (.inl v13), none, none, none] [] g25 (103, 2908)
                                    )))))
                                )))
                              )))))
                          )))
                        )) ∧ (¬ (4 ≤ v10) → (
                        (rg (v10 + 1)) ∧
                        ((¬ v13 = v10 + 1 → (
                          LW m_L_law d (some (some q, [], [(3, z3), (8, y9)])) P 238 [some (.inr (some 0)), some (.inr (some 1)), some (.inl x2), none, none, some (.inl x5), some (.inl x6), some (.inl v5), none, none, some (.inl v10), some (.inl v11), some (.inl v13), none, none, none] [] g12 (103, 2908)
                          )) ∧ (¬ (¬ v13 = v10 + 1) → (
                          LM (d - 1) m_L_isWhole [(.inr (some 1))] g12 (fun v29 g30 => (
                            ((v29 = 0 → (
                              LW m_L_law d (some (some q, [], [(3, z3), (8, y9)])) P 238 [some (.inr (some 0)), some (.inr (some 1)), some (.inl x2), none, none, some (.inl x5), some (.inl x6), some (.inl v5), none, none, some (.inl v10), some (.inl v11), some (.inl v13), none, none, none] [] g30 (103, 2908)
                              )) ∧ (¬ (v29 = 0) → (
                              (0 ≤ x6 ∧ x6 < 2147483648) ∧
                              ((¬ x6 % 7 = 6 → (
                                LW m_L_law d (some (some q, [], [(3, z3), (8, y9)])) P 240 [some (.inr (some 0)), some (.inr (some 1)), some (.inl 1), none, none, some (.inl x5), some (.inl x6), some (.inl v5), none, none, some (.inl v10), some (.inl v11), some (.inl v13), none, none, none] [] g30 (103, 2908)
                                )) ∧ (¬ (¬ x6 % 7 = 6) → (
                                (0 ≤ v5 ∧ v5 < 2147483648) ∧
                                LM (d - 1) m_L_refuses [(.inr (some 1)), (.inl (v5 / 7))] g30 (fun v35 g36 => (
                                  ((v35 = 0 → (
                                    LW m_L_law d (some (some q, [], [(3, z3), (8, y9)])) P 238 [some (.inr (some 0)), some (.inr (some 1)), some (.inl x2), none, none, some (.inl x5), some (.inl x6), some (.inl v5), none, none, some (.inl v10), some (.inl v11), some (.inl v13), none, none, none] [] g36 (103, 2908)
                                    )) ∧ (¬ (v35 = 0) → (
                                    LW m_L_law d (some (some q, [], [(3, z3), (8, y9)])) P 240 [some (.inr (some 0)), some (.inr (some 1)), some (.inl 1), none, none, some (.inl x5), some (.inl x6), some (.inl v5), none, none, some (.inl v10), some (.inl v11), some (.inl v13), none, none, none] [] g36 (103, 2908)
                                    )))))
                                )))
                              )))))
                          )))
                        )))
                      )) ∧ (¬ (0 ≤ v11) → (
                      ((¬ v13 = v10 → (
                        LW m_L_law d (some (some q, [], [(3, z3), (8, y9)])) P 238 [some (.inr (some 0)), some (.inr (some 1)), some (.inl x2), none, none, some (.inl x5), some (.inl x6), some (.inl v5), none, none, some (.inl v10), some (.inl v11), some (.inl v13), none, none, none] [] g12 (103, 2908)
                        )) ∧ (¬ (¬ v13 = v10) → (
                        LJ (d - 1) m_L_seen [(.inr (some 1))] g12 (fun y41 g40 => (
                          (y41 = y9) ∧
                          LM (d - 1) m_L_isWhole [(.inr (some 1))] g40 (fun v44 g45 => (
                            ((v44 = 0 → (
                              LW m_L_law d (some (some q, [], [(3, z3), (8, y9)])) P 238 [some (.inr (some 0)), some (.inr (some 1)), some (.inl x2), none, none, some (.inl x5), some (.inl x6), some (.inl v5), none, none, some (.inl v10), some (.inl v11), some (.inl v13), none, none, none] [] g45 (103, 2908)
                              )) ∧ (¬ (v44 = 0) → (
                              (0 ≤ x6 ∧ x6 < 2147483648) ∧
                              ((¬ x6 % 7 = 6 → (
                                LW m_L_law d (some (some q, [], [(3, z3), (8, y9)])) P 240 [some (.inr (some 0)), some (.inr (some 1)), some (.inl 1), none, none, some (.inl x5), some (.inl x6), some (.inl v5), none, none, some (.inl v10), some (.inl v11), some (.inl v13), none, none, none] [] g45 (103, 2908)
                                )) ∧ (¬ (¬ x6 % 7 = 6) → (
                                (0 ≤ v5 ∧ v5 < 2147483648) ∧
                                LM (d - 1) m_L_refuses [(.inr (some 1)), (.inl (v5 / 7))] g45 (fun v50 g51 => (
                                  ((v50 = 0 → (
                                    LW m_L_law d (some (some q, [], [(3, z3), (8, y9)])) P 238 [some (.inr (some 0)), some (.inr (some 1)), some (.inl x2), none, none, some (.inl x5), some (.inl x6), some (.inl v5), none, none, some (.inl v10), some (.inl v11), some (.inl v13), none, none, none] [] g51 (103, 2908)
                                    )) ∧ (¬ (v50 = 0) → (
                                    LW m_L_law d (some (some q, [], [(3, z3), (8, y9)])) P 240 [some (.inr (some 0)), some (.inr (some 1)), some (.inl 1), none, none, some (.inl x5), some (.inl x6), some (.inl v5), none, none, some (.inl v10), some (.inl v11), some (.inl v13), none, none, none] [] g51 (103, 2908)
                                    )))))
                                )))
                              )))))))
                        )))
                      )))
                    )))))))))))))
        )))
      )))) :
  LW m_L_law d (some (some q, [], [(3, z3)])) P 105 [some (.inr (some 0)), some (.inr (some 1)), some (.inl x2), none, none, some (.inl x5), some (.inl x6), none, none, none, none, none, none, none, none, none] [] g (103, 2908) := by
  refine lw_iload (pc := 105) dL_law_105 rfl ?_
  refine lw_bipush (pc := 107) dL_law_107 ?_
  refine lw_icmp_ge (pc := 109) (tgt := 384) dL_law_109 (by decide) (fun c1 => ?_) (fun c1 => ?_)
  · replace G := G.1 c1
    refine lw_iload_n (pc := 384) dL_law_384 rfl ?_
    obtain ⟨s2, G⟩ := G
    refine lw_zreturn (pc := 385) dL_law_385 rfl s2 ?_ (Nat.le_of_ble_eq_true rfl) (Nat.le_of_ble_eq_true rfl)
    exact G
  · replace G := G.2 c1
    refine lw_iload_n (pc := 112) dL_law_112 rfl ?_
    refine lw_if_eq (pc := 113) (tgt := 384) dL_law_113 (by decide) (fun c3 => ?_) (fun c3 => ?_)
    · replace G := G.1 c3
      refine lw_iload_n (pc := 384) dL_law_384 rfl ?_
      obtain ⟨s4, G⟩ := G
      refine lw_zreturn (pc := 385) dL_law_385 rfl s4 ?_ (Nat.le_of_ble_eq_true rfl) (Nat.le_of_ble_eq_true rfl)
      exact G
    · replace G := G.2 c3
      refine lw_aload_n (pc := 116) dL_law_116 rfl ?_
      refine lw_iload (pc := 117) dL_law_117 rfl ?_
      refine lw_invX (pc := 119) (md' := m_L_cell) (as := [(.inr (some 0)), (.inl x6)]) (q := q) rfl dL_law_119 mo_L_cell sm_L_cell ml_L_118 rfl rfl (by omega) (Nat.le_of_ble_eq_true rfl) rfl ⟨Nat.le_of_ble_eq_true rfl, Nat.le_of_ble_eq_true rfl⟩ (lx_mono G (fun v5 g6 G => ?_))
      refine lw_istore (pc := 122) (ls' := [some (.inr (some 0)), some (.inr (some 1)), some (.inl x2), none, none, some (.inl x5), some (.inl x6), some (.inl v5), none, none, none, none, none, none, none, none]) dL_law_122 (Nat.le_of_ble_eq_true rfl) rfl ?_
      refine lw_aload_n (pc := 124) dL_law_124 rfl ?_
      refine lw_invJ (pc := 125) (md' := m_L_seen) (as := [(.inr (some 1))]) dL_law_125 mo_L_seen sm_L_seen ml_L_84 rfl rfl (by omega) (Nat.le_of_ble_eq_true rfl) rfl ⟨Nat.le_of_ble_eq_true rfl, Nat.le_of_ble_eq_true rfl⟩ (lj_mono G (fun y9 g8 G => ?_))
      refine lw_lstore (pc := 128) (xl' := [(3, z3), (8, y9)]) dL_law_128 rfl rfl (by simp) ?_
      refine lw_aload_n (pc := 130) dL_law_130 rfl ?_
      refine lw_bipush (pc := 131) dL_law_131 ?_
      refine lw_invV (pc := 133) (md' := m_X6_total) (as := [(.inl 15)]) dL_law_133 mo_X6_total im_X6_total se_X6_total ml_L_13 rfl rfl (by omega) (Nat.le_of_ble_eq_true rfl) rfl ⟨Nat.le_of_ble_eq_true rfl, Nat.le_of_ble_eq_true rfl⟩ (lm_mono (lm_rg (kq_total (by omega))) (fun v10 g' e => ?_))
      obtain ⟨r_v10, e_v10, rfl⟩ := e
      replace G := G v10 r_v10 e_v10
      refine lw_istore (pc := 136) (ls' := [some (.inr (some 0)), some (.inr (some 1)), some (.inl x2), none, none, some (.inl x5), some (.inl x6), some (.inl v5), none, none, some (.inl v10), none, none, none, none, none]) dL_law_136 (Nat.le_of_ble_eq_true rfl) rfl ?_
      refine lw_aload_n (pc := 138) dL_law_138 rfl ?_
      refine lw_iload (pc := 139) dL_law_139 rfl ?_
      refine lw_invS (pc := 141) (md' := m_L_act) (as := [(.inr (some 1)), (.inl v5)]) dL_law_141 mo_L_act sm_L_act ml_L_122 rfl rfl (by omega) (Nat.le_of_ble_eq_true rfl) rfl ⟨Nat.le_of_ble_eq_true rfl, Nat.le_of_ble_eq_true rfl⟩ (lm_mono G (fun v11 g12 G => ?_))
      refine lw_istore (pc := 144) (ls' := [some (.inr (some 0)), some (.inr (some 1)), some (.inl x2), none, none, some (.inl x5), some (.inl x6), some (.inl v5), none, none, some (.inl v10), some (.inl v11), none, none, none, none]) dL_law_144 (Nat.le_of_ble_eq_true rfl) rfl ?_
      refine lw_aload_n (pc := 146) dL_law_146 rfl ?_
      refine lw_bipush (pc := 147) dL_law_147 ?_
      refine lw_invV (pc := 149) (md' := m_X6_total) (as := [(.inl 15)]) dL_law_149 mo_X6_total im_X6_total se_X6_total ml_L_13 rfl rfl (by omega) (Nat.le_of_ble_eq_true rfl) rfl ⟨Nat.le_of_ble_eq_true rfl, Nat.le_of_ble_eq_true rfl⟩ (lm_mono (lm_rg (kq_total (by omega))) (fun v13 g' e => ?_))
      obtain ⟨r_v13, e_v13, rfl⟩ := e
      replace G := G v13 r_v13 e_v13
      refine lw_istore (pc := 152) (ls' := [some (.inr (some 0)), some (.inr (some 1)), some (.inl x2), none, none, some (.inl x5), some (.inl x6), some (.inl v5), none, none, some (.inl v10), some (.inl v11), some (.inl v13), none, none, none]) dL_law_152 (Nat.le_of_ble_eq_true rfl) rfl ?_
      refine lw_iload (pc := 154) dL_law_154 rfl ?_
      refine lw_bipush (pc := 156) dL_law_156 ?_
      refine lw_icmp_le (pc := 158) (tgt := 238) dL_law_158 (by decide) (fun c14 => ?_) (fun c14 => ?_)
      · replace G := G.1 c14
        exact G
      · replace G := G.2 c14
        refine lw_iload (pc := 161) dL_law_161 rfl ?_
        refine lw_if_ge (pc := 163) (tgt := 186) dL_law_163 (by decide) (fun c15 => ?_) (fun c15 => ?_)
        · replace G := G.1 c15
          refine lw_iload (pc := 186) dL_law_186 rfl ?_
          refine lw_iload (pc := 188) dL_law_188 rfl ?_
          refine lw_iconst (pc := 190) dL_law_190 ?_
          refine lw_icmp_ge (pc := 191) (tgt := 201) dL_law_191 (by decide) (fun c16 => ?_) (fun c16 => ?_)
          · replace G := G.1 c16
            refine lw_iconst (pc := 201) dL_law_201 ?_
            refine lw_icmp_ne (pc := 202) (tgt := 238) dL_law_202 (by decide) (fun c17 => ?_) (fun c17 => ?_)
            · replace G := G.1 c17
              exact G
            · replace G := G.2 c17
              refine lw_aload_n (pc := 205) dL_law_205 rfl ?_
              refine lw_invS (pc := 206) (md' := m_L_isWhole) (as := [(.inr (some 1))]) dL_law_206 mo_L_isWhole sm_L_isWhole ml_L_125 rfl rfl (by omega) (Nat.le_of_ble_eq_true rfl) rfl ⟨Nat.le_of_ble_eq_true rfl, Nat.le_of_ble_eq_true rfl⟩ (lm_mono G (fun v18 g19 G => ?_))
              refine lw_if_eq (pc := 209) (tgt := 238) dL_law_209 (by decide) (fun c20 => ?_) (fun c20 => ?_)
              · replace G := G.1 c20
                exact G
              · replace G := G.2 c20
                refine lw_iload (pc := 212) dL_law_212 rfl ?_
                refine lw_bipush (pc := 214) dL_law_214 ?_
                obtain ⟨s21, G⟩ := G
                refine lw_irem (pc := 216) dL_law_216 s21 (by decide) ?_
                refine lw_bipush (pc := 217) dL_law_217 ?_
                refine lw_icmp_ne (pc := 219) (tgt := 234) dL_law_219 (by decide) (fun c22 => ?_) (fun c22 => ?_)
                · replace G := G.1 c22
                  refine lw_iconst (pc := 234) dL_law_234 ?_
                  refine lw_goto (pc := 235) (tgt := 239) dL_law_235 (by decide) ?_
                  refine lw_istore_n (pc := 239) (ls' := [some (.inr (some 0)), some (.inr (some 1)), some (.inl 1), none, none, some (.inl x5), some (.inl x6), some (.inl v5), none, none, some (.inl v10), some (.inl v11), some (.inl v13), none, none, none]) dL_law_239 (Nat.le_of_ble_eq_true rfl) rfl ?_
                  exact G
                · replace G := G.2 c22
                  refine lw_aload_n (pc := 222) dL_law_222 rfl ?_
                  refine lw_iload (pc := 223) dL_law_223 rfl ?_
                  refine lw_bipush (pc := 225) dL_law_225 ?_
                  obtain ⟨s23, G⟩ := G
                  refine lw_idiv (pc := 227) dL_law_227 s23 (by decide) ?_
                  refine lw_invS (pc := 228) (md' := m_L_refuses) (as := [(.inr (some 1)), (.inl (v5 / 7))]) dL_law_228 mo_L_refuses sm_L_refuses ml_L_112 rfl rfl (by omega) (Nat.le_of_ble_eq_true rfl) rfl ⟨Nat.le_of_ble_eq_true rfl, Nat.le_of_ble_eq_true rfl⟩ (lm_mono G (fun v24 g25 G => ?_))
                  refine lw_if_eq (pc := 231) (tgt := 238) dL_law_231 (by decide) (fun c26 => ?_) (fun c26 => ?_)
                  · replace G := G.1 c26
                    exact G
                  · replace G := G.2 c26
                    refine lw_iconst (pc := 234) dL_law_234 ?_
                    refine lw_goto (pc := 235) (tgt := 239) dL_law_235 (by decide) ?_
                    refine lw_istore_n (pc := 239) (ls' := [some (.inr (some 0)), some (.inr (some 1)), some (.inl 1), none, none, some (.inl x5), some (.inl x6), some (.inl v5), none, none, some (.inl v10), some (.inl v11), some (.inl v13), none, none, none]) dL_law_239 (Nat.le_of_ble_eq_true rfl) rfl ?_
                    exact G
          · replace G := G.2 c16
            refine lw_iload (pc := 194) dL_law_194 rfl ?_
            refine lw_iconst (pc := 196) dL_law_196 ?_
            obtain ⟨s27, G⟩ := G
            refine lw_iadd (pc := 197) (v := v10 + 1) dL_law_197 s27 rfl ?_
            refine lw_goto (pc := 198) (tgt := 202) dL_law_198 (by decide) ?_
            refine lw_icmp_ne (pc := 202) (tgt := 238) dL_law_202 (by decide) (fun c28 => ?_) (fun c28 => ?_)
            · replace G := G.1 c28
              exact G
            · replace G := G.2 c28
              refine lw_aload_n (pc := 205) dL_law_205 rfl ?_
              refine lw_invS (pc := 206) (md' := m_L_isWhole) (as := [(.inr (some 1))]) dL_law_206 mo_L_isWhole sm_L_isWhole ml_L_125 rfl rfl (by omega) (Nat.le_of_ble_eq_true rfl) rfl ⟨Nat.le_of_ble_eq_true rfl, Nat.le_of_ble_eq_true rfl⟩ (lm_mono G (fun v29 g30 G => ?_))
              refine lw_if_eq (pc := 209) (tgt := 238) dL_law_209 (by decide) (fun c31 => ?_) (fun c31 => ?_)
              · replace G := G.1 c31
                exact G
              · replace G := G.2 c31
                refine lw_iload (pc := 212) dL_law_212 rfl ?_
                refine lw_bipush (pc := 214) dL_law_214 ?_
                obtain ⟨s32, G⟩ := G
                refine lw_irem (pc := 216) dL_law_216 s32 (by decide) ?_
                refine lw_bipush (pc := 217) dL_law_217 ?_
                refine lw_icmp_ne (pc := 219) (tgt := 234) dL_law_219 (by decide) (fun c33 => ?_) (fun c33 => ?_)
                · replace G := G.1 c33
                  refine lw_iconst (pc := 234) dL_law_234 ?_
                  refine lw_goto (pc := 235) (tgt := 239) dL_law_235 (by decide) ?_
                  refine lw_istore_n (pc := 239) (ls' := [some (.inr (some 0)), some (.inr (some 1)), some (.inl 1), none, none, some (.inl x5), some (.inl x6), some (.inl v5), none, none, some (.inl v10), some (.inl v11), some (.inl v13), none, none, none]) dL_law_239 (Nat.le_of_ble_eq_true rfl) rfl ?_
                  exact G
                · replace G := G.2 c33
                  refine lw_aload_n (pc := 222) dL_law_222 rfl ?_
                  refine lw_iload (pc := 223) dL_law_223 rfl ?_
                  refine lw_bipush (pc := 225) dL_law_225 ?_
                  obtain ⟨s34, G⟩ := G
                  refine lw_idiv (pc := 227) dL_law_227 s34 (by decide) ?_
                  refine lw_invS (pc := 228) (md' := m_L_refuses) (as := [(.inr (some 1)), (.inl (v5 / 7))]) dL_law_228 mo_L_refuses sm_L_refuses ml_L_112 rfl rfl (by omega) (Nat.le_of_ble_eq_true rfl) rfl ⟨Nat.le_of_ble_eq_true rfl, Nat.le_of_ble_eq_true rfl⟩ (lm_mono G (fun v35 g36 G => ?_))
                  refine lw_if_eq (pc := 231) (tgt := 238) dL_law_231 (by decide) (fun c37 => ?_) (fun c37 => ?_)
                  · replace G := G.1 c37
                    exact G
                  · replace G := G.2 c37
                    refine lw_iconst (pc := 234) dL_law_234 ?_
                    refine lw_goto (pc := 235) (tgt := 239) dL_law_235 (by decide) ?_
                    refine lw_istore_n (pc := 239) (ls' := [some (.inr (some 0)), some (.inr (some 1)), some (.inl 1), none, none, some (.inl x5), some (.inl x6), some (.inl v5), none, none, some (.inl v10), some (.inl v11), some (.inl v13), none, none, none]) dL_law_239 (Nat.le_of_ble_eq_true rfl) rfl ?_
                    exact G
        · replace G := G.2 c15
          refine lw_iload (pc := 166) dL_law_166 rfl ?_
          refine lw_iload (pc := 168) dL_law_168 rfl ?_
          refine lw_icmp_ne (pc := 170) (tgt := 238) dL_law_170 (by decide) (fun c38 => ?_) (fun c38 => ?_)
          · replace G := G.1 c38
            exact G
          · replace G := G.2 c38
            refine lw_aload_n (pc := 173) dL_law_173 rfl ?_
            refine lw_invJ (pc := 174) (md' := m_L_seen) (as := [(.inr (some 1))]) dL_law_174 mo_L_seen sm_L_seen ml_L_84 rfl rfl (by omega) (Nat.le_of_ble_eq_true rfl) rfl ⟨Nat.le_of_ble_eq_true rfl, Nat.le_of_ble_eq_true rfl⟩ (lj_mono G (fun y41 g40 G => ?_))
            refine lw_lload (pc := 177) (x := y9) dL_law_177 (by simp) ?_
            obtain ⟨s42, G⟩ := G
            refine lw_lcmp (pc := 179) dL_law_179 s42 ?_
            refine lw_if_ne (pc := 180) (tgt := 238) dL_law_180 (by decide) (fun h => absurd h (by decide)) (fun _ => ?_)
            refine lw_goto (pc := 183) (tgt := 205) dL_law_183 (by decide) ?_
            refine lw_aload_n (pc := 205) dL_law_205 rfl ?_
            refine lw_invS (pc := 206) (md' := m_L_isWhole) (as := [(.inr (some 1))]) dL_law_206 mo_L_isWhole sm_L_isWhole ml_L_125 rfl rfl (by omega) (Nat.le_of_ble_eq_true rfl) rfl ⟨Nat.le_of_ble_eq_true rfl, Nat.le_of_ble_eq_true rfl⟩ (lm_mono G (fun v44 g45 G => ?_))
            refine lw_if_eq (pc := 209) (tgt := 238) dL_law_209 (by decide) (fun c46 => ?_) (fun c46 => ?_)
            · replace G := G.1 c46
              exact G
            · replace G := G.2 c46
              refine lw_iload (pc := 212) dL_law_212 rfl ?_
              refine lw_bipush (pc := 214) dL_law_214 ?_
              obtain ⟨s47, G⟩ := G
              refine lw_irem (pc := 216) dL_law_216 s47 (by decide) ?_
              refine lw_bipush (pc := 217) dL_law_217 ?_
              refine lw_icmp_ne (pc := 219) (tgt := 234) dL_law_219 (by decide) (fun c48 => ?_) (fun c48 => ?_)
              · replace G := G.1 c48
                refine lw_iconst (pc := 234) dL_law_234 ?_
                refine lw_goto (pc := 235) (tgt := 239) dL_law_235 (by decide) ?_
                refine lw_istore_n (pc := 239) (ls' := [some (.inr (some 0)), some (.inr (some 1)), some (.inl 1), none, none, some (.inl x5), some (.inl x6), some (.inl v5), none, none, some (.inl v10), some (.inl v11), some (.inl v13), none, none, none]) dL_law_239 (Nat.le_of_ble_eq_true rfl) rfl ?_
                exact G
              · replace G := G.2 c48
                refine lw_aload_n (pc := 222) dL_law_222 rfl ?_
                refine lw_iload (pc := 223) dL_law_223 rfl ?_
                refine lw_bipush (pc := 225) dL_law_225 ?_
                obtain ⟨s49, G⟩ := G
                refine lw_idiv (pc := 227) dL_law_227 s49 (by decide) ?_
                refine lw_invS (pc := 228) (md' := m_L_refuses) (as := [(.inr (some 1)), (.inl (v5 / 7))]) dL_law_228 mo_L_refuses sm_L_refuses ml_L_112 rfl rfl (by omega) (Nat.le_of_ble_eq_true rfl) rfl ⟨Nat.le_of_ble_eq_true rfl, Nat.le_of_ble_eq_true rfl⟩ (lm_mono G (fun v50 g51 G => ?_))
                refine lw_if_eq (pc := 231) (tgt := 238) dL_law_231 (by decide) (fun c52 => ?_) (fun c52 => ?_)
                · replace G := G.1 c52
                  exact G
                · replace G := G.2 c52
                  refine lw_iconst (pc := 234) dL_law_234 ?_
                  refine lw_goto (pc := 235) (tgt := 239) dL_law_235 (by decide) ?_
                  refine lw_istore_n (pc := 239) (ls' := [some (.inr (some 0)), some (.inr (some 1)), some (.inl 1), none, none, some (.inl x5), some (.inl x6), some (.inl v5), none, none, some (.inl v10), some (.inl v11), some (.inl v13), none, none, none]) dL_law_239 (Nat.le_of_ble_eq_true rfl) rfl ?_
                  exact G
set_option maxRecDepth 100000 in
set_option maxHeartbeats 4000000 in
theorem lc_law_240 {d : Nat} {P : Int → Gs → Prop} {g : Gs} {x2 x5 x6 x7 x10 x11 x12 : Int} {z3 z8 : Int64} {q : Nat × (Nat → Int)} (hd : 20 ≤ d)
  (G :
    ((x2 = 0 → (
      LW m_L_law d (some (some q, [], [(3, z3), (8, z8)])) P 294 [some (.inr (some 0)), some (.inr (some 1)), some (.inl x2), none, none, some (.inl x5), some (.inl x6), some (.inl x7), none, none, some (.inl x10), some (.inl x11), some (.inl x12), none, none, none] [] g (103, 2908)
      )) ∧ (¬ (x2 = 0) → (
      ((x11 < 0 → (
        LW m_L_law d (some (some q, [], [(3, z3), (8, z8)])) P 294 [some (.inr (some 0)), some (.inr (some 1)), some (.inl x2), none, none, some (.inl x5), some (.inl x6), some (.inl x7), none, none, some (.inl x10), some (.inl x11), some (.inl x12), none, none, none] [] g (103, 2908)
        )) ∧ (¬ (x11 < 0) → (
        (0 ≤ x7 ∧ x7 < 2147483648) ∧
        (0 ≤ x7 / 17 ∧ x7 / 17 < 2147483648) ∧
        ((¬ (x7 / 17) % 4 = 0 → (
          LW m_L_law d (some (some q, [], [(3, z3), (8, z8)])) P 294 [some (.inr (some 0)), some (.inr (some 1)), some (.inl x2), none, none, some (.inl x5), some (.inl x6), some (.inl x7), none, none, some (.inl x10), some (.inl x11), some (.inl x12), none, none, none] [] g (103, 2908)
          )) ∧ (¬ (¬ (x7 / 17) % 4 = 0) → (
          (∀ (v6 : Int) (g7 : Gs), rg v6 → v6 = (undoG g).1 → g7 = (undoG g).2 → (
            ((4 ≤ x10 → (
              ((¬ v6 = 3 → (
                LW m_L_law d (some (some q, [], [(3, z3), (8, z8)])) P 292 [some (.inr (some 0)), some (.inr (some 1)), some (.inl x2), none, none, some (.inl x5), some (.inl x6), some (.inl x7), none, none, some (.inl x10), some (.inl x11), some (.inl x12), none, none, none] [] g7 (103, 2908)
                )) ∧ (¬ (¬ v6 = 3) → (
                LJ (d - 1) m_L_seen [(.inr (some 1))] g7 (fun y12 g11 => (
                  (y12 = z8) ∧
                  LW m_L_law d (some (some q, [], [(3, z3), (8, z8)])) P 294 [some (.inr (some 0)), some (.inr (some 1)), some (.inl 1), none, none, some (.inl x5), some (.inl x6), some (.inl x7), none, none, some (.inl x10), some (.inl x11), some (.inl x12), none, none, none] [] g11 (103, 2908)))
                )))
              )) ∧ (¬ (4 ≤ x10) → (
              ((¬ v6 = x10 → (
                LW m_L_law d (some (some q, [], [(3, z3), (8, z8)])) P 292 [some (.inr (some 0)), some (.inr (some 1)), some (.inl x2), none, none, some (.inl x5), some (.inl x6), some (.inl x7), none, none, some (.inl x10), some (.inl x11), some (.inl x12), none, none, none] [] g7 (103, 2908)
                )) ∧ (¬ (¬ v6 = x10) → (
                LJ (d - 1) m_L_seen [(.inr (some 1))] g7 (fun y18 g17 => (
                  (y18 = z8) ∧
                  LW m_L_law d (some (some q, [], [(3, z3), (8, z8)])) P 294 [some (.inr (some 0)), some (.inr (some 1)), some (.inl 1), none, none, some (.inl x5), some (.inl x6), some (.inl x7), none, none, some (.inl x10), some (.inl x11), some (.inl x12), none, none, none] [] g17 (103, 2908)))
                )))
              )))))
          )))
        )))
      )))) :
  LW m_L_law d (some (some q, [], [(3, z3), (8, z8)])) P 240 [some (.inr (some 0)), some (.inr (some 1)), some (.inl x2), none, none, some (.inl x5), some (.inl x6), some (.inl x7), none, none, some (.inl x10), some (.inl x11), some (.inl x12), none, none, none] [] g (103, 2908) := by
  refine lw_iload_n (pc := 240) dL_law_240 rfl ?_
  refine lw_if_eq (pc := 241) (tgt := 294) dL_law_241 (by decide) (fun c1 => ?_) (fun c1 => ?_)
  · replace G := G.1 c1
    exact G
  · replace G := G.2 c1
    refine lw_iload (pc := 244) dL_law_244 rfl ?_
    refine lw_if_lt (pc := 246) (tgt := 294) dL_law_246 (by decide) (fun c2 => ?_) (fun c2 => ?_)
    · replace G := G.1 c2
      exact G
    · replace G := G.2 c2
      refine lw_iload (pc := 249) dL_law_249 rfl ?_
      refine lw_bipush (pc := 251) dL_law_251 ?_
      obtain ⟨s3, G⟩ := G
      refine lw_idiv (pc := 253) dL_law_253 s3 (by decide) ?_
      refine lw_iconst (pc := 254) dL_law_254 ?_
      obtain ⟨s4, G⟩ := G
      refine lw_irem (pc := 255) dL_law_255 s4 (by decide) ?_
      refine lw_if_ne (pc := 256) (tgt := 294) dL_law_256 (by decide) (fun c5 => ?_) (fun c5 => ?_)
      · replace G := G.1 c5
        exact G
      · replace G := G.2 c5
        refine lw_aload_n (pc := 259) dL_law_259 rfl ?_
        refine lw_invV (pc := 260) (md' := m_X6_undo) (as := []) dL_law_260 mo_X6_undo im_X6_undo se_X6_undo ml_L_106 rfl rfl (by omega) (Nat.le_of_ble_eq_true rfl) rfl ⟨Nat.le_of_ble_eq_true rfl, Nat.le_of_ble_eq_true rfl⟩ (lm_mono (lm_rg (kc_undo (by omega))) (fun v6 g7 e => ?_))
        obtain ⟨r_v6, e_v6, f_v6⟩ := e
        replace G := G v6 g7 r_v6 e_v6 f_v6
        refine lw_iload (pc := 263) dL_law_263 rfl ?_
        refine lw_iconst (pc := 265) dL_law_265 ?_
        refine lw_icmp_ge (pc := 266) (tgt := 274) dL_law_266 (by decide) (fun c8 => ?_) (fun c8 => ?_)
        · replace G := G.1 c8
          refine lw_iconst (pc := 274) dL_law_274 ?_
          refine lw_icmp_ne (pc := 275) (tgt := 292) dL_law_275 (by decide) (fun c9 => ?_) (fun c9 => ?_)
          · replace G := G.1 c9
            exact G
          · replace G := G.2 c9
            refine lw_aload_n (pc := 278) dL_law_278 rfl ?_
            refine lw_invJ (pc := 279) (md' := m_L_seen) (as := [(.inr (some 1))]) dL_law_279 mo_L_seen sm_L_seen ml_L_84 rfl rfl (by omega) (Nat.le_of_ble_eq_true rfl) rfl ⟨Nat.le_of_ble_eq_true rfl, Nat.le_of_ble_eq_true rfl⟩ (lj_mono G (fun y12 g11 G => ?_))
            refine lw_lload (pc := 282) (x := z8) dL_law_282 (by simp) ?_
            obtain ⟨s13, G⟩ := G
            refine lw_lcmp (pc := 284) dL_law_284 s13 ?_
            refine lw_if_ne (pc := 285) (tgt := 292) dL_law_285 (by decide) (fun h => absurd h (by decide)) (fun _ => ?_)
            refine lw_iconst (pc := 288) dL_law_288 ?_
            refine lw_goto (pc := 289) (tgt := 293) dL_law_289 (by decide) ?_
            refine lw_istore_n (pc := 293) (ls' := [some (.inr (some 0)), some (.inr (some 1)), some (.inl 1), none, none, some (.inl x5), some (.inl x6), some (.inl x7), none, none, some (.inl x10), some (.inl x11), some (.inl x12), none, none, none]) dL_law_293 (Nat.le_of_ble_eq_true rfl) rfl ?_
            exact G
        · replace G := G.2 c8
          refine lw_iload (pc := 269) dL_law_269 rfl ?_
          refine lw_goto (pc := 271) (tgt := 275) dL_law_271 (by decide) ?_
          refine lw_icmp_ne (pc := 275) (tgt := 292) dL_law_275 (by decide) (fun c15 => ?_) (fun c15 => ?_)
          · replace G := G.1 c15
            exact G
          · replace G := G.2 c15
            refine lw_aload_n (pc := 278) dL_law_278 rfl ?_
            refine lw_invJ (pc := 279) (md' := m_L_seen) (as := [(.inr (some 1))]) dL_law_279 mo_L_seen sm_L_seen ml_L_84 rfl rfl (by omega) (Nat.le_of_ble_eq_true rfl) rfl ⟨Nat.le_of_ble_eq_true rfl, Nat.le_of_ble_eq_true rfl⟩ (lj_mono G (fun y18 g17 G => ?_))
            refine lw_lload (pc := 282) (x := z8) dL_law_282 (by simp) ?_
            obtain ⟨s19, G⟩ := G
            refine lw_lcmp (pc := 284) dL_law_284 s19 ?_
            refine lw_if_ne (pc := 285) (tgt := 292) dL_law_285 (by decide) (fun h => absurd h (by decide)) (fun _ => ?_)
            refine lw_iconst (pc := 288) dL_law_288 ?_
            refine lw_goto (pc := 289) (tgt := 293) dL_law_289 (by decide) ?_
            refine lw_istore_n (pc := 293) (ls' := [some (.inr (some 0)), some (.inr (some 1)), some (.inl 1), none, none, some (.inl x5), some (.inl x6), some (.inl x7), none, none, some (.inl x10), some (.inl x11), some (.inl x12), none, none, none]) dL_law_293 (Nat.le_of_ble_eq_true rfl) rfl ?_
            exact G
set_option maxRecDepth 100000 in
set_option maxHeartbeats 4000000 in
theorem lc_law_294 {d : Nat} {P : Int → Gs → Prop} {g : Gs} {x2 x5 x6 x7 x10 x11 x12 : Int} {z3 z8 : Int64} {q : Nat × (Nat → Int)} (hd : 20 ≤ d)
  (G :
    ((x2 = 0 → (
      (rg (x6 + 1)) ∧
      LW m_L_law d (some (some q, [], [(3, z3)])) P 105 [some (.inr (some 0)), some (.inr (some 1)), some (.inl x2), none, none, some (.inl x5), some (.inl (x6 + 1)), none, none, none, none, none, none, none, none, none] [] g (103, 2908)
      )) ∧ (¬ (x2 = 0) → (
      (0 ≤ x6 ∧ x6 < 2147483648) ∧
      ((¬ x6 % 16 = 15 → (
        (rg (x6 + 1)) ∧
        LW m_L_law d (some (some q, [], [(3, z3)])) P 105 [some (.inr (some 0)), some (.inr (some 1)), some (.inl x2), none, none, some (.inl x5), some (.inl (x6 + 1)), none, none, none, none, none, none, none, none, none] [] g (103, 2908)
        )) ∧ (¬ (¬ x6 % 16 = 15) → (
        LJ (d - 1) m_L_seen [(.inr (some 1))] g (fun y8 g7 => (
          (∀ v9 : Int, rg v9 → v9 = totO 0 g7 → (
            (∀ (v10 : Int) (g11 : Gs), rg v10 → v10 = (restG g7).1 → g11 = (restG g7).2 → (
              ((¬ v10 = x5 → (
                LW m_L_law d (some (some q, [], [(3, z3), (8, z8), (13, y8)])) P 369 [some (.inr (some 0)), some (.inr (some 1)), some (.inl x2), none, none, some (.inl x5), some (.inl x6), some (.inl x7), none, none, some (.inl x10), some (.inl x11), some (.inl x12), none, none, some (.inl v9)] [] g11 (103, 2908)
                )) ∧ (¬ (¬ v10 = x5) → (
                LJ (d - 1) m_L_seen [(.inr (some 1))] g11 (fun y15 g14 => (
                  (y15 = z3) ∧
                  (∀ (v18 : Int) (g19 : Gs), rg v18 → v18 = (undoG g14).1 → g19 = (undoG g14).2 → (
                    ((v18 < 0 → (
                      LW m_L_law d (some (some q, [], [(3, z3), (8, z8), (13, y8)])) P 369 [some (.inr (some 0)), some (.inr (some 1)), some (.inl x2), none, none, some (.inl x5), some (.inl x6), some (.inl x7), none, none, some (.inl x10), some (.inl x11), some (.inl x12), none, none, some (.inl v9)] [] g19 (103, 2908)
                      )) ∧ (¬ (v18 < 0) → (
                      LJ (d - 1) m_L_seen [(.inr (some 1))] g19 (fun y23 g22 => (
                        (y23 = y8) ∧
                        (∀ (v26 : Int) (g27 : Gs), rg v26 → v26 = (keepG g22).1 → g27 = (keepG g22).2 → (
                          ((¬ v26 = v9 → (
                            LW m_L_law d (some (some q, [], [(3, z3), (8, z8), (13, y8)])) P 369 [some (.inr (some 0)), some (.inr (some 1)), some (.inl x2), none, none, some (.inl x5), some (.inl x6), some (.inl x7), none, none, some (.inl x10), some (.inl x11), some (.inl x12), none, none, some (.inl v9)] [] g27 (103, 2908)
                            )) ∧ (¬ (¬ v26 = v9) → (
                            (rg (x6 + 1)) ∧
                            LW m_L_law d (some (some q, [], [(3, y8)])) P 105 [some (.inr (some 0)), some (.inr (some 1)), some (.inl 1), none, none, some (.inl v9), some (.inl (x6 + 1)), none, none, none, none, none, none, none, none, none] [] g27 (103, 2908)
                            )))))))
                      )))))))
                )))))))))
        )))
      )))) :
  LW m_L_law d (some (some q, [], [(3, z3), (8, z8)])) P 294 [some (.inr (some 0)), some (.inr (some 1)), some (.inl x2), none, none, some (.inl x5), some (.inl x6), some (.inl x7), none, none, some (.inl x10), some (.inl x11), some (.inl x12), none, none, none] [] g (103, 2908) := by
  refine lw_iload_n (pc := 294) dL_law_294 rfl ?_
  refine lw_if_eq (pc := 295) (tgt := 378) dL_law_295 (by decide) (fun c1 => ?_) (fun c1 => ?_)
  · replace G := G.1 c1
    obtain ⟨s2, G⟩ := G
    refine lw_iinc (pc := 378) (v' := x6 + 1) (ls' := [some (.inr (some 0)), some (.inr (some 1)), some (.inl x2), none, none, some (.inl x5), some (.inl (x6 + 1)), some (.inl x7), none, none, some (.inl x10), some (.inl x11), some (.inl x12), none, none, none]) dL_law_378 rfl s2 rfl rfl ?_
    refine lw_goto (pc := 381) (tgt := 105) dL_law_381 (by decide) ?_
    exact lw_fewer (show subl [some (.inr (some 0)), some (.inr (some 1)), some (.inl x2), none, none, some (.inl x5), some (.inl (x6 + 1)), none, none, none, none, none, none, none, none, none] [some (.inr (some 0)), some (.inr (some 1)), some (.inl x2), none, none, some (.inl x5), some (.inl (x6 + 1)), some (.inl x7), none, none, some (.inl x10), some (.inl x11), some (.inl x12), none, none, none] from (And.intro rfl (And.intro rfl (And.intro rfl (And.intro rfl (And.intro rfl trivial)))))) (lw_drop (show ∀ z ∈ [((3, z3) : Nat × Int64)], z ∈ [((3, z3) : Nat × Int64), ((8, z8) : Nat × Int64)] from by simp) G)
  · replace G := G.2 c1
    refine lw_iload (pc := 298) dL_law_298 rfl ?_
    refine lw_bipush (pc := 300) dL_law_300 ?_
    obtain ⟨s3, G⟩ := G
    refine lw_irem (pc := 302) dL_law_302 s3 (by decide) ?_
    refine lw_bipush (pc := 303) dL_law_303 ?_
    refine lw_icmp_ne (pc := 305) (tgt := 378) dL_law_305 (by decide) (fun c4 => ?_) (fun c4 => ?_)
    · replace G := G.1 c4
      obtain ⟨s5, G⟩ := G
      refine lw_iinc (pc := 378) (v' := x6 + 1) (ls' := [some (.inr (some 0)), some (.inr (some 1)), some (.inl x2), none, none, some (.inl x5), some (.inl (x6 + 1)), some (.inl x7), none, none, some (.inl x10), some (.inl x11), some (.inl x12), none, none, none]) dL_law_378 rfl s5 rfl rfl ?_
      refine lw_goto (pc := 381) (tgt := 105) dL_law_381 (by decide) ?_
      exact lw_fewer (show subl [some (.inr (some 0)), some (.inr (some 1)), some (.inl x2), none, none, some (.inl x5), some (.inl (x6 + 1)), none, none, none, none, none, none, none, none, none] [some (.inr (some 0)), some (.inr (some 1)), some (.inl x2), none, none, some (.inl x5), some (.inl (x6 + 1)), some (.inl x7), none, none, some (.inl x10), some (.inl x11), some (.inl x12), none, none, none] from (And.intro rfl (And.intro rfl (And.intro rfl (And.intro rfl (And.intro rfl trivial)))))) (lw_drop (show ∀ z ∈ [((3, z3) : Nat × Int64)], z ∈ [((3, z3) : Nat × Int64), ((8, z8) : Nat × Int64)] from by simp) G)
    · replace G := G.2 c4
      refine lw_aload_n (pc := 308) dL_law_308 rfl ?_
      refine lw_invJ (pc := 309) (md' := m_L_seen) (as := [(.inr (some 1))]) dL_law_309 mo_L_seen sm_L_seen ml_L_84 rfl rfl (by omega) (Nat.le_of_ble_eq_true rfl) rfl ⟨Nat.le_of_ble_eq_true rfl, Nat.le_of_ble_eq_true rfl⟩ (lj_mono G (fun y8 g7 G => ?_))
      refine lw_lstore (pc := 312) (xl' := [(3, z3), (8, z8), (13, y8)]) dL_law_312 rfl rfl (by simp) ?_
      refine lw_aload_n (pc := 314) dL_law_314 rfl ?_
      refine lw_iconst (pc := 315) dL_law_315 ?_
      refine lw_invV (pc := 316) (md' := m_X6_total) (as := [(.inl 0)]) dL_law_316 mo_X6_total im_X6_total se_X6_total ml_L_13 rfl rfl (by omega) (Nat.le_of_ble_eq_true rfl) rfl ⟨Nat.le_of_ble_eq_true rfl, Nat.le_of_ble_eq_true rfl⟩ (lm_mono (lm_rg (kq_total (by omega))) (fun v9 g' e => ?_))
      obtain ⟨r_v9, e_v9, rfl⟩ := e
      replace G := G v9 r_v9 e_v9
      refine lw_istore (pc := 319) (ls' := [some (.inr (some 0)), some (.inr (some 1)), some (.inl x2), none, none, some (.inl x5), some (.inl x6), some (.inl x7), none, none, some (.inl x10), some (.inl x11), some (.inl x12), none, none, some (.inl v9)]) dL_law_319 (Nat.le_of_ble_eq_true rfl) rfl ?_
      refine lw_aload_n (pc := 321) dL_law_321 rfl ?_
      refine lw_invV (pc := 322) (md' := m_X6_restore) (as := []) dL_law_322 mo_X6_restore im_X6_restore se_X6_restore ml_L_109 rfl rfl (by omega) (Nat.le_of_ble_eq_true rfl) rfl ⟨Nat.le_of_ble_eq_true rfl, Nat.le_of_ble_eq_true rfl⟩ (lm_mono (lm_rg (kc_restore (by omega))) (fun v10 g11 e => ?_))
      obtain ⟨r_v10, e_v10, f_v10⟩ := e
      replace G := G v10 g11 r_v10 e_v10 f_v10
      refine lw_iload (pc := 325) dL_law_325 rfl ?_
      refine lw_icmp_ne (pc := 327) (tgt := 369) dL_law_327 (by decide) (fun c12 => ?_) (fun c12 => ?_)
      · replace G := G.1 c12
        exact G
      · replace G := G.2 c12
        refine lw_aload_n (pc := 330) dL_law_330 rfl ?_
        refine lw_invJ (pc := 331) (md' := m_L_seen) (as := [(.inr (some 1))]) dL_law_331 mo_L_seen sm_L_seen ml_L_84 rfl rfl (by omega) (Nat.le_of_ble_eq_true rfl) rfl ⟨Nat.le_of_ble_eq_true rfl, Nat.le_of_ble_eq_true rfl⟩ (lj_mono G (fun y15 g14 G => ?_))
        refine lw_lload_n (pc := 334) (j := 3) (x := z3) dL_law_334 (by simp) ?_
        obtain ⟨s16, G⟩ := G
        refine lw_lcmp (pc := 335) dL_law_335 s16 ?_
        refine lw_if_ne (pc := 336) (tgt := 369) dL_law_336 (by decide) (fun h => absurd h (by decide)) (fun _ => ?_)
        refine lw_aload_n (pc := 339) dL_law_339 rfl ?_
        refine lw_invV (pc := 340) (md' := m_X6_undo) (as := []) dL_law_340 mo_X6_undo im_X6_undo se_X6_undo ml_L_106 rfl rfl (by omega) (Nat.le_of_ble_eq_true rfl) rfl ⟨Nat.le_of_ble_eq_true rfl, Nat.le_of_ble_eq_true rfl⟩ (lm_mono (lm_rg (kc_undo (by omega))) (fun v18 g19 e => ?_))
        obtain ⟨r_v18, e_v18, f_v18⟩ := e
        replace G := G v18 g19 r_v18 e_v18 f_v18
        refine lw_if_lt (pc := 343) (tgt := 369) dL_law_343 (by decide) (fun c20 => ?_) (fun c20 => ?_)
        · replace G := G.1 c20
          exact G
        · replace G := G.2 c20
          refine lw_aload_n (pc := 346) dL_law_346 rfl ?_
          refine lw_invJ (pc := 347) (md' := m_L_seen) (as := [(.inr (some 1))]) dL_law_347 mo_L_seen sm_L_seen ml_L_84 rfl rfl (by omega) (Nat.le_of_ble_eq_true rfl) rfl ⟨Nat.le_of_ble_eq_true rfl, Nat.le_of_ble_eq_true rfl⟩ (lj_mono G (fun y23 g22 G => ?_))
          refine lw_lload (pc := 350) (x := y8) dL_law_350 (by simp) ?_
          obtain ⟨s24, G⟩ := G
          refine lw_lcmp (pc := 352) dL_law_352 s24 ?_
          refine lw_if_ne (pc := 353) (tgt := 369) dL_law_353 (by decide) (fun h => absurd h (by decide)) (fun _ => ?_)
          refine lw_aload_n (pc := 356) dL_law_356 rfl ?_
          refine lw_invV (pc := 357) (md' := m_X6_keep) (as := []) dL_law_357 mo_X6_keep im_X6_keep se_X6_keep ml_L_115 rfl rfl (by omega) (Nat.le_of_ble_eq_true rfl) rfl ⟨Nat.le_of_ble_eq_true rfl, Nat.le_of_ble_eq_true rfl⟩ (lm_mono (lm_rg (kc_keep (by omega))) (fun v26 g27 e => ?_))
          obtain ⟨r_v26, e_v26, f_v26⟩ := e
          replace G := G v26 g27 r_v26 e_v26 f_v26
          refine lw_iload (pc := 360) dL_law_360 rfl ?_
          refine lw_icmp_ne (pc := 362) (tgt := 369) dL_law_362 (by decide) (fun c28 => ?_) (fun c28 => ?_)
          · replace G := G.1 c28
            exact G
          · replace G := G.2 c28
            refine lw_iconst (pc := 365) dL_law_365 ?_
            refine lw_goto (pc := 366) (tgt := 370) dL_law_366 (by decide) ?_
            refine lw_istore_n (pc := 370) (ls' := [some (.inr (some 0)), some (.inr (some 1)), some (.inl 1), none, none, some (.inl x5), some (.inl x6), some (.inl x7), none, none, some (.inl x10), some (.inl x11), some (.inl x12), none, none, some (.inl v9)]) dL_law_370 (Nat.le_of_ble_eq_true rfl) rfl ?_
            refine lw_lload (pc := 371) (x := y8) dL_law_371 (by simp) ?_
            refine lw_lstore_n (pc := 373) (j := 3) (xl' := [(3, y8), (8, z8), (13, y8)]) dL_law_373 rfl rfl (by simp) ?_
            refine lw_iload (pc := 374) dL_law_374 rfl ?_
            refine lw_istore (pc := 376) (ls' := [some (.inr (some 0)), some (.inr (some 1)), some (.inl 1), none, none, some (.inl v9), some (.inl x6), some (.inl x7), none, none, some (.inl x10), some (.inl x11), some (.inl x12), none, none, some (.inl v9)]) dL_law_376 (Nat.le_of_ble_eq_true rfl) rfl ?_
            obtain ⟨s29, G⟩ := G
            refine lw_iinc (pc := 378) (v' := x6 + 1) (ls' := [some (.inr (some 0)), some (.inr (some 1)), some (.inl 1), none, none, some (.inl v9), some (.inl (x6 + 1)), some (.inl x7), none, none, some (.inl x10), some (.inl x11), some (.inl x12), none, none, some (.inl v9)]) dL_law_378 rfl s29 rfl rfl ?_
            refine lw_goto (pc := 381) (tgt := 105) dL_law_381 (by decide) ?_
            exact lw_fewer (show subl [some (.inr (some 0)), some (.inr (some 1)), some (.inl 1), none, none, some (.inl v9), some (.inl (x6 + 1)), none, none, none, none, none, none, none, none, none] [some (.inr (some 0)), some (.inr (some 1)), some (.inl 1), none, none, some (.inl v9), some (.inl (x6 + 1)), some (.inl x7), none, none, some (.inl x10), some (.inl x11), some (.inl x12), none, none, some (.inl v9)] from (And.intro rfl (And.intro rfl (And.intro rfl (And.intro rfl (And.intro rfl trivial)))))) (lw_drop (show ∀ z ∈ [((3, y8) : Nat × Int64)], z ∈ [((3, y8) : Nat × Int64), ((8, z8) : Nat × Int64), ((13, y8) : Nat × Int64)] from by simp) G)
