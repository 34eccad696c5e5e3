set_option maxRecDepth 100000 in
set_option maxHeartbeats 4000000 in
theorem lc_isWhole {d : Nat} {P : Int → Gs → Prop} {g : Gs} (hd : 20 ≤ d)
  (G :
    LW m_L_isWhole d none P 15 [some (.inr (some 1)), some (.inl 0), some (.inl 0), some (.inl 0), some (.inl 0), some (.inl 1), some (.inl 0), none, none] [] g (0, 0)) :
  LW m_L_isWhole d none P 0 [some (.inr (some 1)), none, none, none, none, none, none, none, none] [] g (0, 0) := by
  refine lw_iconst (pc := 0) dL_isWhole_0 ?_
  refine lw_istore_n (pc := 1) (ls' := [some (.inr (some 1)), some (.inl 0), none, none, none, none, none, none, none]) dL_isWhole_1 (Nat.le_of_ble_eq_true rfl) rfl ?_
  refine lw_iconst (pc := 2) dL_isWhole_2 ?_
  refine lw_istore_n (pc := 3) (ls' := [some (.inr (some 1)), some (.inl 0), some (.inl 0), none, none, none, none, none, none]) dL_isWhole_3 (Nat.le_of_ble_eq_true rfl) rfl ?_
  refine lw_iconst (pc := 4) dL_isWhole_4 ?_
  refine lw_istore_n (pc := 5) (ls' := [some (.inr (some 1)), some (.inl 0), some (.inl 0), some (.inl 0), none, none, none, none, none]) dL_isWhole_5 (Nat.le_of_ble_eq_true rfl) rfl ?_
  refine lw_iconst (pc := 6) dL_isWhole_6 ?_
  refine lw_istore (pc := 7) (ls' := [some (.inr (some 1)), some (.inl 0), some (.inl 0), some (.inl 0), some (.inl 0), none, none, none, none]) dL_isWhole_7 (Nat.le_of_ble_eq_true rfl) rfl ?_
  refine lw_iconst (pc := 9) dL_isWhole_9 ?_
  refine lw_istore (pc := 10) (ls' := [some (.inr (some 1)), some (.inl 0), some (.inl 0), some (.inl 0), some (.inl 0), some (.inl 1), none, none, none]) dL_isWhole_10 (Nat.le_of_ble_eq_true rfl) rfl ?_
  refine lw_iconst (pc := 12) dL_isWhole_12 ?_
  refine lw_istore (pc := 13) (ls' := [some (.inr (some 1)), some (.inl 0), some (.inl 0), some (.inl 0), some (.inl 0), some (.inl 1), some (.inl 0), none, none]) dL_isWhole_13 (Nat.le_of_ble_eq_true rfl) rfl ?_
  exact G
set_option maxRecDepth 100000 in
set_option maxHeartbeats 4000000 in
theorem lc_isWhole_15 {d : Nat} {P : Int → Gs → Prop} {g : Gs} {x1 x2 x3 x4 x5 x6 : Int} (hd : 20 ≤ d)
  (G :
    (∀ v1 : Int, rg v1 → v1 = totO 0 g → (
      ((v1 ≤ x6 → (
        LW m_L_isWhole d none P 199 [some (.inr (some 1)), some (.inl x1), some (.inl x2), some (.inl x3), some (.inl x4), some (.inl x5), some (.inl 0), none, none] [] g (0, 0)
        )) ∧ (¬ (v1 ≤ x6) → (
        ((x5 = 0 → (
          LW m_L_isWhole d none P 199 [some (.inr (some 1)), some (.inl x1), some (.inl x2), some (.inl x3), some (.inl x4), some (.inl x5), some (.inl 0), none, none] [] g (0, 0)
          )) ∧ (¬ (x5 = 0) → (
          (∀ v4 : Int, rg v4 → v4 = cardO x6 g.1.1 → (
            (∀ v5 : Int, rg v5 → v5 = ofO v4 3 g.1.1 → (
              (∀ v6 : Int, rg v6 → v6 = ofO v4 0 g.1.1 → (
                (rg (x1 + v6)) ∧
                (∀ v8 : Int, rg v8 → v8 = ofO v4 1 g.1.1 → (
                  ((v8 ≤ 0 → (
                    (rg (x2 + 0)) ∧
                    ((v4 < 0 → (
                      LW m_L_isWhole d none P 187 [some (.inr (some 1)), some (.inl (x1 + v6)), some (.inl (x2 + 0)), some (.inl x3), some (.inl x4), some (.inl x5), some (.inl x6), some (.inl v4), some (.inl v5)] [] g (0, 0)
                      )) ∧ (¬ (v4 < 0) → (
                      ((256 ≤ v4 → (
                        LW m_L_isWhole d none P 187 [some (.inr (some 1)), some (.inl (x1 + v6)), some (.inl (x2 + 0)), some (.inl x3), some (.inl x4), some (.inl x5), some (.inl x6), some (.inl v4), some (.inl v5)] [] g (0, 0)
                        )) ∧ (¬ (256 ≤ v4) → (
                        ((x6 = 0 → (
                          (∀ v14 : Int, rg v14 → v14 = countO 8 v4 g.1.1 → (
                            (∀ v15 : Int, rg v15 → v15 = ofO v4 0 g.1.1 → (
                              ((¬ v14 = v15 → (
                                LW m_L_isWhole d none P 187 [some (.inr (some 1)), some (.inl (x1 + v6)), some (.inl (x2 + 0)), some (.inl x3), some (.inl x4), some (.inl x5), some (.inl x6), some (.inl v4), some (.inl v5)] [] g (0, 0)
                                )) ∧ (¬ (¬ v14 = v15) → (
                                (∀ v17 : Int, rg v17 → v17 = ofO v4 1 g.1.1 → (
                                  ((200 < v17 → (
                                    LW m_L_isWhole d none P 187 [some (.inr (some 1)), some (.inl (x1 + v6)), some (.inl (x2 + 0)), some (.inl x3), some (.inl x4), some (.inl x5), some (.inl x6), some (.inl v4), some (.inl v5)] [] g (0, 0)
                                    )) ∧ (¬ (200 < v17) → (
                                    (∀ v19 : Int, rg v19 → v19 = ofO v4 2 g.1.1 → (
                                      ((v19 < 0 → (
                                        LW m_L_isWhole d none P 187 [some (.inr (some 1)), some (.inl (x1 + v6)), some (.inl (x2 + 0)), some (.inl x3), some (.inl x4), some (.inl x5), some (.inl x6), some (.inl v4), some (.inl v5)] [] g (0, 0)
                                        )) ∧ (¬ (v19 < 0) → (
                                        ((¬ v5 = (-5) → (
                                          (∀ v22 : Int, rg v22 → v22 = totO 0 g → (
                                            ((¬ v22 = 1 → (
                                              ((8 ≤ v5 → (
                                                LW m_L_isWhole d none P 187 [some (.inr (some 1)), some (.inl (x1 + v6)), some (.inl (x2 + 0)), some (.inl x3), some (.inl x4), some (.inl x5), some (.inl x6), some (.inl v4), some (.inl v5)] [] g (0, 0)
                                                )) ∧ (¬ (8 ≤ v5) → (
                                                (rg (x6 + 1)) ∧
                                                LW m_L_isWhole d none P 15 [some (.inr (some 1)), some (.inl (x1 + v6)), some (.inl (x2 + 0)), some (.inl x3), some (.inl x4), some (.inl 1), some (.inl (x6 + 1)), none, none] [] g (0, 0)
                                                )))
                                              )) ∧ (¬ (¬ v22 = 1) → (
                                              LW m_L_isWhole d none P 187 [some (.inr (some 1)), some (.inl (x1 + v6)), some (.inl (x2 + 0)), some (.inl x3), some (.inl x4), some (.inl x5), some (.inl x6), some (.inl v4), some (.inl v5)] [] g (0, 0)
                                              )))))
                                          )) ∧ (¬ (¬ v5 = (-5)) → (
                                          (∀ v28 : Int, rg v28 → v28 = totO 0 g → (
                                            ((¬ v28 = 1 → (
                                              LW m_L_isWhole d none P 187 [some (.inr (some 1)), some (.inl (x1 + v6)), some (.inl (x2 + 0)), some (.inl x3), some (.inl x4), some (.inl x5), some (.inl x6), some (.inl v4), some (.inl v5)] [] g (0, 0)
                                              )) ∧ (¬ (¬ v28 = 1) → (
                                              (rg (x6 + 1)) ∧
                                              LW m_L_isWhole d none P 15 [some (.inr (some 1)), some (.inl (x1 + v6)), some (.inl (x2 + 0)), some (.inl x3), some (.inl x4), some (.inl 1), some (.inl (x6 + 1)), none, none] [] g (0, 0)
                                              )))))
                                          )))
                                        )))))
                                    )))))
                                )))))))
                          )) ∧ (¬ (x6 = 0) → (
                          (rg (x6 - 1)) ∧
                          (∀ v35 : Int, rg v35 → v35 = cardO (x6 - 1) g.1.1 → (
                            ((v4 ≤ v35 → (
                              LW m_L_isWhole d none P 187 [some (.inr (some 1)), some (.inl (x1 + v6)), some (.inl (x2 + 0)), some (.inl x3), some (.inl x4), some (.inl x5), some (.inl x6), some (.inl v4), some (.inl v5)] [] g (0, 0)
                              )) ∧ (¬ (v4 ≤ v35) → (
                              (∀ v37 : Int, rg v37 → v37 = countO 8 v4 g.1.1 → (
                                (∀ v38 : Int, rg v38 → v38 = ofO v4 0 g.1.1 → (
                                  ((¬ v37 = v38 → (
                                    LW m_L_isWhole d none P 187 [some (.inr (some 1)), some (.inl (x1 + v6)), some (.inl (x2 + 0)), some (.inl x3), some (.inl x4), some (.inl x5), some (.inl x6), some (.inl v4), some (.inl v5)] [] g (0, 0)
                                    )) ∧ (¬ (¬ v37 = v38) → (
                                    (∀ v40 : Int, rg v40 → v40 = ofO v4 1 g.1.1 → (
                                      ((200 < v40 → (
                                        LW m_L_isWhole d none P 187 [some (.inr (some 1)), some (.inl (x1 + v6)), some (.inl (x2 + 0)), some (.inl x3), some (.inl x4), some (.inl x5), some (.inl x6), some (.inl v4), some (.inl v5)] [] g (0, 0)
                                        )) ∧ (¬ (200 < v40) → (
                                        (∀ v42 : Int, rg v42 → v42 = ofO v4 2 g.1.1 → (
                                          ((v42 < 0 → (
                                            LW m_L_isWhole d none P 187 [some (.inr (some 1)), some (.inl (x1 + v6)), some (.inl (x2 + 0)), some (.inl x3), some (.inl x4), some (.inl x5), some (.inl x6), some (.inl v4), some (.inl v5)] [] g (0, 0)
                                            )) ∧ (¬ (v42 < 0) → (
                                            ((¬ v5 = (-5) → (
                                              (∀ v45 : Int, rg v45 → v45 = totO 0 g → (
                                                ((¬ v45 = 1 → (
                                                  ((8 ≤ v5 → (
                                                    LW m_L_isWhole d none P 187 [some (.inr (some 1)), some (.inl (x1 + v6)), some (.inl (x2 + 0)), some (.inl x3), some (.inl x4), some (.inl x5), some (.inl x6), some (.inl v4), some (.inl v5)] [] g (0, 0)
                                                    )) ∧ (¬ (8 ≤ v5) → (
                                                    (rg (x6 + 1)) ∧
                                                    LW m_L_isWhole d none P 15 [some (.inr (some 1)), some (.inl (x1 + v6)), some (.inl (x2 + 0)), some (.inl x3), some (.inl x4), some (.inl 1), some (.inl (x6 + 1)), none, none] [] g (0, 0)
                                                    )))
                                                  )) ∧ (¬ (¬ v45 = 1) → (
                                                  LW m_L_isWhole d none P 187 [some (.inr (some 1)), some (.inl (x1 + v6)), some (.inl (x2 + 0)), some (.inl x3), some (.inl x4), some (.inl x5), some (.inl x6), some (.inl v4), some (.inl v5)] [] g (0, 0)
                                                  )))))
                                              )) ∧ (¬ (¬ v5 = (-5)) → (
                                              (∀ v51 : Int, rg v51 → v51 = totO 0 g → (
                                                ((¬ v51 = 1 → (
                                                  LW m_L_isWhole d none P 187 [some (.inr (some 1)), some (.inl (x1 + v6)), some (.inl (x2 + 0)), some (.inl x3), some (.inl x4), some (.inl x5), some (.inl x6), some (.inl v4), some (.inl v5)] [] g (0, 0)
                                                  )) ∧ (¬ (¬ v51 = 1) → (
                                                  (rg (x6 + 1)) ∧
                                                  LW m_L_isWhole d none P 15 [some (.inr (some 1)), some (.inl (x1 + v6)), some (.inl (x2 + 0)), some (.inl x3), some (.inl x4), some (.inl 1), some (.inl (x6 + 1)), none, none] [] g (0, 0)
                                                  )))))
                                              )))
                                            )))))
                                        )))))
                                    )))))))
                              )))))
                          )))
                        )))
                      )))
                    )) ∧ (¬ (v8 ≤ 0) → (
                    (rg (x2 + 1)) ∧
                    ((v4 < 0 → (
                      LW m_L_isWhole d none P 187 [some (.inr (some 1)), some (.inl (x1 + v6)), some (.inl (x2 + 1)), some (.inl x3), some (.inl x4), some (.inl x5), some (.inl x6), some (.inl v4), some (.inl v5)] [] g (0, 0)
                      )) ∧ (¬ (v4 < 0) → (
                      ((256 ≤ v4 → (
                        LW m_L_isWhole d none P 187 [some (.inr (some 1)), some (.inl (x1 + v6)), some (.inl (x2 + 1)), some (.inl x3), some (.inl x4), some (.inl x5), some (.inl x6), some (.inl v4), some (.inl v5)] [] g (0, 0)
                        )) ∧ (¬ (256 ≤ v4) → (
                        ((x6 = 0 → (
                          (∀ v61 : Int, rg v61 → v61 = countO 8 v4 g.1.1 → (
                            (∀ v62 : Int, rg v62 → v62 = ofO v4 0 g.1.1 → (
                              ((¬ v61 = v62 → (
                                LW m_L_isWhole d none P 187 [some (.inr (some 1)), some (.inl (x1 + v6)), some (.inl (x2 + 1)), some (.inl x3), some (.inl x4), some (.inl x5), some (.inl x6), some (.inl v4), some (.inl v5)] [] g (0, 0)
                                )) ∧ (¬ (¬ v61 = v62) → (
                                (∀ v64 : Int, rg v64 → v64 = ofO v4 1 g.1.1 → (
                                  ((200 < v64 → (
                                    LW m_L_isWhole d none P 187 [some (.inr (some 1)), some (.inl (x1 + v6)), some (.inl (x2 + 1)), some (.inl x3), some (.inl x4), some (.inl x5), some (.inl x6), some (.inl v4), some (.inl v5)] [] g (0, 0)
                                    )) ∧ (¬ (200 < v64) → (
                                    (∀ v66 : Int, rg v66 → v66 = ofO v4 2 g.1.1 → (
                                      ((v66 < 0 → (
                                        LW m_L_isWhole d none P 187 [some (.inr (some 1)), some (.inl (x1 + v6)), some (.inl (x2 + 1)), some (.inl x3), some (.inl x4), some (.inl x5), some (.inl x6), some (.inl v4), some (.inl v5)] [] g (0, 0)
                                        )) ∧ (¬ (v66 < 0) → (
                                        ((¬ v5 = (-5) → (
                                          (∀ v69 : Int, rg v69 → v69 = totO 0 g → (
                                            ((¬ v69 = 1 → (
                                              ((8 ≤ v5 → (
                                                LW m_L_isWhole d none P 187 [some (.inr (some 1)), some (.inl (x1 + v6)), some (.inl (x2 + 1)), some (.inl x3), some (.inl x4), some (.inl x5), some (.inl x6), some (.inl v4), some (.inl v5)] [] g (0, 0)
                                                )) ∧ (¬ (8 ≤ v5) → (
                                                (rg (x6 + 1)) ∧
                                                LW m_L_isWhole d none P 15 [some (.inr (some 1)), some (.inl (x1 + v6)), some (.inl (x2 + 1)), some (.inl x3), some (.inl x4), some (.inl 1), some (.inl (x6 + 1)), none, none] [] g (0, 0)
                                                )))
                                              )) ∧ (¬ (¬ v69 = 1) → (
                                              LW m_L_isWhole d none P 187 [some (.inr (some 1)), some (.inl (x1 + v6)), some (.inl (x2 + 1)), some (.inl x3), some (.inl x4), some (.inl x5), some (.inl x6), some (.inl v4), some (.inl v5)] [] g (0, 0)
                                              )))))
                                          )) ∧ (¬ (¬ v5 = (-5)) → (
                                          (∀ v75 : Int, rg v75 → v75 = totO 0 g → (
                                            ((¬ v75 = 1 → (
                                              LW m_L_isWhole d none P 187 [some (.inr (some 1)), some (.inl (x1 + v6)), some (.inl (x2 + 1)), some (.inl x3), some (.inl x4), some (.inl x5), some (.inl x6), some (.inl v4), some (.inl v5)] [] g (0, 0)
                                              )) ∧ (¬ (¬ v75 = 1) → (
                                              (rg (x6 + 1)) ∧
                                              LW m_L_isWhole d none P 15 [some (.inr (some 1)), some (.inl (x1 + v6)), some (.inl (x2 + 1)), some (.inl x3), some (.inl x4), some (.inl 1), some (.inl (x6 + 1)), none, none] [] g (0, 0)
                                              )))))
                                          )))
                                        )))))
                                    )))))
                                )))))))
                          )) ∧ (¬ (x6 = 0) → (
                          (rg (x6 - 1)) ∧
                          (∀ v82 : Int, rg v82 → v82 = cardO (x6 - 1) g.1.1 → (
                            ((v4 ≤ v82 → (
                              LW m_L_isWhole d none P 187 [some (.inr (some 1)), some (.inl (x1 + v6)), some (.inl (x2 + 1)), some (.inl x3), some (.inl x4), some (.inl x5), some (.inl x6), some (.inl v4), some (.inl v5)] [] g (0, 0)
                              )) ∧ (¬ (v4 ≤ v82) → (
                              (∀ v84 : Int, rg v84 → v84 = countO 8 v4 g.1.1 → (
                                (∀ v85 : Int, rg v85 → v85 = ofO v4 0 g.1.1 → (
                                  ((¬ v84 = v85 → (
                                    LW m_L_isWhole d none P 187 [some (.inr (some 1)), some (.inl (x1 + v6)), some (.inl (x2 + 1)), some (.inl x3), some (.inl x4), some (.inl x5), some (.inl x6), some (.inl v4), some (.inl v5)] [] g (0, 0)
                                    )) ∧ (¬ (¬ v84 = v85) → (
                                    (∀ v87 : Int, rg v87 → v87 = ofO v4 1 g.1.1 → (
                                      ((200 < v87 → (
                                        LW m_L_isWhole d none P 187 [some (.inr (some 1)), some (.inl (x1 + v6)), some (.inl (x2 + 1)), some (.inl x3), some (.inl x4), some (.inl x5), some (.inl x6), some (.inl v4), some (.inl v5)] [] g (0, 0)
                                        )) ∧ (¬ (200 < v87) → (
                                        (∀ v89 : Int, rg v89 → v89 = ofO v4 2 g.1.1 → (
                                          ((v89 < 0 → (
                                            LW m_L_isWhole d none P 187 [some (.inr (some 1)), some (.inl (x1 + v6)), some (.inl (x2 + 1)), some (.inl x3), some (.inl x4), some (.inl x5), some (.inl x6), some (.inl v4), some (.inl v5)] [] g (0, 0)
                                            )) ∧ (¬ (v89 < 0) → (
                                            ((¬ v5 = (-5) → (
                                              (∀ v92 : Int, rg v92 → v92 = totO 0 g → (
                                                ((¬ v92 = 1 → (
                                                  ((8 ≤ v5 → (
                                                    LW m_L_isWhole d none P 187 [some (.inr (some 1)), some (.inl (x1 + v6)), some (.inl (x2 + 1)), some (.inl x3), some (.inl x4), some (.inl x5), some (.inl x6), some (.inl v4), some (.inl v5)] [] g (0, 0)
                                                    )) ∧ (¬ (8 ≤ v5) → (
                                                    (rg (x6 + 1)) ∧
                                                    LW m_L_isWhole d none P 15 [some (.inr (some 1)), some (.inl (x1 + v6)), some (.inl (x2 + 1)), some (.inl x3), some (.inl x4), some (.inl 1), some (.inl (x6 + 1)), none, none] [] g (0, 0)
                                                    )))
                                                  )) ∧ (¬ (¬ v92 = 1) → (
                                                  LW m_L_isWhole d none P 187 [some (.inr (some 1)), some (.inl (x1 + v6)), some (.inl (x2 + 1)), some (.inl x3), some (.inl x4), some (.inl x5), some (.inl x6), some (.inl v4), some (.inl v5)] [] g (0, 0)
                                                  )))))
                                              )) ∧ (¬ (¬ v5 = (-5)) → (
                                              (∀ v98 : Int, rg v98 → v98 = totO 0 g → (
                                                ((¬ v98 = 1 → (
                                                  LW m_L_isWhole d none P 187 [some (.inr (some 1)), some (.inl (x1 + v6)), some (.inl (x2 + 1)), some (.inl x3), some (.inl x4), some (.inl x5), some (.inl x6), some (.inl v4), some (.inl v5)] [] g (0, 0)
                                                  )) ∧ (¬ (¬ v98 = 1) → (
                                                  (rg (x6 + 1)) ∧
                                                  LW m_L_isWhole d none P 15 [some (.inr (some 1)), some (.inl (x1 + v6)), some (.inl (x2 + 1)), some (.inl x3), some (.inl x4), some (.inl 1), some (.inl (x6 + 1)), none, none] [] g (0, 0)
                                                  )))))
                                              )))
                                            )))))
                                        )))))
                                    )))))))
                              )))))
                          )))
                        )))
                      )))
                    )))))))))))
          )))
        )))))) :
  LW m_L_isWhole d none P 15 [some (.inr (some 1)), some (.inl x1), some (.inl x2), some (.inl x3), some (.inl x4), some (.inl x5), some (.inl x6), none, none] [] g (0, 0) := by
  refine lw_iload (pc := 15) dL_isWhole_15 rfl ?_
  refine lw_aload_n (pc := 17) dL_isWhole_17 rfl ?_
  refine lw_iconst (pc := 18) dL_isWhole_18 ?_
  refine lw_invV (pc := 19) (md' := m_X6_total) (as := [(.inl 0)]) dL_isWhole_19 mo_X6_total im_X6_total se_X6_total ml_L_13 rfl rfl (by omega) (Nat.le_of_ble_eq_true rfl) rfl ⟨Nat.le_of_ble_eq_true rfl, Nat.le_of_ble_eq_true rfl⟩ (lm_mono (lm_rg (kq_total (by omega))) (fun v1 g' e => ?_))
  obtain ⟨r_v1, e_v1, rfl⟩ := e
  replace G := G v1 r_v1 e_v1
  refine lw_icmp_ge (pc := 22) (tgt := 196) dL_isWhole_22 (by decide) (fun c2 => ?_) (fun c2 => ?_)
  · replace G := G.1 c2
    refine lw_iconst (pc := 196) dL_isWhole_196 ?_
    refine lw_istore (pc := 197) (ls' := [some (.inr (some 1)), some (.inl x1), some (.inl x2), some (.inl x3), some (.inl x4), some (.inl x5), some (.inl 0), none, none]) dL_isWhole_197 (Nat.le_of_ble_eq_true rfl) rfl ?_
    exact G
  · replace G := G.2 c2
    refine lw_iload (pc := 25) dL_isWhole_25 rfl ?_
    refine lw_if_eq (pc := 27) (tgt := 196) dL_isWhole_27 (by decide) (fun c3 => ?_) (fun c3 => ?_)
    · replace G := G.1 c3
      refine lw_iconst (pc := 196) dL_isWhole_196 ?_
      refine lw_istore (pc := 197) (ls' := [some (.inr (some 1)), some (.inl x1), some (.inl x2), some (.inl x3), some (.inl x4), some (.inl x5), some (.inl 0), none, none]) dL_isWhole_197 (Nat.le_of_ble_eq_true rfl) rfl ?_
      exact G
    · replace G := G.2 c3
      refine lw_aload_n (pc := 30) dL_isWhole_30 rfl ?_
      refine lw_iload (pc := 31) dL_isWhole_31 rfl ?_
      refine lw_invV (pc := 33) (md' := m_X6_card) (as := [(.inl x6)]) dL_isWhole_33 mo_X6_card im_X6_card se_X6_card ml_L_19 rfl rfl (by omega) (Nat.le_of_ble_eq_true rfl) rfl ⟨Nat.le_of_ble_eq_true rfl, Nat.le_of_ble_eq_true rfl⟩ (lm_mono (lm_rg (kq_card (by omega))) (fun v4 g' e => ?_))
      obtain ⟨r_v4, e_v4, rfl⟩ := e
      replace G := G v4 r_v4 e_v4
      refine lw_istore (pc := 36) (ls' := [some (.inr (some 1)), some (.inl x1), some (.inl x2), some (.inl x3), some (.inl x4), some (.inl x5), some (.inl x6), some (.inl v4), none]) dL_isWhole_36 (Nat.le_of_ble_eq_true rfl) rfl ?_
      refine lw_aload_n (pc := 38) dL_isWhole_38 rfl ?_
      refine lw_iload (pc := 39) dL_isWhole_39 rfl ?_
      refine lw_iconst (pc := 41) dL_isWhole_41 ?_
      refine lw_invV (pc := 42) (md' := m_X6_ofCard) (as := [(.inl v4), (.inl 3)]) dL_isWhole_42 mo_X6_ofCard im_X6_ofCard se_X6_ofCard ml_L_22 rfl rfl (by omega) (Nat.le_of_ble_eq_true rfl) rfl ⟨Nat.le_of_ble_eq_true rfl, Nat.le_of_ble_eq_true rfl⟩ (lm_mono (lm_rg (kq_ofCard (by omega))) (fun v5 g' e => ?_))
      obtain ⟨r_v5, e_v5, rfl⟩ := e
      replace G := G v5 r_v5 e_v5
      refine lw_istore (pc := 45) (ls' := [some (.inr (some 1)), some (.inl x1), some (.inl x2), some (.inl x3), some (.inl x4), some (.inl x5), some (.inl x6), some (.inl v4), some (.inl v5)]) dL_isWhole_45 (Nat.le_of_ble_eq_true rfl) rfl ?_
      refine lw_iload_n (pc := 47) dL_isWhole_47 rfl ?_
      refine lw_aload_n (pc := 48) dL_isWhole_48 rfl ?_
      refine lw_iload (pc := 49) dL_isWhole_49 rfl ?_
      refine lw_iconst (pc := 51) dL_isWhole_51 ?_
      refine lw_invV (pc := 52) (md' := m_X6_ofCard) (as := [(.inl v4), (.inl 0)]) dL_isWhole_52 mo_X6_ofCard im_X6_ofCard se_X6_ofCard ml_L_22 rfl rfl (by omega) (Nat.le_of_ble_eq_true rfl) rfl ⟨Nat.le_of_ble_eq_true rfl, Nat.le_of_ble_eq_true rfl⟩ (lm_mono (lm_rg (kq_ofCard (by omega))) (fun v6 g' e => ?_))
      obtain ⟨r_v6, e_v6, rfl⟩ := e
      replace G := G v6 r_v6 e_v6
      obtain ⟨s7, G⟩ := G
      refine lw_iadd (pc := 55) (v := x1 + v6) dL_isWhole_55 s7 rfl ?_
      refine lw_istore_n (pc := 56) (ls' := [some (.inr (some 1)), some (.inl (x1 + v6)), some (.inl x2), some (.inl x3), some (.inl x4), some (.inl x5), some (.inl x6), some (.inl v4), some (.inl v5)]) dL_isWhole_56 (Nat.le_of_ble_eq_true rfl) rfl ?_
      refine lw_iload_n (pc := 57) dL_isWhole_57 rfl ?_
      refine lw_aload_n (pc := 58) dL_isWhole_58 rfl ?_
      refine lw_iload (pc := 59) dL_isWhole_59 rfl ?_
      refine lw_iconst (pc := 61) dL_isWhole_61 ?_
      refine lw_invV (pc := 62) (md' := m_X6_ofCard) (as := [(.inl v4), (.inl 1)]) dL_isWhole_62 mo_X6_ofCard im_X6_ofCard se_X6_ofCard ml_L_22 rfl rfl (by omega) (Nat.le_of_ble_eq_true rfl) rfl ⟨Nat.le_of_ble_eq_true rfl, Nat.le_of_ble_eq_true rfl⟩ (lm_mono (lm_rg (kq_ofCard (by omega))) (fun v8 g' e => ?_))
      obtain ⟨r_v8, e_v8, rfl⟩ := e
      replace G := G v8 r_v8 e_v8
      refine lw_if_le (pc := 65) (tgt := 72) dL_isWhole_65 (by decide) (fun c9 => ?_) (fun c9 => ?_)
      · replace G := G.1 c9
        refine lw_iconst (pc := 72) dL_isWhole_72 ?_
        obtain ⟨s10, G⟩ := G
        refine lw_iadd (pc := 73) (v := x2 + 0) dL_isWhole_73 s10 rfl ?_
        refine lw_istore_n (pc := 74) (ls' := [some (.inr (some 1)), some (.inl (x1 + v6)), some (.inl (x2 + 0)), some (.inl x3), some (.inl x4), some (.inl x5), some (.inl x6), some (.inl v4), some (.inl v5)]) dL_isWhole_74 (Nat.le_of_ble_eq_true rfl) rfl ?_
        refine lw_iload (pc := 75) dL_isWhole_75 rfl ?_
        refine lw_if_lt (pc := 77) (tgt := 187) dL_isWhole_77 (by decide) (fun c11 => ?_) (fun c11 => ?_)
        · replace G := G.1 c11
          exact G
        · replace G := G.2 c11
          refine lw_iload (pc := 80) dL_isWhole_80 rfl ?_
          refine lw_sipush (pc := 82) dL_isWhole_82 ?_
          refine lw_icmp_ge (pc := 85) (tgt := 187) dL_isWhole_85 (by decide) (fun c12 => ?_) (fun c12 => ?_)
          · replace G := G.1 c12
            exact G
          · replace G := G.2 c12
            refine lw_iload (pc := 88) dL_isWhole_88 rfl ?_
            refine lw_if_eq (pc := 90) (tgt := 106) dL_isWhole_90 (by decide) (fun c13 => ?_) (fun c13 => ?_)
            · replace G := G.1 c13
              refine lw_aload_n (pc := 106) dL_isWhole_106 rfl ?_
              refine lw_bipush (pc := 107) dL_isWhole_107 ?_
              refine lw_iload (pc := 109) dL_isWhole_109 rfl ?_
              refine lw_invV (pc := 111) (md' := m_X6_count) (as := [(.inl 8), (.inl v4)]) dL_isWhole_111 mo_X6_count im_X6_count se_X6_count ml_L_29 rfl rfl (by omega) (Nat.le_of_ble_eq_true rfl) rfl ⟨Nat.le_of_ble_eq_true rfl, Nat.le_of_ble_eq_true rfl⟩ (lm_mono (lm_rg (kq_count (by omega))) (fun v14 g' e => ?_))
              obtain ⟨r_v14, e_v14, rfl⟩ := e
              replace G := G v14 r_v14 e_v14
              refine lw_aload_n (pc := 114) dL_isWhole_114 rfl ?_
              refine lw_iload (pc := 115) dL_isWhole_115 rfl ?_
              refine lw_iconst (pc := 117) dL_isWhole_117 ?_
              refine lw_invV (pc := 118) (md' := m_X6_ofCard) (as := [(.inl v4), (.inl 0)]) dL_isWhole_118 mo_X6_ofCard im_X6_ofCard se_X6_ofCard ml_L_22 rfl rfl (by omega) (Nat.le_of_ble_eq_true rfl) rfl ⟨Nat.le_of_ble_eq_true rfl, Nat.le_of_ble_eq_true rfl⟩ (lm_mono (lm_rg (kq_ofCard (by omega))) (fun v15 g' e => ?_))
              obtain ⟨r_v15, e_v15, rfl⟩ := e
              replace G := G v15 r_v15 e_v15
              refine lw_icmp_ne (pc := 121) (tgt := 187) dL_isWhole_121 (by decide) (fun c16 => ?_) (fun c16 => ?_)
              · replace G := G.1 c16
                exact G
              · replace G := G.2 c16
                refine lw_aload_n (pc := 124) dL_isWhole_124 rfl ?_
                refine lw_iload (pc := 125) dL_isWhole_125 rfl ?_
                refine lw_iconst (pc := 127) dL_isWhole_127 ?_
                refine lw_invV (pc := 128) (md' := m_X6_ofCard) (as := [(.inl v4), (.inl 1)]) dL_isWhole_128 mo_X6_ofCard im_X6_ofCard se_X6_ofCard ml_L_22 rfl rfl (by omega) (Nat.le_of_ble_eq_true rfl) rfl ⟨Nat.le_of_ble_eq_true rfl, Nat.le_of_ble_eq_true rfl⟩ (lm_mono (lm_rg (kq_ofCard (by omega))) (fun v17 g' e => ?_))
                obtain ⟨r_v17, e_v17, rfl⟩ := e
                replace G := G v17 r_v17 e_v17
                refine lw_sipush (pc := 131) dL_isWhole_131 ?_
                refine lw_icmp_gt (pc := 134) (tgt := 187) dL_isWhole_134 (by decide) (fun c18 => ?_) (fun c18 => ?_)
                · replace G := G.1 c18
                  exact G
                · replace G := G.2 c18
                  refine lw_aload_n (pc := 137) dL_isWhole_137 rfl ?_
                  refine lw_iload (pc := 138) dL_isWhole_138 rfl ?_
                  refine lw_iconst (pc := 140) dL_isWhole_140 ?_
                  refine lw_invV (pc := 141) (md' := m_X6_ofCard) (as := [(.inl v4), (.inl 2)]) dL_isWhole_141 mo_X6_ofCard im_X6_ofCard se_X6_ofCard ml_L_22 rfl rfl (by omega) (Nat.le_of_ble_eq_true rfl) rfl ⟨Nat.le_of_ble_eq_true rfl, Nat.le_of_ble_eq_true rfl⟩ (lm_mono (lm_rg (kq_ofCard (by omega))) (fun v19 g' e => ?_))
                  obtain ⟨r_v19, e_v19, rfl⟩ := e
                  replace G := G v19 r_v19 e_v19
                  refine lw_if_lt (pc := 144) (tgt := 187) dL_isWhole_144 (by decide) (fun c20 => ?_) (fun c20 => ?_)
                  · replace G := G.1 c20
                    exact G
                  · replace G := G.2 c20
                    refine lw_iload (pc := 147) dL_isWhole_147 rfl ?_
                    refine lw_bipush (pc := 149) dL_isWhole_149 ?_
                    refine lw_icmp_ne (pc := 151) (tgt := 158) dL_isWhole_151 (by decide) (fun c21 => ?_) (fun c21 => ?_)
                    · replace G := G.1 c21
                      refine lw_iconst (pc := 158) dL_isWhole_158 ?_
                      refine lw_aload_n (pc := 159) dL_isWhole_159 rfl ?_
                      refine lw_iconst (pc := 160) dL_isWhole_160 ?_
                      refine lw_invV (pc := 161) (md' := m_X6_total) (as := [(.inl 0)]) dL_isWhole_161 mo_X6_total im_X6_total se_X6_total ml_L_13 rfl rfl (by omega) (Nat.le_of_ble_eq_true rfl) rfl ⟨Nat.le_of_ble_eq_true rfl, Nat.le_of_ble_eq_true rfl⟩ (lm_mono (lm_rg (kq_total (by omega))) (fun v22 g' e => ?_))
                      obtain ⟨r_v22, e_v22, rfl⟩ := e
                      replace G := G v22 r_v22 e_v22
                      refine lw_iconst (pc := 164) dL_isWhole_164 ?_
                      refine lw_icmp_ne (pc := 165) (tgt := 172) dL_isWhole_165 (by decide) (fun c23 => ?_) (fun c23 => ?_)
                      · replace G := G.1 c23
                        refine lw_iconst (pc := 172) dL_isWhole_172 ?_
                        refine lw_icmp_ne (pc := 173) (tgt := 187) dL_isWhole_173 (by decide) (fun h => absurd h (by decide)) (fun _ => ?_)
                        refine lw_iload (pc := 176) dL_isWhole_176 rfl ?_
                        refine lw_bipush (pc := 178) dL_isWhole_178 ?_
                        refine lw_icmp_ge (pc := 180) (tgt := 187) dL_isWhole_180 (by decide) (fun c25 => ?_) (fun c25 => ?_)
                        · replace G := G.1 c25
                          exact G
                        · replace G := G.2 c25
                          refine lw_iconst (pc := 183) dL_isWhole_183 ?_
                          refine lw_goto (pc := 184) (tgt := 188) dL_isWhole_184 (by decide) ?_
                          refine lw_istore (pc := 188) (ls' := [some (.inr (some 1)), some (.inl (x1 + v6)), some (.inl (x2 + 0)), some (.inl x3), some (.inl x4), some (.inl 1), some (.inl x6), some (.inl v4), some (.inl v5)]) dL_isWhole_188 (Nat.le_of_ble_eq_true rfl) rfl ?_
                          obtain ⟨s26, G⟩ := G
                          refine lw_iinc (pc := 190) (v' := x6 + 1) (ls' := [some (.inr (some 1)), some (.inl (x1 + v6)), some (.inl (x2 + 0)), some (.inl x3), some (.inl x4), some (.inl 1), some (.inl (x6 + 1)), some (.inl v4), some (.inl v5)]) dL_isWhole_190 rfl s26 rfl rfl ?_
                          refine lw_goto (pc := 193) (tgt := 15) dL_isWhole_193 (by decide) ?_
                          exact lw_fewer (show subl [some (.inr (some 1)), some (.inl (x1 + v6)), some (.inl (x2 + 0)), some (.inl x3), some (.inl x4), some (.inl 1), some (.inl (x6 + 1)), none, none] [some (.inr (some 1)), some (.inl (x1 + v6)), some (.inl (x2 + 0)), some (.inl x3), some (.inl x4), some (.inl 1), some (.inl (x6 + 1)), some (.inl v4), some (.inl v5)] from (And.intro rfl (And.intro rfl (And.intro rfl (And.intro rfl (And.intro rfl (And.intro rfl (And.intro rfl trivial)))))))) (G)
                      · replace G := G.2 c23
                        refine lw_iconst (pc := 168) dL_isWhole_168 ?_
                        refine lw_goto (pc := 169) (tgt := 173) dL_isWhole_169 (by decide) ?_
                        refine lw_icmp_ne (pc := 173) (tgt := 187) dL_isWhole_173 (by decide) (fun _ => ?_) (fun h => absurd (by decide) h)
                        exact G
                    · replace G := G.2 c21
                      refine lw_iconst (pc := 154) dL_isWhole_154 ?_
                      refine lw_goto (pc := 155) (tgt := 159) dL_isWhole_155 (by decide) ?_
                      refine lw_aload_n (pc := 159) dL_isWhole_159 rfl ?_
                      refine lw_iconst (pc := 160) dL_isWhole_160 ?_
                      refine lw_invV (pc := 161) (md' := m_X6_total) (as := [(.inl 0)]) dL_isWhole_161 mo_X6_total im_X6_total se_X6_total ml_L_13 rfl rfl (by omega) (Nat.le_of_ble_eq_true rfl) rfl ⟨Nat.le_of_ble_eq_true rfl, Nat.le_of_ble_eq_true rfl⟩ (lm_mono (lm_rg (kq_total (by omega))) (fun v28 g' e => ?_))
                      obtain ⟨r_v28, e_v28, rfl⟩ := e
                      replace G := G v28 r_v28 e_v28
                      refine lw_iconst (pc := 164) dL_isWhole_164 ?_
                      refine lw_icmp_ne (pc := 165) (tgt := 172) dL_isWhole_165 (by decide) (fun c29 => ?_) (fun c29 => ?_)
                      · replace G := G.1 c29
                        refine lw_iconst (pc := 172) dL_isWhole_172 ?_
                        refine lw_icmp_ne (pc := 173) (tgt := 187) dL_isWhole_173 (by decide) (fun _ => ?_) (fun h => absurd (by decide) h)
                        exact G
                      · replace G := G.2 c29
                        refine lw_iconst (pc := 168) dL_isWhole_168 ?_
                        refine lw_goto (pc := 169) (tgt := 173) dL_isWhole_169 (by decide) ?_
                        refine lw_icmp_ne (pc := 173) (tgt := 187) dL_isWhole_173 (by decide) (fun h => absurd h (by decide)) (fun _ => ?_)
                        refine lw_iload (pc := 176) dL_isWhole_176 rfl ?_
                        refine lw_bipush (pc := 178) dL_isWhole_178 ?_
                        refine lw_icmp_ge (pc := 180) (tgt := 187) dL_isWhole_180 (by decide) (fun h => absurd h (by omega)) (fun _ => ?_)
                        refine lw_iconst (pc := 183) dL_isWhole_183 ?_
                        refine lw_goto (pc := 184) (tgt := 188) dL_isWhole_184 (by decide) ?_
                        refine lw_istore (pc := 188) (ls' := [some (.inr (some 1)), some (.inl (x1 + v6)), some (.inl (x2 + 0)), some (.inl x3), some (.inl x4), some (.inl 1), some (.inl x6), some (.inl v4), some (.inl v5)]) dL_isWhole_188 (Nat.le_of_ble_eq_true rfl) rfl ?_
                        obtain ⟨s33, G⟩ := G
                        refine lw_iinc (pc := 190) (v' := x6 + 1) (ls' := [some (.inr (some 1)), some (.inl (x1 + v6)), some (.inl (x2 + 0)), some (.inl x3), some (.inl x4), some (.inl 1), some (.inl (x6 + 1)), some (.inl v4), some (.inl v5)]) dL_isWhole_190 rfl s33 rfl rfl ?_
                        refine lw_goto (pc := 193) (tgt := 15) dL_isWhole_193 (by decide) ?_
                        exact lw_fewer (show subl [some (.inr (some 1)), some (.inl (x1 + v6)), some (.inl (x2 + 0)), some (.inl x3), some (.inl x4), some (.inl 1), some (.inl (x6 + 1)), none, none] [some (.inr (some 1)), some (.inl (x1 + v6)), some (.inl (x2 + 0)), some (.inl x3), some (.inl x4), some (.inl 1), some (.inl (x6 + 1)), some (.inl v4), some (.inl v5)] from (And.intro rfl (And.intro rfl (And.intro rfl (And.intro rfl (And.intro rfl (And.intro rfl (And.intro rfl trivial)))))))) (G)
            · replace G := G.2 c13
              refine lw_iload (pc := 93) dL_isWhole_93 rfl ?_
              refine lw_aload_n (pc := 95) dL_isWhole_95 rfl ?_
              refine lw_iload (pc := 96) dL_isWhole_96 rfl ?_
              refine lw_iconst (pc := 98) dL_isWhole_98 ?_
              obtain ⟨s34, G⟩ := G
              refine lw_isub (pc := 99) (v := x6 - 1) dL_isWhole_99 s34 rfl ?_
              refine lw_invV (pc := 100) (md' := m_X6_card) (as := [(.inl (x6 - 1))]) dL_isWhole_100 mo_X6_card im_X6_card se_X6_card ml_L_19 rfl rfl (by omega) (Nat.le_of_ble_eq_true rfl) rfl ⟨Nat.le_of_ble_eq_true rfl, Nat.le_of_ble_eq_true rfl⟩ (lm_mono (lm_rg (kq_card (by omega))) (fun v35 g' e => ?_))
              obtain ⟨r_v35, e_v35, rfl⟩ := e
              replace G := G v35 r_v35 e_v35
              refine lw_icmp_le (pc := 103) (tgt := 187) dL_isWhole_103 (by decide) (fun c36 => ?_) (fun c36 => ?_)
              · replace G := G.1 c36
                exact G
              · replace G := G.2 c36
                refine lw_aload_n (pc := 106) dL_isWhole_106 rfl ?_
                refine lw_bipush (pc := 107) dL_isWhole_107 ?_
                refine lw_iload (pc := 109) dL_isWhole_109 rfl ?_
                refine lw_invV (pc := 111) (md' := m_X6_count) (as := [(.inl 8), (.inl v4)]) dL_isWhole_111 mo_X6_count im_X6_count se_X6_count ml_L_29 rfl rfl (by omega) (Nat.le_of_ble_eq_true rfl) rfl ⟨Nat.le_of_ble_eq_true rfl, Nat.le_of_ble_eq_true rfl⟩ (lm_mono (lm_rg (kq_count (by omega))) (fun v37 g' e => ?_))
                obtain ⟨r_v37, e_v37, rfl⟩ := e
                replace G := G v37 r_v37 e_v37
                refine lw_aload_n (pc := 114) dL_isWhole_114 rfl ?_
                refine lw_iload (pc := 115) dL_isWhole_115 rfl ?_
                refine lw_iconst (pc := 117) dL_isWhole_117 ?_
                refine lw_invV (pc := 118) (md' := m_X6_ofCard) (as := [(.inl v4), (.inl 0)]) dL_isWhole_118 mo_X6_ofCard im_X6_ofCard se_X6_ofCard ml_L_22 rfl rfl (by omega) (Nat.le_of_ble_eq_true rfl) rfl ⟨Nat.le_of_ble_eq_true rfl, Nat.le_of_ble_eq_true rfl⟩ (lm_mono (lm_rg (kq_ofCard (by omega))) (fun v38 g' e => ?_))
                obtain ⟨r_v38, e_v38, rfl⟩ := e
                replace G := G v38 r_v38 e_v38
                refine lw_icmp_ne (pc := 121) (tgt := 187) dL_isWhole_121 (by decide) (fun c39 => ?_) (fun c39 => ?_)
                · replace G := G.1 c39
                  exact G
                · replace G := G.2 c39
                  refine lw_aload_n (pc := 124) dL_isWhole_124 rfl ?_
                  refine lw_iload (pc := 125) dL_isWhole_125 rfl ?_
                  refine lw_iconst (pc := 127) dL_isWhole_127 ?_
                  refine lw_invV (pc := 128) (md' := m_X6_ofCard) (as := [(.inl v4), (.inl 1)]) dL_isWhole_128 mo_X6_ofCard im_X6_ofCard se_X6_ofCard ml_L_22 rfl rfl (by omega) (Nat.le_of_ble_eq_true rfl) rfl ⟨Nat.le_of_ble_eq_true rfl, Nat.le_of_ble_eq_true rfl⟩ (lm_mono (lm_rg (kq_ofCard (by omega))) (fun v40 g' e => ?_))
                  obtain ⟨r_v40, e_v40, rfl⟩ := e
                  replace G := G v40 r_v40 e_v40
                  refine lw_sipush (pc := 131) dL_isWhole_131 ?_
                  refine lw_icmp_gt (pc := 134) (tgt := 187) dL_isWhole_134 (by decide) (fun c41 => ?_) (fun c41 => ?_)
                  · replace G := G.1 c41
                    exact G
                  · replace G := G.2 c41
                    refine lw_aload_n (pc := 137) dL_isWhole_137 rfl ?_
                    refine lw_iload (pc := 138) dL_isWhole_138 rfl ?_
                    refine lw_iconst (pc := 140) dL_isWhole_140 ?_
                    refine lw_invV (pc := 141) (md' := m_X6_ofCard) (as := [(.inl v4), (.inl 2)]) dL_isWhole_141 mo_X6_ofCard im_X6_ofCard se_X6_ofCard ml_L_22 rfl rfl (by omega) (Nat.le_of_ble_eq_true rfl) rfl ⟨Nat.le_of_ble_eq_true rfl, Nat.le_of_ble_eq_true rfl⟩ (lm_mono (lm_rg (kq_ofCard (by omega))) (fun v42 g' e => ?_))
                    obtain ⟨r_v42, e_v42, rfl⟩ := e
                    replace G := G v42 r_v42 e_v42
                    refine lw_if_lt (pc := 144) (tgt := 187) dL_isWhole_144 (by decide) (fun c43 => ?_) (fun c43 => ?_)
                    · replace G := G.1 c43
                      exact G
                    · replace G := G.2 c43
                      refine lw_iload (pc := 147) dL_isWhole_147 rfl ?_
                      refine lw_bipush (pc := 149) dL_isWhole_149 ?_
                      refine lw_icmp_ne (pc := 151) (tgt := 158) dL_isWhole_151 (by decide) (fun c44 => ?_) (fun c44 => ?_)
                      · replace G := G.1 c44
                        refine lw_iconst (pc := 158) dL_isWhole_158 ?_
                        refine lw_aload_n (pc := 159) dL_isWhole_159 rfl ?_
                        refine lw_iconst (pc := 160) dL_isWhole_160 ?_
                        refine lw_invV (pc := 161) (md' := m_X6_total) (as := [(.inl 0)]) dL_isWhole_161 mo_X6_total im_X6_total se_X6_total ml_L_13 rfl rfl (by omega) (Nat.le_of_ble_eq_true rfl) rfl ⟨Nat.le_of_ble_eq_true rfl, Nat.le_of_ble_eq_true rfl⟩ (lm_mono (lm_rg (kq_total (by omega))) (fun v45 g' e => ?_))
                        obtain ⟨r_v45, e_v45, rfl⟩ := e
                        replace G := G v45 r_v45 e_v45
                        refine lw_iconst (pc := 164) dL_isWhole_164 ?_
                        refine lw_icmp_ne (pc := 165) (tgt := 172) dL_isWhole_165 (by decide) (fun c46 => ?_) (fun c46 => ?_)
                        · replace G := G.1 c46
                          refine lw_iconst (pc := 172) dL_isWhole_172 ?_
                          refine lw_icmp_ne (pc := 173) (tgt := 187) dL_isWhole_173 (by decide) (fun h => absurd h (by decide)) (fun _ => ?_)
                          refine lw_iload (pc := 176) dL_isWhole_176 rfl ?_
                          refine lw_bipush (pc := 178) dL_isWhole_178 ?_
                          refine lw_icmp_ge (pc := 180) (tgt := 187) dL_isWhole_180 (by decide) (fun c48 => ?_) (fun c48 => ?_)
                          · replace G := G.1 c48
                            exact G
                          · replace G := G.2 c48
                            refine lw_iconst (pc := 183) dL_isWhole_183 ?_
                            refine lw_goto (pc := 184) (tgt := 188) dL_isWhole_184 (by decide) ?_
                            refine lw_istore (pc := 188) (ls' := [some (.inr (some 1)), some (.inl (x1 + v6)), some (.inl (x2 + 0)), some (.inl x3), some (.inl x4), some (.inl 1), some (.inl x6), some (.inl v4), some (.inl v5)]) dL_isWhole_188 (Nat.le_of_ble_eq_true rfl) rfl ?_
                            obtain ⟨s49, G⟩ := G
                            refine lw_iinc (pc := 190) (v' := x6 + 1) (ls' := [some (.inr (some 1)), some (.inl (x1 + v6)), some (.inl (x2 + 0)), some (.inl x3), some (.inl x4), some (.inl 1), some (.inl (x6 + 1)), some (.inl v4), some (.inl v5)]) dL_isWhole_190 rfl s49 rfl rfl ?_
                            refine lw_goto (pc := 193) (tgt := 15) dL_isWhole_193 (by decide) ?_
                            exact lw_fewer (show subl [some (.inr (some 1)), some (.inl (x1 + v6)), some (.inl (x2 + 0)), some (.inl x3), some (.inl x4), some (.inl 1), some (.inl (x6 + 1)), none, none] [some (.inr (some 1)), some (.inl (x1 + v6)), some (.inl (x2 + 0)), some (.inl x3), some (.inl x4), some (.inl 1), some (.inl (x6 + 1)), some (.inl v4), some (.inl v5)] from (And.intro rfl (And.intro rfl (And.intro rfl (And.intro rfl (And.intro rfl (And.intro rfl (And.intro rfl trivial)))))))) (G)
                        · replace G := G.2 c46
                          refine lw_iconst (pc := 168) dL_isWhole_168 ?_
                          refine lw_goto (pc := 169) (tgt := 173) dL_isWhole_169 (by decide) ?_
                          refine lw_icmp_ne (pc := 173) (tgt := 187) dL_isWhole_173 (by decide) (fun _ => ?_) (fun h => absurd (by decide) h)
                          exact G
                      · replace G := G.2 c44
                        refine lw_iconst (pc := 154) dL_isWhole_154 ?_
                        refine lw_goto (pc := 155) (tgt := 159) dL_isWhole_155 (by decide) ?_
                        refine lw_aload_n (pc := 159) dL_isWhole_159 rfl ?_
                        refine lw_iconst (pc := 160) dL_isWhole_160 ?_
                        refine lw_invV (pc := 161) (md' := m_X6_total) (as := [(.inl 0)]) dL_isWhole_161 mo_X6_total im_X6_total se_X6_total ml_L_13 rfl rfl (by omega) (Nat.le_of_ble_eq_true rfl) rfl ⟨Nat.le_of_ble_eq_true rfl, Nat.le_of_ble_eq_true rfl⟩ (lm_mono (lm_rg (kq_total (by omega))) (fun v51 g' e => ?_))
                        obtain ⟨r_v51, e_v51, rfl⟩ := e
                        replace G := G v51 r_v51 e_v51
                        refine lw_iconst (pc := 164) dL_isWhole_164 ?_
                        refine lw_icmp_ne (pc := 165) (tgt := 172) dL_isWhole_165 (by decide) (fun c52 => ?_) (fun c52 => ?_)
                        · replace G := G.1 c52
                          refine lw_iconst (pc := 172) dL_isWhole_172 ?_
                          refine lw_icmp_ne (pc := 173) (tgt := 187) dL_isWhole_173 (by decide) (fun _ => ?_) (fun h => absurd (by decide) h)
                          exact G
                        · replace G := G.2 c52
                          refine lw_iconst (pc := 168) dL_isWhole_168 ?_
                          refine lw_goto (pc := 169) (tgt := 173) dL_isWhole_169 (by decide) ?_
                          refine lw_icmp_ne (pc := 173) (tgt := 187) dL_isWhole_173 (by decide) (fun h => absurd h (by decide)) (fun _ => ?_)
                          refine lw_iload (pc := 176) dL_isWhole_176 rfl ?_
                          refine lw_bipush (pc := 178) dL_isWhole_178 ?_
                          refine lw_icmp_ge (pc := 180) (tgt := 187) dL_isWhole_180 (by decide) (fun h => absurd h (by omega)) (fun _ => ?_)
                          refine lw_iconst (pc := 183) dL_isWhole_183 ?_
                          refine lw_goto (pc := 184) (tgt := 188) dL_isWhole_184 (by decide) ?_
                          refine lw_istore (pc := 188) (ls' := [some (.inr (some 1)), some (.inl (x1 + v6)), some (.inl (x2 + 0)), some (.inl x3), some (.inl x4), some (.inl 1), some (.inl x6), some (.inl v4), some (.inl v5)]) dL_isWhole_188 (Nat.le_of_ble_eq_true rfl) rfl ?_
                          obtain ⟨s56, G⟩ := G
                          refine lw_iinc (pc := 190) (v' := x6 + 1) (ls' := [some (.inr (some 1)), some (.inl (x1 + v6)), some (.inl (x2 + 0)), some (.inl x3), some (.inl x4), some (.inl 1), some (.inl (x6 + 1)), some (.inl v4), some (.inl v5)]) dL_isWhole_190 rfl s56 rfl rfl ?_
                          refine lw_goto (pc := 193) (tgt := 15) dL_isWhole_193 (by decide) ?_
                          exact lw_fewer (show subl [some (.inr (some 1)), some (.inl (x1 + v6)), some (.inl (x2 + 0)), some (.inl x3), some (.inl x4), some (.inl 1), some (.inl (x6 + 1)), none, none] [some (.inr (some 1)), some (.inl (x1 + v6)), some (.inl (x2 + 0)), some (.inl x3), some (.inl x4), some (.inl 1), some (.inl (x6 + 1)), some (.inl v4), some (.inl v5)] from (And.intro rfl (And.intro rfl (And.intro rfl (And.intro rfl (And.intro rfl (And.intro rfl (And.intro rfl trivial)))))))) (G)
      · replace G := G.2 c9
        refine lw_iconst (pc := 68) dL_isWhole_68 ?_
        refine lw_goto (pc := 69) (tgt := 73) dL_isWhole_69 (by decide) ?_
        obtain ⟨s57, G⟩ := G
        refine lw_iadd (pc := 73) (v := x2 + 1) dL_isWhole_73 s57 rfl ?_
        refine lw_istore_n (pc := 74) (ls' := [some (.inr (some 1)), some (.inl (x1 + v6)), some (.inl (x2 + 1)), some (.inl x3), some (.inl x4), some (.inl x5), some (.inl x6), some (.inl v4), some (.inl v5)]) dL_isWhole_74 (Nat.le_of_ble_eq_true rfl) rfl ?_
        refine lw_iload (pc := 75) dL_isWhole_75 rfl ?_
        refine lw_if_lt (pc := 77) (tgt := 187) dL_isWhole_77 (by decide) (fun c58 => ?_) (fun c58 => ?_)
        · replace G := G.1 c58
          exact G
        · replace G := G.2 c58
          refine lw_iload (pc := 80) dL_isWhole_80 rfl ?_
          refine lw_sipush (pc := 82) dL_isWhole_82 ?_
          refine lw_icmp_ge (pc := 85) (tgt := 187) dL_isWhole_85 (by decide) (fun c59 => ?_) (fun c59 => ?_)
          · replace G := G.1 c59
            exact G
          · replace G := G.2 c59
            refine lw_iload (pc := 88) dL_isWhole_88 rfl ?_
            refine lw_if_eq (pc := 90) (tgt := 106) dL_isWhole_90 (by decide) (fun c60 => ?_) (fun c60 => ?_)
            · replace G := G.1 c60
              refine lw_aload_n (pc := 106) dL_isWhole_106 rfl ?_
              refine lw_bipush (pc := 107) dL_isWhole_107 ?_
              refine lw_iload (pc := 109) dL_isWhole_109 rfl ?_
              refine lw_invV (pc := 111) (md' := m_X6_count) (as := [(.inl 8), (.inl v4)]) dL_isWhole_111 mo_X6_count im_X6_count se_X6_count ml_L_29 rfl rfl (by omega) (Nat.le_of_ble_eq_true rfl) rfl ⟨Nat.le_of_ble_eq_true rfl, Nat.le_of_ble_eq_true rfl⟩ (lm_mono (lm_rg (kq_count (by omega))) (fun v61 g' e => ?_))
              obtain ⟨r_v61, e_v61, rfl⟩ := e
              replace G := G v61 r_v61 e_v61
              refine lw_aload_n (pc := 114) dL_isWhole_114 rfl ?_
              refine lw_iload (pc := 115) dL_isWhole_115 rfl ?_
              refine lw_iconst (pc := 117) dL_isWhole_117 ?_
              refine lw_invV (pc := 118) (md' := m_X6_ofCard) (as := [(.inl v4), (.inl 0)]) dL_isWhole_118 mo_X6_ofCard im_X6_ofCard se_X6_ofCard ml_L_22 rfl rfl (by omega) (Nat.le_of_ble_eq_true rfl) rfl ⟨Nat.le_of_ble_eq_true rfl, Nat.le_of_ble_eq_true rfl⟩ (lm_mono (lm_rg (kq_ofCard (by omega))) (fun v62 g' e => ?_))
              obtain ⟨r_v62, e_v62, rfl⟩ := e
              replace G := G v62 r_v62 e_v62
              refine lw_icmp_ne (pc := 121) (tgt := 187) dL_isWhole_121 (by decide) (fun c63 => ?_) (fun c63 => ?_)
              · replace G := G.1 c63
                exact G
              · replace G := G.2 c63
                refine lw_aload_n (pc := 124) dL_isWhole_124 rfl ?_
                refine lw_iload (pc := 125) dL_isWhole_125 rfl ?_
                refine lw_iconst (pc := 127) dL_isWhole_127 ?_
                refine lw_invV (pc := 128) (md' := m_X6_ofCard) (as := [(.inl v4), (.inl 1)]) dL_isWhole_128 mo_X6_ofCard im_X6_ofCard se_X6_ofCard ml_L_22 rfl rfl (by omega) (Nat.le_of_ble_eq_true rfl) rfl ⟨Nat.le_of_ble_eq_true rfl, Nat.le_of_ble_eq_true rfl⟩ (lm_mono (lm_rg (kq_ofCard (by omega))) (fun v64 g' e => ?_))
                obtain ⟨r_v64, e_v64, rfl⟩ := e
                replace G := G v64 r_v64 e_v64
                refine lw_sipush (pc := 131) dL_isWhole_131 ?_
                refine lw_icmp_gt (pc := 134) (tgt := 187) dL_isWhole_134 (by decide) (fun c65 => ?_) (fun c65 => ?_)
                · replace G := G.1 c65
                  exact G
                · replace G := G.2 c65
                  refine lw_aload_n (pc := 137) dL_isWhole_137 rfl ?_
                  refine lw_iload (pc := 138) dL_isWhole_138 rfl ?_
                  refine lw_iconst (pc := 140) dL_isWhole_140 ?_
                  refine lw_invV (pc := 141) (md' := m_X6_ofCard) (as := [(.inl v4), (.inl 2)]) dL_isWhole_141 mo_X6_ofCard im_X6_ofCard se_X6_ofCard ml_L_22 rfl rfl (by omega) (Nat.le_of_ble_eq_true rfl) rfl ⟨Nat.le_of_ble_eq_true rfl, Nat.le_of_ble_eq_true rfl⟩ (lm_mono (lm_rg (kq_ofCard (by omega))) (fun v66 g' e => ?_))
                  obtain ⟨r_v66, e_v66, rfl⟩ := e
                  replace G := G v66 r_v66 e_v66
                  refine lw_if_lt (pc := 144) (tgt := 187) dL_isWhole_144 (by decide) (fun c67 => ?_) (fun c67 => ?_)
                  · replace G := G.1 c67
                    exact G
                  · replace G := G.2 c67
                    refine lw_iload (pc := 147) dL_isWhole_147 rfl ?_
                    refine lw_bipush (pc := 149) dL_isWhole_149 ?_
                    refine lw_icmp_ne (pc := 151) (tgt := 158) dL_isWhole_151 (by decide) (fun c68 => ?_) (fun c68 => ?_)
                    · replace G := G.1 c68
                      refine lw_iconst (pc := 158) dL_isWhole_158 ?_
                      refine lw_aload_n (pc := 159) dL_isWhole_159 rfl ?_
                      refine lw_iconst (pc := 160) dL_isWhole_160 ?_
                      refine lw_invV (pc := 161) (md' := m_X6_total) (as := [(.inl 0)]) dL_isWhole_161 mo_X6_total im_X6_total se_X6_total ml_L_13 rfl rfl (by omega) (Nat.le_of_ble_eq_true rfl) rfl ⟨Nat.le_of_ble_eq_true rfl, Nat.le_of_ble_eq_true rfl⟩ (lm_mono (lm_rg (kq_total (by omega))) (fun v69 g' e => ?_))
                      obtain ⟨r_v69, e_v69, rfl⟩ := e
                      replace G := G v69 r_v69 e_v69
                      refine lw_iconst (pc := 164) dL_isWhole_164 ?_
                      refine lw_icmp_ne (pc := 165) (tgt := 172) dL_isWhole_165 (by decide) (fun c70 => ?_) (fun c70 => ?_)
                      · replace G := G.1 c70
                        refine lw_iconst (pc := 172) dL_isWhole_172 ?_
                        refine lw_icmp_ne (pc := 173) (tgt := 187) dL_isWhole_173 (by decide) (fun h => absurd h (by decide)) (fun _ => ?_)
                        refine lw_iload (pc := 176) dL_isWhole_176 rfl ?_
                        refine lw_bipush (pc := 178) dL_isWhole_178 ?_
                        refine lw_icmp_ge (pc := 180) (tgt := 187) dL_isWhole_180 (by decide) (fun c72 => ?_) (fun c72 => ?_)
                        · replace G := G.1 c72
                          exact G
                        · replace G := G.2 c72
                          refine lw_iconst (pc := 183) dL_isWhole_183 ?_
                          refine lw_goto (pc := 184) (tgt := 188) dL_isWhole_184 (by decide) ?_
                          refine lw_istore (pc := 188) (ls' := [some (.inr (some 1)), some (.inl (x1 + v6)), some (.inl (x2 + 1)), some (.inl x3), some (.inl x4), some (.inl 1), some (.inl x6), some (.inl v4), some (.inl v5)]) dL_isWhole_188 (Nat.le_of_ble_eq_true rfl) rfl ?_
                          obtain ⟨s73, G⟩ := G
                          refine lw_iinc (pc := 190) (v' := x6 + 1) (ls' := [some (.inr (some 1)), some (.inl (x1 + v6)), some (.inl (x2 + 1)), some (.inl x3), some (.inl x4), some (.inl 1), some (.inl (x6 + 1)), some (.inl v4), some (.inl v5)]) dL_isWhole_190 rfl s73 rfl rfl ?_
                          refine lw_goto (pc := 193) (tgt := 15) dL_isWhole_193 (by decide) ?_
                          exact lw_fewer (show subl [some (.inr (some 1)), some (.inl (x1 + v6)), some (.inl (x2 + 1)), some (.inl x3), some (.inl x4), some (.inl 1), some (.inl (x6 + 1)), none, none] [some (.inr (some 1)), some (.inl (x1 + v6)), some (.inl (x2 + 1)), some (.inl x3), some (.inl x4), some (.inl 1), some (.inl (x6 + 1)), some (.inl v4), some (.inl v5)] from (And.intro rfl (And.intro rfl (And.intro rfl (And.intro rfl (And.intro rfl (And.intro rfl (And.intro rfl trivial)))))))) (G)
                      · replace G := G.2 c70
                        refine lw_iconst (pc := 168) dL_isWhole_168 ?_
                        refine lw_goto (pc := 169) (tgt := 173) dL_isWhole_169 (by decide) ?_
                        refine lw_icmp_ne (pc := 173) (tgt := 187) dL_isWhole_173 (by decide) (fun _ => ?_) (fun h => absurd (by decide) h)
                        exact G
                    · replace G := G.2 c68
                      refine lw_iconst (pc := 154) dL_isWhole_154 ?_
                      refine lw_goto (pc := 155) (tgt := 159) dL_isWhole_155 (by decide) ?_
                      refine lw_aload_n (pc := 159) dL_isWhole_159 rfl ?_
                      refine lw_iconst (pc := 160) dL_isWhole_160 ?_
                      refine lw_invV (pc := 161) (md' := m_X6_total) (as := [(.inl 0)]) dL_isWhole_161 mo_X6_total im_X6_total se_X6_total ml_L_13 rfl rfl (by omega) (Nat.le_of_ble_eq_true rfl) rfl ⟨Nat.le_of_ble_eq_true rfl, Nat.le_of_ble_eq_true rfl⟩ (lm_mono (lm_rg (kq_total (by omega))) (fun v75 g' e => ?_))
                      obtain ⟨r_v75, e_v75, rfl⟩ := e
                      replace G := G v75 r_v75 e_v75
                      refine lw_iconst (pc := 164) dL_isWhole_164 ?_
                      refine lw_icmp_ne (pc := 165) (tgt := 172) dL_isWhole_165 (by decide) (fun c76 => ?_) (fun c76 => ?_)
                      · replace G := G.1 c76
                        refine lw_iconst (pc := 172) dL_isWhole_172 ?_
                        refine lw_icmp_ne (pc := 173) (tgt := 187) dL_isWhole_173 (by decide) (fun _ => ?_) (fun h => absurd (by decide) h)
                        exact G
                      · replace G := G.2 c76
                        refine lw_iconst (pc := 168) dL_isWhole_168 ?_
                        refine lw_goto (pc := 169) (tgt := 173) dL_isWhole_169 (by decide) ?_
                        refine lw_icmp_ne (pc := 173) (tgt := 187) dL_isWhole_173 (by decide) (fun h => absurd h (by decide)) (fun _ => ?_)
                        refine lw_iload (pc := 176) dL_isWhole_176 rfl ?_
                        refine lw_bipush (pc := 178) dL_isWhole_178 ?_
                        refine lw_icmp_ge (pc := 180) (tgt := 187) dL_isWhole_180 (by decide) (fun h => absurd h (by omega)) (fun _ => ?_)
                        refine lw_iconst (pc := 183) dL_isWhole_183 ?_
                        refine lw_goto (pc := 184) (tgt := 188) dL_isWhole_184 (by decide) ?_
                        refine lw_istore (pc := 188) (ls' := [some (.inr (some 1)), some (.inl (x1 + v6)), some (.inl (x2 + 1)), some (.inl x3), some (.inl x4), some (.inl 1), some (.inl x6), some (.inl v4), some (.inl v5)]) dL_isWhole_188 (Nat.le_of_ble_eq_true rfl) rfl ?_
                        obtain ⟨s80, G⟩ := G
                        refine lw_iinc (pc := 190) (v' := x6 + 1) (ls' := [some (.inr (some 1)), some (.inl (x1 + v6)), some (.inl (x2 + 1)), some (.inl x3), some (.inl x4), some (.inl 1), some (.inl (x6 + 1)), some (.inl v4), some (.inl v5)]) dL_isWhole_190 rfl s80 rfl rfl ?_
                        refine lw_goto (pc := 193) (tgt := 15) dL_isWhole_193 (by decide) ?_
                        exact lw_fewer (show subl [some (.inr (some 1)), some (.inl (x1 + v6)), some (.inl (x2 + 1)), some (.inl x3), some (.inl x4), some (.inl 1), some (.inl (x6 + 1)), none, none] [some (.inr (some 1)), some (.inl (x1 + v6)), some (.inl (x2 + 1)), some (.inl x3), some (.inl x4), some (.inl 1), some (.inl (x6 + 1)), some (.inl v4), some (.inl v5)] from (And.intro rfl (And.intro rfl (And.intro rfl (And.intro rfl (And.intro rfl (And.intro rfl (And.intro rfl trivial)))))))) (G)
            · replace G := G.2 c60
              refine lw_iload (pc := 93) dL_isWhole_93 rfl ?_
              refine lw_aload_n (pc := 95) dL_isWhole_95 rfl ?_
              refine lw_iload (pc := 96) dL_isWhole_96 rfl ?_
              refine lw_iconst (pc := 98) dL_isWhole_98 ?_
              obtain ⟨s81, G⟩ := G
              refine lw_isub (pc := 99) (v := x6 - 1) dL_isWhole_99 s81 rfl ?_
              refine lw_invV (pc := 100) (md' := m_X6_card) (as := [(.inl (x6 - 1))]) dL_isWhole_100 mo_X6_card im_X6_card se_X6_card ml_L_19 rfl rfl (by omega) (Nat.le_of_ble_eq_true rfl) rfl ⟨Nat.le_of_ble_eq_true rfl, Nat.le_of_ble_eq_true rfl⟩ (lm_mono (lm_rg (kq_card (by omega))) (fun v82 g' e => ?_))
              obtain ⟨r_v82, e_v82, rfl⟩ := e
              replace G := G v82 r_v82 e_v82
              refine lw_icmp_le (pc := 103) (tgt := 187) dL_isWhole_103 (by decide) (fun c83 => ?_) (fun c83 => ?_)
              · replace G := G.1 c83
                exact G
              · replace G := G.2 c83
                refine lw_aload_n (pc := 106) dL_isWhole_106 rfl ?_
                refine lw_bipush (pc := 107) dL_isWhole_107 ?_
                refine lw_iload (pc := 109) dL_isWhole_109 rfl ?_
                refine lw_invV (pc := 111) (md' := m_X6_count) (as := [(.inl 8), (.inl v4)]) dL_isWhole_111 mo_X6_count im_X6_count se_X6_count ml_L_29 rfl rfl (by omega) (Nat.le_of_ble_eq_true rfl) rfl ⟨Nat.le_of_ble_eq_true rfl, Nat.le_of_ble_eq_true rfl⟩ (lm_mono (lm_rg (kq_count (by omega))) (fun v84 g' e => ?_))
                obtain ⟨r_v84, e_v84, rfl⟩ := e
                replace G := G v84 r_v84 e_v84
                refine lw_aload_n (pc := 114) dL_isWhole_114 rfl ?_
                refine lw_iload (pc := 115) dL_isWhole_115 rfl ?_
                refine lw_iconst (pc := 117) dL_isWhole_117 ?_
                refine lw_invV (pc := 118) (md' := m_X6_ofCard) (as := [(.inl v4), (.inl 0)]) dL_isWhole_118 mo_X6_ofCard im_X6_ofCard se_X6_ofCard ml_L_22 rfl rfl (by omega) (Nat.le_of_ble_eq_true rfl) rfl ⟨Nat.le_of_ble_eq_true rfl, Nat.le_of_ble_eq_true rfl⟩ (lm_mono (lm_rg (kq_ofCard (by omega))) (fun v85 g' e => ?_))
                obtain ⟨r_v85, e_v85, rfl⟩ := e
                replace G := G v85 r_v85 e_v85
                refine lw_icmp_ne (pc := 121) (tgt := 187) dL_isWhole_121 (by decide) (fun c86 => ?_) (fun c86 => ?_)
                · replace G := G.1 c86
                  exact G
                · replace G := G.2 c86
                  refine lw_aload_n (pc := 124) dL_isWhole_124 rfl ?_
                  refine lw_iload (pc := 125) dL_isWhole_125 rfl ?_
                  refine lw_iconst (pc := 127) dL_isWhole_127 ?_
                  refine lw_invV (pc := 128) (md' := m_X6_ofCard) (as := [(.inl v4), (.inl 1)]) dL_isWhole_128 mo_X6_ofCard im_X6_ofCard se_X6_ofCard ml_L_22 rfl rfl (by omega) (Nat.le_of_ble_eq_true rfl) rfl ⟨Nat.le_of_ble_eq_true rfl, Nat.le_of_ble_eq_true rfl⟩ (lm_mono (lm_rg (kq_ofCard (by omega))) (fun v87 g' e => ?_))
                  obtain ⟨r_v87, e_v87, rfl⟩ := e
                  replace G := G v87 r_v87 e_v87
                  refine lw_sipush (pc := 131) dL_isWhole_131 ?_
                  refine lw_icmp_gt (pc := 134) (tgt := 187) dL_isWhole_134 (by decide) (fun c88 => ?_) (fun c88 => ?_)
                  · replace G := G.1 c88
                    exact G
                  · replace G := G.2 c88
                    refine lw_aload_n (pc := 137) dL_isWhole_137 rfl ?_
                    refine lw_iload (pc := 138) dL_isWhole_138 rfl ?_
                    refine lw_iconst (pc := 140) dL_isWhole_140 ?_
                    refine lw_invV (pc := 141) (md' := m_X6_ofCard) (as := [(.inl v4), (.inl 2)]) dL_isWhole_141 mo_X6_ofCard im_X6_ofCard se_X6_ofCard ml_L_22 rfl rfl (by omega) (Nat.le_of_ble_eq_true rfl) rfl ⟨Nat.le_of_ble_eq_true rfl, Nat.le_of_ble_eq_true rfl⟩ (lm_mono (lm_rg (kq_ofCard (by omega))) (fun v89 g' e => ?_))
                    obtain ⟨r_v89, e_v89, rfl⟩ := e
                    replace G := G v89 r_v89 e_v89
                    refine lw_if_lt (pc := 144) (tgt := 187) dL_isWhole_144 (by decide) (fun c90 => ?_) (fun c90 => ?_)
                    · replace G := G.1 c90
                      exact G
                    · replace G := G.2 c90
                      refine lw_iload (pc := 147) dL_isWhole_147 rfl ?_
                      refine lw_bipush (pc := 149) dL_isWhole_149 ?_
                      refine lw_icmp_ne (pc := 151) (tgt := 158) dL_isWhole_151 (by decide) (fun c91 => ?_) (fun c91 => ?_)
                      · replace G := G.1 c91
                        refine lw_iconst (pc := 158) dL_isWhole_158 ?_
                        refine lw_aload_n (pc := 159) dL_isWhole_159 rfl ?_
                        refine lw_iconst (pc := 160) dL_isWhole_160 ?_
                        refine lw_invV (pc := 161) (md' := m_X6_total) (as := [(.inl 0)]) dL_isWhole_161 mo_X6_total im_X6_total se_X6_total ml_L_13 rfl rfl (by omega) (Nat.le_of_ble_eq_true rfl) rfl ⟨Nat.le_of_ble_eq_true rfl, Nat.le_of_ble_eq_true rfl⟩ (lm_mono (lm_rg (kq_total (by omega))) (fun v92 g' e => ?_))
                        obtain ⟨r_v92, e_v92, rfl⟩ := e
                        replace G := G v92 r_v92 e_v92
                        refine lw_iconst (pc := 164) dL_isWhole_164 ?_
                        refine lw_icmp_ne (pc := 165) (tgt := 172) dL_isWhole_165 (by decide) (fun c93 => ?_) (fun c93 => ?_)
                        · replace G := G.1 c93
                          refine lw_iconst (pc := 172) dL_isWhole_172 ?_
                          refine lw_icmp_ne (pc := 173) (tgt := 187) dL_isWhole_173 (by decide) (fun h => absurd h (by decide)) (fun _ => ?_)
                          refine lw_iload (pc := 176) dL_isWhole_176 rfl ?_
                          refine lw_bipush (pc := 178) dL_isWhole_178 ?_
                          refine lw_icmp_ge (pc := 180) (tgt := 187) dL_isWhole_180 (by decide) (fun c95 => ?_) (fun c95 => ?_)
                          · replace G := G.1 c95
                            exact G
                          · replace G := G.2 c95
                            refine lw_iconst (pc := 183) dL_isWhole_183 ?_
                            refine lw_goto (pc := 184) (tgt := 188) dL_isWhole_184 (by decide) ?_
                            refine lw_istore (pc := 188) (ls' := [some (.inr (some 1)), some (.inl (x1 + v6)), some (.inl (x2 + 1)), some (.inl x3), some (.inl x4), some (.inl 1), some (.inl x6), some (.inl v4), some (.inl v5)]) dL_isWhole_188 (Nat.le_of_ble_eq_true rfl) rfl ?_
                            obtain ⟨s96, G⟩ := G
                            refine lw_iinc (pc := 190) (v' := x6 + 1) (ls' := [some (.inr (some 1)), some (.inl (x1 + v6)), some (.inl (x2 + 1)), some (.inl x3), some (.inl x4), some (.inl 1), some (.inl (x6 + 1)), some (.inl v4), some (.inl v5)]) dL_isWhole_190 rfl s96 rfl rfl ?_
                            refine lw_goto (pc := 193) (tgt := 15) dL_isWhole_193 (by decide) ?_
                            exact lw_fewer (show subl [some (.inr (some 1)), some (.inl (x1 + v6)), some (.inl (x2 + 1)), some (.inl x3), some (.inl x4), some (.inl 1), some (.inl (x6 + 1)), none, none] [some (.inr (some 1)), some (.inl (x1 + v6)), some (.inl (x2 + 1)), some (.inl x3), some (.inl x4), some (.inl 1), some (.inl (x6 + 1)), some (.inl v4), some (.inl v5)] from (And.intro rfl (And.intro rfl (And.intro rfl (And.intro rfl (And.intro rfl (And.intro rfl (And.intro rfl trivial)))))))) (G)
                        · replace G := G.2 c93
                          refine lw_iconst (pc := 168) dL_isWhole_168 ?_
                          refine lw_goto (pc := 169) (tgt := 173) dL_isWhole_169 (by decide) ?_
                          refine lw_icmp_ne (pc := 173) (tgt := 187) dL_isWhole_173 (by decide) (fun _ => ?_) (fun h => absurd (by decide) h)
                          exact G
                      · replace G := G.2 c91
                        refine lw_iconst (pc := 154) dL_isWhole_154 ?_
                        refine lw_goto (pc := 155) (tgt := 159) dL_isWhole_155 (by decide) ?_
                        refine lw_aload_n (pc := 159) dL_isWhole_159 rfl ?_
                        refine lw_iconst (pc := 160) dL_isWhole_160 ?_
                        refine lw_invV (pc := 161) (md' := m_X6_total) (as := [(.inl 0)]) dL_isWhole_161 mo_X6_total im_X6_total se_X6_total ml_L_13 rfl rfl (by omega) (Nat.le_of_ble_eq_true rfl) rfl ⟨Nat.le_of_ble_eq_true rfl, Nat.le_of_ble_eq_true rfl⟩ (lm_mono (lm_rg (kq_total (by omega))) (fun v98 g' e => ?_))
                        obtain ⟨r_v98, e_v98, rfl⟩ := e
                        replace G := G v98 r_v98 e_v98
                        refine lw_iconst (pc := 164) dL_isWhole_164 ?_
                        refine lw_icmp_ne (pc := 165) (tgt := 172) dL_isWhole_165 (by decide) (fun c99 => ?_) (fun c99 => ?_)
                        · replace G := G.1 c99
                          refine lw_iconst (pc := 172) dL_isWhole_172 ?_
                          refine lw_icmp_ne (pc := 173) (tgt := 187) dL_isWhole_173 (by decide) (fun _ => ?_) (fun h => absurd (by decide) h)
                          exact G
                        · replace G := G.2 c99
                          refine lw_iconst (pc := 168) dL_isWhole_168 ?_
                          refine lw_goto (pc := 169) (tgt := 173) dL_isWhole_169 (by decide) ?_
                          refine lw_icmp_ne (pc := 173) (tgt := 187) dL_isWhole_173 (by decide) (fun h => absurd h (by decide)) (fun _ => ?_)
                          refine lw_iload (pc := 176) dL_isWhole_176 rfl ?_
                          refine lw_bipush (pc := 178) dL_isWhole_178 ?_
                          refine lw_icmp_ge (pc := 180) (tgt := 187) dL_isWhole_180 (by decide) (fun h => absurd h (by omega)) (fun _ => ?_)
                          refine lw_iconst (pc := 183) dL_isWhole_183 ?_
                          refine lw_goto (pc := 184) (tgt := 188) dL_isWhole_184 (by decide) ?_
                          refine lw_istore (pc := 188) (ls' := [some (.inr (some 1)), some (.inl (x1 + v6)), some (.inl (x2 + 1)), some (.inl x3), some (.inl x4), some (.inl 1), some (.inl x6), some (.inl v4), some (.inl v5)]) dL_isWhole_188 (Nat.le_of_ble_eq_true rfl) rfl ?_
                          obtain ⟨s103, G⟩ := G
                          refine lw_iinc (pc := 190) (v' := x6 + 1) (ls' := [some (.inr (some 1)), some (.inl (x1 + v6)), some (.inl (x2 + 1)), some (.inl x3), some (.inl x4), some (.inl 1), some (.inl (x6 + 1)), some (.inl v4), some (.inl v5)]) dL_isWhole_190 rfl s103 rfl rfl ?_
                          refine lw_goto (pc := 193) (tgt := 15) dL_isWhole_193 (by decide) ?_
                          exact lw_fewer (show subl [some (.inr (some 1)), some (.inl (x1 + v6)), some (.inl (x2 + 1)), some (.inl x3), some (.inl x4), some (.inl 1), some (.inl (x6 + 1)), none, none] [some (.inr (some 1)), some (.inl (x1 + v6)), some (.inl (x2 + 1)), some (.inl x3), some (.inl x4), some (.inl 1), some (.inl (x6 + 1)), some (.inl v4), some (.inl v5)] from (And.intro rfl (And.intro rfl (And.intro rfl (And.intro rfl (And.intro rfl (And.intro rfl (And.intro rfl trivial)))))))) (G)
set_option maxRecDepth 100000 in
set_option maxHeartbeats 4000000 in
theorem lc_isWhole_199 {d : Nat} {P : Int → Gs → Prop} {g : Gs} {x1 x2 x3 x4 x5 x6 : Int} (hd : 20 ≤ d)
  (G :
    ((16 ≤ x6 → (
      LW m_L_isWhole d none P 285 [some (.inr (some 1)), some (.inl x1), some (.inl x2), some (.inl x3), some (.inl x4), some (.inl x5), some (.inl x6), none, none] [] g (0, 0)
      )) ∧ (¬ (16 ≤ x6) → (
      ((x5 = 0 → (
        LW m_L_isWhole d none P 285 [some (.inr (some 1)), some (.inl x1), some (.inl x2), some (.inl x3), some (.inl x4), some (.inl x5), some (.inl x6), none, none] [] g (0, 0)
        )) ∧ (¬ (x5 = 0) → (
        (∀ v3 : Int, rg v3 → v3 = countO 4 x6 g.1.1 → (
          (rg (x3 + v3)) ∧
          (∀ v5 : Int, rg v5 → v5 = countO 4 x4 g.1.1 → (
            ((v3 ≤ v5 → (
              (rg (2 * x6)) ∧
              (∀ v8 : Int, rg v8 → v8 = countO 5 (2 * x6) g.1.1 → (
                (rg ((2 * x6) + 1)) ∧
                (∀ v10 : Int, rg v10 → v10 = countO 5 ((2 * x6) + 1) g.1.1 → (
                  (rg (v8 + v10)) ∧
                  ((¬ v3 = v8 + v10 → (
                    LW m_L_isWhole d none P 276 [some (.inr (some 1)), some (.inl x1), some (.inl x2), some (.inl (x3 + v3)), some (.inl x4), some (.inl x5), some (.inl x6), some (.inl v3), none] [] g (0, 0)
                    )) ∧ (¬ (¬ v3 = v8 + v10) → (
                    (rg (x6 + 1)) ∧
                    LW m_L_isWhole d none P 199 [some (.inr (some 1)), some (.inl x1), some (.inl x2), some (.inl (x3 + v3)), some (.inl x4), some (.inl 1), some (.inl (x6 + 1)), none, none] [] g (0, 0)
                    )))))))
              )) ∧ (¬ (v3 ≤ v5) → (
              (rg (2 * x6)) ∧
              (∀ v15 : Int, rg v15 → v15 = countO 5 (2 * x6) g.1.1 → (
                (rg ((2 * x6) + 1)) ∧
                (∀ v17 : Int, rg v17 → v17 = countO 5 ((2 * x6) + 1) g.1.1 → (
                  (rg (v15 + v17)) ∧
                  ((¬ v3 = v15 + v17 → (
                    LW m_L_isWhole d none P 276 [some (.inr (some 1)), some (.inl x1), some (.inl x2), some (.inl (x3 + v3)), some (.inl x6), some (.inl x5), some (.inl x6), some (.inl v3), none] [] g (0, 0)
                    )) ∧ (¬ (¬ v3 = v15 + v17) → (
                    (rg (x6 + 1)) ∧
                    LW m_L_isWhole d none P 199 [some (.inr (some 1)), some (.inl x1), some (.inl x2), some (.inl (x3 + v3)), some (.inl x6), some (.inl 1), some (.inl (x6 + 1)), none, none] [] g (0, 0)
                    )))))))
              )))))))
        )))
      )))) :
  LW m_L_isWhole d none P 199 [some (.inr (some 1)), some (.inl x1), some (.inl x2), some (.inl x3), some (.inl x4), some (.inl x5), some (.inl x6), none, none] [] g (0, 0) := by
  refine lw_iload (pc := 199) dL_isWhole_199 rfl ?_
  refine lw_bipush (pc := 201) dL_isWhole_201 ?_
  refine lw_icmp_ge (pc := 203) (tgt := 285) dL_isWhole_203 (by decide) (fun c1 => ?_) (fun c1 => ?_)
  · replace G := G.1 c1
    exact G
  · replace G := G.2 c1
    refine lw_iload (pc := 206) dL_isWhole_206 rfl ?_
    refine lw_if_eq (pc := 208) (tgt := 285) dL_isWhole_208 (by decide) (fun c2 => ?_) (fun c2 => ?_)
    · replace G := G.1 c2
      exact G
    · replace G := G.2 c2
      refine lw_aload_n (pc := 211) dL_isWhole_211 rfl ?_
      refine lw_iconst (pc := 212) dL_isWhole_212 ?_
      refine lw_iload (pc := 213) dL_isWhole_213 rfl ?_
      refine lw_invV (pc := 215) (md' := m_X6_count) (as := [(.inl 4), (.inl x6)]) dL_isWhole_215 mo_X6_count im_X6_count se_X6_count ml_L_29 rfl rfl (by omega) (Nat.le_of_ble_eq_true rfl) rfl ⟨Nat.le_of_ble_eq_true rfl, Nat.le_of_ble_eq_true rfl⟩ (lm_mono (lm_rg (kq_count (by omega))) (fun v3 g' e => ?_))
      obtain ⟨r_v3, e_v3, rfl⟩ := e
      replace G := G v3 r_v3 e_v3
      refine lw_istore (pc := 218) (ls' := [some (.inr (some 1)), some (.inl x1), some (.inl x2), some (.inl x3), some (.inl x4), some (.inl x5), some (.inl x6), some (.inl v3), none]) dL_isWhole_218 (Nat.le_of_ble_eq_true rfl) rfl ?_
      refine lw_iload_n (pc := 220) dL_isWhole_220 rfl ?_
      refine lw_iload (pc := 221) dL_isWhole_221 rfl ?_
      obtain ⟨s4, G⟩ := G
      refine lw_iadd (pc := 223) (v := x3 + v3) dL_isWhole_223 s4 rfl ?_
      refine lw_istore_n (pc := 224) (ls' := [some (.inr (some 1)), some (.inl x1), some (.inl x2), some (.inl (x3 + v3)), some (.inl x4), some (.inl x5), some (.inl x6), some (.inl v3), none]) dL_isWhole_224 (Nat.le_of_ble_eq_true rfl) rfl ?_
      refine lw_iload (pc := 225) dL_isWhole_225 rfl ?_
      refine lw_aload_n (pc := 227) dL_isWhole_227 rfl ?_
      refine lw_iconst (pc := 228) dL_isWhole_228 ?_
      refine lw_iload (pc := 229) dL_isWhole_229 rfl ?_
      refine lw_invV (pc := 231) (md' := m_X6_count) (as := [(.inl 4), (.inl x4)]) dL_isWhole_231 mo_X6_count im_X6_count se_X6_count ml_L_29 rfl rfl (by omega) (Nat.le_of_ble_eq_true rfl) rfl ⟨Nat.le_of_ble_eq_true rfl, Nat.le_of_ble_eq_true rfl⟩ (lm_mono (lm_rg (kq_count (by omega))) (fun v5 g' e => ?_))
      obtain ⟨r_v5, e_v5, rfl⟩ := e
      replace G := G v5 r_v5 e_v5
      refine lw_icmp_le (pc := 234) (tgt := 242) dL_isWhole_234 (by decide) (fun c6 => ?_) (fun c6 => ?_)
      · replace G := G.1 c6
        refine lw_iload (pc := 242) dL_isWhole_242 rfl ?_
        refine lw_istore (pc := 244) (ls' := [some (.inr (some 1)), some (.inl x1), some (.inl x2), some (.inl (x3 + v3)), some (.inl x4), some (.inl x5), some (.inl x6), some (.inl v3), none]) dL_isWhole_244 (Nat.le_of_ble_eq_true rfl) rfl ?_
        refine lw_iload (pc := 246) dL_isWhole_246 rfl ?_
        refine lw_aload_n (pc := 248) dL_isWhole_248 rfl ?_
        refine lw_iconst (pc := 249) dL_isWhole_249 ?_
        refine lw_iconst (pc := 250) dL_isWhole_250 ?_
        refine lw_iload (pc := 251) dL_isWhole_251 rfl ?_
        obtain ⟨s7, G⟩ := G
        refine lw_imul (pc := 253) (v := 2 * x6) dL_isWhole_253 s7 rfl ?_
        refine lw_invV (pc := 254) (md' := m_X6_count) (as := [(.inl 5), (.inl (2 * x6))]) dL_isWhole_254 mo_X6_count im_X6_count se_X6_count ml_L_29 rfl rfl (by omega) (Nat.le_of_ble_eq_true rfl) rfl ⟨Nat.le_of_ble_eq_true rfl, Nat.le_of_ble_eq_true rfl⟩ (lm_mono (lm_rg (kq_count (by omega))) (fun v8 g' e => ?_))
        obtain ⟨r_v8, e_v8, rfl⟩ := e
        replace G := G v8 r_v8 e_v8
        refine lw_aload_n (pc := 257) dL_isWhole_257 rfl ?_
        refine lw_iconst (pc := 258) dL_isWhole_258 ?_
        refine lw_iconst (pc := 259) dL_isWhole_259 ?_
        refine lw_iload (pc := 260) dL_isWhole_260 rfl ?_
        refine lw_imul (pc := 262) (v := 2 * x6) dL_isWhole_262 s7 rfl ?_
        refine lw_iconst (pc := 263) dL_isWhole_263 ?_
        obtain ⟨s9, G⟩ := G
        refine lw_iadd (pc := 264) (v := (2 * x6) + 1) dL_isWhole_264 s9 rfl ?_
        refine lw_invV (pc := 265) (md' := m_X6_count) (as := [(.inl 5), (.inl ((2 * x6) + 1))]) dL_isWhole_265 mo_X6_count im_X6_count se_X6_count ml_L_29 rfl rfl (by omega) (Nat.le_of_ble_eq_true rfl) rfl ⟨Nat.le_of_ble_eq_true rfl, Nat.le_of_ble_eq_true rfl⟩ (lm_mono (lm_rg (kq_count (by omega))) (fun v10 g' e => ?_))
        obtain ⟨r_v10, e_v10, rfl⟩ := e
        replace G := G v10 r_v10 e_v10
        obtain ⟨s11, G⟩ := G
        refine lw_iadd (pc := 268) (v := v8 + v10) dL_isWhole_268 s11 rfl ?_
        refine lw_icmp_ne (pc := 269) (tgt := 276) dL_isWhole_269 (by decide) (fun c12 => ?_) (fun c12 => ?_)
        · replace G := G.1 c12
          exact G
        · replace G := G.2 c12
          refine lw_iconst (pc := 272) dL_isWhole_272 ?_
          refine lw_goto (pc := 273) (tgt := 277) dL_isWhole_273 (by decide) ?_
          refine lw_istore (pc := 277) (ls' := [some (.inr (some 1)), some (.inl x1), some (.inl x2), some (.inl (x3 + v3)), some (.inl x4), some (.inl 1), some (.inl x6), some (.inl v3), none]) dL_isWhole_277 (Nat.le_of_ble_eq_true rfl) rfl ?_
          obtain ⟨s13, G⟩ := G
          refine lw_iinc (pc := 279) (v' := x6 + 1) (ls' := [some (.inr (some 1)), some (.inl x1), some (.inl x2), some (.inl (x3 + v3)), some (.inl x4), some (.inl 1), some (.inl (x6 + 1)), some (.inl v3), none]) dL_isWhole_279 rfl s13 rfl rfl ?_
          refine lw_goto (pc := 282) (tgt := 199) dL_isWhole_282 (by decide) ?_
          exact lw_fewer (show subl [some (.inr (some 1)), some (.inl x1), some (.inl x2), some (.inl (x3 + v3)), some (.inl x4), some (.inl 1), some (.inl (x6 + 1)), none, none] [some (.inr (some 1)), some (.inl x1), some (.inl x2), some (.inl (x3 + v3)), some (.inl x4), some (.inl 1), some (.inl (x6 + 1)), some (.inl v3), none] from (And.intro rfl (And.intro rfl (And.intro rfl (And.intro rfl (And.intro rfl (And.intro rfl (And.intro rfl trivial)))))))) (G)
      · replace G := G.2 c6
        refine lw_iload (pc := 237) dL_isWhole_237 rfl ?_
        refine lw_goto (pc := 239) (tgt := 244) dL_isWhole_239 (by decide) ?_
        refine lw_istore (pc := 244) (ls' := [some (.inr (some 1)), some (.inl x1), some (.inl x2), some (.inl (x3 + v3)), some (.inl x6), some (.inl x5), some (.inl x6), some (.inl v3), none]) dL_isWhole_244 (Nat.le_of_ble_eq_true rfl) rfl ?_
        refine lw_iload (pc := 246) dL_isWhole_246 rfl ?_
        refine lw_aload_n (pc := 248) dL_isWhole_248 rfl ?_
        refine lw_iconst (pc := 249) dL_isWhole_249 ?_
        refine lw_iconst (pc := 250) dL_isWhole_250 ?_
        refine lw_iload (pc := 251) dL_isWhole_251 rfl ?_
        obtain ⟨s14, G⟩ := G
        refine lw_imul (pc := 253) (v := 2 * x6) dL_isWhole_253 s14 rfl ?_
        refine lw_invV (pc := 254) (md' := m_X6_count) (as := [(.inl 5), (.inl (2 * x6))]) dL_isWhole_254 mo_X6_count im_X6_count se_X6_count ml_L_29 rfl rfl (by omega) (Nat.le_of_ble_eq_true rfl) rfl ⟨Nat.le_of_ble_eq_true rfl, Nat.le_of_ble_eq_true rfl⟩ (lm_mono (lm_rg (kq_count (by omega))) (fun v15 g' e => ?_))
        obtain ⟨r_v15, e_v15, rfl⟩ := e
        replace G := G v15 r_v15 e_v15
        refine lw_aload_n (pc := 257) dL_isWhole_257 rfl ?_
        refine lw_iconst (pc := 258) dL_isWhole_258 ?_
        refine lw_iconst (pc := 259) dL_isWhole_259 ?_
        refine lw_iload (pc := 260) dL_isWhole_260 rfl ?_
        refine lw_imul (pc := 262) (v := 2 * x6) dL_isWhole_262 s14 rfl ?_
        refine lw_iconst (pc := 263) dL_isWhole_263 ?_
        obtain ⟨s16, G⟩ := G
        refine lw_iadd (pc := 264) (v := (2 * x6) + 1) dL_isWhole_264 s16 rfl ?_
        refine lw_invV (pc := 265) (md' := m_X6_count) (as := [(.inl 5), (.inl ((2 * x6) + 1))]) dL_isWhole_265 mo_X6_count im_X6_count se_X6_count ml_L_29 rfl rfl (by omega) (Nat.le_of_ble_eq_true rfl) rfl ⟨Nat.le_of_ble_eq_true rfl, Nat.le_of_ble_eq_true rfl⟩ (lm_mono (lm_rg (kq_count (by omega))) (fun v17 g' e => ?_))
        obtain ⟨r_v17, e_v17, rfl⟩ := e
        replace G := G v17 r_v17 e_v17
        obtain ⟨s18, G⟩ := G
        refine lw_iadd (pc := 268) (v := v15 + v17) dL_isWhole_268 s18 rfl ?_
        refine lw_icmp_ne (pc := 269) (tgt := 276) dL_isWhole_269 (by decide) (fun c19 => ?_) (fun c19 => ?_)
        · replace G := G.1 c19
          exact G
        · replace G := G.2 c19
          refine lw_iconst (pc := 272) dL_isWhole_272 ?_
          refine lw_goto (pc := 273) (tgt := 277) dL_isWhole_273 (by decide) ?_
          refine lw_istore (pc := 277) (ls' := [some (.inr (some 1)), some (.inl x1), some (.inl x2), some (.inl (x3 + v3)), some (.inl x6), some (.inl 1), some (.inl x6), some (.inl v3), none]) dL_isWhole_277 (Nat.le_of_ble_eq_true rfl) rfl ?_
          obtain ⟨s20, G⟩ := G
          refine lw_iinc (pc := 279) (v' := x6 + 1) (ls' := [some (.inr (some 1)), some (.inl x1), some (.inl x2), some (.inl (x3 + v3)), some (.inl x6), some (.inl 1), some (.inl (x6 + 1)), some (.inl v3), none]) dL_isWhole_279 rfl s20 rfl rfl ?_
          refine lw_goto (pc := 282) (tgt := 199) dL_isWhole_282 (by decide) ?_
          exact lw_fewer (show subl [some (.inr (some 1)), some (.inl x1), some (.inl x2), some (.inl (x3 + v3)), some (.inl x6), some (.inl 1), some (.inl (x6 + 1)), none, none] [some (.inr (some 1)), some (.inl x1), some (.inl x2), some (.inl (x3 + v3)), some (.inl x6), some (.inl 1), some (.inl (x6 + 1)), some (.inl v3), none] from (And.intro rfl (And.intro rfl (And.intro rfl (And.intro rfl (And.intro rfl (And.intro rfl (And.intro rfl trivial)))))))) (G)
set_option maxRecDepth 100000 in
set_option maxHeartbeats 4000000 in
theorem lc_isWhole_285 {d : Nat} {P : Int → Gs → Prop} {g : Gs} {x1 x2 x3 x4 x5 x6 : Int} (hd : 20 ≤ d)
  (G :
    ((x5 = 0 → (
      LW m_L_isWhole d none P 447 [some (.inr (some 1)), some (.inl x1), some (.inl x2), some (.inl x3), some (.inl x4), some (.inl x5), some (.inl x6), none, none] [] g (0, 0)
      )) ∧ (¬ (x5 = 0) → (
      (∀ v2 : Int, rg v2 → v2 = totO 1 g → (
        ((¬ v2 = x1 → (
          LW m_L_isWhole d none P 447 [some (.inr (some 1)), some (.inl x1), some (.inl x2), some (.inl x3), some (.inl x4), some (.inl x5), some (.inl x6), none, none] [] g (0, 0)
          )) ∧ (¬ (¬ v2 = x1) → (
          (∀ v4 : Int, rg v4 → v4 = totO 2 g → (
            ((¬ v4 = x2 → (
              LW m_L_isWhole d none P 447 [some (.inr (some 1)), some (.inl x1), some (.inl x2), some (.inl x3), some (.inl x4), some (.inl x5), some (.inl x6), none, none] [] g (0, 0)
              )) ∧ (¬ (¬ v4 = x2) → (
              ((¬ x3 = x1 → (
                LW m_L_isWhole d none P 447 [some (.inr (some 1)), some (.inl x1), some (.inl x2), some (.inl x3), some (.inl x4), some (.inl x5), some (.inl x6), none, none] [] g (0, 0)
                )) ∧ (¬ (¬ x3 = x1) → (
                (∀ v7 : Int, rg v7 → v7 = countO 0 0 g.1.1 → (
                  ((¬ v7 = x1 → (
                    LW m_L_isWhole d none P 447 [some (.inr (some 1)), some (.inl x1), some (.inl x2), some (.inl x3), some (.inl x4), some (.inl x5), some (.inl x6), none, none] [] g (0, 0)
                    )) ∧ (¬ (¬ v7 = x1) → (
                    (∀ v9 : Int, rg v9 → v9 = thickO 4 g.1.1 → (
                      ((¬ x1 = 0 → (
                        ((¬ v9 = x4 → (
                          LW m_L_isWhole d none P 447 [some (.inr (some 1)), some (.inl x1), some (.inl x2), some (.inl x3), some (.inl x4), some (.inl x5), some (.inl x6), none, none] [] g (0, 0)
                          )) ∧ (¬ (¬ v9 = x4) → (
                          (∀ v12 : Int, rg v12 → v12 = totO 0 g → (
                            ((20 < v12 → (
                              LW m_L_isWhole d none P 447 [some (.inr (some 1)), some (.inl x1), some (.inl x2), some (.inl x3), some (.inl x4), some (.inl x5), some (.inl x6), none, none] [] g (0, 0)
                              )) ∧ (¬ (20 < v12) → (
                              (∀ v14 : Int, rg v14 → v14 = totO 3 g → (
                                ((200 < v14 → (
                                  LW m_L_isWhole d none P 447 [some (.inr (some 1)), some (.inl x1), some (.inl x2), some (.inl x3), some (.inl x4), some (.inl x5), some (.inl x6), none, none] [] g (0, 0)
                                  )) ∧ (¬ (200 < v14) → (
                                  (∀ v16 : Int, rg v16 → v16 = totO 4 g → (
                                    (∀ v17 : Int, rg v17 → v17 = totO 5 g → (
                                      (rg (v16 + v17)) ∧
                                      (∀ v19 : Int, rg v19 → v19 = totO 6 g → (
                                        (∀ v20 : Int, rg v20 → v20 = totO 7 g → (
                                          (rg (v19 + v20)) ∧
                                          (∀ v22 : Int, rg v22 → v22 = totO 8 g → (
                                            (rg ((v19 + v20) + v22)) ∧
                                            ((¬ v16 + v17 = (v19 + v20) + v22 → (
                                              LW m_L_isWhole d none P 447 [some (.inr (some 1)), some (.inl x1), some (.inl x2), some (.inl x3), some (.inl x4), some (.inl x5), some (.inl x6), none, none] [] g (0, 0)
                                              )) ∧ (¬ (¬ v16 + v17 = (v19 + v20) + v22) → (
                                              (∀ v25 : Int, rg v25 → v25 = totO 3 g → (
                                                (∀ v26 : Int, rg v26 → v26 = totO 7 g → (
                                                  ((v26 < v25 → (
                                                    LW m_L_isWhole d none P 447 [some (.inr (some 1)), some (.inl x1), some (.inl x2), some (.inl x3), some (.inl x4), some (.inl x5), some (.inl x6), none, none] [] g (0, 0)
                                                    )) ∧ (¬ (v26 < v25) → (
                                                    (∀ v28 : Int, rg v28 → v28 = totO 9 g → (
                                                      (∀ v29 : Int, rg v29 → v29 = totO 4 g → (
                                                        (rg (6 * v29)) ∧
                                                        (∀ v31 : Int, rg v31 → v31 = totO 5 g → (
                                                          (rg ((6 * v29) + v31)) ∧
                                                          (∀ v33 : Int, rg v33 → v33 = totO 10 g → (
                                                            (rg (4 * v33)) ∧
                                                            (rg (((6 * v29) + v31) + (4 * v33))) ∧
                                                            ((v28 < ((6 * v29) + v31) + (4 * v33) → (
                                                              LW m_L_isWhole d none P 447 [some (.inr (some 1)), some (.inl x1), some (.inl x2), some (.inl x3), some (.inl x4), some (.inl x5), some (.inl x6), none, none] [] g (0, 0)
                                                              )) ∧ (¬ (v28 < ((6 * v29) + v31) + (4 * v33)) → (
                                                              P 1 g
                                                              )))))))))))
                                                    )))))))
                                              )))))))))))))
                                  )))))
                              )))))
                          )))
                        )) ∧ (¬ (¬ x1 = 0) → (
                        ((¬ v9 = (-5) → (
                          LW m_L_isWhole d none P 447 [some (.inr (some 1)), some (.inl x1), some (.inl x2), some (.inl x3), some (.inl x4), some (.inl x5), some (.inl x6), none, none] [] g (0, 0)
                          )) ∧ (¬ (¬ v9 = (-5)) → (
                          (∀ v38 : Int, rg v38 → v38 = totO 0 g → (
                            ((20 < v38 → (
                              LW m_L_isWhole d none P 447 [some (.inr (some 1)), some (.inl x1), some (.inl x2), some (.inl x3), some (.inl x4), some (.inl x5), some (.inl x6), none, none] [] g (0, 0)
                              )) ∧ (¬ (20 < v38) → (
                              (∀ v40 : Int, rg v40 → v40 = totO 3 g → (
                                ((200 < v40 → (
                                  LW m_L_isWhole d none P 447 [some (.inr (some 1)), some (.inl x1), some (.inl x2), some (.inl x3), some (.inl x4), some (.inl x5), some (.inl x6), none, none] [] g (0, 0)
                                  )) ∧ (¬ (200 < v40) → (
                                  (∀ v42 : Int, rg v42 → v42 = totO 4 g → (
                                    (∀ v43 : Int, rg v43 → v43 = totO 5 g → (
                                      (rg (v42 + v43)) ∧
                                      (∀ v45 : Int, rg v45 → v45 = totO 6 g → (
                                        (∀ v46 : Int, rg v46 → v46 = totO 7 g → (
                                          (rg (v45 + v46)) ∧
                                          (∀ v48 : Int, rg v48 → v48 = totO 8 g → (
                                            (rg ((v45 + v46) + v48)) ∧
                                            ((¬ v42 + v43 = (v45 + v46) + v48 → (
                                              LW m_L_isWhole d none P 447 [some (.inr (some 1)), some (.inl x1), some (.inl x2), some (.inl x3), some (.inl x4), some (.inl x5), some (.inl x6), none, none] [] g (0, 0)
                                              )) ∧ (¬ (¬ v42 + v43 = (v45 + v46) + v48) → (
                                              (∀ v51 : Int, rg v51 → v51 = totO 3 g → (
                                                (∀ v52 : Int, rg v52 → v52 = totO 7 g → (
                                                  ((v52 < v51 → (
                                                    LW m_L_isWhole d none P 447 [some (.inr (some 1)), some (.inl x1), some (.inl x2), some (.inl x3), some (.inl x4), some (.inl x5), some (.inl x6), none, none] [] g (0, 0)
                                                    )) ∧ (¬ (v52 < v51) → (
                                                    (∀ v54 : Int, rg v54 → v54 = totO 9 g → (
                                                      (∀ v55 : Int, rg v55 → v55 = totO 4 g → (
                                                        (rg (6 * v55)) ∧
                                                        (∀ v57 : Int, rg v57 → v57 = totO 5 g → (
                                                          (rg ((6 * v55) + v57)) ∧
                                                          (∀ v59 : Int, rg v59 → v59 = totO 10 g → (
                                                            (rg (4 * v59)) ∧
                                                            (rg (((6 * v55) + v57) + (4 * v59))) ∧
                                                            ((v54 < ((6 * v55) + v57) + (4 * v59) → (
                                                              LW m_L_isWhole d none P 447 [some (.inr (some 1)), some (.inl x1), some (.inl x2), some (.inl x3), some (.inl x4), some (.inl x5), some (.inl x6), none, none] [] g (0, 0)
                                                              )) ∧ (¬ (v54 < ((6 * v55) + v57) + (4 * v59)) → (
                                                              P 1 g
                                                              )))))))))))
                                                    )))))))
                                              )))))))))))))
                                  )))))
                              )))))
                          )))
                        )))))
                    )))))
                )))
              )))))
          )))))
      )))) :
  LW m_L_isWhole d none P 285 [some (.inr (some 1)), some (.inl x1), some (.inl x2), some (.inl x3), some (.inl x4), some (.inl x5), some (.inl x6), none, none] [] g (0, 0) := by
  refine lw_iload (pc := 285) dL_isWhole_285 rfl ?_
  refine lw_if_eq (pc := 287) (tgt := 447) dL_isWhole_287 (by decide) (fun c1 => ?_) (fun c1 => ?_)
  · replace G := G.1 c1
    exact G
  · replace G := G.2 c1
    refine lw_aload_n (pc := 290) dL_isWhole_290 rfl ?_
    refine lw_iconst (pc := 291) dL_isWhole_291 ?_
    refine lw_invV (pc := 292) (md' := m_X6_total) (as := [(.inl 1)]) dL_isWhole_292 mo_X6_total im_X6_total se_X6_total ml_L_13 rfl rfl (by omega) (Nat.le_of_ble_eq_true rfl) rfl ⟨Nat.le_of_ble_eq_true rfl, Nat.le_of_ble_eq_true rfl⟩ (lm_mono (lm_rg (kq_total (by omega))) (fun v2 g' e => ?_))
    obtain ⟨r_v2, e_v2, rfl⟩ := e
    replace G := G v2 r_v2 e_v2
    refine lw_iload_n (pc := 295) dL_isWhole_295 rfl ?_
    refine lw_icmp_ne (pc := 296) (tgt := 447) dL_isWhole_296 (by decide) (fun c3 => ?_) (fun c3 => ?_)
    · replace G := G.1 c3
      exact G
    · replace G := G.2 c3
      refine lw_aload_n (pc := 299) dL_isWhole_299 rfl ?_
      refine lw_iconst (pc := 300) dL_isWhole_300 ?_
      refine lw_invV (pc := 301) (md' := m_X6_total) (as := [(.inl 2)]) dL_isWhole_301 mo_X6_total im_X6_total se_X6_total ml_L_13 rfl rfl (by omega) (Nat.le_of_ble_eq_true rfl) rfl ⟨Nat.le_of_ble_eq_true rfl, Nat.le_of_ble_eq_true rfl⟩ (lm_mono (lm_rg (kq_total (by omega))) (fun v4 g' e => ?_))
      obtain ⟨r_v4, e_v4, rfl⟩ := e
      replace G := G v4 r_v4 e_v4
      refine lw_iload_n (pc := 304) dL_isWhole_304 rfl ?_
      refine lw_icmp_ne (pc := 305) (tgt := 447) dL_isWhole_305 (by decide) (fun c5 => ?_) (fun c5 => ?_)
      · replace G := G.1 c5
        exact G
      · replace G := G.2 c5
        refine lw_iload_n (pc := 308) dL_isWhole_308 rfl ?_
        refine lw_iload_n (pc := 309) dL_isWhole_309 rfl ?_
        refine lw_icmp_ne (pc := 310) (tgt := 447) dL_isWhole_310 (by decide) (fun c6 => ?_) (fun c6 => ?_)
        · replace G := G.1 c6
          exact G
        · replace G := G.2 c6
          refine lw_aload_n (pc := 313) dL_isWhole_313 rfl ?_
          refine lw_iconst (pc := 314) dL_isWhole_314 ?_
          refine lw_iconst (pc := 315) dL_isWhole_315 ?_
          refine lw_invV (pc := 316) (md' := m_X6_count) (as := [(.inl 0), (.inl 0)]) dL_isWhole_316 mo_X6_count im_X6_count se_X6_count ml_L_29 rfl rfl (by omega) (Nat.le_of_ble_eq_true rfl) rfl ⟨Nat.le_of_ble_eq_true rfl, Nat.le_of_ble_eq_true rfl⟩ (lm_mono (lm_rg (kq_count (by omega))) (fun v7 g' e => ?_))
          obtain ⟨r_v7, e_v7, rfl⟩ := e
          replace G := G v7 r_v7 e_v7
          refine lw_iload_n (pc := 319) dL_isWhole_319 rfl ?_
          refine lw_icmp_ne (pc := 320) (tgt := 447) dL_isWhole_320 (by decide) (fun c8 => ?_) (fun c8 => ?_)
          · replace G := G.1 c8
            exact G
          · replace G := G.2 c8
            refine lw_aload_n (pc := 323) dL_isWhole_323 rfl ?_
            refine lw_iconst (pc := 324) dL_isWhole_324 ?_
            refine lw_invV (pc := 325) (md' := m_X6_thickest) (as := [(.inl 4)]) dL_isWhole_325 mo_X6_thickest im_X6_thickest se_X6_thickest ml_L_34 rfl rfl (by omega) (Nat.le_of_ble_eq_true rfl) rfl ⟨Nat.le_of_ble_eq_true rfl, Nat.le_of_ble_eq_true rfl⟩ (lm_mono (lm_rg (kq_thickest (by omega))) (fun v9 g' e => ?_))
            obtain ⟨r_v9, e_v9, rfl⟩ := e
            replace G := G v9 r_v9 e_v9
            refine lw_iload_n (pc := 328) dL_isWhole_328 rfl ?_
            refine lw_if_ne (pc := 329) (tgt := 337) dL_isWhole_329 (by decide) (fun c10 => ?_) (fun c10 => ?_)
            · replace G := G.1 c10
              refine lw_iload (pc := 337) dL_isWhole_337 rfl ?_
              refine lw_icmp_ne (pc := 339) (tgt := 447) dL_isWhole_339 (by decide) (fun c11 => ?_) (fun c11 => ?_)
              · replace G := G.1 c11
                exact G
              · replace G := G.2 c11
                refine lw_aload_n (pc := 342) dL_isWhole_342 rfl ?_
                refine lw_iconst (pc := 343) dL_isWhole_343 ?_
                refine lw_invV (pc := 344) (md' := m_X6_total) (as := [(.inl 0)]) dL_isWhole_344 mo_X6_total im_X6_total se_X6_total ml_L_13 rfl rfl (by omega) (Nat.le_of_ble_eq_true rfl) rfl ⟨Nat.le_of_ble_eq_true rfl, Nat.le_of_ble_eq_true rfl⟩ (lm_mono (lm_rg (kq_total (by omega))) (fun v12 g' e => ?_))
                obtain ⟨r_v12, e_v12, rfl⟩ := e
                replace G := G v12 r_v12 e_v12
                refine lw_bipush (pc := 347) dL_isWhole_347 ?_
                refine lw_icmp_gt (pc := 349) (tgt := 447) dL_isWhole_349 (by decide) (fun c13 => ?_) (fun c13 => ?_)
                · replace G := G.1 c13
                  exact G
                · replace G := G.2 c13
                  refine lw_aload_n (pc := 352) dL_isWhole_352 rfl ?_
                  refine lw_iconst (pc := 353) dL_isWhole_353 ?_
                  refine lw_invV (pc := 354) (md' := m_X6_total) (as := [(.inl 3)]) dL_isWhole_354 mo_X6_total im_X6_total se_X6_total ml_L_13 rfl rfl (by omega) (Nat.le_of_ble_eq_true rfl) rfl ⟨Nat.le_of_ble_eq_true rfl, Nat.le_of_ble_eq_true rfl⟩ (lm_mono (lm_rg (kq_total (by omega))) (fun v14 g' e => ?_))
                  obtain ⟨r_v14, e_v14, rfl⟩ := e
                  replace G := G v14 r_v14 e_v14
                  refine lw_sipush (pc := 357) dL_isWhole_357 ?_
                  refine lw_icmp_gt (pc := 360) (tgt := 447) dL_isWhole_360 (by decide) (fun c15 => ?_) (fun c15 => ?_)
                  · replace G := G.1 c15
                    exact G
                  · replace G := G.2 c15
                    refine lw_aload_n (pc := 363) dL_isWhole_363 rfl ?_
                    refine lw_iconst (pc := 364) dL_isWhole_364 ?_
                    refine lw_invV (pc := 365) (md' := m_X6_total) (as := [(.inl 4)]) dL_isWhole_365 mo_X6_total im_X6_total se_X6_total ml_L_13 rfl rfl (by omega) (Nat.le_of_ble_eq_true rfl) rfl ⟨Nat.le_of_ble_eq_true rfl, Nat.le_of_ble_eq_true rfl⟩ (lm_mono (lm_rg (kq_total (by omega))) (fun v16 g' e => ?_))
                    obtain ⟨r_v16, e_v16, rfl⟩ := e
                    replace G := G v16 r_v16 e_v16
                    refine lw_aload_n (pc := 368) dL_isWhole_368 rfl ?_
                    refine lw_iconst (pc := 369) dL_isWhole_369 ?_
                    refine lw_invV (pc := 370) (md' := m_X6_total) (as := [(.inl 5)]) dL_isWhole_370 mo_X6_total im_X6_total se_X6_total ml_L_13 rfl rfl (by omega) (Nat.le_of_ble_eq_true rfl) rfl ⟨Nat.le_of_ble_eq_true rfl, Nat.le_of_ble_eq_true rfl⟩ (lm_mono (lm_rg (kq_total (by omega))) (fun v17 g' e => ?_))
                    obtain ⟨r_v17, e_v17, rfl⟩ := e
                    replace G := G v17 r_v17 e_v17
                    obtain ⟨s18, G⟩ := G
                    refine lw_iadd (pc := 373) (v := v16 + v17) dL_isWhole_373 s18 rfl ?_
                    refine lw_aload_n (pc := 374) dL_isWhole_374 rfl ?_
                    refine lw_bipush (pc := 375) dL_isWhole_375 ?_
                    refine lw_invV (pc := 377) (md' := m_X6_total) (as := [(.inl 6)]) dL_isWhole_377 mo_X6_total im_X6_total se_X6_total ml_L_13 rfl rfl (by omega) (Nat.le_of_ble_eq_true rfl) rfl ⟨Nat.le_of_ble_eq_true rfl, Nat.le_of_ble_eq_true rfl⟩ (lm_mono (lm_rg (kq_total (by omega))) (fun v19 g' e => ?_))
                    obtain ⟨r_v19, e_v19, rfl⟩ := e
                    replace G := G v19 r_v19 e_v19
                    refine lw_aload_n (pc := 380) dL_isWhole_380 rfl ?_
                    refine lw_bipush (pc := 381) dL_isWhole_381 ?_
                    refine lw_invV (pc := 383) (md' := m_X6_total) (as := [(.inl 7)]) dL_isWhole_383 mo_X6_total im_X6_total se_X6_total ml_L_13 rfl rfl (by omega) (Nat.le_of_ble_eq_true rfl) rfl ⟨Nat.le_of_ble_eq_true rfl, Nat.le_of_ble_eq_true rfl⟩ (lm_mono (lm_rg (kq_total (by omega))) (fun v20 g' e => ?_))
                    obtain ⟨r_v20, e_v20, rfl⟩ := e
                    replace G := G v20 r_v20 e_v20
                    obtain ⟨s21, G⟩ := G
                    refine lw_iadd (pc := 386) (v := v19 + v20) dL_isWhole_386 s21 rfl ?_
                    refine lw_aload_n (pc := 387) dL_isWhole_387 rfl ?_
                    refine lw_bipush (pc := 388) dL_isWhole_388 ?_
                    refine lw_invV (pc := 390) (md' := m_X6_total) (as := [(.inl 8)]) dL_isWhole_390 mo_X6_total im_X6_total se_X6_total ml_L_13 rfl rfl (by omega) (Nat.le_of_ble_eq_true rfl) rfl ⟨Nat.le_of_ble_eq_true rfl, Nat.le_of_ble_eq_true rfl⟩ (lm_mono (lm_rg (kq_total (by omega))) (fun v22 g' e => ?_))
                    obtain ⟨r_v22, e_v22, rfl⟩ := e
                    replace G := G v22 r_v22 e_v22
                    obtain ⟨s23, G⟩ := G
                    refine lw_iadd (pc := 393) (v := (v19 + v20) + v22) dL_isWhole_393 s23 rfl ?_
                    refine lw_icmp_ne (pc := 394) (tgt := 447) dL_isWhole_394 (by decide) (fun c24 => ?_) (fun c24 => ?_)
                    · replace G := G.1 c24
                      exact G
                    · replace G := G.2 c24
                      refine lw_aload_n (pc := 397) dL_isWhole_397 rfl ?_
                      refine lw_iconst (pc := 398) dL_isWhole_398 ?_
                      refine lw_invV (pc := 399) (md' := m_X6_total) (as := [(.inl 3)]) dL_isWhole_399 mo_X6_total im_X6_total se_X6_total ml_L_13 rfl rfl (by omega) (Nat.le_of_ble_eq_true rfl) rfl ⟨Nat.le_of_ble_eq_true rfl, Nat.le_of_ble_eq_true rfl⟩ (lm_mono (lm_rg (kq_total (by omega))) (fun v25 g' e => ?_))
                      obtain ⟨r_v25, e_v25, rfl⟩ := e
                      replace G := G v25 r_v25 e_v25
                      refine lw_aload_n (pc := 402) dL_isWhole_402 rfl ?_
                      refine lw_bipush (pc := 403) dL_isWhole_403 ?_
                      refine lw_invV (pc := 405) (md' := m_X6_total) (as := [(.inl 7)]) dL_isWhole_405 mo_X6_total im_X6_total se_X6_total ml_L_13 rfl rfl (by omega) (Nat.le_of_ble_eq_true rfl) rfl ⟨Nat.le_of_ble_eq_true rfl, Nat.le_of_ble_eq_true rfl⟩ (lm_mono (lm_rg (kq_total (by omega))) (fun v26 g' e => ?_))
                      obtain ⟨r_v26, e_v26, rfl⟩ := e
                      replace G := G v26 r_v26 e_v26
                      refine lw_icmp_gt (pc := 408) (tgt := 447) dL_isWhole_408 (by decide) (fun c27 => ?_) (fun c27 => ?_)
                      · replace G := G.1 c27
                        exact G
                      · replace G := G.2 c27
                        refine lw_aload_n (pc := 411) dL_isWhole_411 rfl ?_
                        refine lw_bipush (pc := 412) dL_isWhole_412 ?_
                        refine lw_invV (pc := 414) (md' := m_X6_total) (as := [(.inl 9)]) dL_isWhole_414 mo_X6_total im_X6_total se_X6_total ml_L_13 rfl rfl (by omega) (Nat.le_of_ble_eq_true rfl) rfl ⟨Nat.le_of_ble_eq_true rfl, Nat.le_of_ble_eq_true rfl⟩ (lm_mono (lm_rg (kq_total (by omega))) (fun v28 g' e => ?_))
                        obtain ⟨r_v28, e_v28, rfl⟩ := e
                        replace G := G v28 r_v28 e_v28
                        refine lw_bipush (pc := 417) dL_isWhole_417 ?_
                        refine lw_aload_n (pc := 419) dL_isWhole_419 rfl ?_
                        refine lw_iconst (pc := 420) dL_isWhole_420 ?_
                        refine lw_invV (pc := 421) (md' := m_X6_total) (as := [(.inl 4)]) dL_isWhole_421 mo_X6_total im_X6_total se_X6_total ml_L_13 rfl rfl (by omega) (Nat.le_of_ble_eq_true rfl) rfl ⟨Nat.le_of_ble_eq_true rfl, Nat.le_of_ble_eq_true rfl⟩ (lm_mono (lm_rg (kq_total (by omega))) (fun v29 g' e => ?_))
                        obtain ⟨r_v29, e_v29, rfl⟩ := e
                        replace G := G v29 r_v29 e_v29
                        obtain ⟨s30, G⟩ := G
                        refine lw_imul (pc := 424) (v := 6 * v29) dL_isWhole_424 s30 rfl ?_
                        refine lw_aload_n (pc := 425) dL_isWhole_425 rfl ?_
                        refine lw_iconst (pc := 426) dL_isWhole_426 ?_
                        refine lw_invV (pc := 427) (md' := m_X6_total) (as := [(.inl 5)]) dL_isWhole_427 mo_X6_total im_X6_total se_X6_total ml_L_13 rfl rfl (by omega) (Nat.le_of_ble_eq_true rfl) rfl ⟨Nat.le_of_ble_eq_true rfl, Nat.le_of_ble_eq_true rfl⟩ (lm_mono (lm_rg (kq_total (by omega))) (fun v31 g' e => ?_))
                        obtain ⟨r_v31, e_v31, rfl⟩ := e
                        replace G := G v31 r_v31 e_v31
                        obtain ⟨s32, G⟩ := G
                        refine lw_iadd (pc := 430) (v := (6 * v29) + v31) dL_isWhole_430 s32 rfl ?_
                        refine lw_iconst (pc := 431) dL_isWhole_431 ?_
                        refine lw_aload_n (pc := 432) dL_isWhole_432 rfl ?_
                        refine lw_bipush (pc := 433) dL_isWhole_433 ?_
                        refine lw_invV (pc := 435) (md' := m_X6_total) (as := [(.inl 10)]) dL_isWhole_435 mo_X6_total im_X6_total se_X6_total ml_L_13 rfl rfl (by omega) (Nat.le_of_ble_eq_true rfl) rfl ⟨Nat.le_of_ble_eq_true rfl, Nat.le_of_ble_eq_true rfl⟩ (lm_mono (lm_rg (kq_total (by omega))) (fun v33 g' e => ?_))
                        obtain ⟨r_v33, e_v33, rfl⟩ := e
                        replace G := G v33 r_v33 e_v33
                        obtain ⟨s34, G⟩ := G
                        refine lw_imul (pc := 438) (v := 4 * v33) dL_isWhole_438 s34 rfl ?_
                        obtain ⟨s35, G⟩ := G
                        refine lw_iadd (pc := 439) (v := ((6 * v29) + v31) + (4 * v33)) dL_isWhole_439 s35 rfl ?_
                        refine lw_icmp_lt (pc := 440) (tgt := 447) dL_isWhole_440 (by decide) (fun c36 => ?_) (fun c36 => ?_)
                        · replace G := G.1 c36
                          exact G
                        · replace G := G.2 c36
                          refine lw_iconst (pc := 443) dL_isWhole_443 ?_
                          refine lw_goto (pc := 444) (tgt := 448) dL_isWhole_444 (by decide) ?_
                          refine lw_zreturn (pc := 448) dL_isWhole_448 rfl (by decide) ?_ (Nat.le_of_ble_eq_true rfl) (Nat.le_of_ble_eq_true rfl)
                          exact G
            · replace G := G.2 c10
              refine lw_bipush (pc := 332) dL_isWhole_332 ?_
              refine lw_goto (pc := 334) (tgt := 339) dL_isWhole_334 (by decide) ?_
              refine lw_icmp_ne (pc := 339) (tgt := 447) dL_isWhole_339 (by decide) (fun c37 => ?_) (fun c37 => ?_)
              · replace G := G.1 c37
                exact G
              · replace G := G.2 c37
                refine lw_aload_n (pc := 342) dL_isWhole_342 rfl ?_
                refine lw_iconst (pc := 343) dL_isWhole_343 ?_
                refine lw_invV (pc := 344) (md' := m_X6_total) (as := [(.inl 0)]) dL_isWhole_344 mo_X6_total im_X6_total se_X6_total ml_L_13 rfl rfl (by omega) (Nat.le_of_ble_eq_true rfl) rfl ⟨Nat.le_of_ble_eq_true rfl, Nat.le_of_ble_eq_true rfl⟩ (lm_mono (lm_rg (kq_total (by omega))) (fun v38 g' e => ?_))
                obtain ⟨r_v38, e_v38, rfl⟩ := e
                replace G := G v38 r_v38 e_v38
                refine lw_bipush (pc := 347) dL_isWhole_347 ?_
                refine lw_icmp_gt (pc := 349) (tgt := 447) dL_isWhole_349 (by decide) (fun c39 => ?_) (fun c39 => ?_)
                · replace G := G.1 c39
                  exact G
                · replace G := G.2 c39
                  refine lw_aload_n (pc := 352) dL_isWhole_352 rfl ?_
                  refine lw_iconst (pc := 353) dL_isWhole_353 ?_
                  refine lw_invV (pc := 354) (md' := m_X6_total) (as := [(.inl 3)]) dL_isWhole_354 mo_X6_total im_X6_total se_X6_total ml_L_13 rfl rfl (by omega) (Nat.le_of_ble_eq_true rfl) rfl ⟨Nat.le_of_ble_eq_true rfl, Nat.le_of_ble_eq_true rfl⟩ (lm_mono (lm_rg (kq_total (by omega))) (fun v40 g' e => ?_))
                  obtain ⟨r_v40, e_v40, rfl⟩ := e
                  replace G := G v40 r_v40 e_v40
                  refine lw_sipush (pc := 357) dL_isWhole_357 ?_
                  refine lw_icmp_gt (pc := 360) (tgt := 447) dL_isWhole_360 (by decide) (fun c41 => ?_) (fun c41 => ?_)
                  · replace G := G.1 c41
                    exact G
                  · replace G := G.2 c41
                    refine lw_aload_n (pc := 363) dL_isWhole_363 rfl ?_
                    refine lw_iconst (pc := 364) dL_isWhole_364 ?_
                    refine lw_invV (pc := 365) (md' := m_X6_total) (as := [(.inl 4)]) dL_isWhole_365 mo_X6_total im_X6_total se_X6_total ml_L_13 rfl rfl (by omega) (Nat.le_of_ble_eq_true rfl) rfl ⟨Nat.le_of_ble_eq_true rfl, Nat.le_of_ble_eq_true rfl⟩ (lm_mono (lm_rg (kq_total (by omega))) (fun v42 g' e => ?_))
                    obtain ⟨r_v42, e_v42, rfl⟩ := e
                    replace G := G v42 r_v42 e_v42
                    refine lw_aload_n (pc := 368) dL_isWhole_368 rfl ?_
                    refine lw_iconst (pc := 369) dL_isWhole_369 ?_
                    refine lw_invV (pc := 370) (md' := m_X6_total) (as := [(.inl 5)]) dL_isWhole_370 mo_X6_total im_X6_total se_X6_total ml_L_13 rfl rfl (by omega) (Nat.le_of_ble_eq_true rfl) rfl ⟨Nat.le_of_ble_eq_true rfl, Nat.le_of_ble_eq_true rfl⟩ (lm_mono (lm_rg (kq_total (by omega))) (fun v43 g' e => ?_))
                    obtain ⟨r_v43, e_v43, rfl⟩ := e
                    replace G := G v43 r_v43 e_v43
                    obtain ⟨s44, G⟩ := G
                    refine lw_iadd (pc := 373) (v := v42 + v43) dL_isWhole_373 s44 rfl ?_
                    refine lw_aload_n (pc := 374) dL_isWhole_374 rfl ?_
                    refine lw_bipush (pc := 375) dL_isWhole_375 ?_
                    refine lw_invV (pc := 377) (md' := m_X6_total) (as := [(.inl 6)]) dL_isWhole_377 mo_X6_total im_X6_total se_X6_total ml_L_13 rfl rfl (by omega) (Nat.le_of_ble_eq_true rfl) rfl ⟨Nat.le_of_ble_eq_true rfl, Nat.le_of_ble_eq_true rfl⟩ (lm_mono (lm_rg (kq_total (by omega))) (fun v45 g' e => ?_))
                    obtain ⟨r_v45, e_v45, rfl⟩ := e
                    replace G := G v45 r_v45 e_v45
                    refine lw_aload_n (pc := 380) dL_isWhole_380 rfl ?_
                    refine lw_bipush (pc := 381) dL_isWhole_381 ?_
                    refine lw_invV (pc := 383) (md' := m_X6_total) (as := [(.inl 7)]) dL_isWhole_383 mo_X6_total im_X6_total se_X6_total ml_L_13 rfl rfl (by omega) (Nat.le_of_ble_eq_true rfl) rfl ⟨Nat.le_of_ble_eq_true rfl, Nat.le_of_ble_eq_true rfl⟩ (lm_mono (lm_rg (kq_total (by omega))) (fun v46 g' e => ?_))
                    obtain ⟨r_v46, e_v46, rfl⟩ := e
                    replace G := G v46 r_v46 e_v46
                    obtain ⟨s47, G⟩ := G
                    refine lw_iadd (pc := 386) (v := v45 + v46) dL_isWhole_386 s47 rfl ?_
                    refine lw_aload_n (pc := 387) dL_isWhole_387 rfl ?_
                    refine lw_bipush (pc := 388) dL_isWhole_388 ?_
                    refine lw_invV (pc := 390) (md' := m_X6_total) (as := [(.inl 8)]) dL_isWhole_390 mo_X6_total im_X6_total se_X6_total ml_L_13 rfl rfl (by omega) (Nat.le_of_ble_eq_true rfl) rfl ⟨Nat.le_of_ble_eq_true rfl, Nat.le_of_ble_eq_true rfl⟩ (lm_mono (lm_rg (kq_total (by omega))) (fun v48 g' e => ?_))
                    obtain ⟨r_v48, e_v48, rfl⟩ := e
                    replace G := G v48 r_v48 e_v48
                    obtain ⟨s49, G⟩ := G
                    refine lw_iadd (pc := 393) (v := (v45 + v46) + v48) dL_isWhole_393 s49 rfl ?_
                    refine lw_icmp_ne (pc := 394) (tgt := 447) dL_isWhole_394 (by decide) (fun c50 => ?_) (fun c50 => ?_)
                    · replace G := G.1 c50
                      exact G
                    · replace G := G.2 c50
                      refine lw_aload_n (pc := 397) dL_isWhole_397 rfl ?_
                      refine lw_iconst (pc := 398) dL_isWhole_398 ?_
                      refine lw_invV (pc := 399) (md' := m_X6_total) (as := [(.inl 3)]) dL_isWhole_399 mo_X6_total im_X6_total se_X6_total ml_L_13 rfl rfl (by omega) (Nat.le_of_ble_eq_true rfl) rfl ⟨Nat.le_of_ble_eq_true rfl, Nat.le_of_ble_eq_true rfl⟩ (lm_mono (lm_rg (kq_total (by omega))) (fun v51 g' e => ?_))
                      obtain ⟨r_v51, e_v51, rfl⟩ := e
                      replace G := G v51 r_v51 e_v51
                      refine lw_aload_n (pc := 402) dL_isWhole_402 rfl ?_
                      refine lw_bipush (pc := 403) dL_isWhole_403 ?_
                      refine lw_invV (pc := 405) (md' := m_X6_total) (as := [(.inl 7)]) dL_isWhole_405 mo_X6_total im_X6_total se_X6_total ml_L_13 rfl rfl (by omega) (Nat.le_of_ble_eq_true rfl) rfl ⟨Nat.le_of_ble_eq_true rfl, Nat.le_of_ble_eq_true rfl⟩ (lm_mono (lm_rg (kq_total (by omega))) (fun v52 g' e => ?_))
                      obtain ⟨r_v52, e_v52, rfl⟩ := e
                      replace G := G v52 r_v52 e_v52
                      refine lw_icmp_gt (pc := 408) (tgt := 447) dL_isWhole_408 (by decide) (fun c53 => ?_) (fun c53 => ?_)
                      · replace G := G.1 c53
                        exact G
                      · replace G := G.2 c53
                        refine lw_aload_n (pc := 411) dL_isWhole_411 rfl ?_
                        refine lw_bipush (pc := 412) dL_isWhole_412 ?_
                        refine lw_invV (pc := 414) (md' := m_X6_total) (as := [(.inl 9)]) dL_isWhole_414 mo_X6_total im_X6_total se_X6_total ml_L_13 rfl rfl (by omega) (Nat.le_of_ble_eq_true rfl) rfl ⟨Nat.le_of_ble_eq_true rfl, Nat.le_of_ble_eq_true rfl⟩ (lm_mono (lm_rg (kq_total (by omega))) (fun v54 g' e => ?_))
                        obtain ⟨r_v54, e_v54, rfl⟩ := e
                        replace G := G v54 r_v54 e_v54
                        refine lw_bipush (pc := 417) dL_isWhole_417 ?_
                        refine lw_aload_n (pc := 419) dL_isWhole_419 rfl ?_
                        refine lw_iconst (pc := 420) dL_isWhole_420 ?_
                        refine lw_invV (pc := 421) (md' := m_X6_total) (as := [(.inl 4)]) dL_isWhole_421 mo_X6_total im_X6_total se_X6_total ml_L_13 rfl rfl (by omega) (Nat.le_of_ble_eq_true rfl) rfl ⟨Nat.le_of_ble_eq_true rfl, Nat.le_of_ble_eq_true rfl⟩ (lm_mono (lm_rg (kq_total (by omega))) (fun v55 g' e => ?_))
                        obtain ⟨r_v55, e_v55, rfl⟩ := e
                        replace G := G v55 r_v55 e_v55
                        obtain ⟨s56, G⟩ := G
                        refine lw_imul (pc := 424) (v := 6 * v55) dL_isWhole_424 s56 rfl ?_
                        refine lw_aload_n (pc := 425) dL_isWhole_425 rfl ?_
                        refine lw_iconst (pc := 426) dL_isWhole_426 ?_
                        refine lw_invV (pc := 427) (md' := m_X6_total) (as := [(.inl 5)]) dL_isWhole_427 mo_X6_total im_X6_total se_X6_total ml_L_13 rfl rfl (by omega) (Nat.le_of_ble_eq_true rfl) rfl ⟨Nat.le_of_ble_eq_true rfl, Nat.le_of_ble_eq_true rfl⟩ (lm_mono (lm_rg (kq_total (by omega))) (fun v57 g' e => ?_))
                        obtain ⟨r_v57, e_v57, rfl⟩ := e
                        replace G := G v57 r_v57 e_v57
                        obtain ⟨s58, G⟩ := G
                        refine lw_iadd (pc := 430) (v := (6 * v55) + v57) dL_isWhole_430 s58 rfl ?_
                        refine lw_iconst (pc := 431) dL_isWhole_431 ?_
                        refine lw_aload_n (pc := 432) dL_isWhole_432 rfl ?_
                        refine lw_bipush (pc := 433) dL_isWhole_433 ?_
                        refine lw_invV (pc := 435) (md' := m_X6_total) (as := [(.inl 10)]) dL_isWhole_435 mo_X6_total im_X6_total se_X6_total ml_L_13 rfl rfl (by omega) (Nat.le_of_ble_eq_true rfl) rfl ⟨Nat.le_of_ble_eq_true rfl, Nat.le_of_ble_eq_true rfl⟩ (lm_mono (lm_rg (kq_total (by omega))) (fun v59 g' e => ?_))
                        obtain ⟨r_v59, e_v59, rfl⟩ := e
                        replace G := G v59 r_v59 e_v59
                        obtain ⟨s60, G⟩ := G
                        refine lw_imul (pc := 438) (v := 4 * v59) dL_isWhole_438 s60 rfl ?_
                        obtain ⟨s61, G⟩ := G
                        refine lw_iadd (pc := 439) (v := ((6 * v55) + v57) + (4 * v59)) dL_isWhole_439 s61 rfl ?_
                        refine lw_icmp_lt (pc := 440) (tgt := 447) dL_isWhole_440 (by decide) (fun c62 => ?_) (fun c62 => ?_)
                        · replace G := G.1 c62
                          exact G
                        · replace G := G.2 c62
                          refine lw_iconst (pc := 443) dL_isWhole_443 ?_
                          refine lw_goto (pc := 444) (tgt := 448) dL_isWhole_444 (by decide) ?_
                          refine lw_zreturn (pc := 448) dL_isWhole_448 rfl (by decide) ?_ (Nat.le_of_ble_eq_true rfl) (Nat.le_of_ble_eq_true rfl)
                          exact G
