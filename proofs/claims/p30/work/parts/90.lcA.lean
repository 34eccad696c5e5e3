set_option maxRecDepth 100000 in
set_option maxHeartbeats 4000000 in
theorem lc_cell {d : Nat} {P : Int → Gs → Prop} {g : Gs} {x1 : Int} {q : Nat × (Nat → Int)} (hd : 20 ≤ d)
  (G :
    (((q.1 : Int) ≤ x1 → (
      P (an (w ((w (1359893119 * (w (x1 + 97)))) + 20011)) 2147483647) g
      )) ∧ (¬ ((q.1 : Int) ≤ x1) → (
      (0 ≤ x1 ∧ x1 < (q.1 : Int)) ∧
      P (an (q.2 (Int.toNat x1)) 2147483647) g
      )))) :
  LW m_L_cell d (some (some q, [], [])) P 0 [some (.inr (some 0)), some (.inl x1)] [] g (0, 0) := by
  refine lw_iload_n (pc := 0) dL_cell_0 rfl ?_
  refine lw_aload_n (pc := 1) dL_cell_1 rfl ?_
  refine lw_slen (pc := 2) (q := q) dL_cell_2 rfl ?_
  refine lw_icmp_ge (pc := 3) (tgt := 12) dL_cell_3 (by decide) (fun c1 => ?_) (fun c1 => ?_)
  · replace G := G.1 c1
    refine lw_ldc (pc := 12) (n := 1359893119) dL_cell_12 co_L_7 (by decide) ?_
    refine lw_iload_n (pc := 14) dL_cell_14 rfl ?_
    refine lw_bipush (pc := 15) dL_cell_15 ?_
    refine lw_iadd_w (pc := 17) dL_cell_17 ?_
    refine lw_imul_w (pc := 18) dL_cell_18 ?_
    refine lw_sipush (pc := 19) dL_cell_19 ?_
    refine lw_iadd_w (pc := 22) dL_cell_22 ?_
    refine lw_ldc (pc := 23) (n := 2147483647) dL_cell_23 co_L_8 (by decide) ?_
    refine lw_iand (pc := 25) dL_cell_25 ?_
    refine lw_ireturn (pc := 26) dL_cell_26 rfl ?_ (Nat.le_of_ble_eq_true rfl) (Nat.le_of_ble_eq_true rfl)
    exact G
  · replace G := G.2 c1
    refine lw_aload_n (pc := 6) dL_cell_6 rfl ?_
    refine lw_iload_n (pc := 7) dL_cell_7 rfl ?_
    obtain ⟨s2, G⟩ := G
    refine lw_sld (pc := 8) (q := q) dL_cell_8 rfl s2.1 s2.2 ?_
    refine lw_goto (pc := 9) (tgt := 23) dL_cell_9 (by decide) ?_
    refine lw_ldc (pc := 23) (n := 2147483647) dL_cell_23 co_L_8 (by decide) ?_
    refine lw_iand (pc := 25) dL_cell_25 ?_
    refine lw_ireturn (pc := 26) dL_cell_26 rfl ?_ (Nat.le_of_ble_eq_true rfl) (Nat.le_of_ble_eq_true rfl)
    exact G
set_option maxRecDepth 100000 in
set_option maxHeartbeats 4000000 in
theorem lc_seen {d : Nat} {P : Int → Gs → Prop} {g : Gs} (hd : 20 ≤ d)
  (G :
    LW m_L_seen d (some (none, [], [(1, 89)])) P 6 [some (.inr (some 1)), none, none, some (.inl 0), none] [] g (0, 0)) :
  LW m_L_seen d (some (none, [], [])) P 0 [some (.inr (some 1)), none, none, none, none] [] g (0, 0) := by
  refine lw_ldc2 (pc := 0) dL_seen_0 cg_L_9 ?_
  refine lw_lstore_n (pc := 3) (j := 1) (xl' := [(1, 89)]) dL_seen_3 rfl rfl (by simp) ?_
  refine lw_iconst (pc := 4) dL_seen_4 ?_
  refine lw_istore_n (pc := 5) (ls' := [some (.inr (some 1)), none, none, some (.inl 0), none]) dL_seen_5 (Nat.le_of_ble_eq_true rfl) rfl ?_
  exact G
set_option maxRecDepth 100000 in
set_option maxHeartbeats 4000000 in
theorem lc_seen_6 {d : Nat} {P : Int → Gs → Prop} {g : Gs} {x3 : Int} {z1 : Int64} (hd : 20 ≤ d)
  (G :
    ((15 ≤ x3 → (
      LW m_L_seen d (some (none, [], [(1, z1)])) P 33 [some (.inr (some 1)), none, none, some (.inl 0), none] [] g (0, 0)
      )) ∧ (¬ (15 ≤ x3) → (
      (∀ v2 : Int, rg v2 → v2 = totO x3 g → (
        (rg (x3 + 1)) ∧
        LW m_L_seen d (some (none, [], [(1, ((31 * z1) + (i64 v2)))])) P 6 [some (.inr (some 1)), none, none, some (.inl (x3 + 1)), none] [] g (0, 0)))
      )))) :
  LW m_L_seen d (some (none, [], [(1, z1)])) P 6 [some (.inr (some 1)), none, none, some (.inl x3), none] [] g (0, 0) := by
  refine lw_iload_n (pc := 6) dL_seen_6 rfl ?_
  refine lw_bipush (pc := 7) dL_seen_7 ?_
  refine lw_icmp_ge (pc := 9) (tgt := 31) dL_seen_9 (by decide) (fun c1 => ?_) (fun c1 => ?_)
  · replace G := G.1 c1
    refine lw_iconst (pc := 31) dL_seen_31 ?_
    refine lw_istore_n (pc := 32) (ls' := [some (.inr (some 1)), none, none, some (.inl 0), none]) dL_seen_32 (Nat.le_of_ble_eq_true rfl) rfl ?_
    exact G
  · replace G := G.2 c1
    refine lw_ldc2 (pc := 12) dL_seen_12 cg_L_11 ?_
    refine lw_lload_n (pc := 15) (j := 1) (x := z1) dL_seen_15 (by simp) ?_
    refine lw_lmul (pc := 16) dL_seen_16 ?_
    refine lw_aload_n (pc := 17) dL_seen_17 rfl ?_
    refine lw_iload_n (pc := 18) dL_seen_18 rfl ?_
    refine lw_invV (pc := 19) (md' := m_X6_total) (as := [(.inl x3)]) dL_seen_19 mo_X6_total im_X6_total se_X6_total ml_L_13 rfl rfl (by omega) (Nat.le_of_ble_eq_true rfl) rfl ⟨Nat.le_of_ble_eq_true rfl, Nat.le_of_ble_eq_true rfl⟩ (lm_mono (lm_rg (kq_total (by omega))) (fun v2 g' e => ?_))
    obtain ⟨r_v2, e_v2, rfl⟩ := e
    replace G := G v2 r_v2 e_v2
    refine lw_i2l (pc := 22) dL_seen_22 ?_
    refine lw_ladd (pc := 23) dL_seen_23 ?_
    refine lw_lstore_n (pc := 24) (j := 1) (xl' := [(1, ((31 * z1) + (i64 v2)))]) dL_seen_24 rfl rfl (by simp) ?_
    obtain ⟨s3, G⟩ := G
    refine lw_iinc (pc := 25) (v' := x3 + 1) (ls' := [some (.inr (some 1)), none, none, some (.inl (x3 + 1)), none]) dL_seen_25 rfl s3 rfl rfl ?_
    refine lw_goto (pc := 28) (tgt := 6) dL_seen_28 (by decide) ?_
    exact G
set_option maxRecDepth 100000 in
set_option maxHeartbeats 4000000 in
theorem lc_seen_33 {d : Nat} {P : Int → Gs → Prop} {g : Gs} {x3 : Int} {z1 : Int64} (hd : 20 ≤ d)
  (G :
    (∀ v1 : Int, rg v1 → v1 = totO 0 g → (
      ((v1 ≤ x3 → (
        LW m_L_seen d (some (none, [], [(1, z1)])) P 121 [some (.inr (some 1)), none, none, some (.inl 0), none] [] g (0, 0)
        )) ∧ (¬ (v1 ≤ x3) → (
        (∀ v3 : Int, rg v3 → v3 = cardO x3 g.1.1 → (
          (∀ v4 : Int, rg v4 → v4 = ofO v3 0 g.1.1 → (
            (∀ v5 : Int, rg v5 → v5 = ofO v3 1 g.1.1 → (
              (∀ v6 : Int, rg v6 → v6 = ofO v3 2 g.1.1 → (
                (∀ v7 : Int, rg v7 → v7 = ofO v3 3 g.1.1 → (
                  (rg (x3 + 1)) ∧
                  LW m_L_seen d (some (none, [], [(1, ((31 * ((31 * ((31 * ((31 * ((31 * z1) + (i64 v3))) + (i64 v4))) + (i64 v5))) + (i64 v6))) + (i64 v7)))])) P 33 [some (.inr (some 1)), none, none, some (.inl (x3 + 1)), none] [] g (0, 0)))))))))))
        )))))) :
  LW m_L_seen d (some (none, [], [(1, z1)])) P 33 [some (.inr (some 1)), none, none, some (.inl x3), none] [] g (0, 0) := by
  refine lw_iload_n (pc := 33) dL_seen_33 rfl ?_
  refine lw_aload_n (pc := 34) dL_seen_34 rfl ?_
  refine lw_iconst (pc := 35) dL_seen_35 ?_
  refine lw_invV (pc := 36) (md' := m_X6_total) (as := [(.inl 0)]) dL_seen_36 mo_X6_total im_X6_total se_X6_total ml_L_13 rfl rfl (by omega) (Nat.le_of_ble_eq_true rfl) rfl ⟨Nat.le_of_ble_eq_true rfl, Nat.le_of_ble_eq_true rfl⟩ (lm_mono (lm_rg (kq_total (by omega))) (fun v1 g' e => ?_))
  obtain ⟨r_v1, e_v1, rfl⟩ := e
  replace G := G v1 r_v1 e_v1
  refine lw_icmp_ge (pc := 39) (tgt := 119) dL_seen_39 (by decide) (fun c2 => ?_) (fun c2 => ?_)
  · replace G := G.1 c2
    refine lw_iconst (pc := 119) dL_seen_119 ?_
    refine lw_istore_n (pc := 120) (ls' := [some (.inr (some 1)), none, none, some (.inl 0), none]) dL_seen_120 (Nat.le_of_ble_eq_true rfl) rfl ?_
    exact G
  · replace G := G.2 c2
    refine lw_aload_n (pc := 42) dL_seen_42 rfl ?_
    refine lw_iload_n (pc := 43) dL_seen_43 rfl ?_
    refine lw_invV (pc := 44) (md' := m_X6_card) (as := [(.inl x3)]) dL_seen_44 mo_X6_card im_X6_card se_X6_card ml_L_19 rfl rfl (by omega) (Nat.le_of_ble_eq_true rfl) rfl ⟨Nat.le_of_ble_eq_true rfl, Nat.le_of_ble_eq_true rfl⟩ (lm_mono (lm_rg (kq_card (by omega))) (fun v3 g' e => ?_))
    obtain ⟨r_v3, e_v3, rfl⟩ := e
    replace G := G v3 r_v3 e_v3
    refine lw_istore (pc := 47) (ls' := [some (.inr (some 1)), none, none, some (.inl x3), some (.inl v3)]) dL_seen_47 (Nat.le_of_ble_eq_true rfl) rfl ?_
    refine lw_ldc2 (pc := 49) dL_seen_49 cg_L_11 ?_
    refine lw_ldc2 (pc := 52) dL_seen_52 cg_L_11 ?_
    refine lw_ldc2 (pc := 55) dL_seen_55 cg_L_11 ?_
    refine lw_lload_n (pc := 58) (j := 1) (x := z1) dL_seen_58 (by simp) ?_
    refine lw_lmul (pc := 59) dL_seen_59 ?_
    refine lw_iload (pc := 60) dL_seen_60 rfl ?_
    refine lw_i2l (pc := 62) dL_seen_62 ?_
    refine lw_ladd (pc := 63) dL_seen_63 ?_
    refine lw_lmul (pc := 64) dL_seen_64 ?_
    refine lw_aload_n (pc := 65) dL_seen_65 rfl ?_
    refine lw_iload (pc := 66) dL_seen_66 rfl ?_
    refine lw_iconst (pc := 68) dL_seen_68 ?_
    refine lw_invV (pc := 69) (md' := m_X6_ofCard) (as := [(.inl v3), (.inl 0)]) dL_seen_69 mo_X6_ofCard im_X6_ofCard se_X6_ofCard ml_L_22 rfl rfl (by omega) (Nat.le_of_ble_eq_true rfl) rfl ⟨Nat.le_of_ble_eq_true rfl, Nat.le_of_ble_eq_true rfl⟩ (lm_mono (lm_rg (kq_ofCard (by omega))) (fun v4 g' e => ?_))
    obtain ⟨r_v4, e_v4, rfl⟩ := e
    replace G := G v4 r_v4 e_v4
    refine lw_i2l (pc := 72) dL_seen_72 ?_
    refine lw_ladd (pc := 73) dL_seen_73 ?_
    refine lw_lmul (pc := 74) dL_seen_74 ?_
    refine lw_aload_n (pc := 75) dL_seen_75 rfl ?_
    refine lw_iload (pc := 76) dL_seen_76 rfl ?_
    refine lw_iconst (pc := 78) dL_seen_78 ?_
    refine lw_invV (pc := 79) (md' := m_X6_ofCard) (as := [(.inl v3), (.inl 1)]) dL_seen_79 mo_X6_ofCard im_X6_ofCard se_X6_ofCard ml_L_22 rfl rfl (by omega) (Nat.le_of_ble_eq_true rfl) rfl ⟨Nat.le_of_ble_eq_true rfl, Nat.le_of_ble_eq_true rfl⟩ (lm_mono (lm_rg (kq_ofCard (by omega))) (fun v5 g' e => ?_))
    obtain ⟨r_v5, e_v5, rfl⟩ := e
    replace G := G v5 r_v5 e_v5
    refine lw_i2l (pc := 82) dL_seen_82 ?_
    refine lw_ladd (pc := 83) dL_seen_83 ?_
    refine lw_lstore_n (pc := 84) (j := 1) (xl' := [(1, ((31 * ((31 * ((31 * z1) + (i64 v3))) + (i64 v4))) + (i64 v5)))]) dL_seen_84 rfl rfl (by simp) ?_
    refine lw_ldc2 (pc := 85) dL_seen_85 cg_L_11 ?_
    refine lw_ldc2 (pc := 88) dL_seen_88 cg_L_11 ?_
    refine lw_lload_n (pc := 91) (j := 1) (x := ((31 * ((31 * ((31 * z1) + (i64 v3))) + (i64 v4))) + (i64 v5))) dL_seen_91 (by simp) ?_
    refine lw_lmul (pc := 92) dL_seen_92 ?_
    refine lw_aload_n (pc := 93) dL_seen_93 rfl ?_
    refine lw_iload (pc := 94) dL_seen_94 rfl ?_
    refine lw_iconst (pc := 96) dL_seen_96 ?_
    refine lw_invV (pc := 97) (md' := m_X6_ofCard) (as := [(.inl v3), (.inl 2)]) dL_seen_97 mo_X6_ofCard im_X6_ofCard se_X6_ofCard ml_L_22 rfl rfl (by omega) (Nat.le_of_ble_eq_true rfl) rfl ⟨Nat.le_of_ble_eq_true rfl, Nat.le_of_ble_eq_true rfl⟩ (lm_mono (lm_rg (kq_ofCard (by omega))) (fun v6 g' e => ?_))
    obtain ⟨r_v6, e_v6, rfl⟩ := e
    replace G := G v6 r_v6 e_v6
    refine lw_i2l (pc := 100) dL_seen_100 ?_
    refine lw_ladd (pc := 101) dL_seen_101 ?_
    refine lw_lmul (pc := 102) dL_seen_102 ?_
    refine lw_aload_n (pc := 103) dL_seen_103 rfl ?_
    refine lw_iload (pc := 104) dL_seen_104 rfl ?_
    refine lw_iconst (pc := 106) dL_seen_106 ?_
    refine lw_invV (pc := 107) (md' := m_X6_ofCard) (as := [(.inl v3), (.inl 3)]) dL_seen_107 mo_X6_ofCard im_X6_ofCard se_X6_ofCard ml_L_22 rfl rfl (by omega) (Nat.le_of_ble_eq_true rfl) rfl ⟨Nat.le_of_ble_eq_true rfl, Nat.le_of_ble_eq_true rfl⟩ (lm_mono (lm_rg (kq_ofCard (by omega))) (fun v7 g' e => ?_))
    obtain ⟨r_v7, e_v7, rfl⟩ := e
    replace G := G v7 r_v7 e_v7
    refine lw_i2l (pc := 110) dL_seen_110 ?_
    refine lw_ladd (pc := 111) dL_seen_111 ?_
    refine lw_lstore_n (pc := 112) (j := 1) (xl' := [(1, ((31 * ((31 * ((31 * ((31 * ((31 * z1) + (i64 v3))) + (i64 v4))) + (i64 v5))) + (i64 v6))) + (i64 v7)))]) dL_seen_112 rfl rfl (by simp) ?_
    obtain ⟨s8, G⟩ := G
    refine lw_iinc (pc := 113) (v' := x3 + 1) (ls' := [some (.inr (some 1)), none, none, some (.inl (x3 + 1)), some (.inl v3)]) dL_seen_113 rfl s8 rfl rfl ?_
    refine lw_goto (pc := 116) (tgt := 33) dL_seen_116 (by decide) ?_
    exact lw_fewer (show subl [some (.inr (some 1)), none, none, some (.inl (x3 + 1)), none] [some (.inr (some 1)), none, none, some (.inl (x3 + 1)), some (.inl v3)] from (And.intro rfl (And.intro rfl trivial))) (G)
set_option maxRecDepth 100000 in
set_option maxHeartbeats 4000000 in
theorem lc_seen_121 {d : Nat} {P : Int → Gs → Prop} {g : Gs} {x3 : Int} {z1 : Int64} (hd : 20 ≤ d)
  (G :
    (∀ v1 : Int, rg v1 → v1 = totO 3 g → (
      ((v1 ≤ x3 → (
        P (Int64.toInt z1) g
        )) ∧ (¬ (v1 ≤ x3) → (
        (∀ v3 : Int, rg v3 → v3 = toldO x3 g.1.2.1 → (
          (rg (x3 + 1)) ∧
          LW m_L_seen d (some (none, [], [(1, ((31 * z1) + (i64 v3)))])) P 121 [some (.inr (some 1)), none, none, some (.inl (x3 + 1)), none] [] g (0, 0)))
        )))))) :
  LW m_L_seen d (some (none, [], [(1, z1)])) P 121 [some (.inr (some 1)), none, none, some (.inl x3), none] [] g (0, 0) := by
  refine lw_iload_n (pc := 121) dL_seen_121 rfl ?_
  refine lw_aload_n (pc := 122) dL_seen_122 rfl ?_
  refine lw_iconst (pc := 123) dL_seen_123 ?_
  refine lw_invV (pc := 124) (md' := m_X6_total) (as := [(.inl 3)]) dL_seen_124 mo_X6_total im_X6_total se_X6_total ml_L_13 rfl rfl (by omega) (Nat.le_of_ble_eq_true rfl) rfl ⟨Nat.le_of_ble_eq_true rfl, Nat.le_of_ble_eq_true rfl⟩ (lm_mono (lm_rg (kq_total (by omega))) (fun v1 g' e => ?_))
  obtain ⟨r_v1, e_v1, rfl⟩ := e
  replace G := G v1 r_v1 e_v1
  refine lw_icmp_ge (pc := 127) (tgt := 149) dL_seen_127 (by decide) (fun c2 => ?_) (fun c2 => ?_)
  · replace G := G.1 c2
    refine lw_lload_n (pc := 149) (j := 1) (x := z1) dL_seen_149 (by simp) ?_
    refine lw_lreturn (pc := 150) dL_seen_150 rfl ?_ (Nat.le_of_ble_eq_true rfl) (Nat.le_of_ble_eq_true rfl)
    exact G
  · replace G := G.2 c2
    refine lw_ldc2 (pc := 130) dL_seen_130 cg_L_11 ?_
    refine lw_lload_n (pc := 133) (j := 1) (x := z1) dL_seen_133 (by simp) ?_
    refine lw_lmul (pc := 134) dL_seen_134 ?_
    refine lw_aload_n (pc := 135) dL_seen_135 rfl ?_
    refine lw_iload_n (pc := 136) dL_seen_136 rfl ?_
    refine lw_invV (pc := 137) (md' := m_X6_told) (as := [(.inl x3)]) dL_seen_137 mo_X6_told im_X6_told se_X6_told ml_L_26 rfl rfl (by omega) (Nat.le_of_ble_eq_true rfl) rfl ⟨Nat.le_of_ble_eq_true rfl, Nat.le_of_ble_eq_true rfl⟩ (lm_mono (lm_rg (kq_told (by omega))) (fun v3 g' e => ?_))
    obtain ⟨r_v3, e_v3, rfl⟩ := e
    replace G := G v3 r_v3 e_v3
    refine lw_i2l (pc := 140) dL_seen_140 ?_
    refine lw_ladd (pc := 141) dL_seen_141 ?_
    refine lw_lstore_n (pc := 142) (j := 1) (xl' := [(1, ((31 * z1) + (i64 v3)))]) dL_seen_142 rfl rfl (by simp) ?_
    obtain ⟨s4, G⟩ := G
    refine lw_iinc (pc := 143) (v' := x3 + 1) (ls' := [some (.inr (some 1)), none, none, some (.inl (x3 + 1)), none]) dL_seen_143 rfl s4 rfl rfl ?_
    refine lw_goto (pc := 146) (tgt := 121) dL_seen_146 (by decide) ?_
    exact G
set_option maxRecDepth 100000 in
set_option maxHeartbeats 4000000 in
theorem lc_put {d : Nat} {P : Int → Gs → Prop} {g : Gs} {x1 : Int} (hd : 20 ≤ d)
  (G :
    (∀ v1 : Int, rg v1 → v1 = totO 0 g → (
      (∀ v2 : Int, rg v2 → v2 = ofO x1 0 g.1.1 → (
        ((v2 < 0 → (
          (∀ (v4 : Int) (g5 : Gs), rg v4 → v4 = (recG (putO x1 g.1) g).1 → g5 = (recG (putO x1 g.1) g).2 → (
            ((¬ v1 = 20 → (
              (rg (v1 + 1)) ∧
              ((¬ v4 = v1 + 1 → (
                P (-9) g5
                )) ∧ (¬ (¬ v4 = v1 + 1) → (
                ((v4 < 0 → (
                  P v4 g5
                  )) ∧ (¬ (v4 < 0) → (
                  (∀ v13 : Int, rg v13 → v13 = ofO x1 0 g5.1.1 → (
                    ((¬ v13 = 1 → (
                      P (-9) g5
                      )) ∧ (¬ (¬ v13 = 1) → (
                      (∀ v16 : Int, rg v16 → v16 = ofO x1 1 g5.1.1 → (
                        ((¬ v16 = 0 → (
                          P (-9) g5
                          )) ∧ (¬ (¬ v16 = 0) → (
                          (∀ v19 : Int, rg v19 → v19 = ofO x1 2 g5.1.1 → (
                            ((¬ v19 = 0 → (
                              P (-9) g5
                              )) ∧ (¬ (¬ v19 = 0) → (
                              P v4 g5
                              )))))
                          )))))
                      )))))
                  )))
                )))
              )) ∧ (¬ (¬ v1 = 20) → (
              ((¬ v4 = (-3) → (
                P (-9) g5
                )) ∧ (¬ (¬ v4 = (-3)) → (
                P v4 g5
                )))
              )))))
          )) ∧ (¬ (v2 < 0) → (
          (∀ (v27 : Int) (g28 : Gs), rg v27 → v27 = (recG (putO x1 g.1) g).1 → g28 = (recG (putO x1 g.1) g).2 → (
            ((¬ v27 = (-4) → (
              P (-9) g28
              )) ∧ (¬ (¬ v27 = (-4)) → (
              P v27 g28
              )))))
          )))))))) :
  LW m_L_put d none P 0 [some (.inr (some 1)), some (.inl x1), none, none, none, none] [] g (0, 0) := by
  refine lw_aload_n (pc := 0) dL_put_0 rfl ?_
  refine lw_iconst (pc := 1) dL_put_1 ?_
  refine lw_invV (pc := 2) (md' := m_X6_total) (as := [(.inl 0)]) dL_put_2 mo_X6_total im_X6_total se_X6_total ml_L_13 rfl rfl (by omega) (Nat.le_of_ble_eq_true rfl) rfl ⟨Nat.le_of_ble_eq_true rfl, Nat.le_of_ble_eq_true rfl⟩ (lm_mono (lm_rg (kq_total (by omega))) (fun v1 g' e => ?_))
  obtain ⟨r_v1, e_v1, rfl⟩ := e
  replace G := G v1 r_v1 e_v1
  refine lw_istore_n (pc := 5) (ls' := [some (.inr (some 1)), some (.inl x1), some (.inl v1), none, none, none]) dL_put_5 (Nat.le_of_ble_eq_true rfl) rfl ?_
  refine lw_aload_n (pc := 6) dL_put_6 rfl ?_
  refine lw_iload_n (pc := 7) dL_put_7 rfl ?_
  refine lw_iconst (pc := 8) dL_put_8 ?_
  refine lw_invV (pc := 9) (md' := m_X6_ofCard) (as := [(.inl x1), (.inl 0)]) dL_put_9 mo_X6_ofCard im_X6_ofCard se_X6_ofCard ml_L_22 rfl rfl (by omega) (Nat.le_of_ble_eq_true rfl) rfl ⟨Nat.le_of_ble_eq_true rfl, Nat.le_of_ble_eq_true rfl⟩ (lm_mono (lm_rg (kq_ofCard (by omega))) (fun v2 g' e => ?_))
  obtain ⟨r_v2, e_v2, rfl⟩ := e
  replace G := G v2 r_v2 e_v2
  refine lw_if_lt (pc := 12) (tgt := 19) dL_put_12 (by decide) (fun c3 => ?_) (fun c3 => ?_)
  · replace G := G.1 c3
    refine lw_iconst (pc := 19) dL_put_19 ?_
    refine lw_istore_n (pc := 20) (ls' := [some (.inr (some 1)), some (.inl x1), some (.inl v1), some (.inl 0), none, none]) dL_put_20 (Nat.le_of_ble_eq_true rfl) rfl ?_
    refine lw_aload_n (pc := 21) dL_put_21 rfl ?_
    refine lw_iload_n (pc := 22) dL_put_22 rfl ?_
    refine lw_invV (pc := 23) (md' := m_X6_put) (as := [(.inl x1)]) dL_put_23 mo_X6_put im_X6_put se_X6_put ml_L_37 rfl rfl (by omega) (Nat.le_of_ble_eq_true rfl) rfl ⟨Nat.le_of_ble_eq_true rfl, Nat.le_of_ble_eq_true rfl⟩ (lm_mono (lm_rg (kc_put (by omega))) (fun v4 g5 e => ?_))
    obtain ⟨r_v4, e_v4, f_v4⟩ := e
    replace G := G v4 g5 r_v4 e_v4 f_v4
    refine lw_istore (pc := 26) (ls' := [some (.inr (some 1)), some (.inl x1), some (.inl v1), some (.inl 0), some (.inl v4), none]) dL_put_26 (Nat.le_of_ble_eq_true rfl) rfl ?_
    refine lw_iload (pc := 28) dL_put_28 rfl ?_
    refine lw_iload_n (pc := 30) dL_put_30 rfl ?_
    refine lw_if_eq (pc := 31) (tgt := 39) dL_put_31 (by decide) (fun _ => ?_) (fun h => absurd (by decide) h)
    refine lw_iload_n (pc := 39) dL_put_39 rfl ?_
    refine lw_bipush (pc := 40) dL_put_40 ?_
    refine lw_icmp_ne (pc := 42) (tgt := 50) dL_put_42 (by decide) (fun c7 => ?_) (fun c7 => ?_)
    · replace G := G.1 c7
      refine lw_iload_n (pc := 50) dL_put_50 rfl ?_
      refine lw_iconst (pc := 51) dL_put_51 ?_
      obtain ⟨s8, G⟩ := G
      refine lw_iadd (pc := 52) (v := v1 + 1) dL_put_52 s8 rfl ?_
      refine lw_icmp_ne (pc := 53) (tgt := 93) dL_put_53 (by decide) (fun c9 => ?_) (fun c9 => ?_)
      · replace G := G.1 c9
        refine lw_iconst (pc := 93) dL_put_93 ?_
        refine lw_istore (pc := 94) (ls' := [some (.inr (some 1)), some (.inl x1), some (.inl v1), some (.inl 0), some (.inl v4), some (.inl 0)]) dL_put_94 (Nat.le_of_ble_eq_true rfl) rfl ?_
        refine lw_iload (pc := 96) dL_put_96 rfl ?_
        refine lw_if_eq (pc := 98) (tgt := 106) dL_put_98 (by decide) (fun _ => ?_) (fun h => absurd (by decide) h)
        refine lw_bipush (pc := 106) dL_put_106 ?_
        refine lw_ireturn (pc := 108) dL_put_108 rfl ?_ (Nat.le_of_ble_eq_true rfl) (Nat.le_of_ble_eq_true rfl)
        exact G
      · replace G := G.2 c9
        refine lw_iload (pc := 56) dL_put_56 rfl ?_
        refine lw_if_lt (pc := 58) (tgt := 89) dL_put_58 (by decide) (fun c11 => ?_) (fun c11 => ?_)
        · replace G := G.1 c11
          refine lw_iconst (pc := 89) dL_put_89 ?_
          refine lw_goto (pc := 90) (tgt := 94) dL_put_90 (by decide) ?_
          refine lw_istore (pc := 94) (ls' := [some (.inr (some 1)), some (.inl x1), some (.inl v1), some (.inl 0), some (.inl v4), some (.inl 1)]) dL_put_94 (Nat.le_of_ble_eq_true rfl) rfl ?_
          refine lw_iload (pc := 96) dL_put_96 rfl ?_
          refine lw_if_eq (pc := 98) (tgt := 106) dL_put_98 (by decide) (fun h => absurd h (by decide)) (fun _ => ?_)
          refine lw_iload (pc := 101) dL_put_101 rfl ?_
          refine lw_goto (pc := 103) (tgt := 108) dL_put_103 (by decide) ?_
          refine lw_ireturn (pc := 108) dL_put_108 rfl ?_ (Nat.le_of_ble_eq_true rfl) (Nat.le_of_ble_eq_true rfl)
          exact G
        · replace G := G.2 c11
          refine lw_aload_n (pc := 61) dL_put_61 rfl ?_
          refine lw_iload_n (pc := 62) dL_put_62 rfl ?_
          refine lw_iconst (pc := 63) dL_put_63 ?_
          refine lw_invV (pc := 64) (md' := m_X6_ofCard) (as := [(.inl x1), (.inl 0)]) dL_put_64 mo_X6_ofCard im_X6_ofCard se_X6_ofCard ml_L_22 rfl rfl (by omega) (Nat.le_of_ble_eq_true rfl) rfl ⟨Nat.le_of_ble_eq_true rfl, Nat.le_of_ble_eq_true rfl⟩ (lm_mono (lm_rg (kq_ofCard (by omega))) (fun v13 g' e => ?_))
          obtain ⟨r_v13, e_v13, rfl⟩ := e
          replace G := G v13 r_v13 e_v13
          refine lw_iconst (pc := 67) dL_put_67 ?_
          refine lw_icmp_ne (pc := 68) (tgt := 93) dL_put_68 (by decide) (fun c14 => ?_) (fun c14 => ?_)
          · replace G := G.1 c14
            refine lw_iconst (pc := 93) dL_put_93 ?_
            refine lw_istore (pc := 94) (ls' := [some (.inr (some 1)), some (.inl x1), some (.inl v1), some (.inl 0), some (.inl v4), some (.inl 0)]) dL_put_94 (Nat.le_of_ble_eq_true rfl) rfl ?_
            refine lw_iload (pc := 96) dL_put_96 rfl ?_
            refine lw_if_eq (pc := 98) (tgt := 106) dL_put_98 (by decide) (fun _ => ?_) (fun h => absurd (by decide) h)
            refine lw_bipush (pc := 106) dL_put_106 ?_
            refine lw_ireturn (pc := 108) dL_put_108 rfl ?_ (Nat.le_of_ble_eq_true rfl) (Nat.le_of_ble_eq_true rfl)
            exact G
          · replace G := G.2 c14
            refine lw_aload_n (pc := 71) dL_put_71 rfl ?_
            refine lw_iload_n (pc := 72) dL_put_72 rfl ?_
            refine lw_iconst (pc := 73) dL_put_73 ?_
            refine lw_invV (pc := 74) (md' := m_X6_ofCard) (as := [(.inl x1), (.inl 1)]) dL_put_74 mo_X6_ofCard im_X6_ofCard se_X6_ofCard ml_L_22 rfl rfl (by omega) (Nat.le_of_ble_eq_true rfl) rfl ⟨Nat.le_of_ble_eq_true rfl, Nat.le_of_ble_eq_true rfl⟩ (lm_mono (lm_rg (kq_ofCard (by omega))) (fun v16 g' e => ?_))
            obtain ⟨r_v16, e_v16, rfl⟩ := e
            replace G := G v16 r_v16 e_v16
            refine lw_if_ne (pc := 77) (tgt := 93) dL_put_77 (by decide) (fun c17 => ?_) (fun c17 => ?_)
            · replace G := G.1 c17
              refine lw_iconst (pc := 93) dL_put_93 ?_
              refine lw_istore (pc := 94) (ls' := [some (.inr (some 1)), some (.inl x1), some (.inl v1), some (.inl 0), some (.inl v4), some (.inl 0)]) dL_put_94 (Nat.le_of_ble_eq_true rfl) rfl ?_
              refine lw_iload (pc := 96) dL_put_96 rfl ?_
              refine lw_if_eq (pc := 98) (tgt := 106) dL_put_98 (by decide) (fun _ => ?_) (fun h => absurd (by decide) h)
              refine lw_bipush (pc := 106) dL_put_106 ?_
              refine lw_ireturn (pc := 108) dL_put_108 rfl ?_ (Nat.le_of_ble_eq_true rfl) (Nat.le_of_ble_eq_true rfl)
              exact G
            · replace G := G.2 c17
              refine lw_aload_n (pc := 80) dL_put_80 rfl ?_
              refine lw_iload_n (pc := 81) dL_put_81 rfl ?_
              refine lw_iconst (pc := 82) dL_put_82 ?_
              refine lw_invV (pc := 83) (md' := m_X6_ofCard) (as := [(.inl x1), (.inl 2)]) dL_put_83 mo_X6_ofCard im_X6_ofCard se_X6_ofCard ml_L_22 rfl rfl (by omega) (Nat.le_of_ble_eq_true rfl) rfl ⟨Nat.le_of_ble_eq_true rfl, Nat.le_of_ble_eq_true rfl⟩ (lm_mono (lm_rg (kq_ofCard (by omega))) (fun v19 g' e => ?_))
              obtain ⟨r_v19, e_v19, rfl⟩ := e
              replace G := G v19 r_v19 e_v19
              refine lw_if_ne (pc := 86) (tgt := 93) dL_put_86 (by decide) (fun c20 => ?_) (fun c20 => ?_)
              · replace G := G.1 c20
                refine lw_iconst (pc := 93) dL_put_93 ?_
                refine lw_istore (pc := 94) (ls' := [some (.inr (some 1)), some (.inl x1), some (.inl v1), some (.inl 0), some (.inl v4), some (.inl 0)]) dL_put_94 (Nat.le_of_ble_eq_true rfl) rfl ?_
                refine lw_iload (pc := 96) dL_put_96 rfl ?_
                refine lw_if_eq (pc := 98) (tgt := 106) dL_put_98 (by decide) (fun _ => ?_) (fun h => absurd (by decide) h)
                refine lw_bipush (pc := 106) dL_put_106 ?_
                refine lw_ireturn (pc := 108) dL_put_108 rfl ?_ (Nat.le_of_ble_eq_true rfl) (Nat.le_of_ble_eq_true rfl)
                exact G
              · replace G := G.2 c20
                refine lw_iconst (pc := 89) dL_put_89 ?_
                refine lw_goto (pc := 90) (tgt := 94) dL_put_90 (by decide) ?_
                refine lw_istore (pc := 94) (ls' := [some (.inr (some 1)), some (.inl x1), some (.inl v1), some (.inl 0), some (.inl v4), some (.inl 1)]) dL_put_94 (Nat.le_of_ble_eq_true rfl) rfl ?_
                refine lw_iload (pc := 96) dL_put_96 rfl ?_
                refine lw_if_eq (pc := 98) (tgt := 106) dL_put_98 (by decide) (fun h => absurd h (by decide)) (fun _ => ?_)
                refine lw_iload (pc := 101) dL_put_101 rfl ?_
                refine lw_goto (pc := 103) (tgt := 108) dL_put_103 (by decide) ?_
                refine lw_ireturn (pc := 108) dL_put_108 rfl ?_ (Nat.le_of_ble_eq_true rfl) (Nat.le_of_ble_eq_true rfl)
                exact G
    · replace G := G.2 c7
      refine lw_bipush (pc := 45) dL_put_45 ?_
      refine lw_goto (pc := 47) (tgt := 53) dL_put_47 (by decide) ?_
      refine lw_icmp_ne (pc := 53) (tgt := 93) dL_put_53 (by decide) (fun c23 => ?_) (fun c23 => ?_)
      · replace G := G.1 c23
        refine lw_iconst (pc := 93) dL_put_93 ?_
        refine lw_istore (pc := 94) (ls' := [some (.inr (some 1)), some (.inl x1), some (.inl v1), some (.inl 0), some (.inl v4), some (.inl 0)]) dL_put_94 (Nat.le_of_ble_eq_true rfl) rfl ?_
        refine lw_iload (pc := 96) dL_put_96 rfl ?_
        refine lw_if_eq (pc := 98) (tgt := 106) dL_put_98 (by decide) (fun _ => ?_) (fun h => absurd (by decide) h)
        refine lw_bipush (pc := 106) dL_put_106 ?_
        refine lw_ireturn (pc := 108) dL_put_108 rfl ?_ (Nat.le_of_ble_eq_true rfl) (Nat.le_of_ble_eq_true rfl)
        exact G
      · replace G := G.2 c23
        refine lw_iload (pc := 56) dL_put_56 rfl ?_
        refine lw_if_lt (pc := 58) (tgt := 89) dL_put_58 (by decide) (fun _ => ?_) (fun h => absurd (by omega) h)
        refine lw_iconst (pc := 89) dL_put_89 ?_
        refine lw_goto (pc := 90) (tgt := 94) dL_put_90 (by decide) ?_
        refine lw_istore (pc := 94) (ls' := [some (.inr (some 1)), some (.inl x1), some (.inl v1), some (.inl 0), some (.inl v4), some (.inl 1)]) dL_put_94 (Nat.le_of_ble_eq_true rfl) rfl ?_
        refine lw_iload (pc := 96) dL_put_96 rfl ?_
        refine lw_if_eq (pc := 98) (tgt := 106) dL_put_98 (by decide) (fun h => absurd h (by decide)) (fun _ => ?_)
        refine lw_iload (pc := 101) dL_put_101 rfl ?_
        refine lw_goto (pc := 103) (tgt := 108) dL_put_103 (by decide) ?_
        refine lw_ireturn (pc := 108) dL_put_108 rfl ?_ (Nat.le_of_ble_eq_true rfl) (Nat.le_of_ble_eq_true rfl)
        exact G
  · replace G := G.2 c3
    refine lw_iconst (pc := 15) dL_put_15 ?_
    refine lw_goto (pc := 16) (tgt := 20) dL_put_16 (by decide) ?_
    refine lw_istore_n (pc := 20) (ls' := [some (.inr (some 1)), some (.inl x1), some (.inl v1), some (.inl 1), none, none]) dL_put_20 (Nat.le_of_ble_eq_true rfl) rfl ?_
    refine lw_aload_n (pc := 21) dL_put_21 rfl ?_
    refine lw_iload_n (pc := 22) dL_put_22 rfl ?_
    refine lw_invV (pc := 23) (md' := m_X6_put) (as := [(.inl x1)]) dL_put_23 mo_X6_put im_X6_put se_X6_put ml_L_37 rfl rfl (by omega) (Nat.le_of_ble_eq_true rfl) rfl ⟨Nat.le_of_ble_eq_true rfl, Nat.le_of_ble_eq_true rfl⟩ (lm_mono (lm_rg (kc_put (by omega))) (fun v27 g28 e => ?_))
    obtain ⟨r_v27, e_v27, f_v27⟩ := e
    replace G := G v27 g28 r_v27 e_v27 f_v27
    refine lw_istore (pc := 26) (ls' := [some (.inr (some 1)), some (.inl x1), some (.inl v1), some (.inl 1), some (.inl v27), none]) dL_put_26 (Nat.le_of_ble_eq_true rfl) rfl ?_
    refine lw_iload (pc := 28) dL_put_28 rfl ?_
    refine lw_iload_n (pc := 30) dL_put_30 rfl ?_
    refine lw_if_eq (pc := 31) (tgt := 39) dL_put_31 (by decide) (fun h => absurd h (by decide)) (fun _ => ?_)
    refine lw_bipush (pc := 34) dL_put_34 ?_
    refine lw_goto (pc := 36) (tgt := 53) dL_put_36 (by decide) ?_
    refine lw_icmp_ne (pc := 53) (tgt := 93) dL_put_53 (by decide) (fun c30 => ?_) (fun c30 => ?_)
    · replace G := G.1 c30
      refine lw_iconst (pc := 93) dL_put_93 ?_
      refine lw_istore (pc := 94) (ls' := [some (.inr (some 1)), some (.inl x1), some (.inl v1), some (.inl 1), some (.inl v27), some (.inl 0)]) dL_put_94 (Nat.le_of_ble_eq_true rfl) rfl ?_
      refine lw_iload (pc := 96) dL_put_96 rfl ?_
      refine lw_if_eq (pc := 98) (tgt := 106) dL_put_98 (by decide) (fun _ => ?_) (fun h => absurd (by decide) h)
      refine lw_bipush (pc := 106) dL_put_106 ?_
      refine lw_ireturn (pc := 108) dL_put_108 rfl ?_ (Nat.le_of_ble_eq_true rfl) (Nat.le_of_ble_eq_true rfl)
      exact G
    · replace G := G.2 c30
      refine lw_iload (pc := 56) dL_put_56 rfl ?_
      refine lw_if_lt (pc := 58) (tgt := 89) dL_put_58 (by decide) (fun _ => ?_) (fun h => absurd (by omega) h)
      refine lw_iconst (pc := 89) dL_put_89 ?_
      refine lw_goto (pc := 90) (tgt := 94) dL_put_90 (by decide) ?_
      refine lw_istore (pc := 94) (ls' := [some (.inr (some 1)), some (.inl x1), some (.inl v1), some (.inl 1), some (.inl v27), some (.inl 1)]) dL_put_94 (Nat.le_of_ble_eq_true rfl) rfl ?_
      refine lw_iload (pc := 96) dL_put_96 rfl ?_
      refine lw_if_eq (pc := 98) (tgt := 106) dL_put_98 (by decide) (fun h => absurd h (by decide)) (fun _ => ?_)
      refine lw_iload (pc := 101) dL_put_101 rfl ?_
      refine lw_goto (pc := 103) (tgt := 108) dL_put_103 (by decide) ?_
      refine lw_ireturn (pc := 108) dL_put_108 rfl ?_ (Nat.le_of_ble_eq_true rfl) (Nat.le_of_ble_eq_true rfl)
      exact G
set_option maxRecDepth 100000 in
set_option maxHeartbeats 4000000 in
theorem lc_refuses {d : Nat} {P : Int → Gs → Prop} {g : Gs} {x1 : Int} (hd : 20 ≤ d)
  (G :
    LJ (d - 1) m_L_seen [(.inr (some 1))] g (fun y3 g2 => (
      (∀ v4 : Int, rg v4 → v4 = totO 15 g2 → (
        LM (d - 1) m_L_refusesAny [(.inr (some 1)), (.inl x1)] g2 (fun v5 g6 => (
          ((v5 = 0 → (
            P 0 g6
            )) ∧ (¬ (v5 = 0) → (
            LJ (d - 1) m_L_seen [(.inr (some 1))] g6 (fun y10 g9 => (
              (y10 = y3) ∧
              (∀ v13 : Int, rg v13 → v13 = totO 15 g9 → (
                ((¬ v13 = v4 → (
                  P 0 g9
                  )) ∧ (¬ (¬ v13 = v4) → (
                  P 1 g9
                  )))))))
            )))))))))) :
  LW m_L_refuses d (some (none, [], [])) P 0 [some (.inr (some 1)), some (.inl x1), none, none, none] [] g (0, 0) := by
  refine lw_aload_n (pc := 0) dL_refuses_0 rfl ?_
  refine lw_invJ (pc := 1) (md' := m_L_seen) (as := [(.inr (some 1))]) dL_refuses_1 mo_L_seen sm_L_seen ml_L_84 rfl rfl (by omega) (Nat.le_of_ble_eq_true rfl) rfl ⟨Nat.le_of_ble_eq_true rfl, Nat.le_of_ble_eq_true rfl⟩ (lj_mono G (fun y3 g2 G => ?_))
  refine lw_lstore_n (pc := 4) (j := 2) (xl' := [(2, y3)]) dL_refuses_4 rfl rfl (by simp) ?_
  refine lw_aload_n (pc := 5) dL_refuses_5 rfl ?_
  refine lw_bipush (pc := 6) dL_refuses_6 ?_
  refine lw_invV (pc := 8) (md' := m_X6_total) (as := [(.inl 15)]) dL_refuses_8 mo_X6_total im_X6_total se_X6_total ml_L_13 rfl rfl (by omega) (Nat.le_of_ble_eq_true rfl) rfl ⟨Nat.le_of_ble_eq_true rfl, Nat.le_of_ble_eq_true rfl⟩ (lm_mono (lm_rg (kq_total (by omega))) (fun v4 g' e => ?_))
  obtain ⟨r_v4, e_v4, rfl⟩ := e
  replace G := G v4 r_v4 e_v4
  refine lw_istore (pc := 11) (ls' := [some (.inr (some 1)), some (.inl x1), none, none, some (.inl v4)]) dL_refuses_11 (Nat.le_of_ble_eq_true rfl) rfl ?_
  refine lw_aload_n (pc := 13) dL_refuses_13 rfl ?_
  refine lw_iload_n (pc := 14) dL_refuses_14 rfl ?_
  refine lw_invS (pc := 15) (md' := m_L_refusesAny) (as := [(.inr (some 1)), (.inl x1)]) dL_refuses_15 mo_L_refusesAny sm_L_refusesAny ml_L_88 rfl rfl (by omega) (Nat.le_of_ble_eq_true rfl) rfl ⟨Nat.le_of_ble_eq_true rfl, Nat.le_of_ble_eq_true rfl⟩ (lm_mono G (fun v5 g6 G => ?_))
  refine lw_if_eq (pc := 18) (tgt := 45) dL_refuses_18 (by decide) (fun c7 => ?_) (fun c7 => ?_)
  · replace G := G.1 c7
    refine lw_iconst (pc := 45) dL_refuses_45 ?_
    refine lw_zreturn (pc := 46) dL_refuses_46 rfl (by decide) ?_ (Nat.le_of_ble_eq_true rfl) (Nat.le_of_ble_eq_true rfl)
    exact G
  · replace G := G.2 c7
    refine lw_aload_n (pc := 21) dL_refuses_21 rfl ?_
    refine lw_invJ (pc := 22) (md' := m_L_seen) (as := [(.inr (some 1))]) dL_refuses_22 mo_L_seen sm_L_seen ml_L_84 rfl rfl (by omega) (Nat.le_of_ble_eq_true rfl) rfl ⟨Nat.le_of_ble_eq_true rfl, Nat.le_of_ble_eq_true rfl⟩ (lj_mono G (fun y10 g9 G => ?_))
    refine lw_lload_n (pc := 25) (j := 2) (x := y3) dL_refuses_25 (by simp) ?_
    obtain ⟨s11, G⟩ := G
    refine lw_lcmp (pc := 26) dL_refuses_26 s11 ?_
    refine lw_if_ne (pc := 27) (tgt := 45) dL_refuses_27 (by decide) (fun h => absurd h (by decide)) (fun _ => ?_)
    refine lw_aload_n (pc := 30) dL_refuses_30 rfl ?_
    refine lw_bipush (pc := 31) dL_refuses_31 ?_
    refine lw_invV (pc := 33) (md' := m_X6_total) (as := [(.inl 15)]) dL_refuses_33 mo_X6_total im_X6_total se_X6_total ml_L_13 rfl rfl (by omega) (Nat.le_of_ble_eq_true rfl) rfl ⟨Nat.le_of_ble_eq_true rfl, Nat.le_of_ble_eq_true rfl⟩ (lm_mono (lm_rg (kq_total (by omega))) (fun v13 g' e => ?_))
    obtain ⟨r_v13, e_v13, rfl⟩ := e
    replace G := G v13 r_v13 e_v13
    refine lw_iload (pc := 36) dL_refuses_36 rfl ?_
    refine lw_icmp_ne (pc := 38) (tgt := 45) dL_refuses_38 (by decide) (fun c14 => ?_) (fun c14 => ?_)
    · replace G := G.1 c14
      refine lw_iconst (pc := 45) dL_refuses_45 ?_
      refine lw_zreturn (pc := 46) dL_refuses_46 rfl (by decide) ?_ (Nat.le_of_ble_eq_true rfl) (Nat.le_of_ble_eq_true rfl)
      exact G
    · replace G := G.2 c14
      refine lw_iconst (pc := 41) dL_refuses_41 ?_
      refine lw_goto (pc := 42) (tgt := 46) dL_refuses_42 (by decide) ?_
      refine lw_zreturn (pc := 46) dL_refuses_46 rfl (by decide) ?_ (Nat.le_of_ble_eq_true rfl) (Nat.le_of_ble_eq_true rfl)
      exact G
