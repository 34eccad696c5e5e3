set_option maxRecDepth 100000 in
set_option maxHeartbeats 4000000 in
theorem vc_X4_length {d : Nat} {Q : Option Int → AH → Prop} {h : AH} {t : Nat} (hL : QX h t)
  (g :
    Q (some (hi h t 1)) h) :
  AM d m_X4_length [(.inr (some t))] h Q := by
  refine am_body mo_X4_length (Nat.le_of_ble_eq_true rfl) ?_
  show AW m_X4_length d none Q 0 [some (.inr (some t))] [] h (0, 0)
  obtain ⟨kt, rt_characters, kt_characters, rt_kinds, kt_kinds, rt_numbers, kt_numbers⟩ := id hL
  refine aw_aload_n (pc := 0) dX4_length_0 rfl ?_
  refine ax_geti (pc := 1) (v := hi h t 1) dX4_length_1 fl_X4_15 (by decide) rfl kt rfl ?_
  exact ax_ireturn (pc := 4) dX4_length_4 rfl g (by decide) (by decide)
set_option maxRecDepth 100000 in
set_option maxHeartbeats 4000000 in
theorem vc_X4_empty {d : Nat} {Q : Option Int → AH → Prop} {h : AH} {t : Nat} (hL : QX h t)
  (g :
    Q (some (hi h t 1)) (up h t 1 0)) :
  AM d m_X4_empty [(.inr (some t))] h Q := by
  refine am_body mo_X4_empty (Nat.le_of_ble_eq_true rfl) ?_
  show AW m_X4_empty d none Q 0 [some (.inr (some t)), none] [] h (0, 0)
  obtain ⟨kt, rt_characters, kt_characters, rt_kinds, kt_kinds, rt_numbers, kt_numbers⟩ := id hL
  refine aw_aload_n (pc := 0) dX4_empty_0 rfl ?_
  refine ax_geti (pc := 1) (v := hi h t 1) dX4_empty_1 fl_X4_15 (by decide) rfl kt rfl ?_
  refine ax_istore_n (pc := 4) (ls' := [some (.inr (some t)), some (.inl (hi h t 1))]) dX4_empty_4 (Nat.le_of_ble_eq_true rfl) rfl ?_
  refine aw_aload_n (pc := 5) dX4_empty_5 rfl ?_
  refine aw_iconst (pc := 6) dX4_empty_6 ?_
  refine ax_puti (pc := 7) dX4_empty_7 fl_X4_15 (by decide) rfl rfl rfl kt ?_
  refine aw_iload_n (pc := 10) dX4_empty_10 rfl ?_
  exact ax_ireturn (pc := 11) dX4_empty_11 rfl g (by decide) (by decide)
set_option maxRecDepth 100000 in
set_option maxHeartbeats 4000000 in
theorem vc_X4_orders {d : Nat} {Q : Option Int → AH → Prop} {h : AH} {t : Nat} (hL : QX h t)
  (g :
    Q (some (hi h t 4)) h) :
  AM d m_X4_orders [(.inr (some t))] h Q := by
  refine am_body mo_X4_orders (Nat.le_of_ble_eq_true rfl) ?_
  show AW m_X4_orders d none Q 0 [some (.inr (some t))] [] h (0, 0)
  obtain ⟨kt, rt_characters, kt_characters, rt_kinds, kt_kinds, rt_numbers, kt_numbers⟩ := id hL
  refine aw_aload_n (pc := 0) dX4_orders_0 rfl ?_
  refine ax_geti (pc := 1) (v := hi h t 4) dX4_orders_1 fl_X4_26 (by decide) rfl kt rfl ?_
  exact ax_ireturn (pc := 4) dX4_orders_4 rfl g (by decide) (by decide)
set_option maxRecDepth 100000 in
set_option maxHeartbeats 4000000 in
theorem vc_X4_kindAt {d : Nat} {Q : Option Int → AH → Prop} {h : AH} {t : Nat} {x1 : Int} (hL : QX h t)
  (g :
    ((x1 < 0 → (
      Q (some 0) h
    )) ∧
    (¬ (x1 < 0) → (
      ((30 ≤ x1 → (
        Q (some 0) h
      )) ∧
      (¬ (30 ≤ x1) → (
        (0 ≤ x1 ∧ x1 < 30) ∧
        (0 ≤ hi h (t + 2) x1 ∧ hi h (t + 2) x1 < 65536) ∧
        Q (some (hi h (t + 2) x1)) h
      )))
    )))) :
  AM d m_X4_kindAt [(.inr (some t)), (.inl x1)] h Q := by
  refine am_body mo_X4_kindAt (Nat.le_of_ble_eq_true rfl) ?_
  show AW m_X4_kindAt d none Q 0 [some (.inr (some t)), some (.inl x1)] [] h (0, 0)
  obtain ⟨kt, rt_characters, kt_characters, rt_kinds, kt_kinds, rt_numbers, kt_numbers⟩ := id hL
  refine aw_iload_n (pc := 0) dX4_kindAt_0 rfl ?_
  refine aw_if_lt (pc := 1) (tgt := 19) dX4_kindAt_1 (by decide) (fun c1 => ?_) (fun c1 => ?_)
  · replace g := g.1 c1
    refine aw_iconst (pc := 19) dX4_kindAt_19 ?_
    exact aw_ireturn (pc := 20) dX4_kindAt_20 (by simp [okr]) g (by decide) (by decide)
  · replace g := g.2 c1
    refine aw_iload_n (pc := 4) dX4_kindAt_4 rfl ?_
    refine aw_bipush (pc := 5) dX4_kindAt_5 ?_
    refine aw_icmp_ge (pc := 7) (tgt := 19) dX4_kindAt_7 (by decide) (fun c2 => ?_) (fun c2 => ?_)
    · replace g := g.1 c2
      refine aw_iconst (pc := 19) dX4_kindAt_19 ?_
      exact aw_ireturn (pc := 20) dX4_kindAt_20 (by simp [okr]) g (by decide) (by decide)
    · replace g := g.2 c2
      refine aw_aload_n (pc := 10) dX4_kindAt_10 rfl ?_
      refine aw_getr (pc := 11) (r := some (t + 2)) dX4_kindAt_11 fl_X4_19 (by decide) rfl kt rt_kinds ?_
      refine aw_iload_n (pc := 14) dX4_kindAt_14 rfl ?_
      obtain ⟨s3, g⟩ := g
      refine ax_caload (pc := 15) (n := 30) (v := hi h (t + 2) x1) dX4_kindAt_15 kt_kinds s3 rfl ?_
      refine aw_goto (pc := 16) (tgt := 20) dX4_kindAt_16 (by decide) ?_
      obtain ⟨s4, g⟩ := g
      exact aw_ireturn (pc := 20) dX4_kindAt_20 s4 g (by decide) (by decide)
set_option maxRecDepth 100000 in
set_option maxHeartbeats 4000000 in
theorem vc_X4_numberAt {d : Nat} {Q : Option Int → AH → Prop} {h : AH} {t : Nat} {x1 : Int} (hL : QX h t)
  (g :
    ((x1 < 0 → (
      Q (some 0) h
    )) ∧
    (¬ (x1 < 0) → (
      ((30 ≤ x1 → (
        Q (some 0) h
      )) ∧
      (¬ (30 ≤ x1) → (
        (0 ≤ x1 ∧ x1 < 30) ∧
        Q (some (hi h (t + 3) x1)) h
      )))
    )))) :
  AM d m_X4_numberAt [(.inr (some t)), (.inl x1)] h Q := by
  refine am_body mo_X4_numberAt (Nat.le_of_ble_eq_true rfl) ?_
  show AW m_X4_numberAt d none Q 0 [some (.inr (some t)), some (.inl x1)] [] h (0, 0)
  obtain ⟨kt, rt_characters, kt_characters, rt_kinds, kt_kinds, rt_numbers, kt_numbers⟩ := id hL
  refine aw_iload_n (pc := 0) dX4_numberAt_0 rfl ?_
  refine aw_if_lt (pc := 1) (tgt := 19) dX4_numberAt_1 (by decide) (fun c1 => ?_) (fun c1 => ?_)
  · replace g := g.1 c1
    refine aw_iconst (pc := 19) dX4_numberAt_19 ?_
    exact ax_ireturn (pc := 20) dX4_numberAt_20 rfl g (by decide) (by decide)
  · replace g := g.2 c1
    refine aw_iload_n (pc := 4) dX4_numberAt_4 rfl ?_
    refine aw_bipush (pc := 5) dX4_numberAt_5 ?_
    refine aw_icmp_ge (pc := 7) (tgt := 19) dX4_numberAt_7 (by decide) (fun c2 => ?_) (fun c2 => ?_)
    · replace g := g.1 c2
      refine aw_iconst (pc := 19) dX4_numberAt_19 ?_
      exact ax_ireturn (pc := 20) dX4_numberAt_20 rfl g (by decide) (by decide)
    · replace g := g.2 c2
      refine aw_aload_n (pc := 10) dX4_numberAt_10 rfl ?_
      refine aw_getr (pc := 11) (r := some (t + 3)) dX4_numberAt_11 fl_X4_22 (by decide) rfl kt rt_numbers ?_
      refine aw_iload_n (pc := 14) dX4_numberAt_14 rfl ?_
      obtain ⟨s3, g⟩ := g
      refine ax_iaload (pc := 15) (n := 30) (v := hi h (t + 3) x1) dX4_numberAt_15 kt_numbers s3 rfl ?_
      refine aw_goto (pc := 16) (tgt := 20) dX4_numberAt_16 (by decide) ?_
      exact ax_ireturn (pc := 20) dX4_numberAt_20 rfl g (by decide) (by decide)
set_option maxRecDepth 100000 in
set_option maxHeartbeats 4000000 in
theorem vc_X4_readOrders {d : Nat} {Q : Option Int → AH → Prop} {h : AH} {t : Nat} (hd : 1 ≤ d) (hL : QX h t)
  (g :
    AW m_X4_readOrders d none Q 12 [some (.inr (some t)), some (.inl 0)] [] (up (up h t 4 0) t 5 0) (0, 0)) :
  AM d m_X4_readOrders [(.inr (some t))] h Q := by
  refine am_body mo_X4_readOrders (Nat.le_of_ble_eq_true rfl) ?_
  show AW m_X4_readOrders d none Q 0 [some (.inr (some t)), none] [] h (0, 0)
  obtain ⟨kt, rt_characters, kt_characters, rt_kinds, kt_kinds, rt_numbers, kt_numbers⟩ := id hL
  refine aw_aload_n (pc := 0) dX4_readOrders_0 rfl ?_
  refine aw_iconst (pc := 1) dX4_readOrders_1 ?_
  refine ax_puti (pc := 2) dX4_readOrders_2 fl_X4_26 (by decide) rfl rfl rfl kt ?_
  refine aw_aload_n (pc := 5) dX4_readOrders_5 rfl ?_
  refine aw_iconst (pc := 6) dX4_readOrders_6 ?_
  refine ax_puti (pc := 7) dX4_readOrders_7 fl_X4_29 (by decide) rfl rfl rfl (hkU kt) ?_
  refine aw_iconst (pc := 10) dX4_readOrders_10 ?_
  refine ax_istore_n (pc := 11) (ls' := [some (.inr (some t)), some (.inl 0)]) dX4_readOrders_11 (Nat.le_of_ble_eq_true rfl) rfl ?_
  exact g
set_option maxRecDepth 100000 in
set_option maxHeartbeats 4000000 in
theorem vc_X4_readOrders_12 {d : Nat} {Q : Option Int → AH → Prop} {h : AH} {t : Nat} {x1 : Int} (hd : 1 ≤ d) (hL : QX h t)
  (g :
    ((30 < x1 → (
      Q (some (hi h t 5)) h
    )) ∧
    (¬ (30 < x1) → (
      AM (d - 1) m_X4_readOrder [(.inr (some t))] h (fun r h2 => 
        ∃ v3, r = some v3 ∧ SS h h2 ∧
        ((¬ v3 = 0 → (
          ((hi h2 t 5 < hi h2 t 1 → (
            AM (d - 1) m_X4_characterAt [(.inr (some t)), (.inl (hi h2 t 5))] h2 (fun r h6 => 
              ∃ v7, r = some v7 ∧ SS h2 h6 ∧
              ((v7 = 59 → (
                (rg ((hi h6 t 5) + 1)) ∧
                (rg (x1 + 1)) ∧
                AW m_X4_readOrders d none Q 12 [some (.inr (some t)), some (.inl (x1 + 1))] [] (up h6 t 5 ((hi h6 t 5) + 1)) (0, 0)
              )) ∧
              (¬ (v7 = 59) → (
                Q (some (hi h6 t 5)) h6
              ))))
          )) ∧
          (¬ (hi h2 t 5 < hi h2 t 1) → (
            Q (some (-1)) h2
          )))
        )) ∧
        (¬ (¬ v3 = 0) → (
          Q (some (hi h2 t 5)) h2
        ))))
    )))) :
  AW m_X4_readOrders d none Q 12 [some (.inr (some t)), some (.inl x1)] [] h (0, 0) := by
  obtain ⟨kt, rt_characters, kt_characters, rt_kinds, kt_kinds, rt_numbers, kt_numbers⟩ := id hL
  refine aw_iload_n (pc := 12) dX4_readOrders_12 rfl ?_
  refine aw_bipush (pc := 13) dX4_readOrders_13 ?_
  refine aw_icmp_gt (pc := 15) (tgt := 77) dX4_readOrders_15 (by decide) (fun c1 => ?_) (fun c1 => ?_)
  · replace g := g.1 c1
    refine aw_aload_n (pc := 77) dX4_readOrders_77 rfl ?_
    refine ax_geti (pc := 78) (v := hi h t 5) dX4_readOrders_78 fl_X4_29 (by decide) rfl kt rfl ?_
    exact ax_ireturn (pc := 81) dX4_readOrders_81 rfl g (by decide) (by decide)
  · replace g := g.2 c1
    refine aw_aload_n (pc := 18) dX4_readOrders_18 rfl ?_
    refine aw_invV (pc := 19) (md' := m_X4_readOrder) (ci := 4) (as := []) dX4_readOrders_19 mo_X4_readOrder im_X4_readOrder se_X4_readOrder ml_X4_35 rfl kt rfl hd (Nat.le_of_ble_eq_true rfl) (Nat.le_of_ble_eq_true rfl) (Nat.le_of_ble_eq_true rfl) ?_
    refine am_mono g (fun _ h2 _ ok_h2 g => ?_)
    obtain ⟨v3, rfl, ss_h2, g⟩ := g
    replace hL := QX.ss hL ss_h2
    obtain ⟨kt, rt_characters, kt_characters, rt_kinds, kt_kinds, rt_numbers, kt_numbers⟩ := id hL
    show AW m_X4_readOrders d none Q 22 [some (.inr (some t)), some (.inl x1)] [(.inl v3)] h2 (0, 0)
    refine aw_if_ne (pc := 22) (tgt := 30) dX4_readOrders_22 (by decide) (fun c4 => ?_) (fun c4 => ?_)
    · replace g := g.1 c4
      refine aw_aload_n (pc := 30) dX4_readOrders_30 rfl ?_
      refine ax_geti (pc := 31) (v := hi h2 t 5) dX4_readOrders_31 fl_X4_29 (by decide) rfl kt rfl ?_
      refine aw_aload_n (pc := 34) dX4_readOrders_34 rfl ?_
      refine ax_geti (pc := 35) (v := hi h2 t 1) dX4_readOrders_35 fl_X4_15 (by decide) rfl kt rfl ?_
      refine aw_icmp_lt (pc := 38) (tgt := 43) dX4_readOrders_38 (by decide) (fun c5 => ?_) (fun c5 => ?_)
      · replace g := g.1 c5
        refine aw_aload_n (pc := 43) dX4_readOrders_43 rfl ?_
        refine aw_aload_n (pc := 44) dX4_readOrders_44 rfl ?_
        refine ax_geti (pc := 45) (v := hi h2 t 5) dX4_readOrders_45 fl_X4_29 (by decide) rfl kt rfl ?_
        refine aw_invV (pc := 48) (md' := m_X4_characterAt) (ci := 4) (as := [(.inl (hi h2 t 5))]) dX4_readOrders_48 mo_X4_characterAt im_X4_characterAt se_X4_characterAt ml_X4_39 rfl kt rfl hd (Nat.le_of_ble_eq_true rfl) (Nat.le_of_ble_eq_true rfl) (Nat.le_of_ble_eq_true rfl) ?_
        refine am_mono g (fun _ h6 _ ok_h6 g => ?_)
        obtain ⟨v7, rfl, ss_h6, g⟩ := g
        replace hL := QX.ss hL ss_h6
        obtain ⟨kt, rt_characters, kt_characters, rt_kinds, kt_kinds, rt_numbers, kt_numbers⟩ := id hL
        show AW m_X4_readOrders d none Q 51 [some (.inr (some t)), some (.inl x1)] [(.inl v7)] h6 (0, 0)
        refine aw_bipush (pc := 51) dX4_readOrders_51 ?_
        refine aw_icmp_eq (pc := 53) (tgt := 61) dX4_readOrders_53 (by decide) (fun c8 => ?_) (fun c8 => ?_)
        · replace g := g.1 c8
          refine aw_aload_n (pc := 61) dX4_readOrders_61 rfl ?_
          refine aw_dup (pc := 62) dX4_readOrders_62 ?_
          refine ax_geti (pc := 63) (v := hi h6 t 5) dX4_readOrders_63 fl_X4_29 (by decide) rfl kt rfl ?_
          refine aw_iconst (pc := 66) dX4_readOrders_66 ?_
          obtain ⟨s9, g⟩ := g
          refine ax_iadd (pc := 67) (v := (hi h6 t 5) + 1) dX4_readOrders_67 s9 rfl ?_
          refine ax_puti (pc := 68) dX4_readOrders_68 fl_X4_29 (by decide) rfl rfl rfl kt ?_
          obtain ⟨s10, g⟩ := g
          refine ax_iinc (pc := 71) (v' := x1 + 1) (ls' := [some (.inr (some t)), some (.inl (x1 + 1))]) dX4_readOrders_71 rfl s10 rfl rfl ?_
          refine aw_goto (pc := 74) (tgt := 12) dX4_readOrders_74 (by decide) ?_
          exact g
        · replace g := g.2 c8
          refine aw_aload_n (pc := 56) dX4_readOrders_56 rfl ?_
          refine ax_geti (pc := 57) (v := hi h6 t 5) dX4_readOrders_57 fl_X4_29 (by decide) rfl kt rfl ?_
          exact ax_ireturn (pc := 60) dX4_readOrders_60 rfl g (by decide) (by decide)
      · replace g := g.2 c5
        refine aw_iconst (pc := 41) dX4_readOrders_41 ?_
        exact ax_ireturn (pc := 42) dX4_readOrders_42 rfl g (by decide) (by decide)
    · replace g := g.2 c4
      refine aw_aload_n (pc := 25) dX4_readOrders_25 rfl ?_
      refine ax_geti (pc := 26) (v := hi h2 t 5) dX4_readOrders_26 fl_X4_29 (by decide) rfl kt rfl ?_
      exact ax_ireturn (pc := 29) dX4_readOrders_29 rfl g (by decide) (by decide)
set_option maxRecDepth 100000 in
set_option maxHeartbeats 4000000 in
theorem vc_X4_readOrder {d : Nat} {Q : Option Int → AH → Prop} {h : AH} {t : Nat} (hd : 1 ≤ d) (hL : QX h t)
  (g :
    AM (d - 1) m_X4_characterAt [(.inr (some t)), (.inl (hi h t 5))] h (fun r h1 => 
      ∃ v2, r = some v2 ∧ SS h h1 ∧
      ((v2 = 43 → (
        (rg ((hi h1 t 5) + 1)) ∧
        AM (d - 1) m_X4_readNumber [(.inr (some t)), (.inl 0), (.inl 255)] (up (up h1 t 5 ((hi h1 t 5) + 1)) t 6 0) (fun r h11 => 
          ∃ v12, r = some v12 ∧ SS (up (up h1 t 5 ((hi h1 t 5) + 1)) t 6 0) h11 ∧
          ((¬ v12 = 0 → (
            ((hi h11 t 4 < 0 → (
              Q (some 1) h11
            )) ∧
            (¬ (hi h11 t 4 < 0) → (
              ((30 ≤ hi h11 t 4 → (
                Q (some 1) h11
              )) ∧
              (¬ (30 ≤ hi h11 t 4) → (
                (0 ≤ hi h11 t 4 ∧ hi h11 t 4 < 30) ∧
                (0 ≤ v2 ∧ v2 < 65536) ∧
                (rg ((hi h11 t 4) + 1)) ∧
                Q (some 1) (up (up (up h11 (t + 2) (hi h11 t 4) v2) (t + 3) (hi h11 t 4) (hi h11 t 6)) t 4 ((hi h11 t 4) + 1))
              )))
            )))
          )) ∧
          (¬ (¬ v12 = 0) → (
            Q (some 0) h11
          ))))
      )) ∧
      (¬ (v2 = 43) → (
        ((v2 = 45 → (
          (rg ((hi h1 t 5) + 1)) ∧
          AM (d - 1) m_X4_readNumber [(.inr (some t)), (.inl 0), (.inl 255)] (up (up h1 t 5 ((hi h1 t 5) + 1)) t 6 0) (fun r h28 => 
            ∃ v29, r = some v29 ∧ SS (up (up h1 t 5 ((hi h1 t 5) + 1)) t 6 0) h28 ∧
            ((¬ v29 = 0 → (
              ((hi h28 t 4 < 0 → (
                Q (some 1) h28
              )) ∧
              (¬ (hi h28 t 4 < 0) → (
                ((30 ≤ hi h28 t 4 → (
                  Q (some 1) h28
                )) ∧
                (¬ (30 ≤ hi h28 t 4) → (
                  (0 ≤ hi h28 t 4 ∧ hi h28 t 4 < 30) ∧
                  (0 ≤ v2 ∧ v2 < 65536) ∧
                  (rg ((hi h28 t 4) + 1)) ∧
                  Q (some 1) (up (up (up h28 (t + 2) (hi h28 t 4) v2) (t + 3) (hi h28 t 4) (hi h28 t 6)) t 4 ((hi h28 t 4) + 1))
                )))
              )))
            )) ∧
            (¬ (¬ v29 = 0) → (
              Q (some 0) h28
            ))))
        )) ∧
        (¬ (v2 = 45) → (
          ((¬ v2 = 122 → (
            ((¬ v2 = 102 → (
              ((v2 = 119 → (
                (rg ((hi h1 t 5) + 1)) ∧
                ((hi h1 t 4 < 0 → (
                  Q (some 1) (up (up h1 t 5 ((hi h1 t 5) + 1)) t 6 0)
                )) ∧
                (¬ (hi h1 t 4 < 0) → (
                  ((30 ≤ hi h1 t 4 → (
                    Q (some 1) (up (up h1 t 5 ((hi h1 t 5) + 1)) t 6 0)
                  )) ∧
                  (¬ (30 ≤ hi h1 t 4) → (
                    (0 ≤ hi h1 t 4 ∧ hi h1 t 4 < 30) ∧
                    (0 ≤ v2 ∧ v2 < 65536) ∧
                    (rg ((hi h1 t 4) + 1)) ∧
                    Q (some 1) (up (up (up (up (up h1 t 5 ((hi h1 t 5) + 1)) t 6 0) (t + 2) (hi h1 t 4) v2) (t + 3) (hi h1 t 4) 0) t 4 ((hi h1 t 4) + 1))
                  )))
                )))
              )) ∧
              (¬ (v2 = 119) → (
                ((v2 = 118 → (
                  (rg ((hi h1 t 5) + 1)) ∧
                  ((hi h1 t 4 < 0 → (
                    Q (some 1) (up (up h1 t 5 ((hi h1 t 5) + 1)) t 6 0)
                  )) ∧
                  (¬ (hi h1 t 4 < 0) → (
                    ((30 ≤ hi h1 t 4 → (
                      Q (some 1) (up (up h1 t 5 ((hi h1 t 5) + 1)) t 6 0)
                    )) ∧
                    (¬ (30 ≤ hi h1 t 4) → (
                      (0 ≤ hi h1 t 4 ∧ hi h1 t 4 < 30) ∧
                      (0 ≤ v2 ∧ v2 < 65536) ∧
                      (rg ((hi h1 t 4) + 1)) ∧
                      Q (some 1) (up (up (up (up (up h1 t 5 ((hi h1 t 5) + 1)) t 6 0) (t + 2) (hi h1 t 4) v2) (t + 3) (hi h1 t 4) 0) t 4 ((hi h1 t 4) + 1))
                    )))
                  )))
                )) ∧
                (¬ (v2 = 118) → (
                  ((¬ v2 = 97 → (
                    Q (some 0) h1
                  )) ∧
                  (¬ (¬ v2 = 97) → (
                    (rg ((hi h1 t 5) + 1)) ∧
                    ((hi h1 t 4 < 0 → (
                      Q (some 1) (up (up h1 t 5 ((hi h1 t 5) + 1)) t 6 0)
                    )) ∧
                    (¬ (hi h1 t 4 < 0) → (
                      ((30 ≤ hi h1 t 4 → (
                        Q (some 1) (up (up h1 t 5 ((hi h1 t 5) + 1)) t 6 0)
                      )) ∧
                      (¬ (30 ≤ hi h1 t 4) → (
                        (0 ≤ hi h1 t 4 ∧ hi h1 t 4 < 30) ∧
                        (0 ≤ v2 ∧ v2 < 65536) ∧
                        (rg ((hi h1 t 4) + 1)) ∧
                        Q (some 1) (up (up (up (up (up h1 t 5 ((hi h1 t 5) + 1)) t 6 0) (t + 2) (hi h1 t 4) v2) (t + 3) (hi h1 t 4) 0) t 4 ((hi h1 t 4) + 1))
                      )))
                    )))
                  )))
                )))
              )))
            )) ∧
            (¬ (¬ v2 = 102) → (
              (rg ((hi h1 t 5) + 1)) ∧
              AM (d - 1) m_X4_readNumber [(.inr (some t)), (.inl 1), (.inl 64)] (up (up h1 t 5 ((hi h1 t 5) + 1)) t 6 0) (fun r h86 => 
                ∃ v87, r = some v87 ∧ SS (up (up h1 t 5 ((hi h1 t 5) + 1)) t 6 0) h86 ∧
                ((¬ v87 = 0 → (
                  ((hi h86 t 4 < 0 → (
                    Q (some 1) h86
                  )) ∧
                  (¬ (hi h86 t 4 < 0) → (
                    ((30 ≤ hi h86 t 4 → (
                      Q (some 1) h86
                    )) ∧
                    (¬ (30 ≤ hi h86 t 4) → (
                      (0 ≤ hi h86 t 4 ∧ hi h86 t 4 < 30) ∧
                      (0 ≤ v2 ∧ v2 < 65536) ∧
                      (rg ((hi h86 t 4) + 1)) ∧
                      Q (some 1) (up (up (up h86 (t + 2) (hi h86 t 4) v2) (t + 3) (hi h86 t 4) (hi h86 t 6)) t 4 ((hi h86 t 4) + 1))
                    )))
                  )))
                )) ∧
                (¬ (¬ v87 = 0) → (
                  Q (some 0) h86
                ))))
            )))
          )) ∧
          (¬ (¬ v2 = 122) → (
            (rg ((hi h1 t 5) + 1)) ∧
            AM (d - 1) m_X4_readNumber [(.inr (some t)), (.inl 0), (.inl 255)] (up (up h1 t 5 ((hi h1 t 5) + 1)) t 6 0) (fun r h101 => 
              ∃ v102, r = some v102 ∧ SS (up (up h1 t 5 ((hi h1 t 5) + 1)) t 6 0) h101 ∧
              ((¬ v102 = 0 → (
                ((hi h101 t 4 < 0 → (
                  Q (some 1) h101
                )) ∧
                (¬ (hi h101 t 4 < 0) → (
                  ((30 ≤ hi h101 t 4 → (
                    Q (some 1) h101
                  )) ∧
                  (¬ (30 ≤ hi h101 t 4) → (
                    (0 ≤ hi h101 t 4 ∧ hi h101 t 4 < 30) ∧
                    (0 ≤ v2 ∧ v2 < 65536) ∧
                    (rg ((hi h101 t 4) + 1)) ∧
                    Q (some 1) (up (up (up h101 (t + 2) (hi h101 t 4) v2) (t + 3) (hi h101 t 4) (hi h101 t 6)) t 4 ((hi h101 t 4) + 1))
                  )))
                )))
              )) ∧
              (¬ (¬ v102 = 0) → (
                Q (some 0) h101
              ))))
          )))
        )))
      ))))) :
  AM d m_X4_readOrder [(.inr (some t))] h Q := by
  refine am_body mo_X4_readOrder (Nat.le_of_ble_eq_true rfl) ?_
  show AW m_X4_readOrder d none Q 0 [some (.inr (some t)), none, none, none, none] [] h (0, 0)
  obtain ⟨kt, rt_characters, kt_characters, rt_kinds, kt_kinds, rt_numbers, kt_numbers⟩ := id hL
  refine aw_aload_n (pc := 0) dX4_readOrder_0 rfl ?_
  refine aw_aload_n (pc := 1) dX4_readOrder_1 rfl ?_
  refine ax_geti (pc := 2) (v := hi h t 5) dX4_readOrder_2 fl_X4_29 (by decide) rfl kt rfl ?_
  refine aw_invV (pc := 5) (md' := m_X4_characterAt) (ci := 4) (as := [(.inl (hi h t 5))]) dX4_readOrder_5 mo_X4_characterAt im_X4_characterAt se_X4_characterAt ml_X4_39 rfl kt rfl hd (Nat.le_of_ble_eq_true rfl) (Nat.le_of_ble_eq_true rfl) (Nat.le_of_ble_eq_true rfl) ?_
  refine am_mono g (fun _ h1 _ ok_h1 g => ?_)
  obtain ⟨v2, rfl, ss_h1, g⟩ := g
  replace hL := QX.ss hL ss_h1
  obtain ⟨kt, rt_characters, kt_characters, rt_kinds, kt_kinds, rt_numbers, kt_numbers⟩ := id hL
  show AW m_X4_readOrder d none Q 8 [some (.inr (some t)), none, none, none, none] [(.inl v2)] h1 (0, 0)
  refine ax_istore_n (pc := 8) (ls' := [some (.inr (some t)), some (.inl v2), none, none, none]) dX4_readOrder_8 (Nat.le_of_ble_eq_true rfl) rfl ?_
  refine aw_iload_n (pc := 9) dX4_readOrder_9 rfl ?_
  refine aw_bipush (pc := 10) dX4_readOrder_10 ?_
  refine aw_icmp_eq (pc := 12) (tgt := 27) dX4_readOrder_12 (by decide) (fun c3 => ?_) (fun c3 => ?_)
  · replace g := g.1 c3
    refine aw_iconst (pc := 27) dX4_readOrder_27 ?_
    refine aw_goto (pc := 28) (tgt := 32) dX4_readOrder_28 (by decide) ?_
    refine ax_istore_n (pc := 32) (ls' := [some (.inr (some t)), some (.inl v2), some (.inl 1), none, none]) dX4_readOrder_32 (Nat.le_of_ble_eq_true rfl) rfl ?_
    refine aw_iload_n (pc := 33) dX4_readOrder_33 rfl ?_
    refine aw_bipush (pc := 34) dX4_readOrder_34 ?_
    refine aw_icmp_ne (pc := 36) (tgt := 43) dX4_readOrder_36 (by decide) (fun c4 => ?_) (fun c4 => False.elim (by omega))
    refine aw_iconst (pc := 43) dX4_readOrder_43 ?_
    refine ax_istore_n (pc := 44) (ls' := [some (.inr (some t)), some (.inl v2), some (.inl 1), some (.inl 0), none]) dX4_readOrder_44 (Nat.le_of_ble_eq_true rfl) rfl ?_
    refine aw_iload_n (pc := 45) dX4_readOrder_45 rfl ?_
    refine aw_bipush (pc := 46) dX4_readOrder_46 ?_
    refine aw_icmp_eq (pc := 48) (tgt := 63) dX4_readOrder_48 (by decide) (fun c5 => False.elim (by omega)) (fun c5 => ?_)
    refine aw_iload_n (pc := 51) dX4_readOrder_51 rfl ?_
    refine aw_bipush (pc := 52) dX4_readOrder_52 ?_
    refine aw_icmp_eq (pc := 54) (tgt := 63) dX4_readOrder_54 (by decide) (fun c6 => False.elim (by omega)) (fun c6 => ?_)
    refine aw_iload_n (pc := 57) dX4_readOrder_57 rfl ?_
    refine aw_bipush (pc := 58) dX4_readOrder_58 ?_
    refine aw_icmp_ne (pc := 60) (tgt := 67) dX4_readOrder_60 (by decide) (fun c7 => ?_) (fun c7 => False.elim (by omega))
    refine aw_iconst (pc := 67) dX4_readOrder_67 ?_
    refine ax_istore (pc := 68) (ls' := [some (.inr (some t)), some (.inl v2), some (.inl 1), some (.inl 0), some (.inl 0)]) dX4_readOrder_68 (Nat.le_of_ble_eq_true rfl) rfl ?_
    refine aw_iload_n (pc := 70) dX4_readOrder_70 rfl ?_
    refine aw_if_ne (pc := 71) (tgt := 85) dX4_readOrder_71 (by decide) (fun c8 => ?_) (fun c8 => False.elim (by omega))
    refine aw_aload_n (pc := 85) dX4_readOrder_85 rfl ?_
    refine aw_dup (pc := 86) dX4_readOrder_86 ?_
    refine ax_geti (pc := 87) (v := hi h1 t 5) dX4_readOrder_87 fl_X4_29 (by decide) rfl kt rfl ?_
    refine aw_iconst (pc := 90) dX4_readOrder_90 ?_
    obtain ⟨s9, g⟩ := g
    refine ax_iadd (pc := 91) (v := (hi h1 t 5) + 1) dX4_readOrder_91 s9 rfl ?_
    refine ax_puti (pc := 92) dX4_readOrder_92 fl_X4_29 (by decide) rfl rfl rfl kt ?_
    refine aw_aload_n (pc := 95) dX4_readOrder_95 rfl ?_
    refine aw_iconst (pc := 96) dX4_readOrder_96 ?_
    refine ax_puti (pc := 97) dX4_readOrder_97 fl_X4_32 (by decide) rfl rfl rfl (hkU kt) ?_
    refine aw_iload_n (pc := 100) dX4_readOrder_100 rfl ?_
    refine aw_if_eq (pc := 101) (tgt := 117) dX4_readOrder_101 (by decide) (fun c10 => False.elim (by omega)) (fun c10 => ?_)
    refine aw_aload_n (pc := 104) dX4_readOrder_104 rfl ?_
    refine aw_iconst (pc := 105) dX4_readOrder_105 ?_
    refine aw_sipush (pc := 106) dX4_readOrder_106 ?_
    refine aw_invV (pc := 109) (md' := m_X4_readNumber) (ci := 4) (as := [(.inl 0), (.inl 255)]) dX4_readOrder_109 mo_X4_readNumber im_X4_readNumber se_X4_readNumber ml_X4_43 rfl (hkU (hkU kt)) rfl hd (Nat.le_of_ble_eq_true rfl) (Nat.le_of_ble_eq_true rfl) (Nat.le_of_ble_eq_true rfl) ?_
    refine am_mono g (fun _ h11 _ ok_h11 g => ?_)
    obtain ⟨v12, rfl, ss_h11, g⟩ := g
    replace hL := QX.ss hL (SS.tr (SS.up (SS.up SS.rf)) ss_h11)
    obtain ⟨kt, rt_characters, kt_characters, rt_kinds, kt_kinds, rt_numbers, kt_numbers⟩ := id hL
    show AW m_X4_readOrder d none Q 112 [some (.inr (some t)), some (.inl v2), some (.inl 1), some (.inl 0), some (.inl 0)] [(.inl v12)] h11 (0, 0)
    refine aw_if_ne (pc := 112) (tgt := 117) dX4_readOrder_112 (by decide) (fun c13 => ?_) (fun c13 => ?_)
    · replace g := g.1 c13
      refine aw_iload_n (pc := 117) dX4_readOrder_117 rfl ?_
      refine aw_if_eq (pc := 118) (tgt := 133) dX4_readOrder_118 (by decide) (fun c14 => ?_) (fun c14 => False.elim (by omega))
      refine aw_aload_n (pc := 133) dX4_readOrder_133 rfl ?_
      refine ax_geti (pc := 134) (v := hi h11 t 4) dX4_readOrder_134 fl_X4_26 (by decide) rfl kt rfl ?_
      refine aw_if_lt (pc := 137) (tgt := 182) dX4_readOrder_137 (by decide) (fun c15 => ?_) (fun c15 => ?_)
      · replace g := g.1 c15
        refine aw_iconst (pc := 182) dX4_readOrder_182 ?_
        exact aw_ireturn (pc := 183) dX4_readOrder_183 (by simp [okr]) g (by decide) (by decide)
      · replace g := g.2 c15
        refine aw_aload_n (pc := 140) dX4_readOrder_140 rfl ?_
        refine ax_geti (pc := 141) (v := hi h11 t 4) dX4_readOrder_141 fl_X4_26 (by decide) rfl kt rfl ?_
        refine aw_bipush (pc := 144) dX4_readOrder_144 ?_
        refine aw_icmp_ge (pc := 146) (tgt := 182) dX4_readOrder_146 (by decide) (fun c16 => ?_) (fun c16 => ?_)
        · replace g := g.1 c16
          refine aw_iconst (pc := 182) dX4_readOrder_182 ?_
          exact aw_ireturn (pc := 183) dX4_readOrder_183 (by simp [okr]) g (by decide) (by decide)
        · replace g := g.2 c16
          refine aw_aload_n (pc := 149) dX4_readOrder_149 rfl ?_
          refine aw_getr (pc := 150) (r := some (t + 2)) dX4_readOrder_150 fl_X4_19 (by decide) rfl kt rt_kinds ?_
          refine aw_aload_n (pc := 153) dX4_readOrder_153 rfl ?_
          refine ax_geti (pc := 154) (v := hi h11 t 4) dX4_readOrder_154 fl_X4_26 (by decide) rfl kt rfl ?_
          refine aw_iload_n (pc := 157) dX4_readOrder_157 rfl ?_
          obtain ⟨s17, g⟩ := g
          obtain ⟨s18, g⟩ := g
          refine ax_castore (pc := 158) (n := 30) dX4_readOrder_158 kt_kinds s17 s18 ?_
          refine aw_aload_n (pc := 159) dX4_readOrder_159 rfl ?_
          refine aw_getr (pc := 160) (r := some (t + 3)) dX4_readOrder_160 fl_X4_22 (by decide) rfl (hkU kt) (hrU rt_numbers) ?_
          refine aw_aload_n (pc := 163) dX4_readOrder_163 rfl ?_
          refine ax_geti (pc := 164) (v := hi h11 t 4) dX4_readOrder_164 fl_X4_26 (by decide) rfl (hkU kt) (hiN (Or.inl (by omega)) rfl) ?_
          refine aw_aload_n (pc := 167) dX4_readOrder_167 rfl ?_
          refine ax_geti (pc := 168) (v := hi h11 t 6) dX4_readOrder_168 fl_X4_32 (by decide) rfl (hkU kt) (hiN (Or.inl (by omega)) rfl) ?_
          refine ax_iastore (pc := 171) (n := 30) dX4_readOrder_171 (hkU kt_numbers) s17 ?_
          refine aw_aload_n (pc := 172) dX4_readOrder_172 rfl ?_
          refine aw_dup (pc := 173) dX4_readOrder_173 ?_
          refine ax_geti (pc := 174) (v := hi h11 t 4) dX4_readOrder_174 fl_X4_26 (by decide) rfl (hkU (hkU kt)) (hiN (Or.inl (by omega)) (hiN (Or.inl (by omega)) rfl)) ?_
          refine aw_iconst (pc := 177) dX4_readOrder_177 ?_
          obtain ⟨s19, g⟩ := g
          refine ax_iadd (pc := 178) (v := (hi h11 t 4) + 1) dX4_readOrder_178 s19 rfl ?_
          refine ax_puti (pc := 179) dX4_readOrder_179 fl_X4_26 (by decide) rfl rfl rfl (hkU (hkU kt)) ?_
          refine aw_iconst (pc := 182) dX4_readOrder_182 ?_
          exact aw_ireturn (pc := 183) dX4_readOrder_183 (by simp [okr]) g (by decide) (by decide)
    · replace g := g.2 c13
      refine aw_iconst (pc := 115) dX4_readOrder_115 ?_
      exact aw_ireturn (pc := 116) dX4_readOrder_116 (by simp [okr]) g (by decide) (by decide)
  · replace g := g.2 c3
    refine aw_iload_n (pc := 15) dX4_readOrder_15 rfl ?_
    refine aw_bipush (pc := 16) dX4_readOrder_16 ?_
    refine aw_icmp_eq (pc := 18) (tgt := 27) dX4_readOrder_18 (by decide) (fun c20 => ?_) (fun c20 => ?_)
    · replace g := g.1 c20
      refine aw_iconst (pc := 27) dX4_readOrder_27 ?_
      refine aw_goto (pc := 28) (tgt := 32) dX4_readOrder_28 (by decide) ?_
      refine ax_istore_n (pc := 32) (ls' := [some (.inr (some t)), some (.inl v2), some (.inl 1), none, none]) dX4_readOrder_32 (Nat.le_of_ble_eq_true rfl) rfl ?_
      refine aw_iload_n (pc := 33) dX4_readOrder_33 rfl ?_
      refine aw_bipush (pc := 34) dX4_readOrder_34 ?_
      refine aw_icmp_ne (pc := 36) (tgt := 43) dX4_readOrder_36 (by decide) (fun c21 => ?_) (fun c21 => False.elim (by omega))
      refine aw_iconst (pc := 43) dX4_readOrder_43 ?_
      refine ax_istore_n (pc := 44) (ls' := [some (.inr (some t)), some (.inl v2), some (.inl 1), some (.inl 0), none]) dX4_readOrder_44 (Nat.le_of_ble_eq_true rfl) rfl ?_
      refine aw_iload_n (pc := 45) dX4_readOrder_45 rfl ?_
      refine aw_bipush (pc := 46) dX4_readOrder_46 ?_
      refine aw_icmp_eq (pc := 48) (tgt := 63) dX4_readOrder_48 (by decide) (fun c22 => False.elim (by omega)) (fun c22 => ?_)
      refine aw_iload_n (pc := 51) dX4_readOrder_51 rfl ?_
      refine aw_bipush (pc := 52) dX4_readOrder_52 ?_
      refine aw_icmp_eq (pc := 54) (tgt := 63) dX4_readOrder_54 (by decide) (fun c23 => False.elim (by omega)) (fun c23 => ?_)
      refine aw_iload_n (pc := 57) dX4_readOrder_57 rfl ?_
      refine aw_bipush (pc := 58) dX4_readOrder_58 ?_
      refine aw_icmp_ne (pc := 60) (tgt := 67) dX4_readOrder_60 (by decide) (fun c24 => ?_) (fun c24 => False.elim (by omega))
      refine aw_iconst (pc := 67) dX4_readOrder_67 ?_
      refine ax_istore (pc := 68) (ls' := [some (.inr (some t)), some (.inl v2), some (.inl 1), some (.inl 0), some (.inl 0)]) dX4_readOrder_68 (Nat.le_of_ble_eq_true rfl) rfl ?_
      refine aw_iload_n (pc := 70) dX4_readOrder_70 rfl ?_
      refine aw_if_ne (pc := 71) (tgt := 85) dX4_readOrder_71 (by decide) (fun c25 => ?_) (fun c25 => False.elim (by omega))
      refine aw_aload_n (pc := 85) dX4_readOrder_85 rfl ?_
      refine aw_dup (pc := 86) dX4_readOrder_86 ?_
      refine ax_geti (pc := 87) (v := hi h1 t 5) dX4_readOrder_87 fl_X4_29 (by decide) rfl kt rfl ?_
      refine aw_iconst (pc := 90) dX4_readOrder_90 ?_
      obtain ⟨s26, g⟩ := g
      refine ax_iadd (pc := 91) (v := (hi h1 t 5) + 1) dX4_readOrder_91 s26 rfl ?_
      refine ax_puti (pc := 92) dX4_readOrder_92 fl_X4_29 (by decide) rfl rfl rfl kt ?_
      refine aw_aload_n (pc := 95) dX4_readOrder_95 rfl ?_
      refine aw_iconst (pc := 96) dX4_readOrder_96 ?_
      refine ax_puti (pc := 97) dX4_readOrder_97 fl_X4_32 (by decide) rfl rfl rfl (hkU kt) ?_
      refine aw_iload_n (pc := 100) dX4_readOrder_100 rfl ?_
      refine aw_if_eq (pc := 101) (tgt := 117) dX4_readOrder_101 (by decide) (fun c27 => False.elim (by omega)) (fun c27 => ?_)
      refine aw_aload_n (pc := 104) dX4_readOrder_104 rfl ?_
      refine aw_iconst (pc := 105) dX4_readOrder_105 ?_
      refine aw_sipush (pc := 106) dX4_readOrder_106 ?_
      refine aw_invV (pc := 109) (md' := m_X4_readNumber) (ci := 4) (as := [(.inl 0), (.inl 255)]) dX4_readOrder_109 mo_X4_readNumber im_X4_readNumber se_X4_readNumber ml_X4_43 rfl (hkU (hkU kt)) rfl hd (Nat.le_of_ble_eq_true rfl) (Nat.le_of_ble_eq_true rfl) (Nat.le_of_ble_eq_true rfl) ?_
      refine am_mono g (fun _ h28 _ ok_h28 g => ?_)
      obtain ⟨v29, rfl, ss_h28, g⟩ := g
      replace hL := QX.ss hL (SS.tr (SS.up (SS.up SS.rf)) ss_h28)
      obtain ⟨kt, rt_characters, kt_characters, rt_kinds, kt_kinds, rt_numbers, kt_numbers⟩ := id hL
      show AW m_X4_readOrder d none Q 112 [some (.inr (some t)), some (.inl v2), some (.inl 1), some (.inl 0), some (.inl 0)] [(.inl v29)] h28 (0, 0)
      refine aw_if_ne (pc := 112) (tgt := 117) dX4_readOrder_112 (by decide) (fun c30 => ?_) (fun c30 => ?_)
      · replace g := g.1 c30
        refine aw_iload_n (pc := 117) dX4_readOrder_117 rfl ?_
        refine aw_if_eq (pc := 118) (tgt := 133) dX4_readOrder_118 (by decide) (fun c31 => ?_) (fun c31 => False.elim (by omega))
        refine aw_aload_n (pc := 133) dX4_readOrder_133 rfl ?_
        refine ax_geti (pc := 134) (v := hi h28 t 4) dX4_readOrder_134 fl_X4_26 (by decide) rfl kt rfl ?_
        refine aw_if_lt (pc := 137) (tgt := 182) dX4_readOrder_137 (by decide) (fun c32 => ?_) (fun c32 => ?_)
        · replace g := g.1 c32
          refine aw_iconst (pc := 182) dX4_readOrder_182 ?_
          exact aw_ireturn (pc := 183) dX4_readOrder_183 (by simp [okr]) g (by decide) (by decide)
        · replace g := g.2 c32
          refine aw_aload_n (pc := 140) dX4_readOrder_140 rfl ?_
          refine ax_geti (pc := 141) (v := hi h28 t 4) dX4_readOrder_141 fl_X4_26 (by decide) rfl kt rfl ?_
          refine aw_bipush (pc := 144) dX4_readOrder_144 ?_
          refine aw_icmp_ge (pc := 146) (tgt := 182) dX4_readOrder_146 (by decide) (fun c33 => ?_) (fun c33 => ?_)
          · replace g := g.1 c33
            refine aw_iconst (pc := 182) dX4_readOrder_182 ?_
            exact aw_ireturn (pc := 183) dX4_readOrder_183 (by simp [okr]) g (by decide) (by decide)
          · replace g := g.2 c33
            refine aw_aload_n (pc := 149) dX4_readOrder_149 rfl ?_
            refine aw_getr (pc := 150) (r := some (t + 2)) dX4_readOrder_150 fl_X4_19 (by decide) rfl kt rt_kinds ?_
            refine aw_aload_n (pc := 153) dX4_readOrder_153 rfl ?_
            refine ax_geti (pc := 154) (v := hi h28 t 4) dX4_readOrder_154 fl_X4_26 (by decide) rfl kt rfl ?_
            refine aw_iload_n (pc := 157) dX4_readOrder_157 rfl ?_
            obtain ⟨s34, g⟩ := g
            obtain ⟨s35, g⟩ := g
            refine ax_castore (pc := 158) (n := 30) dX4_readOrder_158 kt_kinds s34 s35 ?_
            refine aw_aload_n (pc := 159) dX4_readOrder_159 rfl ?_
            refine aw_getr (pc := 160) (r := some (t + 3)) dX4_readOrder_160 fl_X4_22 (by decide) rfl (hkU kt) (hrU rt_numbers) ?_
            refine aw_aload_n (pc := 163) dX4_readOrder_163 rfl ?_
            refine ax_geti (pc := 164) (v := hi h28 t 4) dX4_readOrder_164 fl_X4_26 (by decide) rfl (hkU kt) (hiN (Or.inl (by omega)) rfl) ?_
            refine aw_aload_n (pc := 167) dX4_readOrder_167 rfl ?_
            refine ax_geti (pc := 168) (v := hi h28 t 6) dX4_readOrder_168 fl_X4_32 (by decide) rfl (hkU kt) (hiN (Or.inl (by omega)) rfl) ?_
            refine ax_iastore (pc := 171) (n := 30) dX4_readOrder_171 (hkU kt_numbers) s34 ?_
            refine aw_aload_n (pc := 172) dX4_readOrder_172 rfl ?_
            refine aw_dup (pc := 173) dX4_readOrder_173 ?_
            refine ax_geti (pc := 174) (v := hi h28 t 4) dX4_readOrder_174 fl_X4_26 (by decide) rfl (hkU (hkU kt)) (hiN (Or.inl (by omega)) (hiN (Or.inl (by omega)) rfl)) ?_
            refine aw_iconst (pc := 177) dX4_readOrder_177 ?_
            obtain ⟨s36, g⟩ := g
            refine ax_iadd (pc := 178) (v := (hi h28 t 4) + 1) dX4_readOrder_178 s36 rfl ?_
            refine ax_puti (pc := 179) dX4_readOrder_179 fl_X4_26 (by decide) rfl rfl rfl (hkU (hkU kt)) ?_
            refine aw_iconst (pc := 182) dX4_readOrder_182 ?_
            exact aw_ireturn (pc := 183) dX4_readOrder_183 (by simp [okr]) g (by decide) (by decide)
      · replace g := g.2 c30
        refine aw_iconst (pc := 115) dX4_readOrder_115 ?_
        exact aw_ireturn (pc := 116) dX4_readOrder_116 (by simp [okr]) g (by decide) (by decide)
    · replace g := g.2 c20
      refine aw_iload_n (pc := 21) dX4_readOrder_21 rfl ?_
      refine aw_bipush (pc := 22) dX4_readOrder_22 ?_
      refine aw_icmp_ne (pc := 24) (tgt := 31) dX4_readOrder_24 (by decide) (fun c37 => ?_) (fun c37 => ?_)
      · replace g := g.1 c37
        refine aw_iconst (pc := 31) dX4_readOrder_31 ?_
        refine ax_istore_n (pc := 32) (ls' := [some (.inr (some t)), some (.inl v2), some (.inl 0), none, none]) dX4_readOrder_32 (Nat.le_of_ble_eq_true rfl) rfl ?_
        refine aw_iload_n (pc := 33) dX4_readOrder_33 rfl ?_
        refine aw_bipush (pc := 34) dX4_readOrder_34 ?_
        refine aw_icmp_ne (pc := 36) (tgt := 43) dX4_readOrder_36 (by decide) (fun c38 => ?_) (fun c38 => ?_)
        · replace g := g.1 c38
          refine aw_iconst (pc := 43) dX4_readOrder_43 ?_
          refine ax_istore_n (pc := 44) (ls' := [some (.inr (some t)), some (.inl v2), some (.inl 0), some (.inl 0), none]) dX4_readOrder_44 (Nat.le_of_ble_eq_true rfl) rfl ?_
          refine aw_iload_n (pc := 45) dX4_readOrder_45 rfl ?_
          refine aw_bipush (pc := 46) dX4_readOrder_46 ?_
          refine aw_icmp_eq (pc := 48) (tgt := 63) dX4_readOrder_48 (by decide) (fun c39 => ?_) (fun c39 => ?_)
          · replace g := g.1 c39
            refine aw_iconst (pc := 63) dX4_readOrder_63 ?_
            refine aw_goto (pc := 64) (tgt := 68) dX4_readOrder_64 (by decide) ?_
            refine ax_istore (pc := 68) (ls' := [some (.inr (some t)), some (.inl v2), some (.inl 0), some (.inl 0), some (.inl 1)]) dX4_readOrder_68 (Nat.le_of_ble_eq_true rfl) rfl ?_
            refine aw_iload_n (pc := 70) dX4_readOrder_70 rfl ?_
            refine aw_if_ne (pc := 71) (tgt := 85) dX4_readOrder_71 (by decide) (fun c40 => False.elim (by omega)) (fun c40 => ?_)
            refine aw_iload_n (pc := 74) dX4_readOrder_74 rfl ?_
            refine aw_if_ne (pc := 75) (tgt := 85) dX4_readOrder_75 (by decide) (fun c41 => False.elim (by omega)) (fun c41 => ?_)
            refine aw_iload (pc := 78) dX4_readOrder_78 rfl ?_
            refine aw_if_ne (pc := 80) (tgt := 85) dX4_readOrder_80 (by decide) (fun c42 => ?_) (fun c42 => False.elim (by omega))
            refine aw_aload_n (pc := 85) dX4_readOrder_85 rfl ?_
            refine aw_dup (pc := 86) dX4_readOrder_86 ?_
            refine ax_geti (pc := 87) (v := hi h1 t 5) dX4_readOrder_87 fl_X4_29 (by decide) rfl kt rfl ?_
            refine aw_iconst (pc := 90) dX4_readOrder_90 ?_
            obtain ⟨s43, g⟩ := g
            refine ax_iadd (pc := 91) (v := (hi h1 t 5) + 1) dX4_readOrder_91 s43 rfl ?_
            refine ax_puti (pc := 92) dX4_readOrder_92 fl_X4_29 (by decide) rfl rfl rfl kt ?_
            refine aw_aload_n (pc := 95) dX4_readOrder_95 rfl ?_
            refine aw_iconst (pc := 96) dX4_readOrder_96 ?_
            refine ax_puti (pc := 97) dX4_readOrder_97 fl_X4_32 (by decide) rfl rfl rfl (hkU kt) ?_
            refine aw_iload_n (pc := 100) dX4_readOrder_100 rfl ?_
            refine aw_if_eq (pc := 101) (tgt := 117) dX4_readOrder_101 (by decide) (fun c44 => ?_) (fun c44 => False.elim (by omega))
            refine aw_iload_n (pc := 117) dX4_readOrder_117 rfl ?_
            refine aw_if_eq (pc := 118) (tgt := 133) dX4_readOrder_118 (by decide) (fun c45 => ?_) (fun c45 => False.elim (by omega))
            refine aw_aload_n (pc := 133) dX4_readOrder_133 rfl ?_
            refine ax_geti (pc := 134) (v := hi h1 t 4) dX4_readOrder_134 fl_X4_26 (by decide) rfl (hkU (hkU kt)) (hiN (Or.inr (by decide)) (hiN (Or.inr (by decide)) rfl)) ?_
            refine aw_if_lt (pc := 137) (tgt := 182) dX4_readOrder_137 (by decide) (fun c46 => ?_) (fun c46 => ?_)
            · replace g := g.1 c46
              refine aw_iconst (pc := 182) dX4_readOrder_182 ?_
              exact aw_ireturn (pc := 183) dX4_readOrder_183 (by simp [okr]) g (by decide) (by decide)
            · replace g := g.2 c46
              refine aw_aload_n (pc := 140) dX4_readOrder_140 rfl ?_
              refine ax_geti (pc := 141) (v := hi h1 t 4) dX4_readOrder_141 fl_X4_26 (by decide) rfl (hkU (hkU kt)) (hiN (Or.inr (by decide)) (hiN (Or.inr (by decide)) rfl)) ?_
              refine aw_bipush (pc := 144) dX4_readOrder_144 ?_
              refine aw_icmp_ge (pc := 146) (tgt := 182) dX4_readOrder_146 (by decide) (fun c47 => ?_) (fun c47 => ?_)
              · replace g := g.1 c47
                refine aw_iconst (pc := 182) dX4_readOrder_182 ?_
                exact aw_ireturn (pc := 183) dX4_readOrder_183 (by simp [okr]) g (by decide) (by decide)
              · replace g := g.2 c47
                refine aw_aload_n (pc := 149) dX4_readOrder_149 rfl ?_
                refine aw_getr (pc := 150) (r := some (t + 2)) dX4_readOrder_150 fl_X4_19 (by decide) rfl (hkU (hkU kt)) (hrU (hrU rt_kinds)) ?_
                refine aw_aload_n (pc := 153) dX4_readOrder_153 rfl ?_
                refine ax_geti (pc := 154) (v := hi h1 t 4) dX4_readOrder_154 fl_X4_26 (by decide) rfl (hkU (hkU kt)) (hiN (Or.inr (by decide)) (hiN (Or.inr (by decide)) rfl)) ?_
                refine aw_iload_n (pc := 157) dX4_readOrder_157 rfl ?_
                obtain ⟨s48, g⟩ := g
                obtain ⟨s49, g⟩ := g
                refine ax_castore (pc := 158) (n := 30) dX4_readOrder_158 (hkU (hkU kt_kinds)) s48 s49 ?_
                refine aw_aload_n (pc := 159) dX4_readOrder_159 rfl ?_
                refine aw_getr (pc := 160) (r := some (t + 3)) dX4_readOrder_160 fl_X4_22 (by decide) rfl (hkU (hkU (hkU kt))) (hrU (hrU (hrU rt_numbers))) ?_
                refine aw_aload_n (pc := 163) dX4_readOrder_163 rfl ?_
                refine ax_geti (pc := 164) (v := hi h1 t 4) dX4_readOrder_164 fl_X4_26 (by decide) rfl (hkU (hkU (hkU kt))) (hiN (Or.inl (by omega)) (hiN (Or.inr (by decide)) (hiN (Or.inr (by decide)) rfl))) ?_
                refine aw_aload_n (pc := 167) dX4_readOrder_167 rfl ?_
                refine ax_geti (pc := 168) (v := 0) dX4_readOrder_168 fl_X4_32 (by decide) rfl (hkU (hkU (hkU kt))) (hiN (Or.inl (by omega)) hiE) ?_
                refine ax_iastore (pc := 171) (n := 30) dX4_readOrder_171 (hkU (hkU (hkU kt_numbers))) s48 ?_
                refine aw_aload_n (pc := 172) dX4_readOrder_172 rfl ?_
                refine aw_dup (pc := 173) dX4_readOrder_173 ?_
                refine ax_geti (pc := 174) (v := hi h1 t 4) dX4_readOrder_174 fl_X4_26 (by decide) rfl (hkU (hkU (hkU (hkU kt)))) (hiN (Or.inl (by omega)) (hiN (Or.inl (by omega)) (hiN (Or.inr (by decide)) (hiN (Or.inr (by decide)) rfl)))) ?_
                refine aw_iconst (pc := 177) dX4_readOrder_177 ?_
                obtain ⟨s50, g⟩ := g
                refine ax_iadd (pc := 178) (v := (hi h1 t 4) + 1) dX4_readOrder_178 s50 rfl ?_
                refine ax_puti (pc := 179) dX4_readOrder_179 fl_X4_26 (by decide) rfl rfl rfl (hkU (hkU (hkU (hkU kt)))) ?_
                refine aw_iconst (pc := 182) dX4_readOrder_182 ?_
                exact aw_ireturn (pc := 183) dX4_readOrder_183 (by simp [okr]) g (by decide) (by decide)
          · replace g := g.2 c39
            refine aw_iload_n (pc := 51) dX4_readOrder_51 rfl ?_
            refine aw_bipush (pc := 52) dX4_readOrder_52 ?_
            refine aw_icmp_eq (pc := 54) (tgt := 63) dX4_readOrder_54 (by decide) (fun c51 => ?_) (fun c51 => ?_)
            · replace g := g.1 c51
              refine aw_iconst (pc := 63) dX4_readOrder_63 ?_
              refine aw_goto (pc := 64) (tgt := 68) dX4_readOrder_64 (by decide) ?_
              refine ax_istore (pc := 68) (ls' := [some (.inr (some t)), some (.inl v2), some (.inl 0), some (.inl 0), some (.inl 1)]) dX4_readOrder_68 (Nat.le_of_ble_eq_true rfl) rfl ?_
              refine aw_iload_n (pc := 70) dX4_readOrder_70 rfl ?_
              refine aw_if_ne (pc := 71) (tgt := 85) dX4_readOrder_71 (by decide) (fun c52 => False.elim (by omega)) (fun c52 => ?_)
              refine aw_iload_n (pc := 74) dX4_readOrder_74 rfl ?_
              refine aw_if_ne (pc := 75) (tgt := 85) dX4_readOrder_75 (by decide) (fun c53 => False.elim (by omega)) (fun c53 => ?_)
              refine aw_iload (pc := 78) dX4_readOrder_78 rfl ?_
              refine aw_if_ne (pc := 80) (tgt := 85) dX4_readOrder_80 (by decide) (fun c54 => ?_) (fun c54 => False.elim (by omega))
              refine aw_aload_n (pc := 85) dX4_readOrder_85 rfl ?_
              refine aw_dup (pc := 86) dX4_readOrder_86 ?_
              refine ax_geti (pc := 87) (v := hi h1 t 5) dX4_readOrder_87 fl_X4_29 (by decide) rfl kt rfl ?_
              refine aw_iconst (pc := 90) dX4_readOrder_90 ?_
              obtain ⟨s55, g⟩ := g
              refine ax_iadd (pc := 91) (v := (hi h1 t 5) + 1) dX4_readOrder_91 s55 rfl ?_
              refine ax_puti (pc := 92) dX4_readOrder_92 fl_X4_29 (by decide) rfl rfl rfl kt ?_
              refine aw_aload_n (pc := 95) dX4_readOrder_95 rfl ?_
              refine aw_iconst (pc := 96) dX4_readOrder_96 ?_
              refine ax_puti (pc := 97) dX4_readOrder_97 fl_X4_32 (by decide) rfl rfl rfl (hkU kt) ?_
              refine aw_iload_n (pc := 100) dX4_readOrder_100 rfl ?_
              refine aw_if_eq (pc := 101) (tgt := 117) dX4_readOrder_101 (by decide) (fun c56 => ?_) (fun c56 => False.elim (by omega))
              refine aw_iload_n (pc := 117) dX4_readOrder_117 rfl ?_
              refine aw_if_eq (pc := 118) (tgt := 133) dX4_readOrder_118 (by decide) (fun c57 => ?_) (fun c57 => False.elim (by omega))
              refine aw_aload_n (pc := 133) dX4_readOrder_133 rfl ?_
              refine ax_geti (pc := 134) (v := hi h1 t 4) dX4_readOrder_134 fl_X4_26 (by decide) rfl (hkU (hkU kt)) (hiN (Or.inr (by decide)) (hiN (Or.inr (by decide)) rfl)) ?_
              refine aw_if_lt (pc := 137) (tgt := 182) dX4_readOrder_137 (by decide) (fun c58 => ?_) (fun c58 => ?_)
              · replace g := g.1 c58
                refine aw_iconst (pc := 182) dX4_readOrder_182 ?_
                exact aw_ireturn (pc := 183) dX4_readOrder_183 (by simp [okr]) g (by decide) (by decide)
              · replace g := g.2 c58
                refine aw_aload_n (pc := 140) dX4_readOrder_140 rfl ?_
                refine ax_geti (pc := 141) (v := hi h1 t 4) dX4_readOrder_141 fl_X4_26 (by decide) rfl (hkU (hkU kt)) (hiN (Or.inr (by decide)) (hiN (Or.inr (by decide)) rfl)) ?_
                refine aw_bipush (pc := 144) dX4_readOrder_144 ?_
                refine aw_icmp_ge (pc := 146) (tgt := 182) dX4_readOrder_146 (by decide) (fun c59 => ?_) (fun c59 => ?_)
                · replace g := g.1 c59
                  refine aw_iconst (pc := 182) dX4_readOrder_182 ?_
                  exact aw_ireturn (pc := 183) dX4_readOrder_183 (by simp [okr]) g (by decide) (by decide)
                · replace g := g.2 c59
                  refine aw_aload_n (pc := 149) dX4_readOrder_149 rfl ?_
                  refine aw_getr (pc := 150) (r := some (t + 2)) dX4_readOrder_150 fl_X4_19 (by decide) rfl (hkU (hkU kt)) (hrU (hrU rt_kinds)) ?_
                  refine aw_aload_n (pc := 153) dX4_readOrder_153 rfl ?_
                  refine ax_geti (pc := 154) (v := hi h1 t 4) dX4_readOrder_154 fl_X4_26 (by decide) rfl (hkU (hkU kt)) (hiN (Or.inr (by decide)) (hiN (Or.inr (by decide)) rfl)) ?_
                  refine aw_iload_n (pc := 157) dX4_readOrder_157 rfl ?_
                  obtain ⟨s60, g⟩ := g
                  obtain ⟨s61, g⟩ := g
                  refine ax_castore (pc := 158) (n := 30) dX4_readOrder_158 (hkU (hkU kt_kinds)) s60 s61 ?_
                  refine aw_aload_n (pc := 159) dX4_readOrder_159 rfl ?_
                  refine aw_getr (pc := 160) (r := some (t + 3)) dX4_readOrder_160 fl_X4_22 (by decide) rfl (hkU (hkU (hkU kt))) (hrU (hrU (hrU rt_numbers))) ?_
                  refine aw_aload_n (pc := 163) dX4_readOrder_163 rfl ?_
                  refine ax_geti (pc := 164) (v := hi h1 t 4) dX4_readOrder_164 fl_X4_26 (by decide) rfl (hkU (hkU (hkU kt))) (hiN (Or.inl (by omega)) (hiN (Or.inr (by decide)) (hiN (Or.inr (by decide)) rfl))) ?_
                  refine aw_aload_n (pc := 167) dX4_readOrder_167 rfl ?_
                  refine ax_geti (pc := 168) (v := 0) dX4_readOrder_168 fl_X4_32 (by decide) rfl (hkU (hkU (hkU kt))) (hiN (Or.inl (by omega)) hiE) ?_
                  refine ax_iastore (pc := 171) (n := 30) dX4_readOrder_171 (hkU (hkU (hkU kt_numbers))) s60 ?_
                  refine aw_aload_n (pc := 172) dX4_readOrder_172 rfl ?_
                  refine aw_dup (pc := 173) dX4_readOrder_173 ?_
                  refine ax_geti (pc := 174) (v := hi h1 t 4) dX4_readOrder_174 fl_X4_26 (by decide) rfl (hkU (hkU (hkU (hkU kt)))) (hiN (Or.inl (by omega)) (hiN (Or.inl (by omega)) (hiN (Or.inr (by decide)) (hiN (Or.inr (by decide)) rfl)))) ?_
                  refine aw_iconst (pc := 177) dX4_readOrder_177 ?_
                  obtain ⟨s62, g⟩ := g
                  refine ax_iadd (pc := 178) (v := (hi h1 t 4) + 1) dX4_readOrder_178 s62 rfl ?_
                  refine ax_puti (pc := 179) dX4_readOrder_179 fl_X4_26 (by decide) rfl rfl rfl (hkU (hkU (hkU (hkU kt)))) ?_
                  refine aw_iconst (pc := 182) dX4_readOrder_182 ?_
                  exact aw_ireturn (pc := 183) dX4_readOrder_183 (by simp [okr]) g (by decide) (by decide)
            · replace g := g.2 c51
              refine aw_iload_n (pc := 57) dX4_readOrder_57 rfl ?_
              refine aw_bipush (pc := 58) dX4_readOrder_58 ?_
              refine aw_icmp_ne (pc := 60) (tgt := 67) dX4_readOrder_60 (by decide) (fun c63 => ?_) (fun c63 => ?_)
              · replace g := g.1 c63
                refine aw_iconst (pc := 67) dX4_readOrder_67 ?_
                refine ax_istore (pc := 68) (ls' := [some (.inr (some t)), some (.inl v2), some (.inl 0), some (.inl 0), some (.inl 0)]) dX4_readOrder_68 (Nat.le_of_ble_eq_true rfl) rfl ?_
                refine aw_iload_n (pc := 70) dX4_readOrder_70 rfl ?_
                refine aw_if_ne (pc := 71) (tgt := 85) dX4_readOrder_71 (by decide) (fun c64 => False.elim (by omega)) (fun c64 => ?_)
                refine aw_iload_n (pc := 74) dX4_readOrder_74 rfl ?_
                refine aw_if_ne (pc := 75) (tgt := 85) dX4_readOrder_75 (by decide) (fun c65 => False.elim (by omega)) (fun c65 => ?_)
                refine aw_iload (pc := 78) dX4_readOrder_78 rfl ?_
                refine aw_if_ne (pc := 80) (tgt := 85) dX4_readOrder_80 (by decide) (fun c66 => False.elim (by omega)) (fun c66 => ?_)
                refine aw_iconst (pc := 83) dX4_readOrder_83 ?_
                exact aw_ireturn (pc := 84) dX4_readOrder_84 (by simp [okr]) g (by decide) (by decide)
              · replace g := g.2 c63
                refine aw_iconst (pc := 63) dX4_readOrder_63 ?_
                refine aw_goto (pc := 64) (tgt := 68) dX4_readOrder_64 (by decide) ?_
                refine ax_istore (pc := 68) (ls' := [some (.inr (some t)), some (.inl v2), some (.inl 0), some (.inl 0), some (.inl 1)]) dX4_readOrder_68 (Nat.le_of_ble_eq_true rfl) rfl ?_
                refine aw_iload_n (pc := 70) dX4_readOrder_70 rfl ?_
                refine aw_if_ne (pc := 71) (tgt := 85) dX4_readOrder_71 (by decide) (fun c67 => False.elim (by omega)) (fun c67 => ?_)
                refine aw_iload_n (pc := 74) dX4_readOrder_74 rfl ?_
                refine aw_if_ne (pc := 75) (tgt := 85) dX4_readOrder_75 (by decide) (fun c68 => False.elim (by omega)) (fun c68 => ?_)
                refine aw_iload (pc := 78) dX4_readOrder_78 rfl ?_
                refine aw_if_ne (pc := 80) (tgt := 85) dX4_readOrder_80 (by decide) (fun c69 => ?_) (fun c69 => False.elim (by omega))
                refine aw_aload_n (pc := 85) dX4_readOrder_85 rfl ?_
                refine aw_dup (pc := 86) dX4_readOrder_86 ?_
                refine ax_geti (pc := 87) (v := hi h1 t 5) dX4_readOrder_87 fl_X4_29 (by decide) rfl kt rfl ?_
                refine aw_iconst (pc := 90) dX4_readOrder_90 ?_
                obtain ⟨s70, g⟩ := g
                refine ax_iadd (pc := 91) (v := (hi h1 t 5) + 1) dX4_readOrder_91 s70 rfl ?_
                refine ax_puti (pc := 92) dX4_readOrder_92 fl_X4_29 (by decide) rfl rfl rfl kt ?_
                refine aw_aload_n (pc := 95) dX4_readOrder_95 rfl ?_
                refine aw_iconst (pc := 96) dX4_readOrder_96 ?_
                refine ax_puti (pc := 97) dX4_readOrder_97 fl_X4_32 (by decide) rfl rfl rfl (hkU kt) ?_
                refine aw_iload_n (pc := 100) dX4_readOrder_100 rfl ?_
                refine aw_if_eq (pc := 101) (tgt := 117) dX4_readOrder_101 (by decide) (fun c71 => ?_) (fun c71 => False.elim (by omega))
                refine aw_iload_n (pc := 117) dX4_readOrder_117 rfl ?_
                refine aw_if_eq (pc := 118) (tgt := 133) dX4_readOrder_118 (by decide) (fun c72 => ?_) (fun c72 => False.elim (by omega))
                refine aw_aload_n (pc := 133) dX4_readOrder_133 rfl ?_
                refine ax_geti (pc := 134) (v := hi h1 t 4) dX4_readOrder_134 fl_X4_26 (by decide) rfl (hkU (hkU kt)) (hiN (Or.inr (by decide)) (hiN (Or.inr (by decide)) rfl)) ?_
                refine aw_if_lt (pc := 137) (tgt := 182) dX4_readOrder_137 (by decide) (fun c73 => ?_) (fun c73 => ?_)
                · replace g := g.1 c73
                  refine aw_iconst (pc := 182) dX4_readOrder_182 ?_
                  exact aw_ireturn (pc := 183) dX4_readOrder_183 (by simp [okr]) g (by decide) (by decide)
                · replace g := g.2 c73
                  refine aw_aload_n (pc := 140) dX4_readOrder_140 rfl ?_
                  refine ax_geti (pc := 141) (v := hi h1 t 4) dX4_readOrder_141 fl_X4_26 (by decide) rfl (hkU (hkU kt)) (hiN (Or.inr (by decide)) (hiN (Or.inr (by decide)) rfl)) ?_
                  refine aw_bipush (pc := 144) dX4_readOrder_144 ?_
                  refine aw_icmp_ge (pc := 146) (tgt := 182) dX4_readOrder_146 (by decide) (fun c74 => ?_) (fun c74 => ?_)
                  · replace g := g.1 c74
                    refine aw_iconst (pc := 182) dX4_readOrder_182 ?_
                    exact aw_ireturn (pc := 183) dX4_readOrder_183 (by simp [okr]) g (by decide) (by decide)
                  · replace g := g.2 c74
                    refine aw_aload_n (pc := 149) dX4_readOrder_149 rfl ?_
                    refine aw_getr (pc := 150) (r := some (t + 2)) dX4_readOrder_150 fl_X4_19 (by decide) rfl (hkU (hkU kt)) (hrU (hrU rt_kinds)) ?_
                    refine aw_aload_n (pc := 153) dX4_readOrder_153 rfl ?_
                    refine ax_geti (pc := 154) (v := hi h1 t 4) dX4_readOrder_154 fl_X4_26 (by decide) rfl (hkU (hkU kt)) (hiN (Or.inr (by decide)) (hiN (Or.inr (by decide)) rfl)) ?_
                    refine aw_iload_n (pc := 157) dX4_readOrder_157 rfl ?_
                    obtain ⟨s75, g⟩ := g
                    obtain ⟨s76, g⟩ := g
                    refine ax_castore (pc := 158) (n := 30) dX4_readOrder_158 (hkU (hkU kt_kinds)) s75 s76 ?_
                    refine aw_aload_n (pc := 159) dX4_readOrder_159 rfl ?_
                    refine aw_getr (pc := 160) (r := some (t + 3)) dX4_readOrder_160 fl_X4_22 (by decide) rfl (hkU (hkU (hkU kt))) (hrU (hrU (hrU rt_numbers))) ?_
                    refine aw_aload_n (pc := 163) dX4_readOrder_163 rfl ?_
                    refine ax_geti (pc := 164) (v := hi h1 t 4) dX4_readOrder_164 fl_X4_26 (by decide) rfl (hkU (hkU (hkU kt))) (hiN (Or.inl (by omega)) (hiN (Or.inr (by decide)) (hiN (Or.inr (by decide)) rfl))) ?_
                    refine aw_aload_n (pc := 167) dX4_readOrder_167 rfl ?_
                    refine ax_geti (pc := 168) (v := 0) dX4_readOrder_168 fl_X4_32 (by decide) rfl (hkU (hkU (hkU kt))) (hiN (Or.inl (by omega)) hiE) ?_
                    refine ax_iastore (pc := 171) (n := 30) dX4_readOrder_171 (hkU (hkU (hkU kt_numbers))) s75 ?_
                    refine aw_aload_n (pc := 172) dX4_readOrder_172 rfl ?_
                    refine aw_dup (pc := 173) dX4_readOrder_173 ?_
                    refine ax_geti (pc := 174) (v := hi h1 t 4) dX4_readOrder_174 fl_X4_26 (by decide) rfl (hkU (hkU (hkU (hkU kt)))) (hiN (Or.inl (by omega)) (hiN (Or.inl (by omega)) (hiN (Or.inr (by decide)) (hiN (Or.inr (by decide)) rfl)))) ?_
                    refine aw_iconst (pc := 177) dX4_readOrder_177 ?_
                    obtain ⟨s77, g⟩ := g
                    refine ax_iadd (pc := 178) (v := (hi h1 t 4) + 1) dX4_readOrder_178 s77 rfl ?_
                    refine ax_puti (pc := 179) dX4_readOrder_179 fl_X4_26 (by decide) rfl rfl rfl (hkU (hkU (hkU (hkU kt)))) ?_
                    refine aw_iconst (pc := 182) dX4_readOrder_182 ?_
                    exact aw_ireturn (pc := 183) dX4_readOrder_183 (by simp [okr]) g (by decide) (by decide)
        · replace g := g.2 c38
          refine aw_iconst (pc := 39) dX4_readOrder_39 ?_
          refine aw_goto (pc := 40) (tgt := 44) dX4_readOrder_40 (by decide) ?_
          refine ax_istore_n (pc := 44) (ls' := [some (.inr (some t)), some (.inl v2), some (.inl 0), some (.inl 1), none]) dX4_readOrder_44 (Nat.le_of_ble_eq_true rfl) rfl ?_
          refine aw_iload_n (pc := 45) dX4_readOrder_45 rfl ?_
          refine aw_bipush (pc := 46) dX4_readOrder_46 ?_
          refine aw_icmp_eq (pc := 48) (tgt := 63) dX4_readOrder_48 (by decide) (fun c78 => False.elim (by omega)) (fun c78 => ?_)
          refine aw_iload_n (pc := 51) dX4_readOrder_51 rfl ?_
          refine aw_bipush (pc := 52) dX4_readOrder_52 ?_
          refine aw_icmp_eq (pc := 54) (tgt := 63) dX4_readOrder_54 (by decide) (fun c79 => False.elim (by omega)) (fun c79 => ?_)
          refine aw_iload_n (pc := 57) dX4_readOrder_57 rfl ?_
          refine aw_bipush (pc := 58) dX4_readOrder_58 ?_
          refine aw_icmp_ne (pc := 60) (tgt := 67) dX4_readOrder_60 (by decide) (fun c80 => ?_) (fun c80 => False.elim (by omega))
          refine aw_iconst (pc := 67) dX4_readOrder_67 ?_
          refine ax_istore (pc := 68) (ls' := [some (.inr (some t)), some (.inl v2), some (.inl 0), some (.inl 1), some (.inl 0)]) dX4_readOrder_68 (Nat.le_of_ble_eq_true rfl) rfl ?_
          refine aw_iload_n (pc := 70) dX4_readOrder_70 rfl ?_
          refine aw_if_ne (pc := 71) (tgt := 85) dX4_readOrder_71 (by decide) (fun c81 => False.elim (by omega)) (fun c81 => ?_)
          refine aw_iload_n (pc := 74) dX4_readOrder_74 rfl ?_
          refine aw_if_ne (pc := 75) (tgt := 85) dX4_readOrder_75 (by decide) (fun c82 => ?_) (fun c82 => False.elim (by omega))
          refine aw_aload_n (pc := 85) dX4_readOrder_85 rfl ?_
          refine aw_dup (pc := 86) dX4_readOrder_86 ?_
          refine ax_geti (pc := 87) (v := hi h1 t 5) dX4_readOrder_87 fl_X4_29 (by decide) rfl kt rfl ?_
          refine aw_iconst (pc := 90) dX4_readOrder_90 ?_
          obtain ⟨s83, g⟩ := g
          refine ax_iadd (pc := 91) (v := (hi h1 t 5) + 1) dX4_readOrder_91 s83 rfl ?_
          refine ax_puti (pc := 92) dX4_readOrder_92 fl_X4_29 (by decide) rfl rfl rfl kt ?_
          refine aw_aload_n (pc := 95) dX4_readOrder_95 rfl ?_
          refine aw_iconst (pc := 96) dX4_readOrder_96 ?_
          refine ax_puti (pc := 97) dX4_readOrder_97 fl_X4_32 (by decide) rfl rfl rfl (hkU kt) ?_
          refine aw_iload_n (pc := 100) dX4_readOrder_100 rfl ?_
          refine aw_if_eq (pc := 101) (tgt := 117) dX4_readOrder_101 (by decide) (fun c84 => ?_) (fun c84 => False.elim (by omega))
          refine aw_iload_n (pc := 117) dX4_readOrder_117 rfl ?_
          refine aw_if_eq (pc := 118) (tgt := 133) dX4_readOrder_118 (by decide) (fun c85 => False.elim (by omega)) (fun c85 => ?_)
          refine aw_aload_n (pc := 121) dX4_readOrder_121 rfl ?_
          refine aw_iconst (pc := 122) dX4_readOrder_122 ?_
          refine aw_bipush (pc := 123) dX4_readOrder_123 ?_
          refine aw_invV (pc := 125) (md' := m_X4_readNumber) (ci := 4) (as := [(.inl 1), (.inl 64)]) dX4_readOrder_125 mo_X4_readNumber im_X4_readNumber se_X4_readNumber ml_X4_43 rfl (hkU (hkU kt)) rfl hd (Nat.le_of_ble_eq_true rfl) (Nat.le_of_ble_eq_true rfl) (Nat.le_of_ble_eq_true rfl) ?_
          refine am_mono g (fun _ h86 _ ok_h86 g => ?_)
          obtain ⟨v87, rfl, ss_h86, g⟩ := g
          replace hL := QX.ss hL (SS.tr (SS.up (SS.up SS.rf)) ss_h86)
          obtain ⟨kt, rt_characters, kt_characters, rt_kinds, kt_kinds, rt_numbers, kt_numbers⟩ := id hL
          show AW m_X4_readOrder d none Q 128 [some (.inr (some t)), some (.inl v2), some (.inl 0), some (.inl 1), some (.inl 0)] [(.inl v87)] h86 (0, 0)
          refine aw_if_ne (pc := 128) (tgt := 133) dX4_readOrder_128 (by decide) (fun c88 => ?_) (fun c88 => ?_)
          · replace g := g.1 c88
            refine aw_aload_n (pc := 133) dX4_readOrder_133 rfl ?_
            refine ax_geti (pc := 134) (v := hi h86 t 4) dX4_readOrder_134 fl_X4_26 (by decide) rfl kt rfl ?_
            refine aw_if_lt (pc := 137) (tgt := 182) dX4_readOrder_137 (by decide) (fun c89 => ?_) (fun c89 => ?_)
            · replace g := g.1 c89
              refine aw_iconst (pc := 182) dX4_readOrder_182 ?_
              exact aw_ireturn (pc := 183) dX4_readOrder_183 (by simp [okr]) g (by decide) (by decide)
            · replace g := g.2 c89
              refine aw_aload_n (pc := 140) dX4_readOrder_140 rfl ?_
              refine ax_geti (pc := 141) (v := hi h86 t 4) dX4_readOrder_141 fl_X4_26 (by decide) rfl kt rfl ?_
              refine aw_bipush (pc := 144) dX4_readOrder_144 ?_
              refine aw_icmp_ge (pc := 146) (tgt := 182) dX4_readOrder_146 (by decide) (fun c90 => ?_) (fun c90 => ?_)
              · replace g := g.1 c90
                refine aw_iconst (pc := 182) dX4_readOrder_182 ?_
                exact aw_ireturn (pc := 183) dX4_readOrder_183 (by simp [okr]) g (by decide) (by decide)
              · replace g := g.2 c90
                refine aw_aload_n (pc := 149) dX4_readOrder_149 rfl ?_
                refine aw_getr (pc := 150) (r := some (t + 2)) dX4_readOrder_150 fl_X4_19 (by decide) rfl kt rt_kinds ?_
                refine aw_aload_n (pc := 153) dX4_readOrder_153 rfl ?_
                refine ax_geti (pc := 154) (v := hi h86 t 4) dX4_readOrder_154 fl_X4_26 (by decide) rfl kt rfl ?_
                refine aw_iload_n (pc := 157) dX4_readOrder_157 rfl ?_
                obtain ⟨s91, g⟩ := g
                obtain ⟨s92, g⟩ := g
                refine ax_castore (pc := 158) (n := 30) dX4_readOrder_158 kt_kinds s91 s92 ?_
                refine aw_aload_n (pc := 159) dX4_readOrder_159 rfl ?_
                refine aw_getr (pc := 160) (r := some (t + 3)) dX4_readOrder_160 fl_X4_22 (by decide) rfl (hkU kt) (hrU rt_numbers) ?_
                refine aw_aload_n (pc := 163) dX4_readOrder_163 rfl ?_
                refine ax_geti (pc := 164) (v := hi h86 t 4) dX4_readOrder_164 fl_X4_26 (by decide) rfl (hkU kt) (hiN (Or.inl (by omega)) rfl) ?_
                refine aw_aload_n (pc := 167) dX4_readOrder_167 rfl ?_
                refine ax_geti (pc := 168) (v := hi h86 t 6) dX4_readOrder_168 fl_X4_32 (by decide) rfl (hkU kt) (hiN (Or.inl (by omega)) rfl) ?_
                refine ax_iastore (pc := 171) (n := 30) dX4_readOrder_171 (hkU kt_numbers) s91 ?_
                refine aw_aload_n (pc := 172) dX4_readOrder_172 rfl ?_
                refine aw_dup (pc := 173) dX4_readOrder_173 ?_
                refine ax_geti (pc := 174) (v := hi h86 t 4) dX4_readOrder_174 fl_X4_26 (by decide) rfl (hkU (hkU kt)) (hiN (Or.inl (by omega)) (hiN (Or.inl (by omega)) rfl)) ?_
                refine aw_iconst (pc := 177) dX4_readOrder_177 ?_
                obtain ⟨s93, g⟩ := g
                refine ax_iadd (pc := 178) (v := (hi h86 t 4) + 1) dX4_readOrder_178 s93 rfl ?_
                refine ax_puti (pc := 179) dX4_readOrder_179 fl_X4_26 (by decide) rfl rfl rfl (hkU (hkU kt)) ?_
                refine aw_iconst (pc := 182) dX4_readOrder_182 ?_
                exact aw_ireturn (pc := 183) dX4_readOrder_183 (by simp [okr]) g (by decide) (by decide)
          · replace g := g.2 c88
            refine aw_iconst (pc := 131) dX4_readOrder_131 ?_
            exact aw_ireturn (pc := 132) dX4_readOrder_132 (by simp [okr]) g (by decide) (by decide)
      · replace g := g.2 c37
        refine aw_iconst (pc := 27) dX4_readOrder_27 ?_
        refine aw_goto (pc := 28) (tgt := 32) dX4_readOrder_28 (by decide) ?_
        refine ax_istore_n (pc := 32) (ls' := [some (.inr (some t)), some (.inl v2), some (.inl 1), none, none]) dX4_readOrder_32 (Nat.le_of_ble_eq_true rfl) rfl ?_
        refine aw_iload_n (pc := 33) dX4_readOrder_33 rfl ?_
        refine aw_bipush (pc := 34) dX4_readOrder_34 ?_
        refine aw_icmp_ne (pc := 36) (tgt := 43) dX4_readOrder_36 (by decide) (fun c94 => ?_) (fun c94 => False.elim (by omega))
        refine aw_iconst (pc := 43) dX4_readOrder_43 ?_
        refine ax_istore_n (pc := 44) (ls' := [some (.inr (some t)), some (.inl v2), some (.inl 1), some (.inl 0), none]) dX4_readOrder_44 (Nat.le_of_ble_eq_true rfl) rfl ?_
        refine aw_iload_n (pc := 45) dX4_readOrder_45 rfl ?_
        refine aw_bipush (pc := 46) dX4_readOrder_46 ?_
        refine aw_icmp_eq (pc := 48) (tgt := 63) dX4_readOrder_48 (by decide) (fun c95 => False.elim (by omega)) (fun c95 => ?_)
        refine aw_iload_n (pc := 51) dX4_readOrder_51 rfl ?_
        refine aw_bipush (pc := 52) dX4_readOrder_52 ?_
        refine aw_icmp_eq (pc := 54) (tgt := 63) dX4_readOrder_54 (by decide) (fun c96 => False.elim (by omega)) (fun c96 => ?_)
        refine aw_iload_n (pc := 57) dX4_readOrder_57 rfl ?_
        refine aw_bipush (pc := 58) dX4_readOrder_58 ?_
        refine aw_icmp_ne (pc := 60) (tgt := 67) dX4_readOrder_60 (by decide) (fun c97 => ?_) (fun c97 => False.elim (by omega))
        refine aw_iconst (pc := 67) dX4_readOrder_67 ?_
        refine ax_istore (pc := 68) (ls' := [some (.inr (some t)), some (.inl v2), some (.inl 1), some (.inl 0), some (.inl 0)]) dX4_readOrder_68 (Nat.le_of_ble_eq_true rfl) rfl ?_
        refine aw_iload_n (pc := 70) dX4_readOrder_70 rfl ?_
        refine aw_if_ne (pc := 71) (tgt := 85) dX4_readOrder_71 (by decide) (fun c98 => ?_) (fun c98 => False.elim (by omega))
        refine aw_aload_n (pc := 85) dX4_readOrder_85 rfl ?_
        refine aw_dup (pc := 86) dX4_readOrder_86 ?_
        refine ax_geti (pc := 87) (v := hi h1 t 5) dX4_readOrder_87 fl_X4_29 (by decide) rfl kt rfl ?_
        refine aw_iconst (pc := 90) dX4_readOrder_90 ?_
        obtain ⟨s99, g⟩ := g
        refine ax_iadd (pc := 91) (v := (hi h1 t 5) + 1) dX4_readOrder_91 s99 rfl ?_
        refine ax_puti (pc := 92) dX4_readOrder_92 fl_X4_29 (by decide) rfl rfl rfl kt ?_
        refine aw_aload_n (pc := 95) dX4_readOrder_95 rfl ?_
        refine aw_iconst (pc := 96) dX4_readOrder_96 ?_
        refine ax_puti (pc := 97) dX4_readOrder_97 fl_X4_32 (by decide) rfl rfl rfl (hkU kt) ?_
        refine aw_iload_n (pc := 100) dX4_readOrder_100 rfl ?_
        refine aw_if_eq (pc := 101) (tgt := 117) dX4_readOrder_101 (by decide) (fun c100 => False.elim (by omega)) (fun c100 => ?_)
        refine aw_aload_n (pc := 104) dX4_readOrder_104 rfl ?_
        refine aw_iconst (pc := 105) dX4_readOrder_105 ?_
        refine aw_sipush (pc := 106) dX4_readOrder_106 ?_
        refine aw_invV (pc := 109) (md' := m_X4_readNumber) (ci := 4) (as := [(.inl 0), (.inl 255)]) dX4_readOrder_109 mo_X4_readNumber im_X4_readNumber se_X4_readNumber ml_X4_43 rfl (hkU (hkU kt)) rfl hd (Nat.le_of_ble_eq_true rfl) (Nat.le_of_ble_eq_true rfl) (Nat.le_of_ble_eq_true rfl) ?_
        refine am_mono g (fun _ h101 _ ok_h101 g => ?_)
        obtain ⟨v102, rfl, ss_h101, g⟩ := g
        replace hL := QX.ss hL (SS.tr (SS.up (SS.up SS.rf)) ss_h101)
        obtain ⟨kt, rt_characters, kt_characters, rt_kinds, kt_kinds, rt_numbers, kt_numbers⟩ := id hL
        show AW m_X4_readOrder d none Q 112 [some (.inr (some t)), some (.inl v2), some (.inl 1), some (.inl 0), some (.inl 0)] [(.inl v102)] h101 (0, 0)
        refine aw_if_ne (pc := 112) (tgt := 117) dX4_readOrder_112 (by decide) (fun c103 => ?_) (fun c103 => ?_)
        · replace g := g.1 c103
          refine aw_iload_n (pc := 117) dX4_readOrder_117 rfl ?_
          refine aw_if_eq (pc := 118) (tgt := 133) dX4_readOrder_118 (by decide) (fun c104 => ?_) (fun c104 => False.elim (by omega))
          refine aw_aload_n (pc := 133) dX4_readOrder_133 rfl ?_
          refine ax_geti (pc := 134) (v := hi h101 t 4) dX4_readOrder_134 fl_X4_26 (by decide) rfl kt rfl ?_
          refine aw_if_lt (pc := 137) (tgt := 182) dX4_readOrder_137 (by decide) (fun c105 => ?_) (fun c105 => ?_)
          · replace g := g.1 c105
            refine aw_iconst (pc := 182) dX4_readOrder_182 ?_
            exact aw_ireturn (pc := 183) dX4_readOrder_183 (by simp [okr]) g (by decide) (by decide)
          · replace g := g.2 c105
            refine aw_aload_n (pc := 140) dX4_readOrder_140 rfl ?_
            refine ax_geti (pc := 141) (v := hi h101 t 4) dX4_readOrder_141 fl_X4_26 (by decide) rfl kt rfl ?_
            refine aw_bipush (pc := 144) dX4_readOrder_144 ?_
            refine aw_icmp_ge (pc := 146) (tgt := 182) dX4_readOrder_146 (by decide) (fun c106 => ?_) (fun c106 => ?_)
            · replace g := g.1 c106
              refine aw_iconst (pc := 182) dX4_readOrder_182 ?_
              exact aw_ireturn (pc := 183) dX4_readOrder_183 (by simp [okr]) g (by decide) (by decide)
            · replace g := g.2 c106
              refine aw_aload_n (pc := 149) dX4_readOrder_149 rfl ?_
              refine aw_getr (pc := 150) (r := some (t + 2)) dX4_readOrder_150 fl_X4_19 (by decide) rfl kt rt_kinds ?_
              refine aw_aload_n (pc := 153) dX4_readOrder_153 rfl ?_
              refine ax_geti (pc := 154) (v := hi h101 t 4) dX4_readOrder_154 fl_X4_26 (by decide) rfl kt rfl ?_
              refine aw_iload_n (pc := 157) dX4_readOrder_157 rfl ?_
              obtain ⟨s107, g⟩ := g
              obtain ⟨s108, g⟩ := g
              refine ax_castore (pc := 158) (n := 30) dX4_readOrder_158 kt_kinds s107 s108 ?_
              refine aw_aload_n (pc := 159) dX4_readOrder_159 rfl ?_
              refine aw_getr (pc := 160) (r := some (t + 3)) dX4_readOrder_160 fl_X4_22 (by decide) rfl (hkU kt) (hrU rt_numbers) ?_
              refine aw_aload_n (pc := 163) dX4_readOrder_163 rfl ?_
              refine ax_geti (pc := 164) (v := hi h101 t 4) dX4_readOrder_164 fl_X4_26 (by decide) rfl (hkU kt) (hiN (Or.inl (by omega)) rfl) ?_
              refine aw_aload_n (pc := 167) dX4_readOrder_167 rfl ?_
              refine ax_geti (pc := 168) (v := hi h101 t 6) dX4_readOrder_168 fl_X4_32 (by decide) rfl (hkU kt) (hiN (Or.inl (by omega)) rfl) ?_
              refine ax_iastore (pc := 171) (n := 30) dX4_readOrder_171 (hkU kt_numbers) s107 ?_
              refine aw_aload_n (pc := 172) dX4_readOrder_172 rfl ?_
              refine aw_dup (pc := 173) dX4_readOrder_173 ?_
              refine ax_geti (pc := 174) (v := hi h101 t 4) dX4_readOrder_174 fl_X4_26 (by decide) rfl (hkU (hkU kt)) (hiN (Or.inl (by omega)) (hiN (Or.inl (by omega)) rfl)) ?_
              refine aw_iconst (pc := 177) dX4_readOrder_177 ?_
              obtain ⟨s109, g⟩ := g
              refine ax_iadd (pc := 178) (v := (hi h101 t 4) + 1) dX4_readOrder_178 s109 rfl ?_
              refine ax_puti (pc := 179) dX4_readOrder_179 fl_X4_26 (by decide) rfl rfl rfl (hkU (hkU kt)) ?_
              refine aw_iconst (pc := 182) dX4_readOrder_182 ?_
              exact aw_ireturn (pc := 183) dX4_readOrder_183 (by simp [okr]) g (by decide) (by decide)
        · replace g := g.2 c103
          refine aw_iconst (pc := 115) dX4_readOrder_115 ?_
          exact aw_ireturn (pc := 116) dX4_readOrder_116 (by simp [okr]) g (by decide) (by decide)
set_option maxRecDepth 100000 in
set_option maxHeartbeats 4000000 in
theorem vc_X4_readNumber {d : Nat} {Q : Option Int → AH → Prop} {h : AH} {t : Nat} {x1 x2 : Int} (hd : 1 ≤ d) (hL : QX h t)
  (g :
    AM (d - 1) m_X4_digitAt [(.inr (some t)), (.inl (hi h t 5))] h (fun r h1 => 
      ∃ v2, r = some v2 ∧ SS h h1 ∧
      ((v2 < 0 → (
        Q (some 0) h1
      )) ∧
      (¬ (v2 < 0) → (
        ((x1 ≤ v2 → (
          (rg ((hi h1 t 5) + 1)) ∧
          AW m_X4_readNumber d none Q 38 [some (.inr (some t)), some (.inl x1), some (.inl x2), some (.inl v2), some (.inl 1), none] [] (up (up h1 t 6 v2) t 5 ((hi h1 t 5) + 1)) (0, 0)
        )) ∧
        (¬ (x1 ≤ v2) → (
          Q (some 0) h1
        )))
      ))))) :
  AM d m_X4_readNumber [(.inr (some t)), (.inl x1), (.inl x2)] h Q := by
  refine am_body mo_X4_readNumber (Nat.le_of_ble_eq_true rfl) ?_
  show AW m_X4_readNumber d none Q 0 [some (.inr (some t)), some (.inl x1), some (.inl x2), none, none, none] [] h (0, 0)
  obtain ⟨kt, rt_characters, kt_characters, rt_kinds, kt_kinds, rt_numbers, kt_numbers⟩ := id hL
  refine aw_aload_n (pc := 0) dX4_readNumber_0 rfl ?_
  refine aw_aload_n (pc := 1) dX4_readNumber_1 rfl ?_
  refine ax_geti (pc := 2) (v := hi h t 5) dX4_readNumber_2 fl_X4_29 (by decide) rfl kt rfl ?_
  refine aw_invV (pc := 5) (md' := m_X4_digitAt) (ci := 4) (as := [(.inl (hi h t 5))]) dX4_readNumber_5 mo_X4_digitAt im_X4_digitAt se_X4_digitAt ml_X4_47 rfl kt rfl hd (Nat.le_of_ble_eq_true rfl) (Nat.le_of_ble_eq_true rfl) (Nat.le_of_ble_eq_true rfl) ?_
  refine am_mono g (fun _ h1 _ ok_h1 g => ?_)
  obtain ⟨v2, rfl, ss_h1, g⟩ := g
  replace hL := QX.ss hL ss_h1
  obtain ⟨kt, rt_characters, kt_characters, rt_kinds, kt_kinds, rt_numbers, kt_numbers⟩ := id hL
  show AW m_X4_readNumber d none Q 8 [some (.inr (some t)), some (.inl x1), some (.inl x2), none, none, none] [(.inl v2)] h1 (0, 0)
  refine ax_istore_n (pc := 8) (ls' := [some (.inr (some t)), some (.inl x1), some (.inl x2), some (.inl v2), none, none]) dX4_readNumber_8 (Nat.le_of_ble_eq_true rfl) rfl ?_
  refine aw_iload_n (pc := 9) dX4_readNumber_9 rfl ?_
  refine aw_if_lt (pc := 10) (tgt := 18) dX4_readNumber_10 (by decide) (fun c3 => ?_) (fun c3 => ?_)
  · replace g := g.1 c3
    refine aw_iconst (pc := 18) dX4_readNumber_18 ?_
    exact aw_ireturn (pc := 19) dX4_readNumber_19 (by simp [okr]) g (by decide) (by decide)
  · replace g := g.2 c3
    refine aw_iload_n (pc := 13) dX4_readNumber_13 rfl ?_
    refine aw_iload_n (pc := 14) dX4_readNumber_14 rfl ?_
    refine aw_icmp_ge (pc := 15) (tgt := 20) dX4_readNumber_15 (by decide) (fun c4 => ?_) (fun c4 => ?_)
    · replace g := g.1 c4
      refine aw_aload_n (pc := 20) dX4_readNumber_20 rfl ?_
      refine aw_iload_n (pc := 21) dX4_readNumber_21 rfl ?_
      refine ax_puti (pc := 22) dX4_readNumber_22 fl_X4_32 (by decide) rfl rfl rfl kt ?_
      refine aw_aload_n (pc := 25) dX4_readNumber_25 rfl ?_
      refine aw_dup (pc := 26) dX4_readNumber_26 ?_
      refine ax_geti (pc := 27) (v := hi h1 t 5) dX4_readNumber_27 fl_X4_29 (by decide) rfl (hkU kt) (hiN (Or.inr (by decide)) rfl) ?_
      refine aw_iconst (pc := 30) dX4_readNumber_30 ?_
      obtain ⟨s5, g⟩ := g
      refine ax_iadd (pc := 31) (v := (hi h1 t 5) + 1) dX4_readNumber_31 s5 rfl ?_
      refine ax_puti (pc := 32) dX4_readNumber_32 fl_X4_29 (by decide) rfl rfl rfl (hkU kt) ?_
      refine aw_iconst (pc := 35) dX4_readNumber_35 ?_
      refine ax_istore (pc := 36) (ls' := [some (.inr (some t)), some (.inl x1), some (.inl x2), some (.inl v2), some (.inl 1), none]) dX4_readNumber_36 (Nat.le_of_ble_eq_true rfl) rfl ?_
      exact g
    · replace g := g.2 c4
      refine aw_iconst (pc := 18) dX4_readNumber_18 ?_
      exact aw_ireturn (pc := 19) dX4_readNumber_19 (by simp [okr]) g (by decide) (by decide)
set_option maxRecDepth 100000 in
set_option maxHeartbeats 4000000 in
theorem vc_X4_readNumber_38 {d : Nat} {Q : Option Int → AH → Prop} {h : AH} {t : Nat} {x1 x2 x3 x4 : Int} (hd : 1 ≤ d) (hL : QX h t)
  (g :
    ((3 ≤ x4 → (
      Q (some 1) h
    )) ∧
    (¬ (3 ≤ x4) → (
      AM (d - 1) m_X4_digitAt [(.inr (some t)), (.inl (hi h t 5))] h (fun r h7 => 
        ∃ v8, r = some v8 ∧ SS h h7 ∧
        ((v8 < 0 → (
          Q (some 1) h7
        )) ∧
        (¬ (v8 < 0) → (
          ((hi h7 t 6 = 0 → (
            Q (some 1) h7
          )) ∧
          (¬ (hi h7 t 6 = 0) → (
            (rg (10 * (hi h7 t 6))) ∧
            (rg ((10 * (hi h7 t 6)) + v8)) ∧
            (((10 * (hi h7 t 6)) + v8 ≤ x2 → (
              (rg ((hi h7 t 5) + 1)) ∧
              (rg (x4 + 1)) ∧
              AW m_X4_readNumber d none Q 38 [some (.inr (some t)), some (.inl x1), some (.inl x2), some (.inl x3), some (.inl (x4 + 1)), none] [] (up (up h7 t 6 ((10 * (hi h7 t 6)) + v8)) t 5 ((hi h7 t 5) + 1)) (0, 0)
            )) ∧
            (¬ ((10 * (hi h7 t 6)) + v8 ≤ x2) → (
              Q (some 1) h7
            )))
          )))
        ))))
    )))) :
  AW m_X4_readNumber d none Q 38 [some (.inr (some t)), some (.inl x1), some (.inl x2), some (.inl x3), some (.inl x4), none] [] h (0, 0) := by
  obtain ⟨kt, rt_characters, kt_characters, rt_kinds, kt_kinds, rt_numbers, kt_numbers⟩ := id hL
  refine aw_iload (pc := 38) dX4_readNumber_38 rfl ?_
  refine aw_iconst (pc := 40) dX4_readNumber_40 ?_
  refine aw_icmp_ge (pc := 41) (tgt := 113) dX4_readNumber_41 (by decide) (fun c6 => ?_) (fun c6 => ?_)
  · replace g := g.1 c6
    refine aw_iconst (pc := 113) dX4_readNumber_113 ?_
    exact aw_ireturn (pc := 114) dX4_readNumber_114 (by simp [okr]) g (by decide) (by decide)
  · replace g := g.2 c6
    refine aw_aload_n (pc := 44) dX4_readNumber_44 rfl ?_
    refine aw_aload_n (pc := 45) dX4_readNumber_45 rfl ?_
    refine ax_geti (pc := 46) (v := hi h t 5) dX4_readNumber_46 fl_X4_29 (by decide) rfl kt rfl ?_
    refine aw_invV (pc := 49) (md' := m_X4_digitAt) (ci := 4) (as := [(.inl (hi h t 5))]) dX4_readNumber_49 mo_X4_digitAt im_X4_digitAt se_X4_digitAt ml_X4_47 rfl kt rfl hd (Nat.le_of_ble_eq_true rfl) (Nat.le_of_ble_eq_true rfl) (Nat.le_of_ble_eq_true rfl) ?_
    refine am_mono g (fun _ h7 _ ok_h7 g => ?_)
    obtain ⟨v8, rfl, ss_h7, g⟩ := g
    replace hL := QX.ss hL ss_h7
    obtain ⟨kt, rt_characters, kt_characters, rt_kinds, kt_kinds, rt_numbers, kt_numbers⟩ := id hL
    show AW m_X4_readNumber d none Q 52 [some (.inr (some t)), some (.inl x1), some (.inl x2), some (.inl x3), some (.inl x4), none] [(.inl v8)] h7 (0, 0)
    refine ax_istore (pc := 52) (ls' := [some (.inr (some t)), some (.inl x1), some (.inl x2), some (.inl x3), some (.inl x4), some (.inl v8)]) dX4_readNumber_52 (Nat.le_of_ble_eq_true rfl) rfl ?_
    refine aw_iload (pc := 54) dX4_readNumber_54 rfl ?_
    refine aw_if_lt (pc := 56) (tgt := 113) dX4_readNumber_56 (by decide) (fun c9 => ?_) (fun c9 => ?_)
    · replace g := g.1 c9
      refine aw_iconst (pc := 113) dX4_readNumber_113 ?_
      exact aw_ireturn (pc := 114) dX4_readNumber_114 (by simp [okr]) g (by decide) (by decide)
    · replace g := g.2 c9
      refine aw_aload_n (pc := 59) dX4_readNumber_59 rfl ?_
      refine ax_geti (pc := 60) (v := hi h7 t 6) dX4_readNumber_60 fl_X4_32 (by decide) rfl kt rfl ?_
      refine aw_if_eq (pc := 63) (tgt := 113) dX4_readNumber_63 (by decide) (fun c10 => ?_) (fun c10 => ?_)
      · replace g := g.1 c10
        refine aw_iconst (pc := 113) dX4_readNumber_113 ?_
        exact aw_ireturn (pc := 114) dX4_readNumber_114 (by simp [okr]) g (by decide) (by decide)
      · replace g := g.2 c10
        refine aw_bipush (pc := 66) dX4_readNumber_66 ?_
        refine aw_aload_n (pc := 68) dX4_readNumber_68 rfl ?_
        refine ax_geti (pc := 69) (v := hi h7 t 6) dX4_readNumber_69 fl_X4_32 (by decide) rfl kt rfl ?_
        obtain ⟨s11, g⟩ := g
        refine ax_imul (pc := 72) (v := 10 * (hi h7 t 6)) dX4_readNumber_72 s11 rfl ?_
        refine aw_iload (pc := 73) dX4_readNumber_73 rfl ?_
        obtain ⟨s12, g⟩ := g
        refine ax_iadd (pc := 75) (v := (10 * (hi h7 t 6)) + v8) dX4_readNumber_75 s12 rfl ?_
        refine aw_iload_n (pc := 76) dX4_readNumber_76 rfl ?_
        refine aw_icmp_le (pc := 77) (tgt := 83) dX4_readNumber_77 (by decide) (fun c13 => ?_) (fun c13 => ?_)
        · replace g := g.1 c13
          refine aw_aload_n (pc := 83) dX4_readNumber_83 rfl ?_
          refine aw_bipush (pc := 84) dX4_readNumber_84 ?_
          refine aw_aload_n (pc := 86) dX4_readNumber_86 rfl ?_
          refine ax_geti (pc := 87) (v := hi h7 t 6) dX4_readNumber_87 fl_X4_32 (by decide) rfl kt rfl ?_
          refine ax_imul (pc := 90) (v := 10 * (hi h7 t 6)) dX4_readNumber_90 s11 rfl ?_
          refine aw_iload (pc := 91) dX4_readNumber_91 rfl ?_
          refine ax_iadd (pc := 93) (v := (10 * (hi h7 t 6)) + v8) dX4_readNumber_93 s12 rfl ?_
          refine ax_puti (pc := 94) dX4_readNumber_94 fl_X4_32 (by decide) rfl rfl rfl kt ?_
          refine aw_aload_n (pc := 97) dX4_readNumber_97 rfl ?_
          refine aw_dup (pc := 98) dX4_readNumber_98 ?_
          refine ax_geti (pc := 99) (v := hi h7 t 5) dX4_readNumber_99 fl_X4_29 (by decide) rfl (hkU kt) (hiN (Or.inr (by decide)) rfl) ?_
          refine aw_iconst (pc := 102) dX4_readNumber_102 ?_
          obtain ⟨s14, g⟩ := g
          refine ax_iadd (pc := 103) (v := (hi h7 t 5) + 1) dX4_readNumber_103 s14 rfl ?_
          refine ax_puti (pc := 104) dX4_readNumber_104 fl_X4_29 (by decide) rfl rfl rfl (hkU kt) ?_
          obtain ⟨s15, g⟩ := g
          refine ax_iinc (pc := 107) (v' := x4 + 1) (ls' := [some (.inr (some t)), some (.inl x1), some (.inl x2), some (.inl x3), some (.inl (x4 + 1)), some (.inl v8)]) dX4_readNumber_107 rfl s15 rfl rfl ?_
          refine aw_goto (pc := 110) (tgt := 38) dX4_readNumber_110 (by decide) ?_
          exact aw_fewer (show subl [some (.inr (some t)), some (.inl x1), some (.inl x2), some (.inl x3), some (.inl (x4 + 1)), none] [some (.inr (some t)), some (.inl x1), some (.inl x2), some (.inl x3), some (.inl (x4 + 1)), some (.inl v8)] from (And.intro rfl (And.intro rfl (And.intro rfl (And.intro rfl (And.intro rfl trivial)))))) g
        · replace g := g.2 c13
          refine aw_goto (pc := 80) (tgt := 113) dX4_readNumber_80 (by decide) ?_
          refine aw_iconst (pc := 113) dX4_readNumber_113 ?_
          exact aw_ireturn (pc := 114) dX4_readNumber_114 (by simp [okr]) g (by decide) (by decide)
set_option maxRecDepth 100000 in
set_option maxHeartbeats 4000000 in
theorem vc_X4_digitAt {d : Nat} {Q : Option Int → AH → Prop} {h : AH} {t : Nat} {x1 : Int} (hd : 1 ≤ d) (hL : QX h t)
  (g :
    AM (d - 1) m_X4_characterAt [(.inr (some t)), (.inl x1)] h (fun r h1 => 
      ∃ v2, r = some v2 ∧ SS h h1 ∧
      ((v2 < 48 → (
        Q (some (-1)) h1
      )) ∧
      (¬ (v2 < 48) → (
        ((57 < v2 → (
          Q (some (-1)) h1
        )) ∧
        (¬ (57 < v2) → (
          (rg (v2 - 48)) ∧
          Q (some (v2 - 48)) h1
        )))
      ))))) :
  AM d m_X4_digitAt [(.inr (some t)), (.inl x1)] h Q := by
  refine am_body mo_X4_digitAt (Nat.le_of_ble_eq_true rfl) ?_
  show AW m_X4_digitAt d none Q 0 [some (.inr (some t)), some (.inl x1), none] [] h (0, 0)
  obtain ⟨kt, rt_characters, kt_characters, rt_kinds, kt_kinds, rt_numbers, kt_numbers⟩ := id hL
  refine aw_aload_n (pc := 0) dX4_digitAt_0 rfl ?_
  refine aw_iload_n (pc := 1) dX4_digitAt_1 rfl ?_
  refine aw_invV (pc := 2) (md' := m_X4_characterAt) (ci := 4) (as := [(.inl x1)]) dX4_digitAt_2 mo_X4_characterAt im_X4_characterAt se_X4_characterAt ml_X4_39 rfl kt rfl hd (Nat.le_of_ble_eq_true rfl) (Nat.le_of_ble_eq_true rfl) (Nat.le_of_ble_eq_true rfl) ?_
  refine am_mono g (fun _ h1 _ ok_h1 g => ?_)
  obtain ⟨v2, rfl, ss_h1, g⟩ := g
  replace hL := QX.ss hL ss_h1
  obtain ⟨kt, rt_characters, kt_characters, rt_kinds, kt_kinds, rt_numbers, kt_numbers⟩ := id hL
  show AW m_X4_digitAt d none Q 5 [some (.inr (some t)), some (.inl x1), none] [(.inl v2)] h1 (0, 0)
  refine ax_istore_n (pc := 5) (ls' := [some (.inr (some t)), some (.inl x1), some (.inl v2)]) dX4_digitAt_5 (Nat.le_of_ble_eq_true rfl) rfl ?_
  refine aw_iload_n (pc := 6) dX4_digitAt_6 rfl ?_
  refine aw_bipush (pc := 7) dX4_digitAt_7 ?_
  refine aw_icmp_lt (pc := 9) (tgt := 25) dX4_digitAt_9 (by decide) (fun c3 => ?_) (fun c3 => ?_)
  · replace g := g.1 c3
    refine aw_iconst (pc := 25) dX4_digitAt_25 ?_
    exact ax_ireturn (pc := 26) dX4_digitAt_26 rfl g (by decide) (by decide)
  · replace g := g.2 c3
    refine aw_iload_n (pc := 12) dX4_digitAt_12 rfl ?_
    refine aw_bipush (pc := 13) dX4_digitAt_13 ?_
    refine aw_icmp_gt (pc := 15) (tgt := 25) dX4_digitAt_15 (by decide) (fun c4 => ?_) (fun c4 => ?_)
    · replace g := g.1 c4
      refine aw_iconst (pc := 25) dX4_digitAt_25 ?_
      exact ax_ireturn (pc := 26) dX4_digitAt_26 rfl g (by decide) (by decide)
    · replace g := g.2 c4
      refine aw_iload_n (pc := 18) dX4_digitAt_18 rfl ?_
      refine aw_bipush (pc := 19) dX4_digitAt_19 ?_
      obtain ⟨s5, g⟩ := g
      refine ax_isub (pc := 21) (v := v2 - 48) dX4_digitAt_21 s5 rfl ?_
      refine aw_goto (pc := 22) (tgt := 26) dX4_digitAt_22 (by decide) ?_
      exact ax_ireturn (pc := 26) dX4_digitAt_26 rfl g (by decide) (by decide)
set_option maxRecDepth 100000 in
set_option maxHeartbeats 4000000 in
theorem vc_X4_characterAt {d : Nat} {Q : Option Int → AH → Prop} {h : AH} {t : Nat} {x1 : Int} (hL : QX h t)
  (g :
    ((x1 < 0 → (
      Q (some 0) h
    )) ∧
    (¬ (x1 < 0) → (
      ((hi h t 1 ≤ x1 → (
        Q (some 0) h
      )) ∧
      (¬ (hi h t 1 ≤ x1) → (
        ((60 ≤ x1 → (
          Q (some 0) h
        )) ∧
        (¬ (60 ≤ x1) → (
          (0 ≤ x1 ∧ x1 < 60) ∧
          (0 ≤ hi h (t + 1) x1 ∧ hi h (t + 1) x1 < 65536) ∧
          Q (some (hi h (t + 1) x1)) h
        )))
      )))
    )))) :
  AM d m_X4_characterAt [(.inr (some t)), (.inl x1)] h Q := by
  refine am_body mo_X4_characterAt (Nat.le_of_ble_eq_true rfl) ?_
  show AW m_X4_characterAt d none Q 0 [some (.inr (some t)), some (.inl x1), none] [] h (0, 0)
  obtain ⟨kt, rt_characters, kt_characters, rt_kinds, kt_kinds, rt_numbers, kt_numbers⟩ := id hL
  refine aw_iload_n (pc := 0) dX4_characterAt_0 rfl ?_
  refine aw_if_lt (pc := 1) (tgt := 22) dX4_characterAt_1 (by decide) (fun c1 => ?_) (fun c1 => ?_)
  · replace g := g.1 c1
    refine aw_iconst (pc := 22) dX4_characterAt_22 ?_
    refine ax_istore_n (pc := 23) (ls' := [some (.inr (some t)), some (.inl x1), some (.inl 0)]) dX4_characterAt_23 (Nat.le_of_ble_eq_true rfl) rfl ?_
    refine aw_iload_n (pc := 24) dX4_characterAt_24 rfl ?_
    refine aw_if_eq (pc := 25) (tgt := 37) dX4_characterAt_25 (by decide) (fun c2 => ?_) (fun c2 => False.elim (by omega))
    refine aw_iconst (pc := 37) dX4_characterAt_37 ?_
    exact aw_ireturn (pc := 38) dX4_characterAt_38 (by simp [okr]) g (by decide) (by decide)
  · replace g := g.2 c1
    refine aw_iload_n (pc := 4) dX4_characterAt_4 rfl ?_
    refine aw_aload_n (pc := 5) dX4_characterAt_5 rfl ?_
    refine ax_geti (pc := 6) (v := hi h t 1) dX4_characterAt_6 fl_X4_15 (by decide) rfl kt rfl ?_
    refine aw_icmp_ge (pc := 9) (tgt := 22) dX4_characterAt_9 (by decide) (fun c3 => ?_) (fun c3 => ?_)
    · replace g := g.1 c3
      refine aw_iconst (pc := 22) dX4_characterAt_22 ?_
      refine ax_istore_n (pc := 23) (ls' := [some (.inr (some t)), some (.inl x1), some (.inl 0)]) dX4_characterAt_23 (Nat.le_of_ble_eq_true rfl) rfl ?_
      refine aw_iload_n (pc := 24) dX4_characterAt_24 rfl ?_
      refine aw_if_eq (pc := 25) (tgt := 37) dX4_characterAt_25 (by decide) (fun c4 => ?_) (fun c4 => False.elim (by omega))
      refine aw_iconst (pc := 37) dX4_characterAt_37 ?_
      exact aw_ireturn (pc := 38) dX4_characterAt_38 (by simp [okr]) g (by decide) (by decide)
    · replace g := g.2 c3
      refine aw_iload_n (pc := 12) dX4_characterAt_12 rfl ?_
      refine aw_bipush (pc := 13) dX4_characterAt_13 ?_
      refine aw_icmp_ge (pc := 15) (tgt := 22) dX4_characterAt_15 (by decide) (fun c5 => ?_) (fun c5 => ?_)
      · replace g := g.1 c5
        refine aw_iconst (pc := 22) dX4_characterAt_22 ?_
        refine ax_istore_n (pc := 23) (ls' := [some (.inr (some t)), some (.inl x1), some (.inl 0)]) dX4_characterAt_23 (Nat.le_of_ble_eq_true rfl) rfl ?_
        refine aw_iload_n (pc := 24) dX4_characterAt_24 rfl ?_
        refine aw_if_eq (pc := 25) (tgt := 37) dX4_characterAt_25 (by decide) (fun c6 => ?_) (fun c6 => False.elim (by omega))
        refine aw_iconst (pc := 37) dX4_characterAt_37 ?_
        exact aw_ireturn (pc := 38) dX4_characterAt_38 (by simp [okr]) g (by decide) (by decide)
      · replace g := g.2 c5
        refine aw_iconst (pc := 18) dX4_characterAt_18 ?_
        refine aw_goto (pc := 19) (tgt := 23) dX4_characterAt_19 (by decide) ?_
        refine ax_istore_n (pc := 23) (ls' := [some (.inr (some t)), some (.inl x1), some (.inl 1)]) dX4_characterAt_23 (Nat.le_of_ble_eq_true rfl) rfl ?_
        refine aw_iload_n (pc := 24) dX4_characterAt_24 rfl ?_
        refine aw_if_eq (pc := 25) (tgt := 37) dX4_characterAt_25 (by decide) (fun c7 => False.elim (by omega)) (fun c7 => ?_)
        refine aw_aload_n (pc := 28) dX4_characterAt_28 rfl ?_
        refine aw_getr (pc := 29) (r := some (t + 1)) dX4_characterAt_29 fl_X4_9 (by decide) rfl kt rt_characters ?_
        refine aw_iload_n (pc := 32) dX4_characterAt_32 rfl ?_
        obtain ⟨s8, g⟩ := g
        refine ax_caload (pc := 33) (n := 60) (v := hi h (t + 1) x1) dX4_characterAt_33 kt_characters s8 rfl ?_
        refine aw_goto (pc := 34) (tgt := 38) dX4_characterAt_34 (by decide) ?_
        obtain ⟨s9, g⟩ := g
        exact aw_ireturn (pc := 38) dX4_characterAt_38 s9 g (by decide) (by decide)
set_option maxRecDepth 100000 in
set_option maxHeartbeats 4000000 in
theorem vc_X6_put {d : Nat} {Q : Option Int → AH → Prop} {h : AH} {x1 : Int} (hd : 1 ≤ d) (hL : QM h)
  (g :
    AM (d - 1) m_X2_copyFrom [(.inr (some 14)), (.inr (some 2))] h (fun r h1 => 
      r = none ∧ SS h h1 ∧
      AM (d - 1) m_X2_putCard [(.inr (some 2)), (.inl x1)] h1 (fun r h2 => 
        ∃ v3, r = some v3 ∧ SS h1 h2 ∧
        AM (d - 1) m_X6_recorded [(.inr (some 1)), (.inl v3)] h2 (fun r h4 => 
          ∃ v5, r = some v5 ∧ SW h2 h4 ∧
          Q (some v5) h4)))) :
  AM d m_X6_put [(.inr (some 1)), (.inl x1)] h Q := by
  refine am_body mo_X6_put (Nat.le_of_ble_eq_true rfl) ?_
  show AW m_X6_put d none Q 0 [some (.inr (some 1)), some (.inl x1)] [] h (0, 0)
  obtain ⟨ko1, ro1_state, lo1_state, ro1_before, lo1_before, ro1_trial, lo1_trial, ro1_snapshot, lo1_snapshot, ro1_history, lo1_history, ro1_text, lo1_text⟩ := id hL
  obtain ⟨ko1_state, ro1_state_pocket, lo1_state_pocket, ro1_state_told, lo1_state_told, ro1_state_tally, lo1_state_tally, ro1_state_settings, ko1_state_settings⟩ := id lo1_state
  obtain ⟨ko1_state_pocket, ro1_state_pocket_names, ko1_state_pocket_names, ro1_state_pocket_asksToGo, ko1_state_pocket_asksToGo, ro1_state_pocket_tellings, ko1_state_pocket_tellings, ro1_state_pocket_slots, ko1_state_pocket_slots, ro1_state_pocket_awake, ko1_state_pocket_awake, ro1_state_pocket_answering, ko1_state_pocket_answering⟩ := id lo1_state_pocket
  obtain ⟨ko1_state_told, ro1_state_told_row, ko1_state_told_row⟩ := id lo1_state_told
  have ko1_state_tally := id lo1_state_tally
  obtain ⟨ko1_before, ro1_before_pocket, lo1_before_pocket, ro1_before_told, lo1_before_told, ro1_before_tally, lo1_before_tally, ro1_before_settings, ko1_before_settings⟩ := id lo1_before
  obtain ⟨ko1_before_pocket, ro1_before_pocket_names, ko1_before_pocket_names, ro1_before_pocket_asksToGo, ko1_before_pocket_asksToGo, ro1_before_pocket_tellings, ko1_before_pocket_tellings, ro1_before_pocket_slots, ko1_before_pocket_slots, ro1_before_pocket_awake, ko1_before_pocket_awake, ro1_before_pocket_answering, ko1_before_pocket_answering⟩ := id lo1_before_pocket
  obtain ⟨ko1_before_told, ro1_before_told_row, ko1_before_told_row⟩ := id lo1_before_told
  have ko1_before_tally := id lo1_before_tally
  obtain ⟨ko1_trial, ro1_trial_pocket, lo1_trial_pocket, ro1_trial_told, lo1_trial_told, ro1_trial_tally, lo1_trial_tally, ro1_trial_settings, ko1_trial_settings⟩ := id lo1_trial
  obtain ⟨ko1_trial_pocket, ro1_trial_pocket_names, ko1_trial_pocket_names, ro1_trial_pocket_asksToGo, ko1_trial_pocket_asksToGo, ro1_trial_pocket_tellings, ko1_trial_pocket_tellings, ro1_trial_pocket_slots, ko1_trial_pocket_slots, ro1_trial_pocket_awake, ko1_trial_pocket_awake, ro1_trial_pocket_answering, ko1_trial_pocket_answering⟩ := id lo1_trial_pocket
  obtain ⟨ko1_trial_told, ro1_trial_told_row, ko1_trial_told_row⟩ := id lo1_trial_told
  have ko1_trial_tally := id lo1_trial_tally
  obtain ⟨ko1_snapshot, ro1_snapshot_pocket, lo1_snapshot_pocket, ro1_snapshot_told, lo1_snapshot_told, ro1_snapshot_tally, lo1_snapshot_tally, ro1_snapshot_settings, ko1_snapshot_settings⟩ := id lo1_snapshot
  obtain ⟨ko1_snapshot_pocket, ro1_snapshot_pocket_names, ko1_snapshot_pocket_names, ro1_snapshot_pocket_asksToGo, ko1_snapshot_pocket_asksToGo, ro1_snapshot_pocket_tellings, ko1_snapshot_pocket_tellings, ro1_snapshot_pocket_slots, ko1_snapshot_pocket_slots, ro1_snapshot_pocket_awake, ko1_snapshot_pocket_awake, ro1_snapshot_pocket_answering, ko1_snapshot_pocket_answering⟩ := id lo1_snapshot_pocket
  obtain ⟨ko1_snapshot_told, ro1_snapshot_told_row, ko1_snapshot_told_row⟩ := id lo1_snapshot_told
  have ko1_snapshot_tally := id lo1_snapshot_tally
  obtain ⟨ko1_history, ro1_history_rows, ko1_history_rows⟩ := id lo1_history
  obtain ⟨ko1_text, ro1_text_characters, ko1_text_characters, ro1_text_kinds, ko1_text_kinds, ro1_text_numbers, ko1_text_numbers⟩ := id lo1_text
  refine aw_aload_n (pc := 0) dX6_put_0 rfl ?_
  refine aw_getr (pc := 1) (r := some 14) dX6_put_1 fl_X6_16 (by decide) rfl ko1 ro1_before ?_
  refine aw_aload_n (pc := 4) dX6_put_4 rfl ?_
  refine aw_getr (pc := 5) (r := some 2) dX6_put_5 fl_X6_10 (by decide) rfl ko1 ro1_state ?_
  refine aw_invV (pc := 8) (md' := m_X2_copyFrom) (ci := 2) (as := [(.inr (some 2))]) dX6_put_8 mo_X2_copyFrom im_X2_copyFrom se_X2_copyFrom ml_X6_43 rfl ko1_before rfl hd (Nat.le_of_ble_eq_true rfl) (Nat.le_of_ble_eq_true rfl) (Nat.le_of_ble_eq_true rfl) ?_
  refine am_mono g (fun _ h1 _ ok_h1 g => ?_)
  obtain ⟨rfl, ss_h1, g⟩ := g
  replace hL := QM.ss hL ss_h1
  obtain ⟨ko1, ro1_state, lo1_state, ro1_before, lo1_before, ro1_trial, lo1_trial, ro1_snapshot, lo1_snapshot, ro1_history, lo1_history, ro1_text, lo1_text⟩ := id hL
  obtain ⟨ko1_state, ro1_state_pocket, lo1_state_pocket, ro1_state_told, lo1_state_told, ro1_state_tally, lo1_state_tally, ro1_state_settings, ko1_state_settings⟩ := id lo1_state
  obtain ⟨ko1_state_pocket, ro1_state_pocket_names, ko1_state_pocket_names, ro1_state_pocket_asksToGo, ko1_state_pocket_asksToGo, ro1_state_pocket_tellings, ko1_state_pocket_tellings, ro1_state_pocket_slots, ko1_state_pocket_slots, ro1_state_pocket_awake, ko1_state_pocket_awake, ro1_state_pocket_answering, ko1_state_pocket_answering⟩ := id lo1_state_pocket
  obtain ⟨ko1_state_told, ro1_state_told_row, ko1_state_told_row⟩ := id lo1_state_told
  have ko1_state_tally := id lo1_state_tally
  obtain ⟨ko1_before, ro1_before_pocket, lo1_before_pocket, ro1_before_told, lo1_before_told, ro1_before_tally, lo1_before_tally, ro1_before_settings, ko1_before_settings⟩ := id lo1_before
  obtain ⟨ko1_before_pocket, ro1_before_pocket_names, ko1_before_pocket_names, ro1_before_pocket_asksToGo, ko1_before_pocket_asksToGo, ro1_before_pocket_tellings, ko1_before_pocket_tellings, ro1_before_pocket_slots, ko1_before_pocket_slots, ro1_before_pocket_awake, ko1_before_pocket_awake, ro1_before_pocket_answering, ko1_before_pocket_answering⟩ := id lo1_before_pocket
  obtain ⟨ko1_before_told, ro1_before_told_row, ko1_before_told_row⟩ := id lo1_before_told
  have ko1_before_tally := id lo1_before_tally
  obtain ⟨ko1_trial, ro1_trial_pocket, lo1_trial_pocket, ro1_trial_told, lo1_trial_told, ro1_trial_tally, lo1_trial_tally, ro1_trial_settings, ko1_trial_settings⟩ := id lo1_trial
  obtain ⟨ko1_trial_pocket, ro1_trial_pocket_names, ko1_trial_pocket_names, ro1_trial_pocket_asksToGo, ko1_trial_pocket_asksToGo, ro1_trial_pocket_tellings, ko1_trial_pocket_tellings, ro1_trial_pocket_slots, ko1_trial_pocket_slots, ro1_trial_pocket_awake, ko1_trial_pocket_awake, ro1_trial_pocket_answering, ko1_trial_pocket_answering⟩ := id lo1_trial_pocket
  obtain ⟨ko1_trial_told, ro1_trial_told_row, ko1_trial_told_row⟩ := id lo1_trial_told
  have ko1_trial_tally := id lo1_trial_tally
  obtain ⟨ko1_snapshot, ro1_snapshot_pocket, lo1_snapshot_pocket, ro1_snapshot_told, lo1_snapshot_told, ro1_snapshot_tally, lo1_snapshot_tally, ro1_snapshot_settings, ko1_snapshot_settings⟩ := id lo1_snapshot
  obtain ⟨ko1_snapshot_pocket, ro1_snapshot_pocket_names, ko1_snapshot_pocket_names, ro1_snapshot_pocket_asksToGo, ko1_snapshot_pocket_asksToGo, ro1_snapshot_pocket_tellings, ko1_snapshot_pocket_tellings, ro1_snapshot_pocket_slots, ko1_snapshot_pocket_slots, ro1_snapshot_pocket_awake, ko1_snapshot_pocket_awake, ro1_snapshot_pocket_answering, ko1_snapshot_pocket_answering⟩ := id lo1_snapshot_pocket
  obtain ⟨ko1_snapshot_told, ro1_snapshot_told_row, ko1_snapshot_told_row⟩ := id lo1_snapshot_told
  have ko1_snapshot_tally := id lo1_snapshot_tally
  obtain ⟨ko1_history, ro1_history_rows, ko1_history_rows⟩ := id lo1_history
  obtain ⟨ko1_text, ro1_text_characters, ko1_text_characters, ro1_text_kinds, ko1_text_kinds, ro1_text_numbers, ko1_text_numbers⟩ := id lo1_text
  show AW m_X6_put d none Q 11 [some (.inr (some 1)), some (.inl x1)] [] h1 (0, 0)
  refine aw_aload_n (pc := 11) dX6_put_11 rfl ?_
  refine aw_aload_n (pc := 12) dX6_put_12 rfl ?_
  refine aw_getr (pc := 13) (r := some 2) dX6_put_13 fl_X6_10 (by decide) rfl ko1 ro1_state ?_
  refine aw_iload_n (pc := 16) dX6_put_16 rfl ?_
  refine aw_invV (pc := 17) (md' := m_X2_putCard) (ci := 2) (as := [(.inl x1)]) dX6_put_17 mo_X2_putCard im_X2_putCard se_X2_putCard ml_X6_47 rfl ko1_state rfl hd (Nat.le_of_ble_eq_true rfl) (Nat.le_of_ble_eq_true rfl) (Nat.le_of_ble_eq_true rfl) ?_
  refine am_mono g (fun _ h2 _ ok_h2 g => ?_)
  obtain ⟨v3, rfl, ss_h2, g⟩ := g
  replace hL := QM.ss hL ss_h2
  obtain ⟨ko1, ro1_state, lo1_state, ro1_before, lo1_before, ro1_trial, lo1_trial, ro1_snapshot, lo1_snapshot, ro1_history, lo1_history, ro1_text, lo1_text⟩ := id hL
  obtain ⟨ko1_state, ro1_state_pocket, lo1_state_pocket, ro1_state_told, lo1_state_told, ro1_state_tally, lo1_state_tally, ro1_state_settings, ko1_state_settings⟩ := id lo1_state
  obtain ⟨ko1_state_pocket, ro1_state_pocket_names, ko1_state_pocket_names, ro1_state_pocket_asksToGo, ko1_state_pocket_asksToGo, ro1_state_pocket_tellings, ko1_state_pocket_tellings, ro1_state_pocket_slots, ko1_state_pocket_slots, ro1_state_pocket_awake, ko1_state_pocket_awake, ro1_state_pocket_answering, ko1_state_pocket_answering⟩ := id lo1_state_pocket
  obtain ⟨ko1_state_told, ro1_state_told_row, ko1_state_told_row⟩ := id lo1_state_told
  have ko1_state_tally := id lo1_state_tally
  obtain ⟨ko1_before, ro1_before_pocket, lo1_before_pocket, ro1_before_told, lo1_before_told, ro1_before_tally, lo1_before_tally, ro1_before_settings, ko1_before_settings⟩ := id lo1_before
  obtain ⟨ko1_before_pocket, ro1_before_pocket_names, ko1_before_pocket_names, ro1_before_pocket_asksToGo, ko1_before_pocket_asksToGo, ro1_before_pocket_tellings, ko1_before_pocket_tellings, ro1_before_pocket_slots, ko1_before_pocket_slots, ro1_before_pocket_awake, ko1_before_pocket_awake, ro1_before_pocket_answering, ko1_before_pocket_answering⟩ := id lo1_before_pocket
  obtain ⟨ko1_before_told, ro1_before_told_row, ko1_before_told_row⟩ := id lo1_before_told
  have ko1_before_tally := id lo1_before_tally
  obtain ⟨ko1_trial, ro1_trial_pocket, lo1_trial_pocket, ro1_trial_told, lo1_trial_told, ro1_trial_tally, lo1_trial_tally, ro1_trial_settings, ko1_trial_settings⟩ := id lo1_trial
  obtain ⟨ko1_trial_pocket, ro1_trial_pocket_names, ko1_trial_pocket_names, ro1_trial_pocket_asksToGo, ko1_trial_pocket_asksToGo, ro1_trial_pocket_tellings, ko1_trial_pocket_tellings, ro1_trial_pocket_slots, ko1_trial_pocket_slots, ro1_trial_pocket_awake, ko1_trial_pocket_awake, ro1_trial_pocket_answering, ko1_trial_pocket_answering⟩ := id lo1_trial_pocket
  obtain ⟨ko1_trial_told, ro1_trial_told_row, ko1_trial_told_row⟩ := id lo1_trial_told
  have ko1_trial_tally := id lo1_trial_tally
  obtain ⟨ko1_snapshot, ro1_snapshot_pocket, lo1_snapshot_pocket, ro1_snapshot_told, lo1_snapshot_told, ro1_snapshot_tally, lo1_snapshot_tally, ro1_snapshot_settings, ko1_snapshot_settings⟩ := id lo1_snapshot
  obtain ⟨ko1_snapshot_pocket, ro1_snapshot_pocket_names, ko1_snapshot_pocket_names, ro1_snapshot_pocket_asksToGo, ko1_snapshot_pocket_asksToGo, ro1_snapshot_pocket_tellings, ko1_snapshot_pocket_tellings, ro1_snapshot_pocket_slots, ko1_snapshot_pocket_slots, ro1_snapshot_pocket_awake, ko1_snapshot_pocket_awake, ro1_snapshot_pocket_answering, ko1_snapshot_pocket_answering⟩ := id lo1_snapshot_pocket
  obtain ⟨ko1_snapshot_told, ro1_snapshot_told_row, ko1_snapshot_told_row⟩ := id lo1_snapshot_told
  have ko1_snapshot_tally := id lo1_snapshot_tally
  obtain ⟨ko1_history, ro1_history_rows, ko1_history_rows⟩ := id lo1_history
  obtain ⟨ko1_text, ro1_text_characters, ko1_text_characters, ro1_text_kinds, ko1_text_kinds, ro1_text_numbers, ko1_text_numbers⟩ := id lo1_text
  show AW m_X6_put d none Q 20 [some (.inr (some 1)), some (.inl x1)] [(.inl v3), (.inr (some 1))] h2 (0, 0)
  refine aw_invV (pc := 20) (md' := m_X6_recorded) (ci := 6) (as := [(.inl v3)]) dX6_put_20 mo_X6_recorded im_X6_recorded se_X6_recorded ml_X6_51 rfl ko1 rfl hd (Nat.le_of_ble_eq_true rfl) (Nat.le_of_ble_eq_true rfl) (Nat.le_of_ble_eq_true rfl) ?_
  refine am_mono g (fun _ h4 _ ok_h4 g => ?_)
  obtain ⟨v5, rfl, ss_h4, g⟩ := g
  replace hL := QM.sw hL ss_h4
  obtain ⟨ko1, ro1_state, lo1_state, ro1_before, lo1_before, ro1_trial, lo1_trial, ro1_snapshot, lo1_snapshot, ro1_history, lo1_history, ro1_text, lo1_text⟩ := id hL
  obtain ⟨ko1_state, ro1_state_pocket, lo1_state_pocket, ro1_state_told, lo1_state_told, ro1_state_tally, lo1_state_tally, ro1_state_settings, ko1_state_settings⟩ := id lo1_state
  obtain ⟨ko1_state_pocket, ro1_state_pocket_names, ko1_state_pocket_names, ro1_state_pocket_asksToGo, ko1_state_pocket_asksToGo, ro1_state_pocket_tellings, ko1_state_pocket_tellings, ro1_state_pocket_slots, ko1_state_pocket_slots, ro1_state_pocket_awake, ko1_state_pocket_awake, ro1_state_pocket_answering, ko1_state_pocket_answering⟩ := id lo1_state_pocket
  obtain ⟨ko1_state_told, ro1_state_told_row, ko1_state_told_row⟩ := id lo1_state_told
  have ko1_state_tally := id lo1_state_tally
  obtain ⟨ko1_before, ro1_before_pocket, lo1_before_pocket, ro1_before_told, lo1_before_told, ro1_before_tally, lo1_before_tally, ro1_before_settings, ko1_before_settings⟩ := id lo1_before
  obtain ⟨ko1_before_pocket, ro1_before_pocket_names, ko1_before_pocket_names, ro1_before_pocket_asksToGo, ko1_before_pocket_asksToGo, ro1_before_pocket_tellings, ko1_before_pocket_tellings, ro1_before_pocket_slots, ko1_before_pocket_slots, ro1_before_pocket_awake, ko1_before_pocket_awake, ro1_before_pocket_answering, ko1_before_pocket_answering⟩ := id lo1_before_pocket
  obtain ⟨ko1_before_told, ro1_before_told_row, ko1_before_told_row⟩ := id lo1_before_told
  have ko1_before_tally := id lo1_before_tally
  obtain ⟨ko1_trial, ro1_trial_pocket, lo1_trial_pocket, ro1_trial_told, lo1_trial_told, ro1_trial_tally, lo1_trial_tally, ro1_trial_settings, ko1_trial_settings⟩ := id lo1_trial
  obtain ⟨ko1_trial_pocket, ro1_trial_pocket_names, ko1_trial_pocket_names, ro1_trial_pocket_asksToGo, ko1_trial_pocket_asksToGo, ro1_trial_pocket_tellings, ko1_trial_pocket_tellings, ro1_trial_pocket_slots, ko1_trial_pocket_slots, ro1_trial_pocket_awake, ko1_trial_pocket_awake, ro1_trial_pocket_answering, ko1_trial_pocket_answering⟩ := id lo1_trial_pocket
  obtain ⟨ko1_trial_told, ro1_trial_told_row, ko1_trial_told_row⟩ := id lo1_trial_told
  have ko1_trial_tally := id lo1_trial_tally
  obtain ⟨ko1_snapshot, ro1_snapshot_pocket, lo1_snapshot_pocket, ro1_snapshot_told, lo1_snapshot_told, ro1_snapshot_tally, lo1_snapshot_tally, ro1_snapshot_settings, ko1_snapshot_settings⟩ := id lo1_snapshot
  obtain ⟨ko1_snapshot_pocket, ro1_snapshot_pocket_names, ko1_snapshot_pocket_names, ro1_snapshot_pocket_asksToGo, ko1_snapshot_pocket_asksToGo, ro1_snapshot_pocket_tellings, ko1_snapshot_pocket_tellings, ro1_snapshot_pocket_slots, ko1_snapshot_pocket_slots, ro1_snapshot_pocket_awake, ko1_snapshot_pocket_awake, ro1_snapshot_pocket_answering, ko1_snapshot_pocket_answering⟩ := id lo1_snapshot_pocket
  obtain ⟨ko1_snapshot_told, ro1_snapshot_told_row, ko1_snapshot_told_row⟩ := id lo1_snapshot_told
  have ko1_snapshot_tally := id lo1_snapshot_tally
  obtain ⟨ko1_history, ro1_history_rows, ko1_history_rows⟩ := id lo1_history
  obtain ⟨ko1_text, ro1_text_characters, ko1_text_characters, ro1_text_kinds, ko1_text_kinds, ro1_text_numbers, ko1_text_numbers⟩ := id lo1_text
  show AW m_X6_put d none Q 23 [some (.inr (some 1)), some (.inl x1)] [(.inl v5)] h4 (0, 0)
  exact ax_ireturn (pc := 23) dX6_put_23 rfl g (by decide) (by decide)
set_option maxRecDepth 100000 in
set_option maxHeartbeats 4000000 in
theorem vc_X6_take {d : Nat} {Q : Option Int → AH → Prop} {h : AH} {x1 : Int} (hd : 1 ≤ d) (hL : QM h)
  (g :
    AM (d - 1) m_X2_copyFrom [(.inr (some 14)), (.inr (some 2))] h (fun r h1 => 
      r = none ∧ SS h h1 ∧
      AM (d - 1) m_X2_takeCard [(.inr (some 2)), (.inl x1)] h1 (fun r h2 => 
        ∃ v3, r = some v3 ∧ SS h1 h2 ∧
        AM (d - 1) m_X6_recorded [(.inr (some 1)), (.inl v3)] h2 (fun r h4 => 
          ∃ v5, r = some v5 ∧ SW h2 h4 ∧
          Q (some v5) h4)))) :
  AM d m_X6_take [(.inr (some 1)), (.inl x1)] h Q := by
  refine am_body mo_X6_take (Nat.le_of_ble_eq_true rfl) ?_
  show AW m_X6_take d none Q 0 [some (.inr (some 1)), some (.inl x1)] [] h (0, 0)
  obtain ⟨ko1, ro1_state, lo1_state, ro1_before, lo1_before, ro1_trial, lo1_trial, ro1_snapshot, lo1_snapshot, ro1_history, lo1_history, ro1_text, lo1_text⟩ := id hL
  obtain ⟨ko1_state, ro1_state_pocket, lo1_state_pocket, ro1_state_told, lo1_state_told, ro1_state_tally, lo1_state_tally, ro1_state_settings, ko1_state_settings⟩ := id lo1_state
  obtain ⟨ko1_state_pocket, ro1_state_pocket_names, ko1_state_pocket_names, ro1_state_pocket_asksToGo, ko1_state_pocket_asksToGo, ro1_state_pocket_tellings, ko1_state_pocket_tellings, ro1_state_pocket_slots, ko1_state_pocket_slots, ro1_state_pocket_awake, ko1_state_pocket_awake, ro1_state_pocket_answering, ko1_state_pocket_answering⟩ := id lo1_state_pocket
  obtain ⟨ko1_state_told, ro1_state_told_row, ko1_state_told_row⟩ := id lo1_state_told
  have ko1_state_tally := id lo1_state_tally
  obtain ⟨ko1_before, ro1_before_pocket, lo1_before_pocket, ro1_before_told, lo1_before_told, ro1_before_tally, lo1_before_tally, ro1_before_settings, ko1_before_settings⟩ := id lo1_before
  obtain ⟨ko1_before_pocket, ro1_before_pocket_names, ko1_before_pocket_names, ro1_before_pocket_asksToGo, ko1_before_pocket_asksToGo, ro1_before_pocket_tellings, ko1_before_pocket_tellings, ro1_before_pocket_slots, ko1_before_pocket_slots, ro1_before_pocket_awake, ko1_before_pocket_awake, ro1_before_pocket_answering, ko1_before_pocket_answering⟩ := id lo1_before_pocket
  obtain ⟨ko1_before_told, ro1_before_told_row, ko1_before_told_row⟩ := id lo1_before_told
  have ko1_before_tally := id lo1_before_tally
  obtain ⟨ko1_trial, ro1_trial_pocket, lo1_trial_pocket, ro1_trial_told, lo1_trial_told, ro1_trial_tally, lo1_trial_tally, ro1_trial_settings, ko1_trial_settings⟩ := id lo1_trial
  obtain ⟨ko1_trial_pocket, ro1_trial_pocket_names, ko1_trial_pocket_names, ro1_trial_pocket_asksToGo, ko1_trial_pocket_asksToGo, ro1_trial_pocket_tellings, ko1_trial_pocket_tellings, ro1_trial_pocket_slots, ko1_trial_pocket_slots, ro1_trial_pocket_awake, ko1_trial_pocket_awake, ro1_trial_pocket_answering, ko1_trial_pocket_answering⟩ := id lo1_trial_pocket
  obtain ⟨ko1_trial_told, ro1_trial_told_row, ko1_trial_told_row⟩ := id lo1_trial_told
  have ko1_trial_tally := id lo1_trial_tally
  obtain ⟨ko1_snapshot, ro1_snapshot_pocket, lo1_snapshot_pocket, ro1_snapshot_told, lo1_snapshot_told, ro1_snapshot_tally, lo1_snapshot_tally, ro1_snapshot_settings, ko1_snapshot_settings⟩ := id lo1_snapshot
  obtain ⟨ko1_snapshot_pocket, ro1_snapshot_pocket_names, ko1_snapshot_pocket_names, ro1_snapshot_pocket_asksToGo, ko1_snapshot_pocket_asksToGo, ro1_snapshot_pocket_tellings, ko1_snapshot_pocket_tellings, ro1_snapshot_pocket_slots, ko1_snapshot_pocket_slots, ro1_snapshot_pocket_awake, ko1_snapshot_pocket_awake, ro1_snapshot_pocket_answering, ko1_snapshot_pocket_answering⟩ := id lo1_snapshot_pocket
  obtain ⟨ko1_snapshot_told, ro1_snapshot_told_row, ko1_snapshot_told_row⟩ := id lo1_snapshot_told
  have ko1_snapshot_tally := id lo1_snapshot_tally
  obtain ⟨ko1_history, ro1_history_rows, ko1_history_rows⟩ := id lo1_history
  obtain ⟨ko1_text, ro1_text_characters, ko1_text_characters, ro1_text_kinds, ko1_text_kinds, ro1_text_numbers, ko1_text_numbers⟩ := id lo1_text
  refine aw_aload_n (pc := 0) dX6_take_0 rfl ?_
  refine aw_getr (pc := 1) (r := some 14) dX6_take_1 fl_X6_16 (by decide) rfl ko1 ro1_before ?_
  refine aw_aload_n (pc := 4) dX6_take_4 rfl ?_
  refine aw_getr (pc := 5) (r := some 2) dX6_take_5 fl_X6_10 (by decide) rfl ko1 ro1_state ?_
  refine aw_invV (pc := 8) (md' := m_X2_copyFrom) (ci := 2) (as := [(.inr (some 2))]) dX6_take_8 mo_X2_copyFrom im_X2_copyFrom se_X2_copyFrom ml_X6_43 rfl ko1_before rfl hd (Nat.le_of_ble_eq_true rfl) (Nat.le_of_ble_eq_true rfl) (Nat.le_of_ble_eq_true rfl) ?_
  refine am_mono g (fun _ h1 _ ok_h1 g => ?_)
  obtain ⟨rfl, ss_h1, g⟩ := g
  replace hL := QM.ss hL ss_h1
  obtain ⟨ko1, ro1_state, lo1_state, ro1_before, lo1_before, ro1_trial, lo1_trial, ro1_snapshot, lo1_snapshot, ro1_history, lo1_history, ro1_text, lo1_text⟩ := id hL
  obtain ⟨ko1_state, ro1_state_pocket, lo1_state_pocket, ro1_state_told, lo1_state_told, ro1_state_tally, lo1_state_tally, ro1_state_settings, ko1_state_settings⟩ := id lo1_state
  obtain ⟨ko1_state_pocket, ro1_state_pocket_names, ko1_state_pocket_names, ro1_state_pocket_asksToGo, ko1_state_pocket_asksToGo, ro1_state_pocket_tellings, ko1_state_pocket_tellings, ro1_state_pocket_slots, ko1_state_pocket_slots, ro1_state_pocket_awake, ko1_state_pocket_awake, ro1_state_pocket_answering, ko1_state_pocket_answering⟩ := id lo1_state_pocket
  obtain ⟨ko1_state_told, ro1_state_told_row, ko1_state_told_row⟩ := id lo1_state_told
  have ko1_state_tally := id lo1_state_tally
  obtain ⟨ko1_before, ro1_before_pocket, lo1_before_pocket, ro1_before_told, lo1_before_told, ro1_before_tally, lo1_before_tally, ro1_before_settings, ko1_before_settings⟩ := id lo1_before
  obtain ⟨ko1_before_pocket, ro1_before_pocket_names, ko1_before_pocket_names, ro1_before_pocket_asksToGo, ko1_before_pocket_asksToGo, ro1_before_pocket_tellings, ko1_before_pocket_tellings, ro1_before_pocket_slots, ko1_before_pocket_slots, ro1_before_pocket_awake, ko1_before_pocket_awake, ro1_before_pocket_answering, ko1_before_pocket_answering⟩ := id lo1_before_pocket
  obtain ⟨ko1_before_told, ro1_before_told_row, ko1_before_told_row⟩ := id lo1_before_told
  have ko1_before_tally := id lo1_before_tally
  obtain ⟨ko1_trial, ro1_trial_pocket, lo1_trial_pocket, ro1_trial_told, lo1_trial_told, ro1_trial_tally, lo1_trial_tally, ro1_trial_settings, ko1_trial_settings⟩ := id lo1_trial
  obtain ⟨ko1_trial_pocket, ro1_trial_pocket_names, ko1_trial_pocket_names, ro1_trial_pocket_asksToGo, ko1_trial_pocket_asksToGo, ro1_trial_pocket_tellings, ko1_trial_pocket_tellings, ro1_trial_pocket_slots, ko1_trial_pocket_slots, ro1_trial_pocket_awake, ko1_trial_pocket_awake, ro1_trial_pocket_answering, ko1_trial_pocket_answering⟩ := id lo1_trial_pocket
  obtain ⟨ko1_trial_told, ro1_trial_told_row, ko1_trial_told_row⟩ := id lo1_trial_told
  have ko1_trial_tally := id lo1_trial_tally
  obtain ⟨ko1_snapshot, ro1_snapshot_pocket, lo1_snapshot_pocket, ro1_snapshot_told, lo1_snapshot_told, ro1_snapshot_tally, lo1_snapshot_tally, ro1_snapshot_settings, ko1_snapshot_settings⟩ := id lo1_snapshot
  obtain ⟨ko1_snapshot_pocket, ro1_snapshot_pocket_names, ko1_snapshot_pocket_names, ro1_snapshot_pocket_asksToGo, ko1_snapshot_pocket_asksToGo, ro1_snapshot_pocket_tellings, ko1_snapshot_pocket_tellings, ro1_snapshot_pocket_slots, ko1_snapshot_pocket_slots, ro1_snapshot_pocket_awake, ko1_snapshot_pocket_awake, ro1_snapshot_pocket_answering, ko1_snapshot_pocket_answering⟩ := id lo1_snapshot_pocket
  obtain ⟨ko1_snapshot_told, ro1_snapshot_told_row, ko1_snapshot_told_row⟩ := id lo1_snapshot_told
  have ko1_snapshot_tally := id lo1_snapshot_tally
  obtain ⟨ko1_history, ro1_history_rows, ko1_history_rows⟩ := id lo1_history
  obtain ⟨ko1_text, ro1_text_characters, ko1_text_characters, ro1_text_kinds, ko1_text_kinds, ro1_text_numbers, ko1_text_numbers⟩ := id lo1_text
  show AW m_X6_take d none Q 11 [some (.inr (some 1)), some (.inl x1)] [] h1 (0, 0)
  refine aw_aload_n (pc := 11) dX6_take_11 rfl ?_
  refine aw_aload_n (pc := 12) dX6_take_12 rfl ?_
  refine aw_getr (pc := 13) (r := some 2) dX6_take_13 fl_X6_10 (by decide) rfl ko1 ro1_state ?_
  refine aw_iload_n (pc := 16) dX6_take_16 rfl ?_
  refine aw_invV (pc := 17) (md' := m_X2_takeCard) (ci := 2) (as := [(.inl x1)]) dX6_take_17 mo_X2_takeCard im_X2_takeCard se_X2_takeCard ml_X6_54 rfl ko1_state rfl hd (Nat.le_of_ble_eq_true rfl) (Nat.le_of_ble_eq_true rfl) (Nat.le_of_ble_eq_true rfl) ?_
  refine am_mono g (fun _ h2 _ ok_h2 g => ?_)
  obtain ⟨v3, rfl, ss_h2, g⟩ := g
  replace hL := QM.ss hL ss_h2
  obtain ⟨ko1, ro1_state, lo1_state, ro1_before, lo1_before, ro1_trial, lo1_trial, ro1_snapshot, lo1_snapshot, ro1_history, lo1_history, ro1_text, lo1_text⟩ := id hL
  obtain ⟨ko1_state, ro1_state_pocket, lo1_state_pocket, ro1_state_told, lo1_state_told, ro1_state_tally, lo1_state_tally, ro1_state_settings, ko1_state_settings⟩ := id lo1_state
  obtain ⟨ko1_state_pocket, ro1_state_pocket_names, ko1_state_pocket_names, ro1_state_pocket_asksToGo, ko1_state_pocket_asksToGo, ro1_state_pocket_tellings, ko1_state_pocket_tellings, ro1_state_pocket_slots, ko1_state_pocket_slots, ro1_state_pocket_awake, ko1_state_pocket_awake, ro1_state_pocket_answering, ko1_state_pocket_answering⟩ := id lo1_state_pocket
  obtain ⟨ko1_state_told, ro1_state_told_row, ko1_state_told_row⟩ := id lo1_state_told
  have ko1_state_tally := id lo1_state_tally
  obtain ⟨ko1_before, ro1_before_pocket, lo1_before_pocket, ro1_before_told, lo1_before_told, ro1_before_tally, lo1_before_tally, ro1_before_settings, ko1_before_settings⟩ := id lo1_before
  obtain ⟨ko1_before_pocket, ro1_before_pocket_names, ko1_before_pocket_names, ro1_before_pocket_asksToGo, ko1_before_pocket_asksToGo, ro1_before_pocket_tellings, ko1_before_pocket_tellings, ro1_before_pocket_slots, ko1_before_pocket_slots, ro1_before_pocket_awake, ko1_before_pocket_awake, ro1_before_pocket_answering, ko1_before_pocket_answering⟩ := id lo1_before_pocket
  obtain ⟨ko1_before_told, ro1_before_told_row, ko1_before_told_row⟩ := id lo1_before_told
  have ko1_before_tally := id lo1_before_tally
  obtain ⟨ko1_trial, ro1_trial_pocket, lo1_trial_pocket, ro1_trial_told, lo1_trial_told, ro1_trial_tally, lo1_trial_tally, ro1_trial_settings, ko1_trial_settings⟩ := id lo1_trial
  obtain ⟨ko1_trial_pocket, ro1_trial_pocket_names, ko1_trial_pocket_names, ro1_trial_pocket_asksToGo, ko1_trial_pocket_asksToGo, ro1_trial_pocket_tellings, ko1_trial_pocket_tellings, ro1_trial_pocket_slots, ko1_trial_pocket_slots, ro1_trial_pocket_awake, ko1_trial_pocket_awake, ro1_trial_pocket_answering, ko1_trial_pocket_answering⟩ := id lo1_trial_pocket
  obtain ⟨ko1_trial_told, ro1_trial_told_row, ko1_trial_told_row⟩ := id lo1_trial_told
  have ko1_trial_tally := id lo1_trial_tally
  obtain ⟨ko1_snapshot, ro1_snapshot_pocket, lo1_snapshot_pocket, ro1_snapshot_told, lo1_snapshot_told, ro1_snapshot_tally, lo1_snapshot_tally, ro1_snapshot_settings, ko1_snapshot_settings⟩ := id lo1_snapshot
  obtain ⟨ko1_snapshot_pocket, ro1_snapshot_pocket_names, ko1_snapshot_pocket_names, ro1_snapshot_pocket_asksToGo, ko1_snapshot_pocket_asksToGo, ro1_snapshot_pocket_tellings, ko1_snapshot_pocket_tellings, ro1_snapshot_pocket_slots, ko1_snapshot_pocket_slots, ro1_snapshot_pocket_awake, ko1_snapshot_pocket_awake, ro1_snapshot_pocket_answering, ko1_snapshot_pocket_answering⟩ := id lo1_snapshot_pocket
  obtain ⟨ko1_snapshot_told, ro1_snapshot_told_row, ko1_snapshot_told_row⟩ := id lo1_snapshot_told
  have ko1_snapshot_tally := id lo1_snapshot_tally
  obtain ⟨ko1_history, ro1_history_rows, ko1_history_rows⟩ := id lo1_history
  obtain ⟨ko1_text, ro1_text_characters, ko1_text_characters, ro1_text_kinds, ko1_text_kinds, ro1_text_numbers, ko1_text_numbers⟩ := id lo1_text
  show AW m_X6_take d none Q 20 [some (.inr (some 1)), some (.inl x1)] [(.inl v3), (.inr (some 1))] h2 (0, 0)
  refine aw_invV (pc := 20) (md' := m_X6_recorded) (ci := 6) (as := [(.inl v3)]) dX6_take_20 mo_X6_recorded im_X6_recorded se_X6_recorded ml_X6_51 rfl ko1 rfl hd (Nat.le_of_ble_eq_true rfl) (Nat.le_of_ble_eq_true rfl) (Nat.le_of_ble_eq_true rfl) ?_
  refine am_mono g (fun _ h4 _ ok_h4 g => ?_)
  obtain ⟨v5, rfl, ss_h4, g⟩ := g
  replace hL := QM.sw hL ss_h4
  obtain ⟨ko1, ro1_state, lo1_state, ro1_before, lo1_before, ro1_trial, lo1_trial, ro1_snapshot, lo1_snapshot, ro1_history, lo1_history, ro1_text, lo1_text⟩ := id hL
  obtain ⟨ko1_state, ro1_state_pocket, lo1_state_pocket, ro1_state_told, lo1_state_told, ro1_state_tally, lo1_state_tally, ro1_state_settings, ko1_state_settings⟩ := id lo1_state
  obtain ⟨ko1_state_pocket, ro1_state_pocket_names, ko1_state_pocket_names, ro1_state_pocket_asksToGo, ko1_state_pocket_asksToGo, ro1_state_pocket_tellings, ko1_state_pocket_tellings, ro1_state_pocket_slots, ko1_state_pocket_slots, ro1_state_pocket_awake, ko1_state_pocket_awake, ro1_state_pocket_answering, ko1_state_pocket_answering⟩ := id lo1_state_pocket
  obtain ⟨ko1_state_told, ro1_state_told_row, ko1_state_told_row⟩ := id lo1_state_told
  have ko1_state_tally := id lo1_state_tally
  obtain ⟨ko1_before, ro1_before_pocket, lo1_before_pocket, ro1_before_told, lo1_before_told, ro1_before_tally, lo1_before_tally, ro1_before_settings, ko1_before_settings⟩ := id lo1_before
  obtain ⟨ko1_before_pocket, ro1_before_pocket_names, ko1_before_pocket_names, ro1_before_pocket_asksToGo, ko1_before_pocket_asksToGo, ro1_before_pocket_tellings, ko1_before_pocket_tellings, ro1_before_pocket_slots, ko1_before_pocket_slots, ro1_before_pocket_awake, ko1_before_pocket_awake, ro1_before_pocket_answering, ko1_before_pocket_answering⟩ := id lo1_before_pocket
  obtain ⟨ko1_before_told, ro1_before_told_row, ko1_before_told_row⟩ := id lo1_before_told
  have ko1_before_tally := id lo1_before_tally
  obtain ⟨ko1_trial, ro1_trial_pocket, lo1_trial_pocket, ro1_trial_told, lo1_trial_told, ro1_trial_tally, lo1_trial_tally, ro1_trial_settings, ko1_trial_settings⟩ := id lo1_trial
  obtain ⟨ko1_trial_pocket, ro1_trial_pocket_names, ko1_trial_pocket_names, ro1_trial_pocket_asksToGo, ko1_trial_pocket_asksToGo, ro1_trial_pocket_tellings, ko1_trial_pocket_tellings, ro1_trial_pocket_slots, ko1_trial_pocket_slots, ro1_trial_pocket_awake, ko1_trial_pocket_awake, ro1_trial_pocket_answering, ko1_trial_pocket_answering⟩ := id lo1_trial_pocket
  obtain ⟨ko1_trial_told, ro1_trial_told_row, ko1_trial_told_row⟩ := id lo1_trial_told
  have ko1_trial_tally := id lo1_trial_tally
  obtain ⟨ko1_snapshot, ro1_snapshot_pocket, lo1_snapshot_pocket, ro1_snapshot_told, lo1_snapshot_told, ro1_snapshot_tally, lo1_snapshot_tally, ro1_snapshot_settings, ko1_snapshot_settings⟩ := id lo1_snapshot
  obtain ⟨ko1_snapshot_pocket, ro1_snapshot_pocket_names, ko1_snapshot_pocket_names, ro1_snapshot_pocket_asksToGo, ko1_snapshot_pocket_asksToGo, ro1_snapshot_pocket_tellings, ko1_snapshot_pocket_tellings, ro1_snapshot_pocket_slots, ko1_snapshot_pocket_slots, ro1_snapshot_pocket_awake, ko1_snapshot_pocket_awake, ro1_snapshot_pocket_answering, ko1_snapshot_pocket_answering⟩ := id lo1_snapshot_pocket
  obtain ⟨ko1_snapshot_told, ro1_snapshot_told_row, ko1_snapshot_told_row⟩ := id lo1_snapshot_told
  have ko1_snapshot_tally := id lo1_snapshot_tally
  obtain ⟨ko1_history, ro1_history_rows, ko1_history_rows⟩ := id lo1_history
  obtain ⟨ko1_text, ro1_text_characters, ko1_text_characters, ro1_text_kinds, ko1_text_kinds, ro1_text_numbers, ko1_text_numbers⟩ := id lo1_text
  show AW m_X6_take d none Q 23 [some (.inr (some 1)), some (.inl x1)] [(.inl v5)] h4 (0, 0)
  exact ax_ireturn (pc := 23) dX6_take_23 rfl g (by decide) (by decide)
set_option maxRecDepth 100000 in
set_option maxHeartbeats 4000000 in
theorem vc_X6_sleep {d : Nat} {Q : Option Int → AH → Prop} {h : AH} {x1 : Int} (hd : 1 ≤ d) (hL : QM h)
  (g :
    AM (d - 1) m_X2_copyFrom [(.inr (some 14)), (.inr (some 2))] h (fun r h1 => 
      r = none ∧ SS h h1 ∧
      AM (d - 1) m_X2_sleepCard [(.inr (some 2)), (.inl x1)] h1 (fun r h2 => 
        ∃ v3, r = some v3 ∧ SS h1 h2 ∧
        AM (d - 1) m_X6_recorded [(.inr (some 1)), (.inl v3)] h2 (fun r h4 => 
          ∃ v5, r = some v5 ∧ SW h2 h4 ∧
          Q (some v5) h4)))) :
  AM d m_X6_sleep [(.inr (some 1)), (.inl x1)] h Q := by
  refine am_body mo_X6_sleep (Nat.le_of_ble_eq_true rfl) ?_
  show AW m_X6_sleep d none Q 0 [some (.inr (some 1)), some (.inl x1)] [] h (0, 0)
  obtain ⟨ko1, ro1_state, lo1_state, ro1_before, lo1_before, ro1_trial, lo1_trial, ro1_snapshot, lo1_snapshot, ro1_history, lo1_history, ro1_text, lo1_text⟩ := id hL
  obtain ⟨ko1_state, ro1_state_pocket, lo1_state_pocket, ro1_state_told, lo1_state_told, ro1_state_tally, lo1_state_tally, ro1_state_settings, ko1_state_settings⟩ := id lo1_state
  obtain ⟨ko1_state_pocket, ro1_state_pocket_names, ko1_state_pocket_names, ro1_state_pocket_asksToGo, ko1_state_pocket_asksToGo, ro1_state_pocket_tellings, ko1_state_pocket_tellings, ro1_state_pocket_slots, ko1_state_pocket_slots, ro1_state_pocket_awake, ko1_state_pocket_awake, ro1_state_pocket_answering, ko1_state_pocket_answering⟩ := id lo1_state_pocket
  obtain ⟨ko1_state_told, ro1_state_told_row, ko1_state_told_row⟩ := id lo1_state_told
  have ko1_state_tally := id lo1_state_tally
  obtain ⟨ko1_before, ro1_before_pocket, lo1_before_pocket, ro1_before_told, lo1_before_told, ro1_before_tally, lo1_before_tally, ro1_before_settings, ko1_before_settings⟩ := id lo1_before
  obtain ⟨ko1_before_pocket, ro1_before_pocket_names, ko1_before_pocket_names, ro1_before_pocket_asksToGo, ko1_before_pocket_asksToGo, ro1_before_pocket_tellings, ko1_before_pocket_tellings, ro1_before_pocket_slots, ko1_before_pocket_slots, ro1_before_pocket_awake, ko1_before_pocket_awake, ro1_before_pocket_answering, ko1_before_pocket_answering⟩ := id lo1_before_pocket
  obtain ⟨ko1_before_told, ro1_before_told_row, ko1_before_told_row⟩ := id lo1_before_told
  have ko1_before_tally := id lo1_before_tally
  obtain ⟨ko1_trial, ro1_trial_pocket, lo1_trial_pocket, ro1_trial_told, lo1_trial_told, ro1_trial_tally, lo1_trial_tally, ro1_trial_settings, ko1_trial_settings⟩ := id lo1_trial
  obtain ⟨ko1_trial_pocket, ro1_trial_pocket_names, ko1_trial_pocket_names, ro1_trial_pocket_asksToGo, ko1_trial_pocket_asksToGo, ro1_trial_pocket_tellings, ko1_trial_pocket_tellings, ro1_trial_pocket_slots, ko1_trial_pocket_slots, ro1_trial_pocket_awake, ko1_trial_pocket_awake, ro1_trial_pocket_answering, ko1_trial_pocket_answering⟩ := id lo1_trial_pocket
  obtain ⟨ko1_trial_told, ro1_trial_told_row, ko1_trial_told_row⟩ := id lo1_trial_told
  have ko1_trial_tally := id lo1_trial_tally
  obtain ⟨ko1_snapshot, ro1_snapshot_pocket, lo1_snapshot_pocket, ro1_snapshot_told, lo1_snapshot_told, ro1_snapshot_tally, lo1_snapshot_tally, ro1_snapshot_settings, ko1_snapshot_settings⟩ := id lo1_snapshot
  obtain ⟨ko1_snapshot_pocket, ro1_snapshot_pocket_names, ko1_snapshot_pocket_names, ro1_snapshot_pocket_asksToGo, ko1_snapshot_pocket_asksToGo, ro1_snapshot_pocket_tellings, ko1_snapshot_pocket_tellings, ro1_snapshot_pocket_slots, ko1_snapshot_pocket_slots, ro1_snapshot_pocket_awake, ko1_snapshot_pocket_awake, ro1_snapshot_pocket_answering, ko1_snapshot_pocket_answering⟩ := id lo1_snapshot_pocket
  obtain ⟨ko1_snapshot_told, ro1_snapshot_told_row, ko1_snapshot_told_row⟩ := id lo1_snapshot_told
  have ko1_snapshot_tally := id lo1_snapshot_tally
  obtain ⟨ko1_history, ro1_history_rows, ko1_history_rows⟩ := id lo1_history
  obtain ⟨ko1_text, ro1_text_characters, ko1_text_characters, ro1_text_kinds, ko1_text_kinds, ro1_text_numbers, ko1_text_numbers⟩ := id lo1_text
  refine aw_aload_n (pc := 0) dX6_sleep_0 rfl ?_
  refine aw_getr (pc := 1) (r := some 14) dX6_sleep_1 fl_X6_16 (by decide) rfl ko1 ro1_before ?_
  refine aw_aload_n (pc := 4) dX6_sleep_4 rfl ?_
  refine aw_getr (pc := 5) (r := some 2) dX6_sleep_5 fl_X6_10 (by decide) rfl ko1 ro1_state ?_
  refine aw_invV (pc := 8) (md' := m_X2_copyFrom) (ci := 2) (as := [(.inr (some 2))]) dX6_sleep_8 mo_X2_copyFrom im_X2_copyFrom se_X2_copyFrom ml_X6_43 rfl ko1_before rfl hd (Nat.le_of_ble_eq_true rfl) (Nat.le_of_ble_eq_true rfl) (Nat.le_of_ble_eq_true rfl) ?_
  refine am_mono g (fun _ h1 _ ok_h1 g => ?_)
  obtain ⟨rfl, ss_h1, g⟩ := g
  replace hL := QM.ss hL ss_h1
  obtain ⟨ko1, ro1_state, lo1_state, ro1_before, lo1_before, ro1_trial, lo1_trial, ro1_snapshot, lo1_snapshot, ro1_history, lo1_history, ro1_text, lo1_text⟩ := id hL
  obtain ⟨ko1_state, ro1_state_pocket, lo1_state_pocket, ro1_state_told, lo1_state_told, ro1_state_tally, lo1_state_tally, ro1_state_settings, ko1_state_settings⟩ := id lo1_state
  obtain ⟨ko1_state_pocket, ro1_state_pocket_names, ko1_state_pocket_names, ro1_state_pocket_asksToGo, ko1_state_pocket_asksToGo, ro1_state_pocket_tellings, ko1_state_pocket_tellings, ro1_state_pocket_slots, ko1_state_pocket_slots, ro1_state_pocket_awake, ko1_state_pocket_awake, ro1_state_pocket_answering, ko1_state_pocket_answering⟩ := id lo1_state_pocket
  obtain ⟨ko1_state_told, ro1_state_told_row, ko1_state_told_row⟩ := id lo1_state_told
  have ko1_state_tally := id lo1_state_tally
  obtain ⟨ko1_before, ro1_before_pocket, lo1_before_pocket, ro1_before_told, lo1_before_told, ro1_before_tally, lo1_before_tally, ro1_before_settings, ko1_before_settings⟩ := id lo1_before
  obtain ⟨ko1_before_pocket, ro1_before_pocket_names, ko1_before_pocket_names, ro1_before_pocket_asksToGo, ko1_before_pocket_asksToGo, ro1_before_pocket_tellings, ko1_before_pocket_tellings, ro1_before_pocket_slots, ko1_before_pocket_slots, ro1_before_pocket_awake, ko1_before_pocket_awake, ro1_before_pocket_answering, ko1_before_pocket_answering⟩ := id lo1_before_pocket
  obtain ⟨ko1_before_told, ro1_before_told_row, ko1_before_told_row⟩ := id lo1_before_told
  have ko1_before_tally := id lo1_before_tally
  obtain ⟨ko1_trial, ro1_trial_pocket, lo1_trial_pocket, ro1_trial_told, lo1_trial_told, ro1_trial_tally, lo1_trial_tally, ro1_trial_settings, ko1_trial_settings⟩ := id lo1_trial
  obtain ⟨ko1_trial_pocket, ro1_trial_pocket_names, ko1_trial_pocket_names, ro1_trial_pocket_asksToGo, ko1_trial_pocket_asksToGo, ro1_trial_pocket_tellings, ko1_trial_pocket_tellings, ro1_trial_pocket_slots, ko1_trial_pocket_slots, ro1_trial_pocket_awake, ko1_trial_pocket_awake, ro1_trial_pocket_answering, ko1_trial_pocket_answering⟩ := id lo1_trial_pocket
  obtain ⟨ko1_trial_told, ro1_trial_told_row, ko1_trial_told_row⟩ := id lo1_trial_told
  have ko1_trial_tally := id lo1_trial_tally
  obtain ⟨ko1_snapshot, ro1_snapshot_pocket, lo1_snapshot_pocket, ro1_snapshot_told, lo1_snapshot_told, ro1_snapshot_tally, lo1_snapshot_tally, ro1_snapshot_settings, ko1_snapshot_settings⟩ := id lo1_snapshot
  obtain ⟨ko1_snapshot_pocket, ro1_snapshot_pocket_names, ko1_snapshot_pocket_names, ro1_snapshot_pocket_asksToGo, ko1_snapshot_pocket_asksToGo, ro1_snapshot_pocket_tellings, ko1_snapshot_pocket_tellings, ro1_snapshot_pocket_slots, ko1_snapshot_pocket_slots, ro1_snapshot_pocket_awake, ko1_snapshot_pocket_awake, ro1_snapshot_pocket_answering, ko1_snapshot_pocket_answering⟩ := id lo1_snapshot_pocket
  obtain ⟨ko1_snapshot_told, ro1_snapshot_told_row, ko1_snapshot_told_row⟩ := id lo1_snapshot_told
  have ko1_snapshot_tally := id lo1_snapshot_tally
  obtain ⟨ko1_history, ro1_history_rows, ko1_history_rows⟩ := id lo1_history
  obtain ⟨ko1_text, ro1_text_characters, ko1_text_characters, ro1_text_kinds, ko1_text_kinds, ro1_text_numbers, ko1_text_numbers⟩ := id lo1_text
  show AW m_X6_sleep d none Q 11 [some (.inr (some 1)), some (.inl x1)] [] h1 (0, 0)
  refine aw_aload_n (pc := 11) dX6_sleep_11 rfl ?_
  refine aw_aload_n (pc := 12) dX6_sleep_12 rfl ?_
  refine aw_getr (pc := 13) (r := some 2) dX6_sleep_13 fl_X6_10 (by decide) rfl ko1 ro1_state ?_
  refine aw_iload_n (pc := 16) dX6_sleep_16 rfl ?_
  refine aw_invV (pc := 17) (md' := m_X2_sleepCard) (ci := 2) (as := [(.inl x1)]) dX6_sleep_17 mo_X2_sleepCard im_X2_sleepCard se_X2_sleepCard ml_X6_57 rfl ko1_state rfl hd (Nat.le_of_ble_eq_true rfl) (Nat.le_of_ble_eq_true rfl) (Nat.le_of_ble_eq_true rfl) ?_
  refine am_mono g (fun _ h2 _ ok_h2 g => ?_)
  obtain ⟨v3, rfl, ss_h2, g⟩ := g
  replace hL := QM.ss hL ss_h2
  obtain ⟨ko1, ro1_state, lo1_state, ro1_before, lo1_before, ro1_trial, lo1_trial, ro1_snapshot, lo1_snapshot, ro1_history, lo1_history, ro1_text, lo1_text⟩ := id hL
  obtain ⟨ko1_state, ro1_state_pocket, lo1_state_pocket, ro1_state_told, lo1_state_told, ro1_state_tally, lo1_state_tally, ro1_state_settings, ko1_state_settings⟩ := id lo1_state
  obtain ⟨ko1_state_pocket, ro1_state_pocket_names, ko1_state_pocket_names, ro1_state_pocket_asksToGo, ko1_state_pocket_asksToGo, ro1_state_pocket_tellings, ko1_state_pocket_tellings, ro1_state_pocket_slots, ko1_state_pocket_slots, ro1_state_pocket_awake, ko1_state_pocket_awake, ro1_state_pocket_answering, ko1_state_pocket_answering⟩ := id lo1_state_pocket
  obtain ⟨ko1_state_told, ro1_state_told_row, ko1_state_told_row⟩ := id lo1_state_told
  have ko1_state_tally := id lo1_state_tally
  obtain ⟨ko1_before, ro1_before_pocket, lo1_before_pocket, ro1_before_told, lo1_before_told, ro1_before_tally, lo1_before_tally, ro1_before_settings, ko1_before_settings⟩ := id lo1_before
  obtain ⟨ko1_before_pocket, ro1_before_pocket_names, ko1_before_pocket_names, ro1_before_pocket_asksToGo, ko1_before_pocket_asksToGo, ro1_before_pocket_tellings, ko1_before_pocket_tellings, ro1_before_pocket_slots, ko1_before_pocket_slots, ro1_before_pocket_awake, ko1_before_pocket_awake, ro1_before_pocket_answering, ko1_before_pocket_answering⟩ := id lo1_before_pocket
  obtain ⟨ko1_before_told, ro1_before_told_row, ko1_before_told_row⟩ := id lo1_before_told
  have ko1_before_tally := id lo1_before_tally
  obtain ⟨ko1_trial, ro1_trial_pocket, lo1_trial_pocket, ro1_trial_told, lo1_trial_told, ro1_trial_tally, lo1_trial_tally, ro1_trial_settings, ko1_trial_settings⟩ := id lo1_trial
  obtain ⟨ko1_trial_pocket, ro1_trial_pocket_names, ko1_trial_pocket_names, ro1_trial_pocket_asksToGo, ko1_trial_pocket_asksToGo, ro1_trial_pocket_tellings, ko1_trial_pocket_tellings, ro1_trial_pocket_slots, ko1_trial_pocket_slots, ro1_trial_pocket_awake, ko1_trial_pocket_awake, ro1_trial_pocket_answering, ko1_trial_pocket_answering⟩ := id lo1_trial_pocket
  obtain ⟨ko1_trial_told, ro1_trial_told_row, ko1_trial_told_row⟩ := id lo1_trial_told
  have ko1_trial_tally := id lo1_trial_tally
  obtain ⟨ko1_snapshot, ro1_snapshot_pocket, lo1_snapshot_pocket, ro1_snapshot_told, lo1_snapshot_told, ro1_snapshot_tally, lo1_snapshot_tally, ro1_snapshot_settings, ko1_snapshot_settings⟩ := id lo1_snapshot
  obtain ⟨ko1_snapshot_pocket, ro1_snapshot_pocket_names, ko1_snapshot_pocket_names, ro1_snapshot_pocket_asksToGo, ko1_snapshot_pocket_asksToGo, ro1_snapshot_pocket_tellings, ko1_snapshot_pocket_tellings, ro1_snapshot_pocket_slots, ko1_snapshot_pocket_slots, ro1_snapshot_pocket_awake, ko1_snapshot_pocket_awake, ro1_snapshot_pocket_answering, ko1_snapshot_pocket_answering⟩ := id lo1_snapshot_pocket
  obtain ⟨ko1_snapshot_told, ro1_snapshot_told_row, ko1_snapshot_told_row⟩ := id lo1_snapshot_told
  have ko1_snapshot_tally := id lo1_snapshot_tally
  obtain ⟨ko1_history, ro1_history_rows, ko1_history_rows⟩ := id lo1_history
  obtain ⟨ko1_text, ro1_text_characters, ko1_text_characters, ro1_text_kinds, ko1_text_kinds, ro1_text_numbers, ko1_text_numbers⟩ := id lo1_text
  show AW m_X6_sleep d none Q 20 [some (.inr (some 1)), some (.inl x1)] [(.inl v3), (.inr (some 1))] h2 (0, 0)
  refine aw_invV (pc := 20) (md' := m_X6_recorded) (ci := 6) (as := [(.inl v3)]) dX6_sleep_20 mo_X6_recorded im_X6_recorded se_X6_recorded ml_X6_51 rfl ko1 rfl hd (Nat.le_of_ble_eq_true rfl) (Nat.le_of_ble_eq_true rfl) (Nat.le_of_ble_eq_true rfl) ?_
  refine am_mono g (fun _ h4 _ ok_h4 g => ?_)
  obtain ⟨v5, rfl, ss_h4, g⟩ := g
  replace hL := QM.sw hL ss_h4
  obtain ⟨ko1, ro1_state, lo1_state, ro1_before, lo1_before, ro1_trial, lo1_trial, ro1_snapshot, lo1_snapshot, ro1_history, lo1_history, ro1_text, lo1_text⟩ := id hL
  obtain ⟨ko1_state, ro1_state_pocket, lo1_state_pocket, ro1_state_told, lo1_state_told, ro1_state_tally, lo1_state_tally, ro1_state_settings, ko1_state_settings⟩ := id lo1_state
  obtain ⟨ko1_state_pocket, ro1_state_pocket_names, ko1_state_pocket_names, ro1_state_pocket_asksToGo, ko1_state_pocket_asksToGo, ro1_state_pocket_tellings, ko1_state_pocket_tellings, ro1_state_pocket_slots, ko1_state_pocket_slots, ro1_state_pocket_awake, ko1_state_pocket_awake, ro1_state_pocket_answering, ko1_state_pocket_answering⟩ := id lo1_state_pocket
  obtain ⟨ko1_state_told, ro1_state_told_row, ko1_state_told_row⟩ := id lo1_state_told
  have ko1_state_tally := id lo1_state_tally
  obtain ⟨ko1_before, ro1_before_pocket, lo1_before_pocket, ro1_before_told, lo1_before_told, ro1_before_tally, lo1_before_tally, ro1_before_settings, ko1_before_settings⟩ := id lo1_before
  obtain ⟨ko1_before_pocket, ro1_before_pocket_names, ko1_before_pocket_names, ro1_before_pocket_asksToGo, ko1_before_pocket_asksToGo, ro1_before_pocket_tellings, ko1_before_pocket_tellings, ro1_before_pocket_slots, ko1_before_pocket_slots, ro1_before_pocket_awake, ko1_before_pocket_awake, ro1_before_pocket_answering, ko1_before_pocket_answering⟩ := id lo1_before_pocket
  obtain ⟨ko1_before_told, ro1_before_told_row, ko1_before_told_row⟩ := id lo1_before_told
  have ko1_before_tally := id lo1_before_tally
  obtain ⟨ko1_trial, ro1_trial_pocket, lo1_trial_pocket, ro1_trial_told, lo1_trial_told, ro1_trial_tally, lo1_trial_tally, ro1_trial_settings, ko1_trial_settings⟩ := id lo1_trial
  obtain ⟨ko1_trial_pocket, ro1_trial_pocket_names, ko1_trial_pocket_names, ro1_trial_pocket_asksToGo, ko1_trial_pocket_asksToGo, ro1_trial_pocket_tellings, ko1_trial_pocket_tellings, ro1_trial_pocket_slots, ko1_trial_pocket_slots, ro1_trial_pocket_awake, ko1_trial_pocket_awake, ro1_trial_pocket_answering, ko1_trial_pocket_answering⟩ := id lo1_trial_pocket
  obtain ⟨ko1_trial_told, ro1_trial_told_row, ko1_trial_told_row⟩ := id lo1_trial_told
  have ko1_trial_tally := id lo1_trial_tally
  obtain ⟨ko1_snapshot, ro1_snapshot_pocket, lo1_snapshot_pocket, ro1_snapshot_told, lo1_snapshot_told, ro1_snapshot_tally, lo1_snapshot_tally, ro1_snapshot_settings, ko1_snapshot_settings⟩ := id lo1_snapshot
  obtain ⟨ko1_snapshot_pocket, ro1_snapshot_pocket_names, ko1_snapshot_pocket_names, ro1_snapshot_pocket_asksToGo, ko1_snapshot_pocket_asksToGo, ro1_snapshot_pocket_tellings, ko1_snapshot_pocket_tellings, ro1_snapshot_pocket_slots, ko1_snapshot_pocket_slots, ro1_snapshot_pocket_awake, ko1_snapshot_pocket_awake, ro1_snapshot_pocket_answering, ko1_snapshot_pocket_answering⟩ := id lo1_snapshot_pocket
  obtain ⟨ko1_snapshot_told, ro1_snapshot_told_row, ko1_snapshot_told_row⟩ := id lo1_snapshot_told
  have ko1_snapshot_tally := id lo1_snapshot_tally
  obtain ⟨ko1_history, ro1_history_rows, ko1_history_rows⟩ := id lo1_history
  obtain ⟨ko1_text, ro1_text_characters, ko1_text_characters, ro1_text_kinds, ko1_text_kinds, ro1_text_numbers, ko1_text_numbers⟩ := id lo1_text
  show AW m_X6_sleep d none Q 23 [some (.inr (some 1)), some (.inl x1)] [(.inl v5)] h4 (0, 0)
  exact ax_ireturn (pc := 23) dX6_sleep_23 rfl g (by decide) (by decide)
set_option maxRecDepth 100000 in
set_option maxHeartbeats 4000000 in
theorem vc_X6_wakeAll {d : Nat} {Q : Option Int → AH → Prop} {h : AH}  (hd : 1 ≤ d) (hL : QM h)
  (g :
    AM (d - 1) m_X2_copyFrom [(.inr (some 14)), (.inr (some 2))] h (fun r h1 => 
      r = none ∧ SS h h1 ∧
      AM (d - 1) m_X2_wakeCards [(.inr (some 2))] h1 (fun r h2 => 
        ∃ v3, r = some v3 ∧ SS h1 h2 ∧
        AM (d - 1) m_X6_recorded [(.inr (some 1)), (.inl v3)] h2 (fun r h4 => 
          ∃ v5, r = some v5 ∧ SW h2 h4 ∧
          Q (some v5) h4)))) :
  AM d m_X6_wakeAll [(.inr (some 1))] h Q := by
  refine am_body mo_X6_wakeAll (Nat.le_of_ble_eq_true rfl) ?_
  show AW m_X6_wakeAll d none Q 0 [some (.inr (some 1))] [] h (0, 0)
  obtain ⟨ko1, ro1_state, lo1_state, ro1_before, lo1_before, ro1_trial, lo1_trial, ro1_snapshot, lo1_snapshot, ro1_history, lo1_history, ro1_text, lo1_text⟩ := id hL
  obtain ⟨ko1_state, ro1_state_pocket, lo1_state_pocket, ro1_state_told, lo1_state_told, ro1_state_tally, lo1_state_tally, ro1_state_settings, ko1_state_settings⟩ := id lo1_state
  obtain ⟨ko1_state_pocket, ro1_state_pocket_names, ko1_state_pocket_names, ro1_state_pocket_asksToGo, ko1_state_pocket_asksToGo, ro1_state_pocket_tellings, ko1_state_pocket_tellings, ro1_state_pocket_slots, ko1_state_pocket_slots, ro1_state_pocket_awake, ko1_state_pocket_awake, ro1_state_pocket_answering, ko1_state_pocket_answering⟩ := id lo1_state_pocket
  obtain ⟨ko1_state_told, ro1_state_told_row, ko1_state_told_row⟩ := id lo1_state_told
  have ko1_state_tally := id lo1_state_tally
  obtain ⟨ko1_before, ro1_before_pocket, lo1_before_pocket, ro1_before_told, lo1_before_told, ro1_before_tally, lo1_before_tally, ro1_before_settings, ko1_before_settings⟩ := id lo1_before
  obtain ⟨ko1_before_pocket, ro1_before_pocket_names, ko1_before_pocket_names, ro1_before_pocket_asksToGo, ko1_before_pocket_asksToGo, ro1_before_pocket_tellings, ko1_before_pocket_tellings, ro1_before_pocket_slots, ko1_before_pocket_slots, ro1_before_pocket_awake, ko1_before_pocket_awake, ro1_before_pocket_answering, ko1_before_pocket_answering⟩ := id lo1_before_pocket
  obtain ⟨ko1_before_told, ro1_before_told_row, ko1_before_told_row⟩ := id lo1_before_told
  have ko1_before_tally := id lo1_before_tally
  obtain ⟨ko1_trial, ro1_trial_pocket, lo1_trial_pocket, ro1_trial_told, lo1_trial_told, ro1_trial_tally, lo1_trial_tally, ro1_trial_settings, ko1_trial_settings⟩ := id lo1_trial
  obtain ⟨ko1_trial_pocket, ro1_trial_pocket_names, ko1_trial_pocket_names, ro1_trial_pocket_asksToGo, ko1_trial_pocket_asksToGo, ro1_trial_pocket_tellings, ko1_trial_pocket_tellings, ro1_trial_pocket_slots, ko1_trial_pocket_slots, ro1_trial_pocket_awake, ko1_trial_pocket_awake, ro1_trial_pocket_answering, ko1_trial_pocket_answering⟩ := id lo1_trial_pocket
  obtain ⟨ko1_trial_told, ro1_trial_told_row, ko1_trial_told_row⟩ := id lo1_trial_told
  have ko1_trial_tally := id lo1_trial_tally
  obtain ⟨ko1_snapshot, ro1_snapshot_pocket, lo1_snapshot_pocket, ro1_snapshot_told, lo1_snapshot_told, ro1_snapshot_tally, lo1_snapshot_tally, ro1_snapshot_settings, ko1_snapshot_settings⟩ := id lo1_snapshot
  obtain ⟨ko1_snapshot_pocket, ro1_snapshot_pocket_names, ko1_snapshot_pocket_names, ro1_snapshot_pocket_asksToGo, ko1_snapshot_pocket_asksToGo, ro1_snapshot_pocket_tellings, ko1_snapshot_pocket_tellings, ro1_snapshot_pocket_slots, ko1_snapshot_pocket_slots, ro1_snapshot_pocket_awake, ko1_snapshot_pocket_awake, ro1_snapshot_pocket_answering, ko1_snapshot_pocket_answering⟩ := id lo1_snapshot_pocket
  obtain ⟨ko1_snapshot_told, ro1_snapshot_told_row, ko1_snapshot_told_row⟩ := id lo1_snapshot_told
  have ko1_snapshot_tally := id lo1_snapshot_tally
  obtain ⟨ko1_history, ro1_history_rows, ko1_history_rows⟩ := id lo1_history
  obtain ⟨ko1_text, ro1_text_characters, ko1_text_characters, ro1_text_kinds, ko1_text_kinds, ro1_text_numbers, ko1_text_numbers⟩ := id lo1_text
  refine aw_aload_n (pc := 0) dX6_wakeAll_0 rfl ?_
  refine aw_getr (pc := 1) (r := some 14) dX6_wakeAll_1 fl_X6_16 (by decide) rfl ko1 ro1_before ?_
  refine aw_aload_n (pc := 4) dX6_wakeAll_4 rfl ?_
  refine aw_getr (pc := 5) (r := some 2) dX6_wakeAll_5 fl_X6_10 (by decide) rfl ko1 ro1_state ?_
  refine aw_invV (pc := 8) (md' := m_X2_copyFrom) (ci := 2) (as := [(.inr (some 2))]) dX6_wakeAll_8 mo_X2_copyFrom im_X2_copyFrom se_X2_copyFrom ml_X6_43 rfl ko1_before rfl hd (Nat.le_of_ble_eq_true rfl) (Nat.le_of_ble_eq_true rfl) (Nat.le_of_ble_eq_true rfl) ?_
  refine am_mono g (fun _ h1 _ ok_h1 g => ?_)
  obtain ⟨rfl, ss_h1, g⟩ := g
  replace hL := QM.ss hL ss_h1
  obtain ⟨ko1, ro1_state, lo1_state, ro1_before, lo1_before, ro1_trial, lo1_trial, ro1_snapshot, lo1_snapshot, ro1_history, lo1_history, ro1_text, lo1_text⟩ := id hL
  obtain ⟨ko1_state, ro1_state_pocket, lo1_state_pocket, ro1_state_told, lo1_state_told, ro1_state_tally, lo1_state_tally, ro1_state_settings, ko1_state_settings⟩ := id lo1_state
  obtain ⟨ko1_state_pocket, ro1_state_pocket_names, ko1_state_pocket_names, ro1_state_pocket_asksToGo, ko1_state_pocket_asksToGo, ro1_state_pocket_tellings, ko1_state_pocket_tellings, ro1_state_pocket_slots, ko1_state_pocket_slots, ro1_state_pocket_awake, ko1_state_pocket_awake, ro1_state_pocket_answering, ko1_state_pocket_answering⟩ := id lo1_state_pocket
  obtain ⟨ko1_state_told, ro1_state_told_row, ko1_state_told_row⟩ := id lo1_state_told
  have ko1_state_tally := id lo1_state_tally
  obtain ⟨ko1_before, ro1_before_pocket, lo1_before_pocket, ro1_before_told, lo1_before_told, ro1_before_tally, lo1_before_tally, ro1_before_settings, ko1_before_settings⟩ := id lo1_before
  obtain ⟨ko1_before_pocket, ro1_before_pocket_names, ko1_before_pocket_names, ro1_before_pocket_asksToGo, ko1_before_pocket_asksToGo, ro1_before_pocket_tellings, ko1_before_pocket_tellings, ro1_before_pocket_slots, ko1_before_pocket_slots, ro1_before_pocket_awake, ko1_before_pocket_awake, ro1_before_pocket_answering, ko1_before_pocket_answering⟩ := id lo1_before_pocket
  obtain ⟨ko1_before_told, ro1_before_told_row, ko1_before_told_row⟩ := id lo1_before_told
  have ko1_before_tally := id lo1_before_tally
  obtain ⟨ko1_trial, ro1_trial_pocket, lo1_trial_pocket, ro1_trial_told, lo1_trial_told, ro1_trial_tally, lo1_trial_tally, ro1_trial_settings, ko1_trial_settings⟩ := id lo1_trial
  obtain ⟨ko1_trial_pocket, ro1_trial_pocket_names, ko1_trial_pocket_names, ro1_trial_pocket_asksToGo, ko1_trial_pocket_asksToGo, ro1_trial_pocket_tellings, ko1_trial_pocket_tellings, ro1_trial_pocket_slots, ko1_trial_pocket_slots, ro1_trial_pocket_awake, ko1_trial_pocket_awake, ro1_trial_pocket_answering, ko1_trial_pocket_answering⟩ := id lo1_trial_pocket
  obtain ⟨ko1_trial_told, ro1_trial_told_row, ko1_trial_told_row⟩ := id lo1_trial_told
  have ko1_trial_tally := id lo1_trial_tally
  obtain ⟨ko1_snapshot, ro1_snapshot_pocket, lo1_snapshot_pocket, ro1_snapshot_told, lo1_snapshot_told, ro1_snapshot_tally, lo1_snapshot_tally, ro1_snapshot_settings, ko1_snapshot_settings⟩ := id lo1_snapshot
  obtain ⟨ko1_snapshot_pocket, ro1_snapshot_pocket_names, ko1_snapshot_pocket_names, ro1_snapshot_pocket_asksToGo, ko1_snapshot_pocket_asksToGo, ro1_snapshot_pocket_tellings, ko1_snapshot_pocket_tellings, ro1_snapshot_pocket_slots, ko1_snapshot_pocket_slots, ro1_snapshot_pocket_awake, ko1_snapshot_pocket_awake, ro1_snapshot_pocket_answering, ko1_snapshot_pocket_answering⟩ := id lo1_snapshot_pocket
  obtain ⟨ko1_snapshot_told, ro1_snapshot_told_row, ko1_snapshot_told_row⟩ := id lo1_snapshot_told
  have ko1_snapshot_tally := id lo1_snapshot_tally
  obtain ⟨ko1_history, ro1_history_rows, ko1_history_rows⟩ := id lo1_history
  obtain ⟨ko1_text, ro1_text_characters, ko1_text_characters, ro1_text_kinds, ko1_text_kinds, ro1_text_numbers, ko1_text_numbers⟩ := id lo1_text
  show AW m_X6_wakeAll d none Q 11 [some (.inr (some 1))] [] h1 (0, 0)
  refine aw_aload_n (pc := 11) dX6_wakeAll_11 rfl ?_
  refine aw_aload_n (pc := 12) dX6_wakeAll_12 rfl ?_
  refine aw_getr (pc := 13) (r := some 2) dX6_wakeAll_13 fl_X6_10 (by decide) rfl ko1 ro1_state ?_
  refine aw_invV (pc := 16) (md' := m_X2_wakeCards) (ci := 2) (as := []) dX6_wakeAll_16 mo_X2_wakeCards im_X2_wakeCards se_X2_wakeCards ml_X6_60 rfl ko1_state rfl hd (Nat.le_of_ble_eq_true rfl) (Nat.le_of_ble_eq_true rfl) (Nat.le_of_ble_eq_true rfl) ?_
  refine am_mono g (fun _ h2 _ ok_h2 g => ?_)
  obtain ⟨v3, rfl, ss_h2, g⟩ := g
  replace hL := QM.ss hL ss_h2
  obtain ⟨ko1, ro1_state, lo1_state, ro1_before, lo1_before, ro1_trial, lo1_trial, ro1_snapshot, lo1_snapshot, ro1_history, lo1_history, ro1_text, lo1_text⟩ := id hL
  obtain ⟨ko1_state, ro1_state_pocket, lo1_state_pocket, ro1_state_told, lo1_state_told, ro1_state_tally, lo1_state_tally, ro1_state_settings, ko1_state_settings⟩ := id lo1_state
  obtain ⟨ko1_state_pocket, ro1_state_pocket_names, ko1_state_pocket_names, ro1_state_pocket_asksToGo, ko1_state_pocket_asksToGo, ro1_state_pocket_tellings, ko1_state_pocket_tellings, ro1_state_pocket_slots, ko1_state_pocket_slots, ro1_state_pocket_awake, ko1_state_pocket_awake, ro1_state_pocket_answering, ko1_state_pocket_answering⟩ := id lo1_state_pocket
  obtain ⟨ko1_state_told, ro1_state_told_row, ko1_state_told_row⟩ := id lo1_state_told
  have ko1_state_tally := id lo1_state_tally
  obtain ⟨ko1_before, ro1_before_pocket, lo1_before_pocket, ro1_before_told, lo1_before_told, ro1_before_tally, lo1_before_tally, ro1_before_settings, ko1_before_settings⟩ := id lo1_before
  obtain ⟨ko1_before_pocket, ro1_before_pocket_names, ko1_before_pocket_names, ro1_before_pocket_asksToGo, ko1_before_pocket_asksToGo, ro1_before_pocket_tellings, ko1_before_pocket_tellings, ro1_before_pocket_slots, ko1_before_pocket_slots, ro1_before_pocket_awake, ko1_before_pocket_awake, ro1_before_pocket_answering, ko1_before_pocket_answering⟩ := id lo1_before_pocket
  obtain ⟨ko1_before_told, ro1_before_told_row, ko1_before_told_row⟩ := id lo1_before_told
  have ko1_before_tally := id lo1_before_tally
  obtain ⟨ko1_trial, ro1_trial_pocket, lo1_trial_pocket, ro1_trial_told, lo1_trial_told, ro1_trial_tally, lo1_trial_tally, ro1_trial_settings, ko1_trial_settings⟩ := id lo1_trial
  obtain ⟨ko1_trial_pocket, ro1_trial_pocket_names, ko1_trial_pocket_names, ro1_trial_pocket_asksToGo, ko1_trial_pocket_asksToGo, ro1_trial_pocket_tellings, ko1_trial_pocket_tellings, ro1_trial_pocket_slots, ko1_trial_pocket_slots, ro1_trial_pocket_awake, ko1_trial_pocket_awake, ro1_trial_pocket_answering, ko1_trial_pocket_answering⟩ := id lo1_trial_pocket
  obtain ⟨ko1_trial_told, ro1_trial_told_row, ko1_trial_told_row⟩ := id lo1_trial_told
  have ko1_trial_tally := id lo1_trial_tally
  obtain ⟨ko1_snapshot, ro1_snapshot_pocket, lo1_snapshot_pocket, ro1_snapshot_told, lo1_snapshot_told, ro1_snapshot_tally, lo1_snapshot_tally, ro1_snapshot_settings, ko1_snapshot_settings⟩ := id lo1_snapshot
  obtain ⟨ko1_snapshot_pocket, ro1_snapshot_pocket_names, ko1_snapshot_pocket_names, ro1_snapshot_pocket_asksToGo, ko1_snapshot_pocket_asksToGo, ro1_snapshot_pocket_tellings, ko1_snapshot_pocket_tellings, ro1_snapshot_pocket_slots, ko1_snapshot_pocket_slots, ro1_snapshot_pocket_awake, ko1_snapshot_pocket_awake, ro1_snapshot_pocket_answering, ko1_snapshot_pocket_answering⟩ := id lo1_snapshot_pocket
  obtain ⟨ko1_snapshot_told, ro1_snapshot_told_row, ko1_snapshot_told_row⟩ := id lo1_snapshot_told
  have ko1_snapshot_tally := id lo1_snapshot_tally
  obtain ⟨ko1_history, ro1_history_rows, ko1_history_rows⟩ := id lo1_history
  obtain ⟨ko1_text, ro1_text_characters, ko1_text_characters, ro1_text_kinds, ko1_text_kinds, ro1_text_numbers, ko1_text_numbers⟩ := id lo1_text
  show AW m_X6_wakeAll d none Q 19 [some (.inr (some 1))] [(.inl v3), (.inr (some 1))] h2 (0, 0)
  refine aw_invV (pc := 19) (md' := m_X6_recorded) (ci := 6) (as := [(.inl v3)]) dX6_wakeAll_19 mo_X6_recorded im_X6_recorded se_X6_recorded ml_X6_51 rfl ko1 rfl hd (Nat.le_of_ble_eq_true rfl) (Nat.le_of_ble_eq_true rfl) (Nat.le_of_ble_eq_true rfl) ?_
  refine am_mono g (fun _ h4 _ ok_h4 g => ?_)
  obtain ⟨v5, rfl, ss_h4, g⟩ := g
  replace hL := QM.sw hL ss_h4
  obtain ⟨ko1, ro1_state, lo1_state, ro1_before, lo1_before, ro1_trial, lo1_trial, ro1_snapshot, lo1_snapshot, ro1_history, lo1_history, ro1_text, lo1_text⟩ := id hL
  obtain ⟨ko1_state, ro1_state_pocket, lo1_state_pocket, ro1_state_told, lo1_state_told, ro1_state_tally, lo1_state_tally, ro1_state_settings, ko1_state_settings⟩ := id lo1_state
  obtain ⟨ko1_state_pocket, ro1_state_pocket_names, ko1_state_pocket_names, ro1_state_pocket_asksToGo, ko1_state_pocket_asksToGo, ro1_state_pocket_tellings, ko1_state_pocket_tellings, ro1_state_pocket_slots, ko1_state_pocket_slots, ro1_state_pocket_awake, ko1_state_pocket_awake, ro1_state_pocket_answering, ko1_state_pocket_answering⟩ := id lo1_state_pocket
  obtain ⟨ko1_state_told, ro1_state_told_row, ko1_state_told_row⟩ := id lo1_state_told
  have ko1_state_tally := id lo1_state_tally
  obtain ⟨ko1_before, ro1_before_pocket, lo1_before_pocket, ro1_before_told, lo1_before_told, ro1_before_tally, lo1_before_tally, ro1_before_settings, ko1_before_settings⟩ := id lo1_before
  obtain ⟨ko1_before_pocket, ro1_before_pocket_names, ko1_before_pocket_names, ro1_before_pocket_asksToGo, ko1_before_pocket_asksToGo, ro1_before_pocket_tellings, ko1_before_pocket_tellings, ro1_before_pocket_slots, ko1_before_pocket_slots, ro1_before_pocket_awake, ko1_before_pocket_awake, ro1_before_pocket_answering, ko1_before_pocket_answering⟩ := id lo1_before_pocket
  obtain ⟨ko1_before_told, ro1_before_told_row, ko1_before_told_row⟩ := id lo1_before_told
  have ko1_before_tally := id lo1_before_tally
  obtain ⟨ko1_trial, ro1_trial_pocket, lo1_trial_pocket, ro1_trial_told, lo1_trial_told, ro1_trial_tally, lo1_trial_tally, ro1_trial_settings, ko1_trial_settings⟩ := id lo1_trial
  obtain ⟨ko1_trial_pocket, ro1_trial_pocket_names, ko1_trial_pocket_names, ro1_trial_pocket_asksToGo, ko1_trial_pocket_asksToGo, ro1_trial_pocket_tellings, ko1_trial_pocket_tellings, ro1_trial_pocket_slots, ko1_trial_pocket_slots, ro1_trial_pocket_awake, ko1_trial_pocket_awake, ro1_trial_pocket_answering, ko1_trial_pocket_answering⟩ := id lo1_trial_pocket
  obtain ⟨ko1_trial_told, ro1_trial_told_row, ko1_trial_told_row⟩ := id lo1_trial_told
  have ko1_trial_tally := id lo1_trial_tally
  obtain ⟨ko1_snapshot, ro1_snapshot_pocket, lo1_snapshot_pocket, ro1_snapshot_told, lo1_snapshot_told, ro1_snapshot_tally, lo1_snapshot_tally, ro1_snapshot_settings, ko1_snapshot_settings⟩ := id lo1_snapshot
  obtain ⟨ko1_snapshot_pocket, ro1_snapshot_pocket_names, ko1_snapshot_pocket_names, ro1_snapshot_pocket_asksToGo, ko1_snapshot_pocket_asksToGo, ro1_snapshot_pocket_tellings, ko1_snapshot_pocket_tellings, ro1_snapshot_pocket_slots, ko1_snapshot_pocket_slots, ro1_snapshot_pocket_awake, ko1_snapshot_pocket_awake, ro1_snapshot_pocket_answering, ko1_snapshot_pocket_answering⟩ := id lo1_snapshot_pocket
  obtain ⟨ko1_snapshot_told, ro1_snapshot_told_row, ko1_snapshot_told_row⟩ := id lo1_snapshot_told
  have ko1_snapshot_tally := id lo1_snapshot_tally
  obtain ⟨ko1_history, ro1_history_rows, ko1_history_rows⟩ := id lo1_history
  obtain ⟨ko1_text, ro1_text_characters, ko1_text_characters, ro1_text_kinds, ko1_text_kinds, ro1_text_numbers, ko1_text_numbers⟩ := id lo1_text
  show AW m_X6_wakeAll d none Q 22 [some (.inr (some 1))] [(.inl v5)] h4 (0, 0)
  exact ax_ireturn (pc := 22) dX6_wakeAll_22 rfl g (by decide) (by decide)
set_option maxRecDepth 100000 in
set_option maxHeartbeats 4000000 in
theorem vc_X6_leave {d : Nat} {Q : Option Int → AH → Prop} {h : AH} {x1 x2 : Int} (hd : 1 ≤ d) (hL : QM h)
  (g :
    AM (d - 1) m_X2_copyFrom [(.inr (some 14)), (.inr (some 2))] h (fun r h1 => 
      r = none ∧ SS h h1 ∧
      AM (d - 1) m_X2_leaveBehind [(.inr (some 2)), (.inl x1), (.inl x2)] h1 (fun r h2 => 
        ∃ v3, r = some v3 ∧ SS h1 h2 ∧
        AM (d - 1) m_X6_recorded [(.inr (some 1)), (.inl v3)] h2 (fun r h4 => 
          ∃ v5, r = some v5 ∧ SW h2 h4 ∧
          Q (some v5) h4)))) :
  AM d m_X6_leave [(.inr (some 1)), (.inl x1), (.inl x2)] h Q := by
  refine am_body mo_X6_leave (Nat.le_of_ble_eq_true rfl) ?_
  show AW m_X6_leave d none Q 0 [some (.inr (some 1)), some (.inl x1), some (.inl x2)] [] h (0, 0)
  obtain ⟨ko1, ro1_state, lo1_state, ro1_before, lo1_before, ro1_trial, lo1_trial, ro1_snapshot, lo1_snapshot, ro1_history, lo1_history, ro1_text, lo1_text⟩ := id hL
  obtain ⟨ko1_state, ro1_state_pocket, lo1_state_pocket, ro1_state_told, lo1_state_told, ro1_state_tally, lo1_state_tally, ro1_state_settings, ko1_state_settings⟩ := id lo1_state
  obtain ⟨ko1_state_pocket, ro1_state_pocket_names, ko1_state_pocket_names, ro1_state_pocket_asksToGo, ko1_state_pocket_asksToGo, ro1_state_pocket_tellings, ko1_state_pocket_tellings, ro1_state_pocket_slots, ko1_state_pocket_slots, ro1_state_pocket_awake, ko1_state_pocket_awake, ro1_state_pocket_answering, ko1_state_pocket_answering⟩ := id lo1_state_pocket
  obtain ⟨ko1_state_told, ro1_state_told_row, ko1_state_told_row⟩ := id lo1_state_told
  have ko1_state_tally := id lo1_state_tally
  obtain ⟨ko1_before, ro1_before_pocket, lo1_before_pocket, ro1_before_told, lo1_before_told, ro1_before_tally, lo1_before_tally, ro1_before_settings, ko1_before_settings⟩ := id lo1_before
  obtain ⟨ko1_before_pocket, ro1_before_pocket_names, ko1_before_pocket_names, ro1_before_pocket_asksToGo, ko1_before_pocket_asksToGo, ro1_before_pocket_tellings, ko1_before_pocket_tellings, ro1_before_pocket_slots, ko1_before_pocket_slots, ro1_before_pocket_awake, ko1_before_pocket_awake, ro1_before_pocket_answering, ko1_before_pocket_answering⟩ := id lo1_before_pocket
  obtain ⟨ko1_before_told, ro1_before_told_row, ko1_before_told_row⟩ := id lo1_before_told
  have ko1_before_tally := id lo1_before_tally
  obtain ⟨ko1_trial, ro1_trial_pocket, lo1_trial_pocket, ro1_trial_told, lo1_trial_told, ro1_trial_tally, lo1_trial_tally, ro1_trial_settings, ko1_trial_settings⟩ := id lo1_trial
  obtain ⟨ko1_trial_pocket, ro1_trial_pocket_names, ko1_trial_pocket_names, ro1_trial_pocket_asksToGo, ko1_trial_pocket_asksToGo, ro1_trial_pocket_tellings, ko1_trial_pocket_tellings, ro1_trial_pocket_slots, ko1_trial_pocket_slots, ro1_trial_pocket_awake, ko1_trial_pocket_awake, ro1_trial_pocket_answering, ko1_trial_pocket_answering⟩ := id lo1_trial_pocket
  obtain ⟨ko1_trial_told, ro1_trial_told_row, ko1_trial_told_row⟩ := id lo1_trial_told
  have ko1_trial_tally := id lo1_trial_tally
  obtain ⟨ko1_snapshot, ro1_snapshot_pocket, lo1_snapshot_pocket, ro1_snapshot_told, lo1_snapshot_told, ro1_snapshot_tally, lo1_snapshot_tally, ro1_snapshot_settings, ko1_snapshot_settings⟩ := id lo1_snapshot
  obtain ⟨ko1_snapshot_pocket, ro1_snapshot_pocket_names, ko1_snapshot_pocket_names, ro1_snapshot_pocket_asksToGo, ko1_snapshot_pocket_asksToGo, ro1_snapshot_pocket_tellings, ko1_snapshot_pocket_tellings, ro1_snapshot_pocket_slots, ko1_snapshot_pocket_slots, ro1_snapshot_pocket_awake, ko1_snapshot_pocket_awake, ro1_snapshot_pocket_answering, ko1_snapshot_pocket_answering⟩ := id lo1_snapshot_pocket
  obtain ⟨ko1_snapshot_told, ro1_snapshot_told_row, ko1_snapshot_told_row⟩ := id lo1_snapshot_told
  have ko1_snapshot_tally := id lo1_snapshot_tally
  obtain ⟨ko1_history, ro1_history_rows, ko1_history_rows⟩ := id lo1_history
  obtain ⟨ko1_text, ro1_text_characters, ko1_text_characters, ro1_text_kinds, ko1_text_kinds, ro1_text_numbers, ko1_text_numbers⟩ := id lo1_text
  refine aw_aload_n (pc := 0) dX6_leave_0 rfl ?_
  refine aw_getr (pc := 1) (r := some 14) dX6_leave_1 fl_X6_16 (by decide) rfl ko1 ro1_before ?_
  refine aw_aload_n (pc := 4) dX6_leave_4 rfl ?_
  refine aw_getr (pc := 5) (r := some 2) dX6_leave_5 fl_X6_10 (by decide) rfl ko1 ro1_state ?_
  refine aw_invV (pc := 8) (md' := m_X2_copyFrom) (ci := 2) (as := [(.inr (some 2))]) dX6_leave_8 mo_X2_copyFrom im_X2_copyFrom se_X2_copyFrom ml_X6_43 rfl ko1_before rfl hd (Nat.le_of_ble_eq_true rfl) (Nat.le_of_ble_eq_true rfl) (Nat.le_of_ble_eq_true rfl) ?_
  refine am_mono g (fun _ h1 _ ok_h1 g => ?_)
  obtain ⟨rfl, ss_h1, g⟩ := g
  replace hL := QM.ss hL ss_h1
  obtain ⟨ko1, ro1_state, lo1_state, ro1_before, lo1_before, ro1_trial, lo1_trial, ro1_snapshot, lo1_snapshot, ro1_history, lo1_history, ro1_text, lo1_text⟩ := id hL
  obtain ⟨ko1_state, ro1_state_pocket, lo1_state_pocket, ro1_state_told, lo1_state_told, ro1_state_tally, lo1_state_tally, ro1_state_settings, ko1_state_settings⟩ := id lo1_state
  obtain ⟨ko1_state_pocket, ro1_state_pocket_names, ko1_state_pocket_names, ro1_state_pocket_asksToGo, ko1_state_pocket_asksToGo, ro1_state_pocket_tellings, ko1_state_pocket_tellings, ro1_state_pocket_slots, ko1_state_pocket_slots, ro1_state_pocket_awake, ko1_state_pocket_awake, ro1_state_pocket_answering, ko1_state_pocket_answering⟩ := id lo1_state_pocket
  obtain ⟨ko1_state_told, ro1_state_told_row, ko1_state_told_row⟩ := id lo1_state_told
  have ko1_state_tally := id lo1_state_tally
  obtain ⟨ko1_before, ro1_before_pocket, lo1_before_pocket, ro1_before_told, lo1_before_told, ro1_before_tally, lo1_before_tally, ro1_before_settings, ko1_before_settings⟩ := id lo1_before
  obtain ⟨ko1_before_pocket, ro1_before_pocket_names, ko1_before_pocket_names, ro1_before_pocket_asksToGo, ko1_before_pocket_asksToGo, ro1_before_pocket_tellings, ko1_before_pocket_tellings, ro1_before_pocket_slots, ko1_before_pocket_slots, ro1_before_pocket_awake, ko1_before_pocket_awake, ro1_before_pocket_answering, ko1_before_pocket_answering⟩ := id lo1_before_pocket
  obtain ⟨ko1_before_told, ro1_before_told_row, ko1_before_told_row⟩ := id lo1_before_told
  have ko1_before_tally := id lo1_before_tally
  obtain ⟨ko1_trial, ro1_trial_pocket, lo1_trial_pocket, ro1_trial_told, lo1_trial_told, ro1_trial_tally, lo1_trial_tally, ro1_trial_settings, ko1_trial_settings⟩ := id lo1_trial
  obtain ⟨ko1_trial_pocket, ro1_trial_pocket_names, ko1_trial_pocket_names, ro1_trial_pocket_asksToGo, ko1_trial_pocket_asksToGo, ro1_trial_pocket_tellings, ko1_trial_pocket_tellings, ro1_trial_pocket_slots, ko1_trial_pocket_slots, ro1_trial_pocket_awake, ko1_trial_pocket_awake, ro1_trial_pocket_answering, ko1_trial_pocket_answering⟩ := id lo1_trial_pocket
  obtain ⟨ko1_trial_told, ro1_trial_told_row, ko1_trial_told_row⟩ := id lo1_trial_told
  have ko1_trial_tally := id lo1_trial_tally
  obtain ⟨ko1_snapshot, ro1_snapshot_pocket, lo1_snapshot_pocket, ro1_snapshot_told, lo1_snapshot_told, ro1_snapshot_tally, lo1_snapshot_tally, ro1_snapshot_settings, ko1_snapshot_settings⟩ := id lo1_snapshot
  obtain ⟨ko1_snapshot_pocket, ro1_snapshot_pocket_names, ko1_snapshot_pocket_names, ro1_snapshot_pocket_asksToGo, ko1_snapshot_pocket_asksToGo, ro1_snapshot_pocket_tellings, ko1_snapshot_pocket_tellings, ro1_snapshot_pocket_slots, ko1_snapshot_pocket_slots, ro1_snapshot_pocket_awake, ko1_snapshot_pocket_awake, ro1_snapshot_pocket_answering, ko1_snapshot_pocket_answering⟩ := id lo1_snapshot_pocket
  obtain ⟨ko1_snapshot_told, ro1_snapshot_told_row, ko1_snapshot_told_row⟩ := id lo1_snapshot_told
  have ko1_snapshot_tally := id lo1_snapshot_tally
  obtain ⟨ko1_history, ro1_history_rows, ko1_history_rows⟩ := id lo1_history
  obtain ⟨ko1_text, ro1_text_characters, ko1_text_characters, ro1_text_kinds, ko1_text_kinds, ro1_text_numbers, ko1_text_numbers⟩ := id lo1_text
  show AW m_X6_leave d none Q 11 [some (.inr (some 1)), some (.inl x1), some (.inl x2)] [] h1 (0, 0)
  refine aw_aload_n (pc := 11) dX6_leave_11 rfl ?_
  refine aw_aload_n (pc := 12) dX6_leave_12 rfl ?_
  refine aw_getr (pc := 13) (r := some 2) dX6_leave_13 fl_X6_10 (by decide) rfl ko1 ro1_state ?_
  refine aw_iload_n (pc := 16) dX6_leave_16 rfl ?_
  refine aw_iload_n (pc := 17) dX6_leave_17 rfl ?_
  refine aw_invV (pc := 18) (md' := m_X2_leaveBehind) (ci := 2) (as := [(.inl x1), (.inl x2)]) dX6_leave_18 mo_X2_leaveBehind im_X2_leaveBehind se_X2_leaveBehind ml_X6_64 rfl ko1_state rfl hd (Nat.le_of_ble_eq_true rfl) (Nat.le_of_ble_eq_true rfl) (Nat.le_of_ble_eq_true rfl) ?_
  refine am_mono g (fun _ h2 _ ok_h2 g => ?_)
  obtain ⟨v3, rfl, ss_h2, g⟩ := g
  replace hL := QM.ss hL ss_h2
  obtain ⟨ko1, ro1_state, lo1_state, ro1_before, lo1_before, ro1_trial, lo1_trial, ro1_snapshot, lo1_snapshot, ro1_history, lo1_history, ro1_text, lo1_text⟩ := id hL
  obtain ⟨ko1_state, ro1_state_pocket, lo1_state_pocket, ro1_state_told, lo1_state_told, ro1_state_tally, lo1_state_tally, ro1_state_settings, ko1_state_settings⟩ := id lo1_state
  obtain ⟨ko1_state_pocket, ro1_state_pocket_names, ko1_state_pocket_names, ro1_state_pocket_asksToGo, ko1_state_pocket_asksToGo, ro1_state_pocket_tellings, ko1_state_pocket_tellings, ro1_state_pocket_slots, ko1_state_pocket_slots, ro1_state_pocket_awake, ko1_state_pocket_awake, ro1_state_pocket_answering, ko1_state_pocket_answering⟩ := id lo1_state_pocket
  obtain ⟨ko1_state_told, ro1_state_told_row, ko1_state_told_row⟩ := id lo1_state_told
  have ko1_state_tally := id lo1_state_tally
  obtain ⟨ko1_before, ro1_before_pocket, lo1_before_pocket, ro1_before_told, lo1_before_told, ro1_before_tally, lo1_before_tally, ro1_before_settings, ko1_before_settings⟩ := id lo1_before
  obtain ⟨ko1_before_pocket, ro1_before_pocket_names, ko1_before_pocket_names, ro1_before_pocket_asksToGo, ko1_before_pocket_asksToGo, ro1_before_pocket_tellings, ko1_before_pocket_tellings, ro1_before_pocket_slots, ko1_before_pocket_slots, ro1_before_pocket_awake, ko1_before_pocket_awake, ro1_before_pocket_answering, ko1_before_pocket_answering⟩ := id lo1_before_pocket
  obtain ⟨ko1_before_told, ro1_before_told_row, ko1_before_told_row⟩ := id lo1_before_told
  have ko1_before_tally := id lo1_before_tally
  obtain ⟨ko1_trial, ro1_trial_pocket, lo1_trial_pocket, ro1_trial_told, lo1_trial_told, ro1_trial_tally, lo1_trial_tally, ro1_trial_settings, ko1_trial_settings⟩ := id lo1_trial
  obtain ⟨ko1_trial_pocket, ro1_trial_pocket_names, ko1_trial_pocket_names, ro1_trial_pocket_asksToGo, ko1_trial_pocket_asksToGo, ro1_trial_pocket_tellings, ko1_trial_pocket_tellings, ro1_trial_pocket_slots, ko1_trial_pocket_slots, ro1_trial_pocket_awake, ko1_trial_pocket_awake, ro1_trial_pocket_answering, ko1_trial_pocket_answering⟩ := id lo1_trial_pocket
  obtain ⟨ko1_trial_told, ro1_trial_told_row, ko1_trial_told_row⟩ := id lo1_trial_told
  have ko1_trial_tally := id lo1_trial_tally
  obtain ⟨ko1_snapshot, ro1_snapshot_pocket, lo1_snapshot_pocket, ro1_snapshot_told, lo1_snapshot_told, ro1_snapshot_tally, lo1_snapshot_tally, ro1_snapshot_settings, ko1_snapshot_settings⟩ := id lo1_snapshot
  obtain ⟨ko1_snapshot_pocket, ro1_snapshot_pocket_names, ko1_snapshot_pocket_names, ro1_snapshot_pocket_asksToGo, ko1_snapshot_pocket_asksToGo, ro1_snapshot_pocket_tellings, ko1_snapshot_pocket_tellings, ro1_snapshot_pocket_slots, ko1_snapshot_pocket_slots, ro1_snapshot_pocket_awake, ko1_snapshot_pocket_awake, ro1_snapshot_pocket_answering, ko1_snapshot_pocket_answering⟩ := id lo1_snapshot_pocket
  obtain ⟨ko1_snapshot_told, ro1_snapshot_told_row, ko1_snapshot_told_row⟩ := id lo1_snapshot_told
  have ko1_snapshot_tally := id lo1_snapshot_tally
  obtain ⟨ko1_history, ro1_history_rows, ko1_history_rows⟩ := id lo1_history
  obtain ⟨ko1_text, ro1_text_characters, ko1_text_characters, ro1_text_kinds, ko1_text_kinds, ro1_text_numbers, ko1_text_numbers⟩ := id lo1_text
  show AW m_X6_leave d none Q 21 [some (.inr (some 1)), some (.inl x1), some (.inl x2)] [(.inl v3), (.inr (some 1))] h2 (0, 0)
  refine aw_invV (pc := 21) (md' := m_X6_recorded) (ci := 6) (as := [(.inl v3)]) dX6_leave_21 mo_X6_recorded im_X6_recorded se_X6_recorded ml_X6_51 rfl ko1 rfl hd (Nat.le_of_ble_eq_true rfl) (Nat.le_of_ble_eq_true rfl) (Nat.le_of_ble_eq_true rfl) ?_
  refine am_mono g (fun _ h4 _ ok_h4 g => ?_)
  obtain ⟨v5, rfl, ss_h4, g⟩ := g
  replace hL := QM.sw hL ss_h4
  obtain ⟨ko1, ro1_state, lo1_state, ro1_before, lo1_before, ro1_trial, lo1_trial, ro1_snapshot, lo1_snapshot, ro1_history, lo1_history, ro1_text, lo1_text⟩ := id hL
  obtain ⟨ko1_state, ro1_state_pocket, lo1_state_pocket, ro1_state_told, lo1_state_told, ro1_state_tally, lo1_state_tally, ro1_state_settings, ko1_state_settings⟩ := id lo1_state
  obtain ⟨ko1_state_pocket, ro1_state_pocket_names, ko1_state_pocket_names, ro1_state_pocket_asksToGo, ko1_state_pocket_asksToGo, ro1_state_pocket_tellings, ko1_state_pocket_tellings, ro1_state_pocket_slots, ko1_state_pocket_slots, ro1_state_pocket_awake, ko1_state_pocket_awake, ro1_state_pocket_answering, ko1_state_pocket_answering⟩ := id lo1_state_pocket
  obtain ⟨ko1_state_told, ro1_state_told_row, ko1_state_told_row⟩ := id lo1_state_told
  have ko1_state_tally := id lo1_state_tally
  obtain ⟨ko1_before, ro1_before_pocket, lo1_before_pocket, ro1_before_told, lo1_before_told, ro1_before_tally, lo1_before_tally, ro1_before_settings, ko1_before_settings⟩ := id lo1_before
  obtain ⟨ko1_before_pocket, ro1_before_pocket_names, ko1_before_pocket_names, ro1_before_pocket_asksToGo, ko1_before_pocket_asksToGo, ro1_before_pocket_tellings, ko1_before_pocket_tellings, ro1_before_pocket_slots, ko1_before_pocket_slots, ro1_before_pocket_awake, ko1_before_pocket_awake, ro1_before_pocket_answering, ko1_before_pocket_answering⟩ := id lo1_before_pocket
  obtain ⟨ko1_before_told, ro1_before_told_row, ko1_before_told_row⟩ := id lo1_before_told
  have ko1_before_tally := id lo1_before_tally
  obtain ⟨ko1_trial, ro1_trial_pocket, lo1_trial_pocket, ro1_trial_told, lo1_trial_told, ro1_trial_tally, lo1_trial_tally, ro1_trial_settings, ko1_trial_settings⟩ := id lo1_trial
  obtain ⟨ko1_trial_pocket, ro1_trial_pocket_names, ko1_trial_pocket_names, ro1_trial_pocket_asksToGo, ko1_trial_pocket_asksToGo, ro1_trial_pocket_tellings, ko1_trial_pocket_tellings, ro1_trial_pocket_slots, ko1_trial_pocket_slots, ro1_trial_pocket_awake, ko1_trial_pocket_awake, ro1_trial_pocket_answering, ko1_trial_pocket_answering⟩ := id lo1_trial_pocket
  obtain ⟨ko1_trial_told, ro1_trial_told_row, ko1_trial_told_row⟩ := id lo1_trial_told
  have ko1_trial_tally := id lo1_trial_tally
  obtain ⟨ko1_snapshot, ro1_snapshot_pocket, lo1_snapshot_pocket, ro1_snapshot_told, lo1_snapshot_told, ro1_snapshot_tally, lo1_snapshot_tally, ro1_snapshot_settings, ko1_snapshot_settings⟩ := id lo1_snapshot
  obtain ⟨ko1_snapshot_pocket, ro1_snapshot_pocket_names, ko1_snapshot_pocket_names, ro1_snapshot_pocket_asksToGo, ko1_snapshot_pocket_asksToGo, ro1_snapshot_pocket_tellings, ko1_snapshot_pocket_tellings, ro1_snapshot_pocket_slots, ko1_snapshot_pocket_slots, ro1_snapshot_pocket_awake, ko1_snapshot_pocket_awake, ro1_snapshot_pocket_answering, ko1_snapshot_pocket_answering⟩ := id lo1_snapshot_pocket
  obtain ⟨ko1_snapshot_told, ro1_snapshot_told_row, ko1_snapshot_told_row⟩ := id lo1_snapshot_told
  have ko1_snapshot_tally := id lo1_snapshot_tally
  obtain ⟨ko1_history, ro1_history_rows, ko1_history_rows⟩ := id lo1_history
  obtain ⟨ko1_text, ro1_text_characters, ko1_text_characters, ro1_text_kinds, ko1_text_kinds, ro1_text_numbers, ko1_text_numbers⟩ := id lo1_text
  show AW m_X6_leave d none Q 24 [some (.inr (some 1)), some (.inl x1), some (.inl x2)] [(.inl v5)] h4 (0, 0)
  exact ax_ireturn (pc := 24) dX6_leave_24 rfl g (by decide) (by decide)
set_option maxRecDepth 100000 in
set_option maxHeartbeats 4000000 in
theorem vc_X6_set {d : Nat} {Q : Option Int → AH → Prop} {h : AH} {x1 x2 : Int} (hd : 1 ≤ d) (hL : QM h)
  (g :
    AM (d - 1) m_X2_copyFrom [(.inr (some 14)), (.inr (some 2))] h (fun r h1 => 
      r = none ∧ SS h h1 ∧
      AM (d - 1) m_X2_setTo [(.inr (some 2)), (.inl x1), (.inl x2)] h1 (fun r h2 => 
        ∃ v3, r = some v3 ∧ SS h1 h2 ∧
        AM (d - 1) m_X6_recorded [(.inr (some 1)), (.inl v3)] h2 (fun r h4 => 
          ∃ v5, r = some v5 ∧ SW h2 h4 ∧
          Q (some v5) h4)))) :
  AM d m_X6_set [(.inr (some 1)), (.inl x1), (.inl x2)] h Q := by
  refine am_body mo_X6_set (Nat.le_of_ble_eq_true rfl) ?_
  show AW m_X6_set d none Q 0 [some (.inr (some 1)), some (.inl x1), some (.inl x2)] [] h (0, 0)
  obtain ⟨ko1, ro1_state, lo1_state, ro1_before, lo1_before, ro1_trial, lo1_trial, ro1_snapshot, lo1_snapshot, ro1_history, lo1_history, ro1_text, lo1_text⟩ := id hL
  obtain ⟨ko1_state, ro1_state_pocket, lo1_state_pocket, ro1_state_told, lo1_state_told, ro1_state_tally, lo1_state_tally, ro1_state_settings, ko1_state_settings⟩ := id lo1_state
  obtain ⟨ko1_state_pocket, ro1_state_pocket_names, ko1_state_pocket_names, ro1_state_pocket_asksToGo, ko1_state_pocket_asksToGo, ro1_state_pocket_tellings, ko1_state_pocket_tellings, ro1_state_pocket_slots, ko1_state_pocket_slots, ro1_state_pocket_awake, ko1_state_pocket_awake, ro1_state_pocket_answering, ko1_state_pocket_answering⟩ := id lo1_state_pocket
  obtain ⟨ko1_state_told, ro1_state_told_row, ko1_state_told_row⟩ := id lo1_state_told
  have ko1_state_tally := id lo1_state_tally
  obtain ⟨ko1_before, ro1_before_pocket, lo1_before_pocket, ro1_before_told, lo1_before_told, ro1_before_tally, lo1_before_tally, ro1_before_settings, ko1_before_settings⟩ := id lo1_before
  obtain ⟨ko1_before_pocket, ro1_before_pocket_names, ko1_before_pocket_names, ro1_before_pocket_asksToGo, ko1_before_pocket_asksToGo, ro1_before_pocket_tellings, ko1_before_pocket_tellings, ro1_before_pocket_slots, ko1_before_pocket_slots, ro1_before_pocket_awake, ko1_before_pocket_awake, ro1_before_pocket_answering, ko1_before_pocket_answering⟩ := id lo1_before_pocket
  obtain ⟨ko1_before_told, ro1_before_told_row, ko1_before_told_row⟩ := id lo1_before_told
  have ko1_before_tally := id lo1_before_tally
  obtain ⟨ko1_trial, ro1_trial_pocket, lo1_trial_pocket, ro1_trial_told, lo1_trial_told, ro1_trial_tally, lo1_trial_tally, ro1_trial_settings, ko1_trial_settings⟩ := id lo1_trial
  obtain ⟨ko1_trial_pocket, ro1_trial_pocket_names, ko1_trial_pocket_names, ro1_trial_pocket_asksToGo, ko1_trial_pocket_asksToGo, ro1_trial_pocket_tellings, ko1_trial_pocket_tellings, ro1_trial_pocket_slots, ko1_trial_pocket_slots, ro1_trial_pocket_awake, ko1_trial_pocket_awake, ro1_trial_pocket_answering, ko1_trial_pocket_answering⟩ := id lo1_trial_pocket
  obtain ⟨ko1_trial_told, ro1_trial_told_row, ko1_trial_told_row⟩ := id lo1_trial_told
  have ko1_trial_tally := id lo1_trial_tally
  obtain ⟨ko1_snapshot, ro1_snapshot_pocket, lo1_snapshot_pocket, ro1_snapshot_told, lo1_snapshot_told, ro1_snapshot_tally, lo1_snapshot_tally, ro1_snapshot_settings, ko1_snapshot_settings⟩ := id lo1_snapshot
  obtain ⟨ko1_snapshot_pocket, ro1_snapshot_pocket_names, ko1_snapshot_pocket_names, ro1_snapshot_pocket_asksToGo, ko1_snapshot_pocket_asksToGo, ro1_snapshot_pocket_tellings, ko1_snapshot_pocket_tellings, ro1_snapshot_pocket_slots, ko1_snapshot_pocket_slots, ro1_snapshot_pocket_awake, ko1_snapshot_pocket_awake, ro1_snapshot_pocket_answering, ko1_snapshot_pocket_answering⟩ := id lo1_snapshot_pocket
  obtain ⟨ko1_snapshot_told, ro1_snapshot_told_row, ko1_snapshot_told_row⟩ := id lo1_snapshot_told
  have ko1_snapshot_tally := id lo1_snapshot_tally
  obtain ⟨ko1_history, ro1_history_rows, ko1_history_rows⟩ := id lo1_history
  obtain ⟨ko1_text, ro1_text_characters, ko1_text_characters, ro1_text_kinds, ko1_text_kinds, ro1_text_numbers, ko1_text_numbers⟩ := id lo1_text
  refine aw_aload_n (pc := 0) dX6_set_0 rfl ?_
  refine aw_getr (pc := 1) (r := some 14) dX6_set_1 fl_X6_16 (by decide) rfl ko1 ro1_before ?_
  refine aw_aload_n (pc := 4) dX6_set_4 rfl ?_
  refine aw_getr (pc := 5) (r := some 2) dX6_set_5 fl_X6_10 (by decide) rfl ko1 ro1_state ?_
  refine aw_invV (pc := 8) (md' := m_X2_copyFrom) (ci := 2) (as := [(.inr (some 2))]) dX6_set_8 mo_X2_copyFrom im_X2_copyFrom se_X2_copyFrom ml_X6_43 rfl ko1_before rfl hd (Nat.le_of_ble_eq_true rfl) (Nat.le_of_ble_eq_true rfl) (Nat.le_of_ble_eq_true rfl) ?_
  refine am_mono g (fun _ h1 _ ok_h1 g => ?_)
  obtain ⟨rfl, ss_h1, g⟩ := g
  replace hL := QM.ss hL ss_h1
  obtain ⟨ko1, ro1_state, lo1_state, ro1_before, lo1_before, ro1_trial, lo1_trial, ro1_snapshot, lo1_snapshot, ro1_history, lo1_history, ro1_text, lo1_text⟩ := id hL
  obtain ⟨ko1_state, ro1_state_pocket, lo1_state_pocket, ro1_state_told, lo1_state_told, ro1_state_tally, lo1_state_tally, ro1_state_settings, ko1_state_settings⟩ := id lo1_state
  obtain ⟨ko1_state_pocket, ro1_state_pocket_names, ko1_state_pocket_names, ro1_state_pocket_asksToGo, ko1_state_pocket_asksToGo, ro1_state_pocket_tellings, ko1_state_pocket_tellings, ro1_state_pocket_slots, ko1_state_pocket_slots, ro1_state_pocket_awake, ko1_state_pocket_awake, ro1_state_pocket_answering, ko1_state_pocket_answering⟩ := id lo1_state_pocket
  obtain ⟨ko1_state_told, ro1_state_told_row, ko1_state_told_row⟩ := id lo1_state_told
  have ko1_state_tally := id lo1_state_tally
  obtain ⟨ko1_before, ro1_before_pocket, lo1_before_pocket, ro1_before_told, lo1_before_told, ro1_before_tally, lo1_before_tally, ro1_before_settings, ko1_before_settings⟩ := id lo1_before
  obtain ⟨ko1_before_pocket, ro1_before_pocket_names, ko1_before_pocket_names, ro1_before_pocket_asksToGo, ko1_before_pocket_asksToGo, ro1_before_pocket_tellings, ko1_before_pocket_tellings, ro1_before_pocket_slots, ko1_before_pocket_slots, ro1_before_pocket_awake, ko1_before_pocket_awake, ro1_before_pocket_answering, ko1_before_pocket_answering⟩ := id lo1_before_pocket
  obtain ⟨ko1_before_told, ro1_before_told_row, ko1_before_told_row⟩ := id lo1_before_told
  have ko1_before_tally := id lo1_before_tally
  obtain ⟨ko1_trial, ro1_trial_pocket, lo1_trial_pocket, ro1_trial_told, lo1_trial_told, ro1_trial_tally, lo1_trial_tally, ro1_trial_settings, ko1_trial_settings⟩ := id lo1_trial
  obtain ⟨ko1_trial_pocket, ro1_trial_pocket_names, ko1_trial_pocket_names, ro1_trial_pocket_asksToGo, ko1_trial_pocket_asksToGo, ro1_trial_pocket_tellings, ko1_trial_pocket_tellings, ro1_trial_pocket_slots, ko1_trial_pocket_slots, ro1_trial_pocket_awake, ko1_trial_pocket_awake, ro1_trial_pocket_answering, ko1_trial_pocket_answering⟩ := id lo1_trial_pocket
  obtain ⟨ko1_trial_told, ro1_trial_told_row, ko1_trial_told_row⟩ := id lo1_trial_told
  have ko1_trial_tally := id lo1_trial_tally
  obtain ⟨ko1_snapshot, ro1_snapshot_pocket, lo1_snapshot_pocket, ro1_snapshot_told, lo1_snapshot_told, ro1_snapshot_tally, lo1_snapshot_tally, ro1_snapshot_settings, ko1_snapshot_settings⟩ := id lo1_snapshot
  obtain ⟨ko1_snapshot_pocket, ro1_snapshot_pocket_names, ko1_snapshot_pocket_names, ro1_snapshot_pocket_asksToGo, ko1_snapshot_pocket_asksToGo, ro1_snapshot_pocket_tellings, ko1_snapshot_pocket_tellings, ro1_snapshot_pocket_slots, ko1_snapshot_pocket_slots, ro1_snapshot_pocket_awake, ko1_snapshot_pocket_awake, ro1_snapshot_pocket_answering, ko1_snapshot_pocket_answering⟩ := id lo1_snapshot_pocket
  obtain ⟨ko1_snapshot_told, ro1_snapshot_told_row, ko1_snapshot_told_row⟩ := id lo1_snapshot_told
  have ko1_snapshot_tally := id lo1_snapshot_tally
  obtain ⟨ko1_history, ro1_history_rows, ko1_history_rows⟩ := id lo1_history
  obtain ⟨ko1_text, ro1_text_characters, ko1_text_characters, ro1_text_kinds, ko1_text_kinds, ro1_text_numbers, ko1_text_numbers⟩ := id lo1_text
  show AW m_X6_set d none Q 11 [some (.inr (some 1)), some (.inl x1), some (.inl x2)] [] h1 (0, 0)
  refine aw_aload_n (pc := 11) dX6_set_11 rfl ?_
  refine aw_aload_n (pc := 12) dX6_set_12 rfl ?_
  refine aw_getr (pc := 13) (r := some 2) dX6_set_13 fl_X6_10 (by decide) rfl ko1 ro1_state ?_
  refine aw_iload_n (pc := 16) dX6_set_16 rfl ?_
  refine aw_iload_n (pc := 17) dX6_set_17 rfl ?_
  refine aw_invV (pc := 18) (md' := m_X2_setTo) (ci := 2) (as := [(.inl x1), (.inl x2)]) dX6_set_18 mo_X2_setTo im_X2_setTo se_X2_setTo ml_X6_68 rfl ko1_state rfl hd (Nat.le_of_ble_eq_true rfl) (Nat.le_of_ble_eq_true rfl) (Nat.le_of_ble_eq_true rfl) ?_
  refine am_mono g (fun _ h2 _ ok_h2 g => ?_)
  obtain ⟨v3, rfl, ss_h2, g⟩ := g
  replace hL := QM.ss hL ss_h2
  obtain ⟨ko1, ro1_state, lo1_state, ro1_before, lo1_before, ro1_trial, lo1_trial, ro1_snapshot, lo1_snapshot, ro1_history, lo1_history, ro1_text, lo1_text⟩ := id hL
  obtain ⟨ko1_state, ro1_state_pocket, lo1_state_pocket, ro1_state_told, lo1_state_told, ro1_state_tally, lo1_state_tally, ro1_state_settings, ko1_state_settings⟩ := id lo1_state
  obtain ⟨ko1_state_pocket, ro1_state_pocket_names, ko1_state_pocket_names, ro1_state_pocket_asksToGo, ko1_state_pocket_asksToGo, ro1_state_pocket_tellings, ko1_state_pocket_tellings, ro1_state_pocket_slots, ko1_state_pocket_slots, ro1_state_pocket_awake, ko1_state_pocket_awake, ro1_state_pocket_answering, ko1_state_pocket_answering⟩ := id lo1_state_pocket
  obtain ⟨ko1_state_told, ro1_state_told_row, ko1_state_told_row⟩ := id lo1_state_told
  have ko1_state_tally := id lo1_state_tally
  obtain ⟨ko1_before, ro1_before_pocket, lo1_before_pocket, ro1_before_told, lo1_before_told, ro1_before_tally, lo1_before_tally, ro1_before_settings, ko1_before_settings⟩ := id lo1_before
  obtain ⟨ko1_before_pocket, ro1_before_pocket_names, ko1_before_pocket_names, ro1_before_pocket_asksToGo, ko1_before_pocket_asksToGo, ro1_before_pocket_tellings, ko1_before_pocket_tellings, ro1_before_pocket_slots, ko1_before_pocket_slots, ro1_before_pocket_awake, ko1_before_pocket_awake, ro1_before_pocket_answering, ko1_before_pocket_answering⟩ := id lo1_before_pocket
  obtain ⟨ko1_before_told, ro1_before_told_row, ko1_before_told_row⟩ := id lo1_before_told
  have ko1_before_tally := id lo1_before_tally
  obtain ⟨ko1_trial, ro1_trial_pocket, lo1_trial_pocket, ro1_trial_told, lo1_trial_told, ro1_trial_tally, lo1_trial_tally, ro1_trial_settings, ko1_trial_settings⟩ := id lo1_trial
  obtain ⟨ko1_trial_pocket, ro1_trial_pocket_names, ko1_trial_pocket_names, ro1_trial_pocket_asksToGo, ko1_trial_pocket_asksToGo, ro1_trial_pocket_tellings, ko1_trial_pocket_tellings, ro1_trial_pocket_slots, ko1_trial_pocket_slots, ro1_trial_pocket_awake, ko1_trial_pocket_awake, ro1_trial_pocket_answering, ko1_trial_pocket_answering⟩ := id lo1_trial_pocket
  obtain ⟨ko1_trial_told, ro1_trial_told_row, ko1_trial_told_row⟩ := id lo1_trial_told
  have ko1_trial_tally := id lo1_trial_tally
  obtain ⟨ko1_snapshot, ro1_snapshot_pocket, lo1_snapshot_pocket, ro1_snapshot_told, lo1_snapshot_told, ro1_snapshot_tally, lo1_snapshot_tally, ro1_snapshot_settings, ko1_snapshot_settings⟩ := id lo1_snapshot
  obtain ⟨ko1_snapshot_pocket, ro1_snapshot_pocket_names, ko1_snapshot_pocket_names, ro1_snapshot_pocket_asksToGo, ko1_snapshot_pocket_asksToGo, ro1_snapshot_pocket_tellings, ko1_snapshot_pocket_tellings, ro1_snapshot_pocket_slots, ko1_snapshot_pocket_slots, ro1_snapshot_pocket_awake, ko1_snapshot_pocket_awake, ro1_snapshot_pocket_answering, ko1_snapshot_pocket_answering⟩ := id lo1_snapshot_pocket
  obtain ⟨ko1_snapshot_told, ro1_snapshot_told_row, ko1_snapshot_told_row⟩ := id lo1_snapshot_told
  have ko1_snapshot_tally := id lo1_snapshot_tally
  obtain ⟨ko1_history, ro1_history_rows, ko1_history_rows⟩ := id lo1_history
  obtain ⟨ko1_text, ro1_text_characters, ko1_text_characters, ro1_text_kinds, ko1_text_kinds, ro1_text_numbers, ko1_text_numbers⟩ := id lo1_text
  show AW m_X6_set d none Q 21 [some (.inr (some 1)), some (.inl x1), some (.inl x2)] [(.inl v3), (.inr (some 1))] h2 (0, 0)
  refine aw_invV (pc := 21) (md' := m_X6_recorded) (ci := 6) (as := [(.inl v3)]) dX6_set_21 mo_X6_recorded im_X6_recorded se_X6_recorded ml_X6_51 rfl ko1 rfl hd (Nat.le_of_ble_eq_true rfl) (Nat.le_of_ble_eq_true rfl) (Nat.le_of_ble_eq_true rfl) ?_
  refine am_mono g (fun _ h4 _ ok_h4 g => ?_)
  obtain ⟨v5, rfl, ss_h4, g⟩ := g
  replace hL := QM.sw hL ss_h4
  obtain ⟨ko1, ro1_state, lo1_state, ro1_before, lo1_before, ro1_trial, lo1_trial, ro1_snapshot, lo1_snapshot, ro1_history, lo1_history, ro1_text, lo1_text⟩ := id hL
  obtain ⟨ko1_state, ro1_state_pocket, lo1_state_pocket, ro1_state_told, lo1_state_told, ro1_state_tally, lo1_state_tally, ro1_state_settings, ko1_state_settings⟩ := id lo1_state
  obtain ⟨ko1_state_pocket, ro1_state_pocket_names, ko1_state_pocket_names, ro1_state_pocket_asksToGo, ko1_state_pocket_asksToGo, ro1_state_pocket_tellings, ko1_state_pocket_tellings, ro1_state_pocket_slots, ko1_state_pocket_slots, ro1_state_pocket_awake, ko1_state_pocket_awake, ro1_state_pocket_answering, ko1_state_pocket_answering⟩ := id lo1_state_pocket
  obtain ⟨ko1_state_told, ro1_state_told_row, ko1_state_told_row⟩ := id lo1_state_told
  have ko1_state_tally := id lo1_state_tally
  obtain ⟨ko1_before, ro1_before_pocket, lo1_before_pocket, ro1_before_told, lo1_before_told, ro1_before_tally, lo1_before_tally, ro1_before_settings, ko1_before_settings⟩ := id lo1_before
  obtain ⟨ko1_before_pocket, ro1_before_pocket_names, ko1_before_pocket_names, ro1_before_pocket_asksToGo, ko1_before_pocket_asksToGo, ro1_before_pocket_tellings, ko1_before_pocket_tellings, ro1_before_pocket_slots, ko1_before_pocket_slots, ro1_before_pocket_awake, ko1_before_pocket_awake, ro1_before_pocket_answering, ko1_before_pocket_answering⟩ := id lo1_before_pocket
  obtain ⟨ko1_before_told, ro1_before_told_row, ko1_before_told_row⟩ := id lo1_before_told
  have ko1_before_tally := id lo1_before_tally
  obtain ⟨ko1_trial, ro1_trial_pocket, lo1_trial_pocket, ro1_trial_told, lo1_trial_told, ro1_trial_tally, lo1_trial_tally, ro1_trial_settings, ko1_trial_settings⟩ := id lo1_trial
  obtain ⟨ko1_trial_pocket, ro1_trial_pocket_names, ko1_trial_pocket_names, ro1_trial_pocket_asksToGo, ko1_trial_pocket_asksToGo, ro1_trial_pocket_tellings, ko1_trial_pocket_tellings, ro1_trial_pocket_slots, ko1_trial_pocket_slots, ro1_trial_pocket_awake, ko1_trial_pocket_awake, ro1_trial_pocket_answering, ko1_trial_pocket_answering⟩ := id lo1_trial_pocket
  obtain ⟨ko1_trial_told, ro1_trial_told_row, ko1_trial_told_row⟩ := id lo1_trial_told
  have ko1_trial_tally := id lo1_trial_tally
  obtain ⟨ko1_snapshot, ro1_snapshot_pocket, lo1_snapshot_pocket, ro1_snapshot_told, lo1_snapshot_told, ro1_snapshot_tally, lo1_snapshot_tally, ro1_snapshot_settings, ko1_snapshot_settings⟩ := id lo1_snapshot
  obtain ⟨ko1_snapshot_pocket, ro1_snapshot_pocket_names, ko1_snapshot_pocket_names, ro1_snapshot_pocket_asksToGo, ko1_snapshot_pocket_asksToGo, ro1_snapshot_pocket_tellings, ko1_snapshot_pocket_tellings, ro1_snapshot_pocket_slots, ko1_snapshot_pocket_slots, ro1_snapshot_pocket_awake, ko1_snapshot_pocket_awake, ro1_snapshot_pocket_answering, ko1_snapshot_pocket_answering⟩ := id lo1_snapshot_pocket
  obtain ⟨ko1_snapshot_told, ro1_snapshot_told_row, ko1_snapshot_told_row⟩ := id lo1_snapshot_told
  have ko1_snapshot_tally := id lo1_snapshot_tally
  obtain ⟨ko1_history, ro1_history_rows, ko1_history_rows⟩ := id lo1_history
  obtain ⟨ko1_text, ro1_text_characters, ko1_text_characters, ro1_text_kinds, ko1_text_kinds, ro1_text_numbers, ko1_text_numbers⟩ := id lo1_text
  show AW m_X6_set d none Q 24 [some (.inr (some 1)), some (.inl x1), some (.inl x2)] [(.inl v5)] h4 (0, 0)
  exact ax_ireturn (pc := 24) dX6_set_24 rfl g (by decide) (by decide)
set_option maxRecDepth 100000 in
set_option maxHeartbeats 4000000 in
theorem vc_X6_shuffle {d : Nat} {Q : Option Int → AH → Prop} {h : AH} {x1 : Int} (hd : 1 ≤ d) (hL : QM h)
  (g :
    AM (d - 1) m_X2_copyFrom [(.inr (some 14)), (.inr (some 2))] h (fun r h1 => 
      r = none ∧ SS h h1 ∧
      AM (d - 1) m_X2_shuffleTo [(.inr (some 2)), (.inl x1)] h1 (fun r h2 => 
        ∃ v3, r = some v3 ∧ SS h1 h2 ∧
        AM (d - 1) m_X6_recorded [(.inr (some 1)), (.inl v3)] h2 (fun r h4 => 
          ∃ v5, r = some v5 ∧ SW h2 h4 ∧
          Q (some v5) h4)))) :
  AM d m_X6_shuffle [(.inr (some 1)), (.inl x1)] h Q := by
  refine am_body mo_X6_shuffle (Nat.le_of_ble_eq_true rfl) ?_
  show AW m_X6_shuffle d none Q 0 [some (.inr (some 1)), some (.inl x1)] [] h (0, 0)
  obtain ⟨ko1, ro1_state, lo1_state, ro1_before, lo1_before, ro1_trial, lo1_trial, ro1_snapshot, lo1_snapshot, ro1_history, lo1_history, ro1_text, lo1_text⟩ := id hL
  obtain ⟨ko1_state, ro1_state_pocket, lo1_state_pocket, ro1_state_told, lo1_state_told, ro1_state_tally, lo1_state_tally, ro1_state_settings, ko1_state_settings⟩ := id lo1_state
  obtain ⟨ko1_state_pocket, ro1_state_pocket_names, ko1_state_pocket_names, ro1_state_pocket_asksToGo, ko1_state_pocket_asksToGo, ro1_state_pocket_tellings, ko1_state_pocket_tellings, ro1_state_pocket_slots, ko1_state_pocket_slots, ro1_state_pocket_awake, ko1_state_pocket_awake, ro1_state_pocket_answering, ko1_state_pocket_answering⟩ := id lo1_state_pocket
  obtain ⟨ko1_state_told, ro1_state_told_row, ko1_state_told_row⟩ := id lo1_state_told
  have ko1_state_tally := id lo1_state_tally
  obtain ⟨ko1_before, ro1_before_pocket, lo1_before_pocket, ro1_before_told, lo1_before_told, ro1_before_tally, lo1_before_tally, ro1_before_settings, ko1_before_settings⟩ := id lo1_before
  obtain ⟨ko1_before_pocket, ro1_before_pocket_names, ko1_before_pocket_names, ro1_before_pocket_asksToGo, ko1_before_pocket_asksToGo, ro1_before_pocket_tellings, ko1_before_pocket_tellings, ro1_before_pocket_slots, ko1_before_pocket_slots, ro1_before_pocket_awake, ko1_before_pocket_awake, ro1_before_pocket_answering, ko1_before_pocket_answering⟩ := id lo1_before_pocket
  obtain ⟨ko1_before_told, ro1_before_told_row, ko1_before_told_row⟩ := id lo1_before_told
  have ko1_before_tally := id lo1_before_tally
  obtain ⟨ko1_trial, ro1_trial_pocket, lo1_trial_pocket, ro1_trial_told, lo1_trial_told, ro1_trial_tally, lo1_trial_tally, ro1_trial_settings, ko1_trial_settings⟩ := id lo1_trial
  obtain ⟨ko1_trial_pocket, ro1_trial_pocket_names, ko1_trial_pocket_names, ro1_trial_pocket_asksToGo, ko1_trial_pocket_asksToGo, ro1_trial_pocket_tellings, ko1_trial_pocket_tellings, ro1_trial_pocket_slots, ko1_trial_pocket_slots, ro1_trial_pocket_awake, ko1_trial_pocket_awake, ro1_trial_pocket_answering, ko1_trial_pocket_answering⟩ := id lo1_trial_pocket
  obtain ⟨ko1_trial_told, ro1_trial_told_row, ko1_trial_told_row⟩ := id lo1_trial_told
  have ko1_trial_tally := id lo1_trial_tally
  obtain ⟨ko1_snapshot, ro1_snapshot_pocket, lo1_snapshot_pocket, ro1_snapshot_told, lo1_snapshot_told, ro1_snapshot_tally, lo1_snapshot_tally, ro1_snapshot_settings, ko1_snapshot_settings⟩ := id lo1_snapshot
  obtain ⟨ko1_snapshot_pocket, ro1_snapshot_pocket_names, ko1_snapshot_pocket_names, ro1_snapshot_pocket_asksToGo, ko1_snapshot_pocket_asksToGo, ro1_snapshot_pocket_tellings, ko1_snapshot_pocket_tellings, ro1_snapshot_pocket_slots, ko1_snapshot_pocket_slots, ro1_snapshot_pocket_awake, ko1_snapshot_pocket_awake, ro1_snapshot_pocket_answering, ko1_snapshot_pocket_answering⟩ := id lo1_snapshot_pocket
  obtain ⟨ko1_snapshot_told, ro1_snapshot_told_row, ko1_snapshot_told_row⟩ := id lo1_snapshot_told
  have ko1_snapshot_tally := id lo1_snapshot_tally
  obtain ⟨ko1_history, ro1_history_rows, ko1_history_rows⟩ := id lo1_history
  obtain ⟨ko1_text, ro1_text_characters, ko1_text_characters, ro1_text_kinds, ko1_text_kinds, ro1_text_numbers, ko1_text_numbers⟩ := id lo1_text
  refine aw_aload_n (pc := 0) dX6_shuffle_0 rfl ?_
  refine aw_getr (pc := 1) (r := some 14) dX6_shuffle_1 fl_X6_16 (by decide) rfl ko1 ro1_before ?_
  refine aw_aload_n (pc := 4) dX6_shuffle_4 rfl ?_
  refine aw_getr (pc := 5) (r := some 2) dX6_shuffle_5 fl_X6_10 (by decide) rfl ko1 ro1_state ?_
  refine aw_invV (pc := 8) (md' := m_X2_copyFrom) (ci := 2) (as := [(.inr (some 2))]) dX6_shuffle_8 mo_X2_copyFrom im_X2_copyFrom se_X2_copyFrom ml_X6_43 rfl ko1_before rfl hd (Nat.le_of_ble_eq_true rfl) (Nat.le_of_ble_eq_true rfl) (Nat.le_of_ble_eq_true rfl) ?_
  refine am_mono g (fun _ h1 _ ok_h1 g => ?_)
  obtain ⟨rfl, ss_h1, g⟩ := g
  replace hL := QM.ss hL ss_h1
  obtain ⟨ko1, ro1_state, lo1_state, ro1_before, lo1_before, ro1_trial, lo1_trial, ro1_snapshot, lo1_snapshot, ro1_history, lo1_history, ro1_text, lo1_text⟩ := id hL
  obtain ⟨ko1_state, ro1_state_pocket, lo1_state_pocket, ro1_state_told, lo1_state_told, ro1_state_tally, lo1_state_tally, ro1_state_settings, ko1_state_settings⟩ := id lo1_state
  obtain ⟨ko1_state_pocket, ro1_state_pocket_names, ko1_state_pocket_names, ro1_state_pocket_asksToGo, ko1_state_pocket_asksToGo, ro1_state_pocket_tellings, ko1_state_pocket_tellings, ro1_state_pocket_slots, ko1_state_pocket_slots, ro1_state_pocket_awake, ko1_state_pocket_awake, ro1_state_pocket_answering, ko1_state_pocket_answering⟩ := id lo1_state_pocket
  obtain ⟨ko1_state_told, ro1_state_told_row, ko1_state_told_row⟩ := id lo1_state_told
  have ko1_state_tally := id lo1_state_tally
  obtain ⟨ko1_before, ro1_before_pocket, lo1_before_pocket, ro1_before_told, lo1_before_told, ro1_before_tally, lo1_before_tally, ro1_before_settings, ko1_before_settings⟩ := id lo1_before
  obtain ⟨ko1_before_pocket, ro1_before_pocket_names, ko1_before_pocket_names, ro1_before_pocket_asksToGo, ko1_before_pocket_asksToGo, ro1_before_pocket_tellings, ko1_before_pocket_tellings, ro1_before_pocket_slots, ko1_before_pocket_slots, ro1_before_pocket_awake, ko1_before_pocket_awake, ro1_before_pocket_answering, ko1_before_pocket_answering⟩ := id lo1_before_pocket
  obtain ⟨ko1_before_told, ro1_before_told_row, ko1_before_told_row⟩ := id lo1_before_told
  have ko1_before_tally := id lo1_before_tally
  obtain ⟨ko1_trial, ro1_trial_pocket, lo1_trial_pocket, ro1_trial_told, lo1_trial_told, ro1_trial_tally, lo1_trial_tally, ro1_trial_settings, ko1_trial_settings⟩ := id lo1_trial
  obtain ⟨ko1_trial_pocket, ro1_trial_pocket_names, ko1_trial_pocket_names, ro1_trial_pocket_asksToGo, ko1_trial_pocket_asksToGo, ro1_trial_pocket_tellings, ko1_trial_pocket_tellings, ro1_trial_pocket_slots, ko1_trial_pocket_slots, ro1_trial_pocket_awake, ko1_trial_pocket_awake, ro1_trial_pocket_answering, ko1_trial_pocket_answering⟩ := id lo1_trial_pocket
  obtain ⟨ko1_trial_told, ro1_trial_told_row, ko1_trial_told_row⟩ := id lo1_trial_told
  have ko1_trial_tally := id lo1_trial_tally
  obtain ⟨ko1_snapshot, ro1_snapshot_pocket, lo1_snapshot_pocket, ro1_snapshot_told, lo1_snapshot_told, ro1_snapshot_tally, lo1_snapshot_tally, ro1_snapshot_settings, ko1_snapshot_settings⟩ := id lo1_snapshot
  obtain ⟨ko1_snapshot_pocket, ro1_snapshot_pocket_names, ko1_snapshot_pocket_names, ro1_snapshot_pocket_asksToGo, ko1_snapshot_pocket_asksToGo, ro1_snapshot_pocket_tellings, ko1_snapshot_pocket_tellings, ro1_snapshot_pocket_slots, ko1_snapshot_pocket_slots, ro1_snapshot_pocket_awake, ko1_snapshot_pocket_awake, ro1_snapshot_pocket_answering, ko1_snapshot_pocket_answering⟩ := id lo1_snapshot_pocket
  obtain ⟨ko1_snapshot_told, ro1_snapshot_told_row, ko1_snapshot_told_row⟩ := id lo1_snapshot_told
  have ko1_snapshot_tally := id lo1_snapshot_tally
  obtain ⟨ko1_history, ro1_history_rows, ko1_history_rows⟩ := id lo1_history
  obtain ⟨ko1_text, ro1_text_characters, ko1_text_characters, ro1_text_kinds, ko1_text_kinds, ro1_text_numbers, ko1_text_numbers⟩ := id lo1_text
  show AW m_X6_shuffle d none Q 11 [some (.inr (some 1)), some (.inl x1)] [] h1 (0, 0)
  refine aw_aload_n (pc := 11) dX6_shuffle_11 rfl ?_
  refine aw_aload_n (pc := 12) dX6_shuffle_12 rfl ?_
  refine aw_getr (pc := 13) (r := some 2) dX6_shuffle_13 fl_X6_10 (by decide) rfl ko1 ro1_state ?_
  refine aw_iload_n (pc := 16) dX6_shuffle_16 rfl ?_
  refine aw_invV (pc := 17) (md' := m_X2_shuffleTo) (ci := 2) (as := [(.inl x1)]) dX6_shuffle_17 mo_X2_shuffleTo im_X2_shuffleTo se_X2_shuffleTo ml_X6_71 rfl ko1_state rfl hd (Nat.le_of_ble_eq_true rfl) (Nat.le_of_ble_eq_true rfl) (Nat.le_of_ble_eq_true rfl) ?_
  refine am_mono g (fun _ h2 _ ok_h2 g => ?_)
  obtain ⟨v3, rfl, ss_h2, g⟩ := g
  replace hL := QM.ss hL ss_h2
  obtain ⟨ko1, ro1_state, lo1_state, ro1_before, lo1_before, ro1_trial, lo1_trial, ro1_snapshot, lo1_snapshot, ro1_history, lo1_history, ro1_text, lo1_text⟩ := id hL
  obtain ⟨ko1_state, ro1_state_pocket, lo1_state_pocket, ro1_state_told, lo1_state_told, ro1_state_tally, lo1_state_tally, ro1_state_settings, ko1_state_settings⟩ := id lo1_state
  obtain ⟨ko1_state_pocket, ro1_state_pocket_names, ko1_state_pocket_names, ro1_state_pocket_asksToGo, ko1_state_pocket_asksToGo, ro1_state_pocket_tellings, ko1_state_pocket_tellings, ro1_state_pocket_slots, ko1_state_pocket_slots, ro1_state_pocket_awake, ko1_state_pocket_awake, ro1_state_pocket_answering, ko1_state_pocket_answering⟩ := id lo1_state_pocket
  obtain ⟨ko1_state_told, ro1_state_told_row, ko1_state_told_row⟩ := id lo1_state_told
  have ko1_state_tally := id lo1_state_tally
  obtain ⟨ko1_before, ro1_before_pocket, lo1_before_pocket, ro1_before_told, lo1_before_told, ro1_before_tally, lo1_before_tally, ro1_before_settings, ko1_before_settings⟩ := id lo1_before
  obtain ⟨ko1_before_pocket, ro1_before_pocket_names, ko1_before_pocket_names, ro1_before_pocket_asksToGo, ko1_before_pocket_asksToGo, ro1_before_pocket_tellings, ko1_before_pocket_tellings, ro1_before_pocket_slots, ko1_before_pocket_slots, ro1_before_pocket_awake, ko1_before_pocket_awake, ro1_before_pocket_answering, ko1_before_pocket_answering⟩ := id lo1_before_pocket
  obtain ⟨ko1_before_told, ro1_before_told_row, ko1_before_told_row⟩ := id lo1_before_told
  have ko1_before_tally := id lo1_before_tally
  obtain ⟨ko1_trial, ro1_trial_pocket, lo1_trial_pocket, ro1_trial_told, lo1_trial_told, ro1_trial_tally, lo1_trial_tally, ro1_trial_settings, ko1_trial_settings⟩ := id lo1_trial
  obtain ⟨ko1_trial_pocket, ro1_trial_pocket_names, ko1_trial_pocket_names, ro1_trial_pocket_asksToGo, ko1_trial_pocket_asksToGo, ro1_trial_pocket_tellings, ko1_trial_pocket_tellings, ro1_trial_pocket_slots, ko1_trial_pocket_slots, ro1_trial_pocket_awake, ko1_trial_pocket_awake, ro1_trial_pocket_answering, ko1_trial_pocket_answering⟩ := id lo1_trial_pocket
  obtain ⟨ko1_trial_told, ro1_trial_told_row, ko1_trial_told_row⟩ := id lo1_trial_told
  have ko1_trial_tally := id lo1_trial_tally
  obtain ⟨ko1_snapshot, ro1_snapshot_pocket, lo1_snapshot_pocket, ro1_snapshot_told, lo1_snapshot_told, ro1_snapshot_tally, lo1_snapshot_tally, ro1_snapshot_settings, ko1_snapshot_settings⟩ := id lo1_snapshot
  obtain ⟨ko1_snapshot_pocket, ro1_snapshot_pocket_names, ko1_snapshot_pocket_names, ro1_snapshot_pocket_asksToGo, ko1_snapshot_pocket_asksToGo, ro1_snapshot_pocket_tellings, ko1_snapshot_pocket_tellings, ro1_snapshot_pocket_slots, ko1_snapshot_pocket_slots, ro1_snapshot_pocket_awake, ko1_snapshot_pocket_awake, ro1_snapshot_pocket_answering, ko1_snapshot_pocket_answering⟩ := id lo1_snapshot_pocket
  obtain ⟨ko1_snapshot_told, ro1_snapshot_told_row, ko1_snapshot_told_row⟩ := id lo1_snapshot_told
  have ko1_snapshot_tally := id lo1_snapshot_tally
  obtain ⟨ko1_history, ro1_history_rows, ko1_history_rows⟩ := id lo1_history
  obtain ⟨ko1_text, ro1_text_characters, ko1_text_characters, ro1_text_kinds, ko1_text_kinds, ro1_text_numbers, ko1_text_numbers⟩ := id lo1_text
  show AW m_X6_shuffle d none Q 20 [some (.inr (some 1)), some (.inl x1)] [(.inl v3), (.inr (some 1))] h2 (0, 0)
  refine aw_invV (pc := 20) (md' := m_X6_recorded) (ci := 6) (as := [(.inl v3)]) dX6_shuffle_20 mo_X6_recorded im_X6_recorded se_X6_recorded ml_X6_51 rfl ko1 rfl hd (Nat.le_of_ble_eq_true rfl) (Nat.le_of_ble_eq_true rfl) (Nat.le_of_ble_eq_true rfl) ?_
  refine am_mono g (fun _ h4 _ ok_h4 g => ?_)
  obtain ⟨v5, rfl, ss_h4, g⟩ := g
  replace hL := QM.sw hL ss_h4
  obtain ⟨ko1, ro1_state, lo1_state, ro1_before, lo1_before, ro1_trial, lo1_trial, ro1_snapshot, lo1_snapshot, ro1_history, lo1_history, ro1_text, lo1_text⟩ := id hL
  obtain ⟨ko1_state, ro1_state_pocket, lo1_state_pocket, ro1_state_told, lo1_state_told, ro1_state_tally, lo1_state_tally, ro1_state_settings, ko1_state_settings⟩ := id lo1_state
  obtain ⟨ko1_state_pocket, ro1_state_pocket_names, ko1_state_pocket_names, ro1_state_pocket_asksToGo, ko1_state_pocket_asksToGo, ro1_state_pocket_tellings, ko1_state_pocket_tellings, ro1_state_pocket_slots, ko1_state_pocket_slots, ro1_state_pocket_awake, ko1_state_pocket_awake, ro1_state_pocket_answering, ko1_state_pocket_answering⟩ := id lo1_state_pocket
  obtain ⟨ko1_state_told, ro1_state_told_row, ko1_state_told_row⟩ := id lo1_state_told
  have ko1_state_tally := id lo1_state_tally
  obtain ⟨ko1_before, ro1_before_pocket, lo1_before_pocket, ro1_before_told, lo1_before_told, ro1_before_tally, lo1_before_tally, ro1_before_settings, ko1_before_settings⟩ := id lo1_before
  obtain ⟨ko1_before_pocket, ro1_before_pocket_names, ko1_before_pocket_names, ro1_before_pocket_asksToGo, ko1_before_pocket_asksToGo, ro1_before_pocket_tellings, ko1_before_pocket_tellings, ro1_before_pocket_slots, ko1_before_pocket_slots, ro1_before_pocket_awake, ko1_before_pocket_awake, ro1_before_pocket_answering, ko1_before_pocket_answering⟩ := id lo1_before_pocket
  obtain ⟨ko1_before_told, ro1_before_told_row, ko1_before_told_row⟩ := id lo1_before_told
  have ko1_before_tally := id lo1_before_tally
  obtain ⟨ko1_trial, ro1_trial_pocket, lo1_trial_pocket, ro1_trial_told, lo1_trial_told, ro1_trial_tally, lo1_trial_tally, ro1_trial_settings, ko1_trial_settings⟩ := id lo1_trial
  obtain ⟨ko1_trial_pocket, ro1_trial_pocket_names, ko1_trial_pocket_names, ro1_trial_pocket_asksToGo, ko1_trial_pocket_asksToGo, ro1_trial_pocket_tellings, ko1_trial_pocket_tellings, ro1_trial_pocket_slots, ko1_trial_pocket_slots, ro1_trial_pocket_awake, ko1_trial_pocket_awake, ro1_trial_pocket_answering, ko1_trial_pocket_answering⟩ := id lo1_trial_pocket
  obtain ⟨ko1_trial_told, ro1_trial_told_row, ko1_trial_told_row⟩ := id lo1_trial_told
  have ko1_trial_tally := id lo1_trial_tally
  obtain ⟨ko1_snapshot, ro1_snapshot_pocket, lo1_snapshot_pocket, ro1_snapshot_told, lo1_snapshot_told, ro1_snapshot_tally, lo1_snapshot_tally, ro1_snapshot_settings, ko1_snapshot_settings⟩ := id lo1_snapshot
  obtain ⟨ko1_snapshot_pocket, ro1_snapshot_pocket_names, ko1_snapshot_pocket_names, ro1_snapshot_pocket_asksToGo, ko1_snapshot_pocket_asksToGo, ro1_snapshot_pocket_tellings, ko1_snapshot_pocket_tellings, ro1_snapshot_pocket_slots, ko1_snapshot_pocket_slots, ro1_snapshot_pocket_awake, ko1_snapshot_pocket_awake, ro1_snapshot_pocket_answering, ko1_snapshot_pocket_answering⟩ := id lo1_snapshot_pocket
  obtain ⟨ko1_snapshot_told, ro1_snapshot_told_row, ko1_snapshot_told_row⟩ := id lo1_snapshot_told
  have ko1_snapshot_tally := id lo1_snapshot_tally
  obtain ⟨ko1_history, ro1_history_rows, ko1_history_rows⟩ := id lo1_history
  obtain ⟨ko1_text, ro1_text_characters, ko1_text_characters, ro1_text_kinds, ko1_text_kinds, ro1_text_numbers, ko1_text_numbers⟩ := id lo1_text
  show AW m_X6_shuffle d none Q 23 [some (.inr (some 1)), some (.inl x1)] [(.inl v5)] h4 (0, 0)
  exact ax_ireturn (pc := 23) dX6_shuffle_23 rfl g (by decide) (by decide)
set_option maxRecDepth 100000 in
set_option maxHeartbeats 4000000 in
theorem vc_X6_forget {d : Nat} {Q : Option Int → AH → Prop} {h : AH}  (hd : 1 ≤ d) (hL : QM h)
  (g :
    AM (d - 1) m_X2_copyFrom [(.inr (some 14)), (.inr (some 2))] h (fun r h1 => 
      r = none ∧ SS h h1 ∧
      AM (d - 1) m_X2_forgetTold [(.inr (some 2))] h1 (fun r h2 => 
        ∃ v3, r = some v3 ∧ SS h1 h2 ∧
        AM (d - 1) m_X6_recorded [(.inr (some 1)), (.inl v3)] h2 (fun r h4 => 
          ∃ v5, r = some v5 ∧ SW h2 h4 ∧
          Q (some v5) h4)))) :
  AM d m_X6_forget [(.inr (some 1))] h Q := by
  refine am_body mo_X6_forget (Nat.le_of_ble_eq_true rfl) ?_
  show AW m_X6_forget d none Q 0 [some (.inr (some 1))] [] h (0, 0)
  obtain ⟨ko1, ro1_state, lo1_state, ro1_before, lo1_before, ro1_trial, lo1_trial, ro1_snapshot, lo1_snapshot, ro1_history, lo1_history, ro1_text, lo1_text⟩ := id hL
  obtain ⟨ko1_state, ro1_state_pocket, lo1_state_pocket, ro1_state_told, lo1_state_told, ro1_state_tally, lo1_state_tally, ro1_state_settings, ko1_state_settings⟩ := id lo1_state
  obtain ⟨ko1_state_pocket, ro1_state_pocket_names, ko1_state_pocket_names, ro1_state_pocket_asksToGo, ko1_state_pocket_asksToGo, ro1_state_pocket_tellings, ko1_state_pocket_tellings, ro1_state_pocket_slots, ko1_state_pocket_slots, ro1_state_pocket_awake, ko1_state_pocket_awake, ro1_state_pocket_answering, ko1_state_pocket_answering⟩ := id lo1_state_pocket
  obtain ⟨ko1_state_told, ro1_state_told_row, ko1_state_told_row⟩ := id lo1_state_told
  have ko1_state_tally := id lo1_state_tally
  obtain ⟨ko1_before, ro1_before_pocket, lo1_before_pocket, ro1_before_told, lo1_before_told, ro1_before_tally, lo1_before_tally, ro1_before_settings, ko1_before_settings⟩ := id lo1_before
  obtain ⟨ko1_before_pocket, ro1_before_pocket_names, ko1_before_pocket_names, ro1_before_pocket_asksToGo, ko1_before_pocket_asksToGo, ro1_before_pocket_tellings, ko1_before_pocket_tellings, ro1_before_pocket_slots, ko1_before_pocket_slots, ro1_before_pocket_awake, ko1_before_pocket_awake, ro1_before_pocket_answering, ko1_before_pocket_answering⟩ := id lo1_before_pocket
  obtain ⟨ko1_before_told, ro1_before_told_row, ko1_before_told_row⟩ := id lo1_before_told
  have ko1_before_tally := id lo1_before_tally
  obtain ⟨ko1_trial, ro1_trial_pocket, lo1_trial_pocket, ro1_trial_told, lo1_trial_told, ro1_trial_tally, lo1_trial_tally, ro1_trial_settings, ko1_trial_settings⟩ := id lo1_trial
  obtain ⟨ko1_trial_pocket, ro1_trial_pocket_names, ko1_trial_pocket_names, ro1_trial_pocket_asksToGo, ko1_trial_pocket_asksToGo, ro1_trial_pocket_tellings, ko1_trial_pocket_tellings, ro1_trial_pocket_slots, ko1_trial_pocket_slots, ro1_trial_pocket_awake, ko1_trial_pocket_awake, ro1_trial_pocket_answering, ko1_trial_pocket_answering⟩ := id lo1_trial_pocket
  obtain ⟨ko1_trial_told, ro1_trial_told_row, ko1_trial_told_row⟩ := id lo1_trial_told
  have ko1_trial_tally := id lo1_trial_tally
  obtain ⟨ko1_snapshot, ro1_snapshot_pocket, lo1_snapshot_pocket, ro1_snapshot_told, lo1_snapshot_told, ro1_snapshot_tally, lo1_snapshot_tally, ro1_snapshot_settings, ko1_snapshot_settings⟩ := id lo1_snapshot
  obtain ⟨ko1_snapshot_pocket, ro1_snapshot_pocket_names, ko1_snapshot_pocket_names, ro1_snapshot_pocket_asksToGo, ko1_snapshot_pocket_asksToGo, ro1_snapshot_pocket_tellings, ko1_snapshot_pocket_tellings, ro1_snapshot_pocket_slots, ko1_snapshot_pocket_slots, ro1_snapshot_pocket_awake, ko1_snapshot_pocket_awake, ro1_snapshot_pocket_answering, ko1_snapshot_pocket_answering⟩ := id lo1_snapshot_pocket
  obtain ⟨ko1_snapshot_told, ro1_snapshot_told_row, ko1_snapshot_told_row⟩ := id lo1_snapshot_told
  have ko1_snapshot_tally := id lo1_snapshot_tally
  obtain ⟨ko1_history, ro1_history_rows, ko1_history_rows⟩ := id lo1_history
  obtain ⟨ko1_text, ro1_text_characters, ko1_text_characters, ro1_text_kinds, ko1_text_kinds, ro1_text_numbers, ko1_text_numbers⟩ := id lo1_text
  refine aw_aload_n (pc := 0) dX6_forget_0 rfl ?_
  refine aw_getr (pc := 1) (r := some 14) dX6_forget_1 fl_X6_16 (by decide) rfl ko1 ro1_before ?_
  refine aw_aload_n (pc := 4) dX6_forget_4 rfl ?_
  refine aw_getr (pc := 5) (r := some 2) dX6_forget_5 fl_X6_10 (by decide) rfl ko1 ro1_state ?_
  refine aw_invV (pc := 8) (md' := m_X2_copyFrom) (ci := 2) (as := [(.inr (some 2))]) dX6_forget_8 mo_X2_copyFrom im_X2_copyFrom se_X2_copyFrom ml_X6_43 rfl ko1_before rfl hd (Nat.le_of_ble_eq_true rfl) (Nat.le_of_ble_eq_true rfl) (Nat.le_of_ble_eq_true rfl) ?_
  refine am_mono g (fun _ h1 _ ok_h1 g => ?_)
  obtain ⟨rfl, ss_h1, g⟩ := g
  replace hL := QM.ss hL ss_h1
  obtain ⟨ko1, ro1_state, lo1_state, ro1_before, lo1_before, ro1_trial, lo1_trial, ro1_snapshot, lo1_snapshot, ro1_history, lo1_history, ro1_text, lo1_text⟩ := id hL
  obtain ⟨ko1_state, ro1_state_pocket, lo1_state_pocket, ro1_state_told, lo1_state_told, ro1_state_tally, lo1_state_tally, ro1_state_settings, ko1_state_settings⟩ := id lo1_state
  obtain ⟨ko1_state_pocket, ro1_state_pocket_names, ko1_state_pocket_names, ro1_state_pocket_asksToGo, ko1_state_pocket_asksToGo, ro1_state_pocket_tellings, ko1_state_pocket_tellings, ro1_state_pocket_slots, ko1_state_pocket_slots, ro1_state_pocket_awake, ko1_state_pocket_awake, ro1_state_pocket_answering, ko1_state_pocket_answering⟩ := id lo1_state_pocket
  obtain ⟨ko1_state_told, ro1_state_told_row, ko1_state_told_row⟩ := id lo1_state_told
  have ko1_state_tally := id lo1_state_tally
  obtain ⟨ko1_before, ro1_before_pocket, lo1_before_pocket, ro1_before_told, lo1_before_told, ro1_before_tally, lo1_before_tally, ro1_before_settings, ko1_before_settings⟩ := id lo1_before
  obtain ⟨ko1_before_pocket, ro1_before_pocket_names, ko1_before_pocket_names, ro1_before_pocket_asksToGo, ko1_before_pocket_asksToGo, ro1_before_pocket_tellings, ko1_before_pocket_tellings, ro1_before_pocket_slots, ko1_before_pocket_slots, ro1_before_pocket_awake, ko1_before_pocket_awake, ro1_before_pocket_answering, ko1_before_pocket_answering⟩ := id lo1_before_pocket
  obtain ⟨ko1_before_told, ro1_before_told_row, ko1_before_told_row⟩ := id lo1_before_told
  have ko1_before_tally := id lo1_before_tally
  obtain ⟨ko1_trial, ro1_trial_pocket, lo1_trial_pocket, ro1_trial_told, lo1_trial_told, ro1_trial_tally, lo1_trial_tally, ro1_trial_settings, ko1_trial_settings⟩ := id lo1_trial
  obtain ⟨ko1_trial_pocket, ro1_trial_pocket_names, ko1_trial_pocket_names, ro1_trial_pocket_asksToGo, ko1_trial_pocket_asksToGo, ro1_trial_pocket_tellings, ko1_trial_pocket_tellings, ro1_trial_pocket_slots, ko1_trial_pocket_slots, ro1_trial_pocket_awake, ko1_trial_pocket_awake, ro1_trial_pocket_answering, ko1_trial_pocket_answering⟩ := id lo1_trial_pocket
  obtain ⟨ko1_trial_told, ro1_trial_told_row, ko1_trial_told_row⟩ := id lo1_trial_told
  have ko1_trial_tally := id lo1_trial_tally
  obtain ⟨ko1_snapshot, ro1_snapshot_pocket, lo1_snapshot_pocket, ro1_snapshot_told, lo1_snapshot_told, ro1_snapshot_tally, lo1_snapshot_tally, ro1_snapshot_settings, ko1_snapshot_settings⟩ := id lo1_snapshot
  obtain ⟨ko1_snapshot_pocket, ro1_snapshot_pocket_names, ko1_snapshot_pocket_names, ro1_snapshot_pocket_asksToGo, ko1_snapshot_pocket_asksToGo, ro1_snapshot_pocket_tellings, ko1_snapshot_pocket_tellings, ro1_snapshot_pocket_slots, ko1_snapshot_pocket_slots, ro1_snapshot_pocket_awake, ko1_snapshot_pocket_awake, ro1_snapshot_pocket_answering, ko1_snapshot_pocket_answering⟩ := id lo1_snapshot_pocket
  obtain ⟨ko1_snapshot_told, ro1_snapshot_told_row, ko1_snapshot_told_row⟩ := id lo1_snapshot_told
  have ko1_snapshot_tally := id lo1_snapshot_tally
  obtain ⟨ko1_history, ro1_history_rows, ko1_history_rows⟩ := id lo1_history
  obtain ⟨ko1_text, ro1_text_characters, ko1_text_characters, ro1_text_kinds, ko1_text_kinds, ro1_text_numbers, ko1_text_numbers⟩ := id lo1_text
  show AW m_X6_forget d none Q 11 [some (.inr (some 1))] [] h1 (0, 0)
  refine aw_aload_n (pc := 11) dX6_forget_11 rfl ?_
  refine aw_aload_n (pc := 12) dX6_forget_12 rfl ?_
  refine aw_getr (pc := 13) (r := some 2) dX6_forget_13 fl_X6_10 (by decide) rfl ko1 ro1_state ?_
  refine aw_invV (pc := 16) (md' := m_X2_forgetTold) (ci := 2) (as := []) dX6_forget_16 mo_X2_forgetTold im_X2_forgetTold se_X2_forgetTold ml_X6_74 rfl ko1_state rfl hd (Nat.le_of_ble_eq_true rfl) (Nat.le_of_ble_eq_true rfl) (Nat.le_of_ble_eq_true rfl) ?_
  refine am_mono g (fun _ h2 _ ok_h2 g => ?_)
  obtain ⟨v3, rfl, ss_h2, g⟩ := g
  replace hL := QM.ss hL ss_h2
  obtain ⟨ko1, ro1_state, lo1_state, ro1_before, lo1_before, ro1_trial, lo1_trial, ro1_snapshot, lo1_snapshot, ro1_history, lo1_history, ro1_text, lo1_text⟩ := id hL
  obtain ⟨ko1_state, ro1_state_pocket, lo1_state_pocket, ro1_state_told, lo1_state_told, ro1_state_tally, lo1_state_tally, ro1_state_settings, ko1_state_settings⟩ := id lo1_state
  obtain ⟨ko1_state_pocket, ro1_state_pocket_names, ko1_state_pocket_names, ro1_state_pocket_asksToGo, ko1_state_pocket_asksToGo, ro1_state_pocket_tellings, ko1_state_pocket_tellings, ro1_state_pocket_slots, ko1_state_pocket_slots, ro1_state_pocket_awake, ko1_state_pocket_awake, ro1_state_pocket_answering, ko1_state_pocket_answering⟩ := id lo1_state_pocket
  obtain ⟨ko1_state_told, ro1_state_told_row, ko1_state_told_row⟩ := id lo1_state_told
  have ko1_state_tally := id lo1_state_tally
  obtain ⟨ko1_before, ro1_before_pocket, lo1_before_pocket, ro1_before_told, lo1_before_told, ro1_before_tally, lo1_before_tally, ro1_before_settings, ko1_before_settings⟩ := id lo1_before
  obtain ⟨ko1_before_pocket, ro1_before_pocket_names, ko1_before_pocket_names, ro1_before_pocket_asksToGo, ko1_before_pocket_asksToGo, ro1_before_pocket_tellings, ko1_before_pocket_tellings, ro1_before_pocket_slots, ko1_before_pocket_slots, ro1_before_pocket_awake, ko1_before_pocket_awake, ro1_before_pocket_answering, ko1_before_pocket_answering⟩ := id lo1_before_pocket
  obtain ⟨ko1_before_told, ro1_before_told_row, ko1_before_told_row⟩ := id lo1_before_told
  have ko1_before_tally := id lo1_before_tally
  obtain ⟨ko1_trial, ro1_trial_pocket, lo1_trial_pocket, ro1_trial_told, lo1_trial_told, ro1_trial_tally, lo1_trial_tally, ro1_trial_settings, ko1_trial_settings⟩ := id lo1_trial
  obtain ⟨ko1_trial_pocket, ro1_trial_pocket_names, ko1_trial_pocket_names, ro1_trial_pocket_asksToGo, ko1_trial_pocket_asksToGo, ro1_trial_pocket_tellings, ko1_trial_pocket_tellings, ro1_trial_pocket_slots, ko1_trial_pocket_slots, ro1_trial_pocket_awake, ko1_trial_pocket_awake, ro1_trial_pocket_answering, ko1_trial_pocket_answering⟩ := id lo1_trial_pocket
  obtain ⟨ko1_trial_told, ro1_trial_told_row, ko1_trial_told_row⟩ := id lo1_trial_told
  have ko1_trial_tally := id lo1_trial_tally
  obtain ⟨ko1_snapshot, ro1_snapshot_pocket, lo1_snapshot_pocket, ro1_snapshot_told, lo1_snapshot_told, ro1_snapshot_tally, lo1_snapshot_tally, ro1_snapshot_settings, ko1_snapshot_settings⟩ := id lo1_snapshot
  obtain ⟨ko1_snapshot_pocket, ro1_snapshot_pocket_names, ko1_snapshot_pocket_names, ro1_snapshot_pocket_asksToGo, ko1_snapshot_pocket_asksToGo, ro1_snapshot_pocket_tellings, ko1_snapshot_pocket_tellings, ro1_snapshot_pocket_slots, ko1_snapshot_pocket_slots, ro1_snapshot_pocket_awake, ko1_snapshot_pocket_awake, ro1_snapshot_pocket_answering, ko1_snapshot_pocket_answering⟩ := id lo1_snapshot_pocket
  obtain ⟨ko1_snapshot_told, ro1_snapshot_told_row, ko1_snapshot_told_row⟩ := id lo1_snapshot_told
  have ko1_snapshot_tally := id lo1_snapshot_tally
  obtain ⟨ko1_history, ro1_history_rows, ko1_history_rows⟩ := id lo1_history
  obtain ⟨ko1_text, ro1_text_characters, ko1_text_characters, ro1_text_kinds, ko1_text_kinds, ro1_text_numbers, ko1_text_numbers⟩ := id lo1_text
  show AW m_X6_forget d none Q 19 [some (.inr (some 1))] [(.inl v3), (.inr (some 1))] h2 (0, 0)
  refine aw_invV (pc := 19) (md' := m_X6_recorded) (ci := 6) (as := [(.inl v3)]) dX6_forget_19 mo_X6_recorded im_X6_recorded se_X6_recorded ml_X6_51 rfl ko1 rfl hd (Nat.le_of_ble_eq_true rfl) (Nat.le_of_ble_eq_true rfl) (Nat.le_of_ble_eq_true rfl) ?_
  refine am_mono g (fun _ h4 _ ok_h4 g => ?_)
  obtain ⟨v5, rfl, ss_h4, g⟩ := g
  replace hL := QM.sw hL ss_h4
  obtain ⟨ko1, ro1_state, lo1_state, ro1_before, lo1_before, ro1_trial, lo1_trial, ro1_snapshot, lo1_snapshot, ro1_history, lo1_history, ro1_text, lo1_text⟩ := id hL
  obtain ⟨ko1_state, ro1_state_pocket, lo1_state_pocket, ro1_state_told, lo1_state_told, ro1_state_tally, lo1_state_tally, ro1_state_settings, ko1_state_settings⟩ := id lo1_state
  obtain ⟨ko1_state_pocket, ro1_state_pocket_names, ko1_state_pocket_names, ro1_state_pocket_asksToGo, ko1_state_pocket_asksToGo, ro1_state_pocket_tellings, ko1_state_pocket_tellings, ro1_state_pocket_slots, ko1_state_pocket_slots, ro1_state_pocket_awake, ko1_state_pocket_awake, ro1_state_pocket_answering, ko1_state_pocket_answering⟩ := id lo1_state_pocket
  obtain ⟨ko1_state_told, ro1_state_told_row, ko1_state_told_row⟩ := id lo1_state_told
  have ko1_state_tally := id lo1_state_tally
  obtain ⟨ko1_before, ro1_before_pocket, lo1_before_pocket, ro1_before_told, lo1_before_told, ro1_before_tally, lo1_before_tally, ro1_before_settings, ko1_before_settings⟩ := id lo1_before
  obtain ⟨ko1_before_pocket, ro1_before_pocket_names, ko1_before_pocket_names, ro1_before_pocket_asksToGo, ko1_before_pocket_asksToGo, ro1_before_pocket_tellings, ko1_before_pocket_tellings, ro1_before_pocket_slots, ko1_before_pocket_slots, ro1_before_pocket_awake, ko1_before_pocket_awake, ro1_before_pocket_answering, ko1_before_pocket_answering⟩ := id lo1_before_pocket
  obtain ⟨ko1_before_told, ro1_before_told_row, ko1_before_told_row⟩ := id lo1_before_told
  have ko1_before_tally := id lo1_before_tally
  obtain ⟨ko1_trial, ro1_trial_pocket, lo1_trial_pocket, ro1_trial_told, lo1_trial_told, ro1_trial_tally, lo1_trial_tally, ro1_trial_settings, ko1_trial_settings⟩ := id lo1_trial
  obtain ⟨ko1_trial_pocket, ro1_trial_pocket_names, ko1_trial_pocket_names, ro1_trial_pocket_asksToGo, ko1_trial_pocket_asksToGo, ro1_trial_pocket_tellings, ko1_trial_pocket_tellings, ro1_trial_pocket_slots, ko1_trial_pocket_slots, ro1_trial_pocket_awake, ko1_trial_pocket_awake, ro1_trial_pocket_answering, ko1_trial_pocket_answering⟩ := id lo1_trial_pocket
  obtain ⟨ko1_trial_told, ro1_trial_told_row, ko1_trial_told_row⟩ := id lo1_trial_told
  have ko1_trial_tally := id lo1_trial_tally
  obtain ⟨ko1_snapshot, ro1_snapshot_pocket, lo1_snapshot_pocket, ro1_snapshot_told, lo1_snapshot_told, ro1_snapshot_tally, lo1_snapshot_tally, ro1_snapshot_settings, ko1_snapshot_settings⟩ := id lo1_snapshot
  obtain ⟨ko1_snapshot_pocket, ro1_snapshot_pocket_names, ko1_snapshot_pocket_names, ro1_snapshot_pocket_asksToGo, ko1_snapshot_pocket_asksToGo, ro1_snapshot_pocket_tellings, ko1_snapshot_pocket_tellings, ro1_snapshot_pocket_slots, ko1_snapshot_pocket_slots, ro1_snapshot_pocket_awake, ko1_snapshot_pocket_awake, ro1_snapshot_pocket_answering, ko1_snapshot_pocket_answering⟩ := id lo1_snapshot_pocket
  obtain ⟨ko1_snapshot_told, ro1_snapshot_told_row, ko1_snapshot_told_row⟩ := id lo1_snapshot_told
  have ko1_snapshot_tally := id lo1_snapshot_tally
  obtain ⟨ko1_history, ro1_history_rows, ko1_history_rows⟩ := id lo1_history
  obtain ⟨ko1_text, ro1_text_characters, ko1_text_characters, ro1_text_kinds, ko1_text_kinds, ro1_text_numbers, ko1_text_numbers⟩ := id lo1_text
  show AW m_X6_forget d none Q 22 [some (.inr (some 1))] [(.inl v5)] h4 (0, 0)
  exact ax_ireturn (pc := 22) dX6_forget_22 rfl g (by decide) (by decide)
set_option maxRecDepth 100000 in
set_option maxHeartbeats 4000000 in
theorem vc_X6_ask {d : Nat} {Q : Option Int → AH → Prop} {h : AH} {x1 x2 : Int} (hd : 1 ≤ d) (hL : QM h)
  (g :
    AM (d - 1) m_X6_isBeginning [(.inl x1), (.inl x2)] h (fun r h1 => 
      ∃ v2, r = some v2 ∧ SS h h1 ∧
      ((¬ v2 = 0 → (
        AM (d - 1) m_X2_copyFrom [(.inr (some 14)), (.inr (some 2))] h1 (fun r h4 => 
          r = none ∧ SS h1 h4 ∧
          AM (d - 1) m_X2_askFor [(.inr (some 2)), (.inl x1), (.inl x2)] h4 (fun r h5 => 
            ∃ v6, r = some v6 ∧ SS h4 h5 ∧
            AM (d - 1) m_X6_recorded [(.inr (some 1)), (.inl v6)] h5 (fun r h7 => 
              ∃ v8, r = some v8 ∧ SW h5 h7 ∧
              Q (some v8) h7)))
      )) ∧
      (¬ (¬ v2 = 0) → (
        Q (some (-2)) h1
      ))))) :
  AM d m_X6_ask [(.inr (some 1)), (.inl x1), (.inl x2)] h Q := by
  refine am_body mo_X6_ask (Nat.le_of_ble_eq_true rfl) ?_
  show AW m_X6_ask d none Q 0 [some (.inr (some 1)), some (.inl x1), some (.inl x2)] [] h (0, 0)
  obtain ⟨ko1, ro1_state, lo1_state, ro1_before, lo1_before, ro1_trial, lo1_trial, ro1_snapshot, lo1_snapshot, ro1_history, lo1_history, ro1_text, lo1_text⟩ := id hL
  obtain ⟨ko1_state, ro1_state_pocket, lo1_state_pocket, ro1_state_told, lo1_state_told, ro1_state_tally, lo1_state_tally, ro1_state_settings, ko1_state_settings⟩ := id lo1_state
  obtain ⟨ko1_state_pocket, ro1_state_pocket_names, ko1_state_pocket_names, ro1_state_pocket_asksToGo, ko1_state_pocket_asksToGo, ro1_state_pocket_tellings, ko1_state_pocket_tellings, ro1_state_pocket_slots, ko1_state_pocket_slots, ro1_state_pocket_awake, ko1_state_pocket_awake, ro1_state_pocket_answering, ko1_state_pocket_answering⟩ := id lo1_state_pocket
  obtain ⟨ko1_state_told, ro1_state_told_row, ko1_state_told_row⟩ := id lo1_state_told
  have ko1_state_tally := id lo1_state_tally
  obtain ⟨ko1_before, ro1_before_pocket, lo1_before_pocket, ro1_before_told, lo1_before_told, ro1_before_tally, lo1_before_tally, ro1_before_settings, ko1_before_settings⟩ := id lo1_before
  obtain ⟨ko1_before_pocket, ro1_before_pocket_names, ko1_before_pocket_names, ro1_before_pocket_asksToGo, ko1_before_pocket_asksToGo, ro1_before_pocket_tellings, ko1_before_pocket_tellings, ro1_before_pocket_slots, ko1_before_pocket_slots, ro1_before_pocket_awake, ko1_before_pocket_awake, ro1_before_pocket_answering, ko1_before_pocket_answering⟩ := id lo1_before_pocket
  obtain ⟨ko1_before_told, ro1_before_told_row, ko1_before_told_row⟩ := id lo1_before_told
  have ko1_before_tally := id lo1_before_tally
  obtain ⟨ko1_trial, ro1_trial_pocket, lo1_trial_pocket, ro1_trial_told, lo1_trial_told, ro1_trial_tally, lo1_trial_tally, ro1_trial_settings, ko1_trial_settings⟩ := id lo1_trial
  obtain ⟨ko1_trial_pocket, ro1_trial_pocket_names, ko1_trial_pocket_names, ro1_trial_pocket_asksToGo, ko1_trial_pocket_asksToGo, ro1_trial_pocket_tellings, ko1_trial_pocket_tellings, ro1_trial_pocket_slots, ko1_trial_pocket_slots, ro1_trial_pocket_awake, ko1_trial_pocket_awake, ro1_trial_pocket_answering, ko1_trial_pocket_answering⟩ := id lo1_trial_pocket
  obtain ⟨ko1_trial_told, ro1_trial_told_row, ko1_trial_told_row⟩ := id lo1_trial_told
  have ko1_trial_tally := id lo1_trial_tally
  obtain ⟨ko1_snapshot, ro1_snapshot_pocket, lo1_snapshot_pocket, ro1_snapshot_told, lo1_snapshot_told, ro1_snapshot_tally, lo1_snapshot_tally, ro1_snapshot_settings, ko1_snapshot_settings⟩ := id lo1_snapshot
  obtain ⟨ko1_snapshot_pocket, ro1_snapshot_pocket_names, ko1_snapshot_pocket_names, ro1_snapshot_pocket_asksToGo, ko1_snapshot_pocket_asksToGo, ro1_snapshot_pocket_tellings, ko1_snapshot_pocket_tellings, ro1_snapshot_pocket_slots, ko1_snapshot_pocket_slots, ro1_snapshot_pocket_awake, ko1_snapshot_pocket_awake, ro1_snapshot_pocket_answering, ko1_snapshot_pocket_answering⟩ := id lo1_snapshot_pocket
  obtain ⟨ko1_snapshot_told, ro1_snapshot_told_row, ko1_snapshot_told_row⟩ := id lo1_snapshot_told
  have ko1_snapshot_tally := id lo1_snapshot_tally
  obtain ⟨ko1_history, ro1_history_rows, ko1_history_rows⟩ := id lo1_history
  obtain ⟨ko1_text, ro1_text_characters, ko1_text_characters, ro1_text_kinds, ko1_text_kinds, ro1_text_numbers, ko1_text_numbers⟩ := id lo1_text
  refine aw_iload_n (pc := 0) dX6_ask_0 rfl ?_
  refine aw_iload_n (pc := 1) dX6_ask_1 rfl ?_
  refine aw_invS (pc := 2) (md' := m_X6_isBeginning) (as := [(.inl x1), (.inl x2)]) dX6_ask_2 mo_X6_isBeginning sm_X6_isBeginning ml_X6_77 rfl rfl hd (Nat.le_of_ble_eq_true rfl) (Nat.le_of_ble_eq_true rfl) (Nat.le_of_ble_eq_true rfl) ?_
  refine am_mono g (fun _ h1 _ ok_h1 g => ?_)
  obtain ⟨v2, rfl, ss_h1, g⟩ := g
  replace hL := QM.ss hL ss_h1
  obtain ⟨ko1, ro1_state, lo1_state, ro1_before, lo1_before, ro1_trial, lo1_trial, ro1_snapshot, lo1_snapshot, ro1_history, lo1_history, ro1_text, lo1_text⟩ := id hL
  obtain ⟨ko1_state, ro1_state_pocket, lo1_state_pocket, ro1_state_told, lo1_state_told, ro1_state_tally, lo1_state_tally, ro1_state_settings, ko1_state_settings⟩ := id lo1_state
  obtain ⟨ko1_state_pocket, ro1_state_pocket_names, ko1_state_pocket_names, ro1_state_pocket_asksToGo, ko1_state_pocket_asksToGo, ro1_state_pocket_tellings, ko1_state_pocket_tellings, ro1_state_pocket_slots, ko1_state_pocket_slots, ro1_state_pocket_awake, ko1_state_pocket_awake, ro1_state_pocket_answering, ko1_state_pocket_answering⟩ := id lo1_state_pocket
  obtain ⟨ko1_state_told, ro1_state_told_row, ko1_state_told_row⟩ := id lo1_state_told
  have ko1_state_tally := id lo1_state_tally
  obtain ⟨ko1_before, ro1_before_pocket, lo1_before_pocket, ro1_before_told, lo1_before_told, ro1_before_tally, lo1_before_tally, ro1_before_settings, ko1_before_settings⟩ := id lo1_before
  obtain ⟨ko1_before_pocket, ro1_before_pocket_names, ko1_before_pocket_names, ro1_before_pocket_asksToGo, ko1_before_pocket_asksToGo, ro1_before_pocket_tellings, ko1_before_pocket_tellings, ro1_before_pocket_slots, ko1_before_pocket_slots, ro1_before_pocket_awake, ko1_before_pocket_awake, ro1_before_pocket_answering, ko1_before_pocket_answering⟩ := id lo1_before_pocket
  obtain ⟨ko1_before_told, ro1_before_told_row, ko1_before_told_row⟩ := id lo1_before_told
  have ko1_before_tally := id lo1_before_tally
  obtain ⟨ko1_trial, ro1_trial_pocket, lo1_trial_pocket, ro1_trial_told, lo1_trial_told, ro1_trial_tally, lo1_trial_tally, ro1_trial_settings, ko1_trial_settings⟩ := id lo1_trial
  obtain ⟨ko1_trial_pocket, ro1_trial_pocket_names, ko1_trial_pocket_names, ro1_trial_pocket_asksToGo, ko1_trial_pocket_asksToGo, ro1_trial_pocket_tellings, ko1_trial_pocket_tellings, ro1_trial_pocket_slots, ko1_trial_pocket_slots, ro1_trial_pocket_awake, ko1_trial_pocket_awake, ro1_trial_pocket_answering, ko1_trial_pocket_answering⟩ := id lo1_trial_pocket
  obtain ⟨ko1_trial_told, ro1_trial_told_row, ko1_trial_told_row⟩ := id lo1_trial_told
  have ko1_trial_tally := id lo1_trial_tally
  obtain ⟨ko1_snapshot, ro1_snapshot_pocket, lo1_snapshot_pocket, ro1_snapshot_told, lo1_snapshot_told, ro1_snapshot_tally, lo1_snapshot_tally, ro1_snapshot_settings, ko1_snapshot_settings⟩ := id lo1_snapshot
  obtain ⟨ko1_snapshot_pocket, ro1_snapshot_pocket_names, ko1_snapshot_pocket_names, ro1_snapshot_pocket_asksToGo, ko1_snapshot_pocket_asksToGo, ro1_snapshot_pocket_tellings, ko1_snapshot_pocket_tellings, ro1_snapshot_pocket_slots, ko1_snapshot_pocket_slots, ro1_snapshot_pocket_awake, ko1_snapshot_pocket_awake, ro1_snapshot_pocket_answering, ko1_snapshot_pocket_answering⟩ := id lo1_snapshot_pocket
  obtain ⟨ko1_snapshot_told, ro1_snapshot_told_row, ko1_snapshot_told_row⟩ := id lo1_snapshot_told
  have ko1_snapshot_tally := id lo1_snapshot_tally
  obtain ⟨ko1_history, ro1_history_rows, ko1_history_rows⟩ := id lo1_history
  obtain ⟨ko1_text, ro1_text_characters, ko1_text_characters, ro1_text_kinds, ko1_text_kinds, ro1_text_numbers, ko1_text_numbers⟩ := id lo1_text
  show AW m_X6_ask d none Q 5 [some (.inr (some 1)), some (.inl x1), some (.inl x2)] [(.inl v2)] h1 (0, 0)
  refine aw_if_ne (pc := 5) (tgt := 11) dX6_ask_5 (by decide) (fun c3 => ?_) (fun c3 => ?_)
  · replace g := g.1 c3
    refine aw_aload_n (pc := 11) dX6_ask_11 rfl ?_
    refine aw_getr (pc := 12) (r := some 14) dX6_ask_12 fl_X6_16 (by decide) rfl ko1 ro1_before ?_
    refine aw_aload_n (pc := 15) dX6_ask_15 rfl ?_
    refine aw_getr (pc := 16) (r := some 2) dX6_ask_16 fl_X6_10 (by decide) rfl ko1 ro1_state ?_
    refine aw_invV (pc := 19) (md' := m_X2_copyFrom) (ci := 2) (as := [(.inr (some 2))]) dX6_ask_19 mo_X2_copyFrom im_X2_copyFrom se_X2_copyFrom ml_X6_43 rfl ko1_before rfl hd (Nat.le_of_ble_eq_true rfl) (Nat.le_of_ble_eq_true rfl) (Nat.le_of_ble_eq_true rfl) ?_
    refine am_mono g (fun _ h4 _ ok_h4 g => ?_)
    obtain ⟨rfl, ss_h4, g⟩ := g
    replace hL := QM.ss hL ss_h4
    obtain ⟨ko1, ro1_state, lo1_state, ro1_before, lo1_before, ro1_trial, lo1_trial, ro1_snapshot, lo1_snapshot, ro1_history, lo1_history, ro1_text, lo1_text⟩ := id hL
    obtain ⟨ko1_state, ro1_state_pocket, lo1_state_pocket, ro1_state_told, lo1_state_told, ro1_state_tally, lo1_state_tally, ro1_state_settings, ko1_state_settings⟩ := id lo1_state
    obtain ⟨ko1_state_pocket, ro1_state_pocket_names, ko1_state_pocket_names, ro1_state_pocket_asksToGo, ko1_state_pocket_asksToGo, ro1_state_pocket_tellings, ko1_state_pocket_tellings, ro1_state_pocket_slots, ko1_state_pocket_slots, ro1_state_pocket_awake, ko1_state_pocket_awake, ro1_state_pocket_answering, ko1_state_pocket_answering⟩ := id lo1_state_pocket
    obtain ⟨ko1_state_told, ro1_state_told_row, ko1_state_told_row⟩ := id lo1_state_told
    have ko1_state_tally := id lo1_state_tally
    obtain ⟨ko1_before, ro1_before_pocket, lo1_before_pocket, ro1_before_told, lo1_before_told, ro1_before_tally, lo1_before_tally, ro1_before_settings, ko1_before_settings⟩ := id lo1_before
    obtain ⟨ko1_before_pocket, ro1_before_pocket_names, ko1_before_pocket_names, ro1_before_pocket_asksToGo, ko1_before_pocket_asksToGo, ro1_before_pocket_tellings, ko1_before_pocket_tellings, ro1_before_pocket_slots, ko1_before_pocket_slots, ro1_before_pocket_awake, ko1_before_pocket_awake, ro1_before_pocket_answering, ko1_before_pocket_answering⟩ := id lo1_before_pocket
    obtain ⟨ko1_before_told, ro1_before_told_row, ko1_before_told_row⟩ := id lo1_before_told
    have ko1_before_tally := id lo1_before_tally
    obtain ⟨ko1_trial, ro1_trial_pocket, lo1_trial_pocket, ro1_trial_told, lo1_trial_told, ro1_trial_tally, lo1_trial_tally, ro1_trial_settings, ko1_trial_settings⟩ := id lo1_trial
    obtain ⟨ko1_trial_pocket, ro1_trial_pocket_names, ko1_trial_pocket_names, ro1_trial_pocket_asksToGo, ko1_trial_pocket_asksToGo, ro1_trial_pocket_tellings, ko1_trial_pocket_tellings, ro1_trial_pocket_slots, ko1_trial_pocket_slots, ro1_trial_pocket_awake, ko1_trial_pocket_awake, ro1_trial_pocket_answering, ko1_trial_pocket_answering⟩ := id lo1_trial_pocket
    obtain ⟨ko1_trial_told, ro1_trial_told_row, ko1_trial_told_row⟩ := id lo1_trial_told
    have ko1_trial_tally := id lo1_trial_tally
    obtain ⟨ko1_snapshot, ro1_snapshot_pocket, lo1_snapshot_pocket, ro1_snapshot_told, lo1_snapshot_told, ro1_snapshot_tally, lo1_snapshot_tally, ro1_snapshot_settings, ko1_snapshot_settings⟩ := id lo1_snapshot
    obtain ⟨ko1_snapshot_pocket, ro1_snapshot_pocket_names, ko1_snapshot_pocket_names, ro1_snapshot_pocket_asksToGo, ko1_snapshot_pocket_asksToGo, ro1_snapshot_pocket_tellings, ko1_snapshot_pocket_tellings, ro1_snapshot_pocket_slots, ko1_snapshot_pocket_slots, ro1_snapshot_pocket_awake, ko1_snapshot_pocket_awake, ro1_snapshot_pocket_answering, ko1_snapshot_pocket_answering⟩ := id lo1_snapshot_pocket
    obtain ⟨ko1_snapshot_told, ro1_snapshot_told_row, ko1_snapshot_told_row⟩ := id lo1_snapshot_told
    have ko1_snapshot_tally := id lo1_snapshot_tally
    obtain ⟨ko1_history, ro1_history_rows, ko1_history_rows⟩ := id lo1_history
    obtain ⟨ko1_text, ro1_text_characters, ko1_text_characters, ro1_text_kinds, ko1_text_kinds, ro1_text_numbers, ko1_text_numbers⟩ := id lo1_text
    show AW m_X6_ask d none Q 22 [some (.inr (some 1)), some (.inl x1), some (.inl x2)] [] h4 (0, 0)
    refine aw_aload_n (pc := 22) dX6_ask_22 rfl ?_
    refine aw_aload_n (pc := 23) dX6_ask_23 rfl ?_
    refine aw_getr (pc := 24) (r := some 2) dX6_ask_24 fl_X6_10 (by decide) rfl ko1 ro1_state ?_
    refine aw_iload_n (pc := 27) dX6_ask_27 rfl ?_
    refine aw_iload_n (pc := 28) dX6_ask_28 rfl ?_
    refine aw_invV (pc := 29) (md' := m_X2_askFor) (ci := 2) (as := [(.inl x1), (.inl x2)]) dX6_ask_29 mo_X2_askFor im_X2_askFor se_X2_askFor ml_X6_81 rfl ko1_state rfl hd (Nat.le_of_ble_eq_true rfl) (Nat.le_of_ble_eq_true rfl) (Nat.le_of_ble_eq_true rfl) ?_
    refine am_mono g (fun _ h5 _ ok_h5 g => ?_)
    obtain ⟨v6, rfl, ss_h5, g⟩ := g
    replace hL := QM.ss hL ss_h5
    obtain ⟨ko1, ro1_state, lo1_state, ro1_before, lo1_before, ro1_trial, lo1_trial, ro1_snapshot, lo1_snapshot, ro1_history, lo1_history, ro1_text, lo1_text⟩ := id hL
    obtain ⟨ko1_state, ro1_state_pocket, lo1_state_pocket, ro1_state_told, lo1_state_told, ro1_state_tally, lo1_state_tally, ro1_state_settings, ko1_state_settings⟩ := id lo1_state
    obtain ⟨ko1_state_pocket, ro1_state_pocket_names, ko1_state_pocket_names, ro1_state_pocket_asksToGo, ko1_state_pocket_asksToGo, ro1_state_pocket_tellings, ko1_state_pocket_tellings, ro1_state_pocket_slots, ko1_state_pocket_slots, ro1_state_pocket_awake, ko1_state_pocket_awake, ro1_state_pocket_answering, ko1_state_pocket_answering⟩ := id lo1_state_pocket
    obtain ⟨ko1_state_told, ro1_state_told_row, ko1_state_told_row⟩ := id lo1_state_told
    have ko1_state_tally := id lo1_state_tally
    obtain ⟨ko1_before, ro1_before_pocket, lo1_before_pocket, ro1_before_told, lo1_before_told, ro1_before_tally, lo1_before_tally, ro1_before_settings, ko1_before_settings⟩ := id lo1_before
    obtain ⟨ko1_before_pocket, ro1_before_pocket_names, ko1_before_pocket_names, ro1_before_pocket_asksToGo, ko1_before_pocket_asksToGo, ro1_before_pocket_tellings, ko1_before_pocket_tellings, ro1_before_pocket_slots, ko1_before_pocket_slots, ro1_before_pocket_awake, ko1_before_pocket_awake, ro1_before_pocket_answering, ko1_before_pocket_answering⟩ := id lo1_before_pocket
    obtain ⟨ko1_before_told, ro1_before_told_row, ko1_before_told_row⟩ := id lo1_before_told
    have ko1_before_tally := id lo1_before_tally
    obtain ⟨ko1_trial, ro1_trial_pocket, lo1_trial_pocket, ro1_trial_told, lo1_trial_told, ro1_trial_tally, lo1_trial_tally, ro1_trial_settings, ko1_trial_settings⟩ := id lo1_trial
    obtain ⟨ko1_trial_pocket, ro1_trial_pocket_names, ko1_trial_pocket_names, ro1_trial_pocket_asksToGo, ko1_trial_pocket_asksToGo, ro1_trial_pocket_tellings, ko1_trial_pocket_tellings, ro1_trial_pocket_slots, ko1_trial_pocket_slots, ro1_trial_pocket_awake, ko1_trial_pocket_awake, ro1_trial_pocket_answering, ko1_trial_pocket_answering⟩ := id lo1_trial_pocket
    obtain ⟨ko1_trial_told, ro1_trial_told_row, ko1_trial_told_row⟩ := id lo1_trial_told
    have ko1_trial_tally := id lo1_trial_tally
    obtain ⟨ko1_snapshot, ro1_snapshot_pocket, lo1_snapshot_pocket, ro1_snapshot_told, lo1_snapshot_told, ro1_snapshot_tally, lo1_snapshot_tally, ro1_snapshot_settings, ko1_snapshot_settings⟩ := id lo1_snapshot
    obtain ⟨ko1_snapshot_pocket, ro1_snapshot_pocket_names, ko1_snapshot_pocket_names, ro1_snapshot_pocket_asksToGo, ko1_snapshot_pocket_asksToGo, ro1_snapshot_pocket_tellings, ko1_snapshot_pocket_tellings, ro1_snapshot_pocket_slots, ko1_snapshot_pocket_slots, ro1_snapshot_pocket_awake, ko1_snapshot_pocket_awake, ro1_snapshot_pocket_answering, ko1_snapshot_pocket_answering⟩ := id lo1_snapshot_pocket
    obtain ⟨ko1_snapshot_told, ro1_snapshot_told_row, ko1_snapshot_told_row⟩ := id lo1_snapshot_told
    have ko1_snapshot_tally := id lo1_snapshot_tally
    obtain ⟨ko1_history, ro1_history_rows, ko1_history_rows⟩ := id lo1_history
    obtain ⟨ko1_text, ro1_text_characters, ko1_text_characters, ro1_text_kinds, ko1_text_kinds, ro1_text_numbers, ko1_text_numbers⟩ := id lo1_text
    show AW m_X6_ask d none Q 32 [some (.inr (some 1)), some (.inl x1), some (.inl x2)] [(.inl v6), (.inr (some 1))] h5 (0, 0)
    refine aw_invV (pc := 32) (md' := m_X6_recorded) (ci := 6) (as := [(.inl v6)]) dX6_ask_32 mo_X6_recorded im_X6_recorded se_X6_recorded ml_X6_51 rfl ko1 rfl hd (Nat.le_of_ble_eq_true rfl) (Nat.le_of_ble_eq_true rfl) (Nat.le_of_ble_eq_true rfl) ?_
    refine am_mono g (fun _ h7 _ ok_h7 g => ?_)
    obtain ⟨v8, rfl, ss_h7, g⟩ := g
    replace hL := QM.sw hL ss_h7
    obtain ⟨ko1, ro1_state, lo1_state, ro1_before, lo1_before, ro1_trial, lo1_trial, ro1_snapshot, lo1_snapshot, ro1_history, lo1_history, ro1_text, lo1_text⟩ := id hL
    obtain ⟨ko1_state, ro1_state_pocket, lo1_state_pocket, ro1_state_told, lo1_state_told, ro1_state_tally, lo1_state_tally, ro1_state_settings, ko1_state_settings⟩ := id lo1_state
    obtain ⟨ko1_state_pocket, ro1_state_pocket_names, ko1_state_pocket_names, ro1_state_pocket_asksToGo, ko1_state_pocket_asksToGo, ro1_state_pocket_tellings, ko1_state_pocket_tellings, ro1_state_pocket_slots, ko1_state_pocket_slots, ro1_state_pocket_awake, ko1_state_pocket_awake, ro1_state_pocket_answering, ko1_state_pocket_answering⟩ := id lo1_state_pocket
    obtain ⟨ko1_state_told, ro1_state_told_row, ko1_state_told_row⟩ := id lo1_state_told
    have ko1_state_tally := id lo1_state_tally
    obtain ⟨ko1_before, ro1_before_pocket, lo1_before_pocket, ro1_before_told, lo1_before_told, ro1_before_tally, lo1_before_tally, ro1_before_settings, ko1_before_settings⟩ := id lo1_before
    obtain ⟨ko1_before_pocket, ro1_before_pocket_names, ko1_before_pocket_names, ro1_before_pocket_asksToGo, ko1_before_pocket_asksToGo, ro1_before_pocket_tellings, ko1_before_pocket_tellings, ro1_before_pocket_slots, ko1_before_pocket_slots, ro1_before_pocket_awake, ko1_before_pocket_awake, ro1_before_pocket_answering, ko1_before_pocket_answering⟩ := id lo1_before_pocket
    obtain ⟨ko1_before_told, ro1_before_told_row, ko1_before_told_row⟩ := id lo1_before_told
    have ko1_before_tally := id lo1_before_tally
    obtain ⟨ko1_trial, ro1_trial_pocket, lo1_trial_pocket, ro1_trial_told, lo1_trial_told, ro1_trial_tally, lo1_trial_tally, ro1_trial_settings, ko1_trial_settings⟩ := id lo1_trial
    obtain ⟨ko1_trial_pocket, ro1_trial_pocket_names, ko1_trial_pocket_names, ro1_trial_pocket_asksToGo, ko1_trial_pocket_asksToGo, ro1_trial_pocket_tellings, ko1_trial_pocket_tellings, ro1_trial_pocket_slots, ko1_trial_pocket_slots, ro1_trial_pocket_awake, ko1_trial_pocket_awake, ro1_trial_pocket_answering, ko1_trial_pocket_answering⟩ := id lo1_trial_pocket
    obtain ⟨ko1_trial_told, ro1_trial_told_row, ko1_trial_told_row⟩ := id lo1_trial_told
    have ko1_trial_tally := id lo1_trial_tally
    obtain ⟨ko1_snapshot, ro1_snapshot_pocket, lo1_snapshot_pocket, ro1_snapshot_told, lo1_snapshot_told, ro1_snapshot_tally, lo1_snapshot_tally, ro1_snapshot_settings, ko1_snapshot_settings⟩ := id lo1_snapshot
    obtain ⟨ko1_snapshot_pocket, ro1_snapshot_pocket_names, ko1_snapshot_pocket_names, ro1_snapshot_pocket_asksToGo, ko1_snapshot_pocket_asksToGo, ro1_snapshot_pocket_tellings, ko1_snapshot_pocket_tellings, ro1_snapshot_pocket_slots, ko1_snapshot_pocket_slots, ro1_snapshot_pocket_awake, ko1_snapshot_pocket_awake, ro1_snapshot_pocket_answering, ko1_snapshot_pocket_answering⟩ := id lo1_snapshot_pocket
    obtain ⟨ko1_snapshot_told, ro1_snapshot_told_row, ko1_snapshot_told_row⟩ := id lo1_snapshot_told
    have ko1_snapshot_tally := id lo1_snapshot_tally
    obtain ⟨ko1_history, ro1_history_rows, ko1_history_rows⟩ := id lo1_history
    obtain ⟨ko1_text, ro1_text_characters, ko1_text_characters, ro1_text_kinds, ko1_text_kinds, ro1_text_numbers, ko1_text_numbers⟩ := id lo1_text
    show AW m_X6_ask d none Q 35 [some (.inr (some 1)), some (.inl x1), some (.inl x2)] [(.inl v8)] h7 (0, 0)
    exact ax_ireturn (pc := 35) dX6_ask_35 rfl g (by decide) (by decide)
  · replace g := g.2 c3
    refine aw_bipush (pc := 8) dX6_ask_8 ?_
    exact ax_ireturn (pc := 10) dX6_ask_10 rfl g (by decide) (by decide)
set_option maxRecDepth 100000 in
set_option maxHeartbeats 4000000 in
theorem vc_X6_walk {d : Nat} {Q : Option Int → AH → Prop} {h : AH} {x1 : Int} (hd : 1 ≤ d) (hL : QM h)
  (g :
    AM (d - 1) m_X2_copyFrom [(.inr (some 14)), (.inr (some 2))] h (fun r h1 => 
      r = none ∧ SS h h1 ∧
      AM (d - 1) m_X2_makeWalk [(.inr (some 2)), (.inl x1)] h1 (fun r h2 => 
        ∃ v3, r = some v3 ∧ SS h1 h2 ∧
        AM (d - 1) m_X6_recorded [(.inr (some 1)), (.inl v3)] h2 (fun r h4 => 
          ∃ v5, r = some v5 ∧ SW h2 h4 ∧
          Q (some v5) h4)))) :
  AM d m_X6_walk [(.inr (some 1)), (.inl x1)] h Q := by
  refine am_body mo_X6_walk (Nat.le_of_ble_eq_true rfl) ?_
  show AW m_X6_walk d none Q 0 [some (.inr (some 1)), some (.inl x1)] [] h (0, 0)
  obtain ⟨ko1, ro1_state, lo1_state, ro1_before, lo1_before, ro1_trial, lo1_trial, ro1_snapshot, lo1_snapshot, ro1_history, lo1_history, ro1_text, lo1_text⟩ := id hL
  obtain ⟨ko1_state, ro1_state_pocket, lo1_state_pocket, ro1_state_told, lo1_state_told, ro1_state_tally, lo1_state_tally, ro1_state_settings, ko1_state_settings⟩ := id lo1_state
  obtain ⟨ko1_state_pocket, ro1_state_pocket_names, ko1_state_pocket_names, ro1_state_pocket_asksToGo, ko1_state_pocket_asksToGo, ro1_state_pocket_tellings, ko1_state_pocket_tellings, ro1_state_pocket_slots, ko1_state_pocket_slots, ro1_state_pocket_awake, ko1_state_pocket_awake, ro1_state_pocket_answering, ko1_state_pocket_answering⟩ := id lo1_state_pocket
  obtain ⟨ko1_state_told, ro1_state_told_row, ko1_state_told_row⟩ := id lo1_state_told
  have ko1_state_tally := id lo1_state_tally
  obtain ⟨ko1_before, ro1_before_pocket, lo1_before_pocket, ro1_before_told, lo1_before_told, ro1_before_tally, lo1_before_tally, ro1_before_settings, ko1_before_settings⟩ := id lo1_before
  obtain ⟨ko1_before_pocket, ro1_before_pocket_names, ko1_before_pocket_names, ro1_before_pocket_asksToGo, ko1_before_pocket_asksToGo, ro1_before_pocket_tellings, ko1_before_pocket_tellings, ro1_before_pocket_slots, ko1_before_pocket_slots, ro1_before_pocket_awake, ko1_before_pocket_awake, ro1_before_pocket_answering, ko1_before_pocket_answering⟩ := id lo1_before_pocket
  obtain ⟨ko1_before_told, ro1_before_told_row, ko1_before_told_row⟩ := id lo1_before_told
  have ko1_before_tally := id lo1_before_tally
  obtain ⟨ko1_trial, ro1_trial_pocket, lo1_trial_pocket, ro1_trial_told, lo1_trial_told, ro1_trial_tally, lo1_trial_tally, ro1_trial_settings, ko1_trial_settings⟩ := id lo1_trial
  obtain ⟨ko1_trial_pocket, ro1_trial_pocket_names, ko1_trial_pocket_names, ro1_trial_pocket_asksToGo, ko1_trial_pocket_asksToGo, ro1_trial_pocket_tellings, ko1_trial_pocket_tellings, ro1_trial_pocket_slots, ko1_trial_pocket_slots, ro1_trial_pocket_awake, ko1_trial_pocket_awake, ro1_trial_pocket_answering, ko1_trial_pocket_answering⟩ := id lo1_trial_pocket
  obtain ⟨ko1_trial_told, ro1_trial_told_row, ko1_trial_told_row⟩ := id lo1_trial_told
  have ko1_trial_tally := id lo1_trial_tally
  obtain ⟨ko1_snapshot, ro1_snapshot_pocket, lo1_snapshot_pocket, ro1_snapshot_told, lo1_snapshot_told, ro1_snapshot_tally, lo1_snapshot_tally, ro1_snapshot_settings, ko1_snapshot_settings⟩ := id lo1_snapshot
  obtain ⟨ko1_snapshot_pocket, ro1_snapshot_pocket_names, ko1_snapshot_pocket_names, ro1_snapshot_pocket_asksToGo, ko1_snapshot_pocket_asksToGo, ro1_snapshot_pocket_tellings, ko1_snapshot_pocket_tellings, ro1_snapshot_pocket_slots, ko1_snapshot_pocket_slots, ro1_snapshot_pocket_awake, ko1_snapshot_pocket_awake, ro1_snapshot_pocket_answering, ko1_snapshot_pocket_answering⟩ := id lo1_snapshot_pocket
  obtain ⟨ko1_snapshot_told, ro1_snapshot_told_row, ko1_snapshot_told_row⟩ := id lo1_snapshot_told
  have ko1_snapshot_tally := id lo1_snapshot_tally
  obtain ⟨ko1_history, ro1_history_rows, ko1_history_rows⟩ := id lo1_history
  obtain ⟨ko1_text, ro1_text_characters, ko1_text_characters, ro1_text_kinds, ko1_text_kinds, ro1_text_numbers, ko1_text_numbers⟩ := id lo1_text
  refine aw_aload_n (pc := 0) dX6_walk_0 rfl ?_
  refine aw_getr (pc := 1) (r := some 14) dX6_walk_1 fl_X6_16 (by decide) rfl ko1 ro1_before ?_
  refine aw_aload_n (pc := 4) dX6_walk_4 rfl ?_
  refine aw_getr (pc := 5) (r := some 2) dX6_walk_5 fl_X6_10 (by decide) rfl ko1 ro1_state ?_
  refine aw_invV (pc := 8) (md' := m_X2_copyFrom) (ci := 2) (as := [(.inr (some 2))]) dX6_walk_8 mo_X2_copyFrom im_X2_copyFrom se_X2_copyFrom ml_X6_43 rfl ko1_before rfl hd (Nat.le_of_ble_eq_true rfl) (Nat.le_of_ble_eq_true rfl) (Nat.le_of_ble_eq_true rfl) ?_
  refine am_mono g (fun _ h1 _ ok_h1 g => ?_)
  obtain ⟨rfl, ss_h1, g⟩ := g
  replace hL := QM.ss hL ss_h1
  obtain ⟨ko1, ro1_state, lo1_state, ro1_before, lo1_before, ro1_trial, lo1_trial, ro1_snapshot, lo1_snapshot, ro1_history, lo1_history, ro1_text, lo1_text⟩ := id hL
  obtain ⟨ko1_state, ro1_state_pocket, lo1_state_pocket, ro1_state_told, lo1_state_told, ro1_state_tally, lo1_state_tally, ro1_state_settings, ko1_state_settings⟩ := id lo1_state
  obtain ⟨ko1_state_pocket, ro1_state_pocket_names, ko1_state_pocket_names, ro1_state_pocket_asksToGo, ko1_state_pocket_asksToGo, ro1_state_pocket_tellings, ko1_state_pocket_tellings, ro1_state_pocket_slots, ko1_state_pocket_slots, ro1_state_pocket_awake, ko1_state_pocket_awake, ro1_state_pocket_answering, ko1_state_pocket_answering⟩ := id lo1_state_pocket
  obtain ⟨ko1_state_told, ro1_state_told_row, ko1_state_told_row⟩ := id lo1_state_told
  have ko1_state_tally := id lo1_state_tally
  obtain ⟨ko1_before, ro1_before_pocket, lo1_before_pocket, ro1_before_told, lo1_before_told, ro1_before_tally, lo1_before_tally, ro1_before_settings, ko1_before_settings⟩ := id lo1_before
  obtain ⟨ko1_before_pocket, ro1_before_pocket_names, ko1_before_pocket_names, ro1_before_pocket_asksToGo, ko1_before_pocket_asksToGo, ro1_before_pocket_tellings, ko1_before_pocket_tellings, ro1_before_pocket_slots, ko1_before_pocket_slots, ro1_before_pocket_awake, ko1_before_pocket_awake, ro1_before_pocket_answering, ko1_before_pocket_answering⟩ := id lo1_before_pocket
  obtain ⟨ko1_before_told, ro1_before_told_row, ko1_before_told_row⟩ := id lo1_before_told
  have ko1_before_tally := id lo1_before_tally
  obtain ⟨ko1_trial, ro1_trial_pocket, lo1_trial_pocket, ro1_trial_told, lo1_trial_told, ro1_trial_tally, lo1_trial_tally, ro1_trial_settings, ko1_trial_settings⟩ := id lo1_trial
  obtain ⟨ko1_trial_pocket, ro1_trial_pocket_names, ko1_trial_pocket_names, ro1_trial_pocket_asksToGo, ko1_trial_pocket_asksToGo, ro1_trial_pocket_tellings, ko1_trial_pocket_tellings, ro1_trial_pocket_slots, ko1_trial_pocket_slots, ro1_trial_pocket_awake, ko1_trial_pocket_awake, ro1_trial_pocket_answering, ko1_trial_pocket_answering⟩ := id lo1_trial_pocket
  obtain ⟨ko1_trial_told, ro1_trial_told_row, ko1_trial_told_row⟩ := id lo1_trial_told
  have ko1_trial_tally := id lo1_trial_tally
  obtain ⟨ko1_snapshot, ro1_snapshot_pocket, lo1_snapshot_pocket, ro1_snapshot_told, lo1_snapshot_told, ro1_snapshot_tally, lo1_snapshot_tally, ro1_snapshot_settings, ko1_snapshot_settings⟩ := id lo1_snapshot
  obtain ⟨ko1_snapshot_pocket, ro1_snapshot_pocket_names, ko1_snapshot_pocket_names, ro1_snapshot_pocket_asksToGo, ko1_snapshot_pocket_asksToGo, ro1_snapshot_pocket_tellings, ko1_snapshot_pocket_tellings, ro1_snapshot_pocket_slots, ko1_snapshot_pocket_slots, ro1_snapshot_pocket_awake, ko1_snapshot_pocket_awake, ro1_snapshot_pocket_answering, ko1_snapshot_pocket_answering⟩ := id lo1_snapshot_pocket
  obtain ⟨ko1_snapshot_told, ro1_snapshot_told_row, ko1_snapshot_told_row⟩ := id lo1_snapshot_told
  have ko1_snapshot_tally := id lo1_snapshot_tally
  obtain ⟨ko1_history, ro1_history_rows, ko1_history_rows⟩ := id lo1_history
  obtain ⟨ko1_text, ro1_text_characters, ko1_text_characters, ro1_text_kinds, ko1_text_kinds, ro1_text_numbers, ko1_text_numbers⟩ := id lo1_text
  show AW m_X6_walk d none Q 11 [some (.inr (some 1)), some (.inl x1)] [] h1 (0, 0)
  refine aw_aload_n (pc := 11) dX6_walk_11 rfl ?_
  refine aw_aload_n (pc := 12) dX6_walk_12 rfl ?_
  refine aw_getr (pc := 13) (r := some 2) dX6_walk_13 fl_X6_10 (by decide) rfl ko1 ro1_state ?_
  refine aw_iload_n (pc := 16) dX6_walk_16 rfl ?_
  refine aw_invV (pc := 17) (md' := m_X2_makeWalk) (ci := 2) (as := [(.inl x1)]) dX6_walk_17 mo_X2_makeWalk im_X2_makeWalk se_X2_makeWalk ml_X6_84 rfl ko1_state rfl hd (Nat.le_of_ble_eq_true rfl) (Nat.le_of_ble_eq_true rfl) (Nat.le_of_ble_eq_true rfl) ?_
  refine am_mono g (fun _ h2 _ ok_h2 g => ?_)
  obtain ⟨v3, rfl, ss_h2, g⟩ := g
  replace hL := QM.ss hL ss_h2
  obtain ⟨ko1, ro1_state, lo1_state, ro1_before, lo1_before, ro1_trial, lo1_trial, ro1_snapshot, lo1_snapshot, ro1_history, lo1_history, ro1_text, lo1_text⟩ := id hL
  obtain ⟨ko1_state, ro1_state_pocket, lo1_state_pocket, ro1_state_told, lo1_state_told, ro1_state_tally, lo1_state_tally, ro1_state_settings, ko1_state_settings⟩ := id lo1_state
  obtain ⟨ko1_state_pocket, ro1_state_pocket_names, ko1_state_pocket_names, ro1_state_pocket_asksToGo, ko1_state_pocket_asksToGo, ro1_state_pocket_tellings, ko1_state_pocket_tellings, ro1_state_pocket_slots, ko1_state_pocket_slots, ro1_state_pocket_awake, ko1_state_pocket_awake, ro1_state_pocket_answering, ko1_state_pocket_answering⟩ := id lo1_state_pocket
  obtain ⟨ko1_state_told, ro1_state_told_row, ko1_state_told_row⟩ := id lo1_state_told
  have ko1_state_tally := id lo1_state_tally
  obtain ⟨ko1_before, ro1_before_pocket, lo1_before_pocket, ro1_before_told, lo1_before_told, ro1_before_tally, lo1_before_tally, ro1_before_settings, ko1_before_settings⟩ := id lo1_before
  obtain ⟨ko1_before_pocket, ro1_before_pocket_names, ko1_before_pocket_names, ro1_before_pocket_asksToGo, ko1_before_pocket_asksToGo, ro1_before_pocket_tellings, ko1_before_pocket_tellings, ro1_before_pocket_slots, ko1_before_pocket_slots, ro1_before_pocket_awake, ko1_before_pocket_awake, ro1_before_pocket_answering, ko1_before_pocket_answering⟩ := id lo1_before_pocket
  obtain ⟨ko1_before_told, ro1_before_told_row, ko1_before_told_row⟩ := id lo1_before_told
  have ko1_before_tally := id lo1_before_tally
  obtain ⟨ko1_trial, ro1_trial_pocket, lo1_trial_pocket, ro1_trial_told, lo1_trial_told, ro1_trial_tally, lo1_trial_tally, ro1_trial_settings, ko1_trial_settings⟩ := id lo1_trial
  obtain ⟨ko1_trial_pocket, ro1_trial_pocket_names, ko1_trial_pocket_names, ro1_trial_pocket_asksToGo, ko1_trial_pocket_asksToGo, ro1_trial_pocket_tellings, ko1_trial_pocket_tellings, ro1_trial_pocket_slots, ko1_trial_pocket_slots, ro1_trial_pocket_awake, ko1_trial_pocket_awake, ro1_trial_pocket_answering, ko1_trial_pocket_answering⟩ := id lo1_trial_pocket
  obtain ⟨ko1_trial_told, ro1_trial_told_row, ko1_trial_told_row⟩ := id lo1_trial_told
  have ko1_trial_tally := id lo1_trial_tally
  obtain ⟨ko1_snapshot, ro1_snapshot_pocket, lo1_snapshot_pocket, ro1_snapshot_told, lo1_snapshot_told, ro1_snapshot_tally, lo1_snapshot_tally, ro1_snapshot_settings, ko1_snapshot_settings⟩ := id lo1_snapshot
  obtain ⟨ko1_snapshot_pocket, ro1_snapshot_pocket_names, ko1_snapshot_pocket_names, ro1_snapshot_pocket_asksToGo, ko1_snapshot_pocket_asksToGo, ro1_snapshot_pocket_tellings, ko1_snapshot_pocket_tellings, ro1_snapshot_pocket_slots, ko1_snapshot_pocket_slots, ro1_snapshot_pocket_awake, ko1_snapshot_pocket_awake, ro1_snapshot_pocket_answering, ko1_snapshot_pocket_answering⟩ := id lo1_snapshot_pocket
  obtain ⟨ko1_snapshot_told, ro1_snapshot_told_row, ko1_snapshot_told_row⟩ := id lo1_snapshot_told
  have ko1_snapshot_tally := id lo1_snapshot_tally
  obtain ⟨ko1_history, ro1_history_rows, ko1_history_rows⟩ := id lo1_history
  obtain ⟨ko1_text, ro1_text_characters, ko1_text_characters, ro1_text_kinds, ko1_text_kinds, ro1_text_numbers, ko1_text_numbers⟩ := id lo1_text
  show AW m_X6_walk d none Q 20 [some (.inr (some 1)), some (.inl x1)] [(.inl v3), (.inr (some 1))] h2 (0, 0)
  refine aw_invV (pc := 20) (md' := m_X6_recorded) (ci := 6) (as := [(.inl v3)]) dX6_walk_20 mo_X6_recorded im_X6_recorded se_X6_recorded ml_X6_51 rfl ko1 rfl hd (Nat.le_of_ble_eq_true rfl) (Nat.le_of_ble_eq_true rfl) (Nat.le_of_ble_eq_true rfl) ?_
  refine am_mono g (fun _ h4 _ ok_h4 g => ?_)
  obtain ⟨v5, rfl, ss_h4, g⟩ := g
  replace hL := QM.sw hL ss_h4
  obtain ⟨ko1, ro1_state, lo1_state, ro1_before, lo1_before, ro1_trial, lo1_trial, ro1_snapshot, lo1_snapshot, ro1_history, lo1_history, ro1_text, lo1_text⟩ := id hL
  obtain ⟨ko1_state, ro1_state_pocket, lo1_state_pocket, ro1_state_told, lo1_state_told, ro1_state_tally, lo1_state_tally, ro1_state_settings, ko1_state_settings⟩ := id lo1_state
  obtain ⟨ko1_state_pocket, ro1_state_pocket_names, ko1_state_pocket_names, ro1_state_pocket_asksToGo, ko1_state_pocket_asksToGo, ro1_state_pocket_tellings, ko1_state_pocket_tellings, ro1_state_pocket_slots, ko1_state_pocket_slots, ro1_state_pocket_awake, ko1_state_pocket_awake, ro1_state_pocket_answering, ko1_state_pocket_answering⟩ := id lo1_state_pocket
  obtain ⟨ko1_state_told, ro1_state_told_row, ko1_state_told_row⟩ := id lo1_state_told
  have ko1_state_tally := id lo1_state_tally
  obtain ⟨ko1_before, ro1_before_pocket, lo1_before_pocket, ro1_before_told, lo1_before_told, ro1_before_tally, lo1_before_tally, ro1_before_settings, ko1_before_settings⟩ := id lo1_before
  obtain ⟨ko1_before_pocket, ro1_before_pocket_names, ko1_before_pocket_names, ro1_before_pocket_asksToGo, ko1_before_pocket_asksToGo, ro1_before_pocket_tellings, ko1_before_pocket_tellings, ro1_before_pocket_slots, ko1_before_pocket_slots, ro1_before_pocket_awake, ko1_before_pocket_awake, ro1_before_pocket_answering, ko1_before_pocket_answering⟩ := id lo1_before_pocket
  obtain ⟨ko1_before_told, ro1_before_told_row, ko1_before_told_row⟩ := id lo1_before_told
  have ko1_before_tally := id lo1_before_tally
  obtain ⟨ko1_trial, ro1_trial_pocket, lo1_trial_pocket, ro1_trial_told, lo1_trial_told, ro1_trial_tally, lo1_trial_tally, ro1_trial_settings, ko1_trial_settings⟩ := id lo1_trial
  obtain ⟨ko1_trial_pocket, ro1_trial_pocket_names, ko1_trial_pocket_names, ro1_trial_pocket_asksToGo, ko1_trial_pocket_asksToGo, ro1_trial_pocket_tellings, ko1_trial_pocket_tellings, ro1_trial_pocket_slots, ko1_trial_pocket_slots, ro1_trial_pocket_awake, ko1_trial_pocket_awake, ro1_trial_pocket_answering, ko1_trial_pocket_answering⟩ := id lo1_trial_pocket
  obtain ⟨ko1_trial_told, ro1_trial_told_row, ko1_trial_told_row⟩ := id lo1_trial_told
  have ko1_trial_tally := id lo1_trial_tally
  obtain ⟨ko1_snapshot, ro1_snapshot_pocket, lo1_snapshot_pocket, ro1_snapshot_told, lo1_snapshot_told, ro1_snapshot_tally, lo1_snapshot_tally, ro1_snapshot_settings, ko1_snapshot_settings⟩ := id lo1_snapshot
  obtain ⟨ko1_snapshot_pocket, ro1_snapshot_pocket_names, ko1_snapshot_pocket_names, ro1_snapshot_pocket_asksToGo, ko1_snapshot_pocket_asksToGo, ro1_snapshot_pocket_tellings, ko1_snapshot_pocket_tellings, ro1_snapshot_pocket_slots, ko1_snapshot_pocket_slots, ro1_snapshot_pocket_awake, ko1_snapshot_pocket_awake, ro1_snapshot_pocket_answering, ko1_snapshot_pocket_answering⟩ := id lo1_snapshot_pocket
  obtain ⟨ko1_snapshot_told, ro1_snapshot_told_row, ko1_snapshot_told_row⟩ := id lo1_snapshot_told
  have ko1_snapshot_tally := id lo1_snapshot_tally
  obtain ⟨ko1_history, ro1_history_rows, ko1_history_rows⟩ := id lo1_history
  obtain ⟨ko1_text, ro1_text_characters, ko1_text_characters, ro1_text_kinds, ko1_text_kinds, ro1_text_numbers, ko1_text_numbers⟩ := id lo1_text
  show AW m_X6_walk d none Q 23 [some (.inr (some 1)), some (.inl x1)] [(.inl v5)] h4 (0, 0)
  exact ax_ireturn (pc := 23) dX6_walk_23 rfl g (by decide) (by decide)
set_option maxRecDepth 100000 in
set_option maxHeartbeats 4000000 in
theorem vc_X6_frame {d : Nat} {Q : Option Int → AH → Prop} {h : AH} {x1 : Int} (hd : 1 ≤ d) (hL : QM h)
  (g :
    AM (d - 1) m_X2_copyFrom [(.inr (some 14)), (.inr (some 2))] h (fun r h1 => 
      r = none ∧ SS h h1 ∧
      AM (d - 1) m_X2_makeFrame [(.inr (some 2)), (.inl x1)] h1 (fun r h2 => 
        ∃ v3, r = some v3 ∧ SS h1 h2 ∧
        AM (d - 1) m_X6_recorded [(.inr (some 1)), (.inl v3)] h2 (fun r h4 => 
          ∃ v5, r = some v5 ∧ SW h2 h4 ∧
          Q (some v5) h4)))) :
  AM d m_X6_frame [(.inr (some 1)), (.inl x1)] h Q := by
  refine am_body mo_X6_frame (Nat.le_of_ble_eq_true rfl) ?_
  show AW m_X6_frame d none Q 0 [some (.inr (some 1)), some (.inl x1)] [] h (0, 0)
  obtain ⟨ko1, ro1_state, lo1_state, ro1_before, lo1_before, ro1_trial, lo1_trial, ro1_snapshot, lo1_snapshot, ro1_history, lo1_history, ro1_text, lo1_text⟩ := id hL
  obtain ⟨ko1_state, ro1_state_pocket, lo1_state_pocket, ro1_state_told, lo1_state_told, ro1_state_tally, lo1_state_tally, ro1_state_settings, ko1_state_settings⟩ := id lo1_state
  obtain ⟨ko1_state_pocket, ro1_state_pocket_names, ko1_state_pocket_names, ro1_state_pocket_asksToGo, ko1_state_pocket_asksToGo, ro1_state_pocket_tellings, ko1_state_pocket_tellings, ro1_state_pocket_slots, ko1_state_pocket_slots, ro1_state_pocket_awake, ko1_state_pocket_awake, ro1_state_pocket_answering, ko1_state_pocket_answering⟩ := id lo1_state_pocket
  obtain ⟨ko1_state_told, ro1_state_told_row, ko1_state_told_row⟩ := id lo1_state_told
  have ko1_state_tally := id lo1_state_tally
  obtain ⟨ko1_before, ro1_before_pocket, lo1_before_pocket, ro1_before_told, lo1_before_told, ro1_before_tally, lo1_before_tally, ro1_before_settings, ko1_before_settings⟩ := id lo1_before
  obtain ⟨ko1_before_pocket, ro1_before_pocket_names, ko1_before_pocket_names, ro1_before_pocket_asksToGo, ko1_before_pocket_asksToGo, ro1_before_pocket_tellings, ko1_before_pocket_tellings, ro1_before_pocket_slots, ko1_before_pocket_slots, ro1_before_pocket_awake, ko1_before_pocket_awake, ro1_before_pocket_answering, ko1_before_pocket_answering⟩ := id lo1_before_pocket
  obtain ⟨ko1_before_told, ro1_before_told_row, ko1_before_told_row⟩ := id lo1_before_told
  have ko1_before_tally := id lo1_before_tally
  obtain ⟨ko1_trial, ro1_trial_pocket, lo1_trial_pocket, ro1_trial_told, lo1_trial_told, ro1_trial_tally, lo1_trial_tally, ro1_trial_settings, ko1_trial_settings⟩ := id lo1_trial
  obtain ⟨ko1_trial_pocket, ro1_trial_pocket_names, ko1_trial_pocket_names, ro1_trial_pocket_asksToGo, ko1_trial_pocket_asksToGo, ro1_trial_pocket_tellings, ko1_trial_pocket_tellings, ro1_trial_pocket_slots, ko1_trial_pocket_slots, ro1_trial_pocket_awake, ko1_trial_pocket_awake, ro1_trial_pocket_answering, ko1_trial_pocket_answering⟩ := id lo1_trial_pocket
  obtain ⟨ko1_trial_told, ro1_trial_told_row, ko1_trial_told_row⟩ := id lo1_trial_told
  have ko1_trial_tally := id lo1_trial_tally
  obtain ⟨ko1_snapshot, ro1_snapshot_pocket, lo1_snapshot_pocket, ro1_snapshot_told, lo1_snapshot_told, ro1_snapshot_tally, lo1_snapshot_tally, ro1_snapshot_settings, ko1_snapshot_settings⟩ := id lo1_snapshot
  obtain ⟨ko1_snapshot_pocket, ro1_snapshot_pocket_names, ko1_snapshot_pocket_names, ro1_snapshot_pocket_asksToGo, ko1_snapshot_pocket_asksToGo, ro1_snapshot_pocket_tellings, ko1_snapshot_pocket_tellings, ro1_snapshot_pocket_slots, ko1_snapshot_pocket_slots, ro1_snapshot_pocket_awake, ko1_snapshot_pocket_awake, ro1_snapshot_pocket_answering, ko1_snapshot_pocket_answering⟩ := id lo1_snapshot_pocket
  obtain ⟨ko1_snapshot_told, ro1_snapshot_told_row, ko1_snapshot_told_row⟩ := id lo1_snapshot_told
  have ko1_snapshot_tally := id lo1_snapshot_tally
  obtain ⟨ko1_history, ro1_history_rows, ko1_history_rows⟩ := id lo1_history
  obtain ⟨ko1_text, ro1_text_characters, ko1_text_characters, ro1_text_kinds, ko1_text_kinds, ro1_text_numbers, ko1_text_numbers⟩ := id lo1_text
  refine aw_aload_n (pc := 0) dX6_frame_0 rfl ?_
  refine aw_getr (pc := 1) (r := some 14) dX6_frame_1 fl_X6_16 (by decide) rfl ko1 ro1_before ?_
  refine aw_aload_n (pc := 4) dX6_frame_4 rfl ?_
  refine aw_getr (pc := 5) (r := some 2) dX6_frame_5 fl_X6_10 (by decide) rfl ko1 ro1_state ?_
  refine aw_invV (pc := 8) (md' := m_X2_copyFrom) (ci := 2) (as := [(.inr (some 2))]) dX6_frame_8 mo_X2_copyFrom im_X2_copyFrom se_X2_copyFrom ml_X6_43 rfl ko1_before rfl hd (Nat.le_of_ble_eq_true rfl) (Nat.le_of_ble_eq_true rfl) (Nat.le_of_ble_eq_true rfl) ?_
  refine am_mono g (fun _ h1 _ ok_h1 g => ?_)
  obtain ⟨rfl, ss_h1, g⟩ := g
  replace hL := QM.ss hL ss_h1
  obtain ⟨ko1, ro1_state, lo1_state, ro1_before, lo1_before, ro1_trial, lo1_trial, ro1_snapshot, lo1_snapshot, ro1_history, lo1_history, ro1_text, lo1_text⟩ := id hL
  obtain ⟨ko1_state, ro1_state_pocket, lo1_state_pocket, ro1_state_told, lo1_state_told, ro1_state_tally, lo1_state_tally, ro1_state_settings, ko1_state_settings⟩ := id lo1_state
  obtain ⟨ko1_state_pocket, ro1_state_pocket_names, ko1_state_pocket_names, ro1_state_pocket_asksToGo, ko1_state_pocket_asksToGo, ro1_state_pocket_tellings, ko1_state_pocket_tellings, ro1_state_pocket_slots, ko1_state_pocket_slots, ro1_state_pocket_awake, ko1_state_pocket_awake, ro1_state_pocket_answering, ko1_state_pocket_answering⟩ := id lo1_state_pocket
  obtain ⟨ko1_state_told, ro1_state_told_row, ko1_state_told_row⟩ := id lo1_state_told
  have ko1_state_tally := id lo1_state_tally
  obtain ⟨ko1_before, ro1_before_pocket, lo1_before_pocket, ro1_before_told, lo1_before_told, ro1_before_tally, lo1_before_tally, ro1_before_settings, ko1_before_settings⟩ := id lo1_before
  obtain ⟨ko1_before_pocket, ro1_before_pocket_names, ko1_before_pocket_names, ro1_before_pocket_asksToGo, ko1_before_pocket_asksToGo, ro1_before_pocket_tellings, ko1_before_pocket_tellings, ro1_before_pocket_slots, ko1_before_pocket_slots, ro1_before_pocket_awake, ko1_before_pocket_awake, ro1_before_pocket_answering, ko1_before_pocket_answering⟩ := id lo1_before_pocket
  obtain ⟨ko1_before_told, ro1_before_told_row, ko1_before_told_row⟩ := id lo1_before_told
  have ko1_before_tally := id lo1_before_tally
  obtain ⟨ko1_trial, ro1_trial_pocket, lo1_trial_pocket, ro1_trial_told, lo1_trial_told, ro1_trial_tally, lo1_trial_tally, ro1_trial_settings, ko1_trial_settings⟩ := id lo1_trial
  obtain ⟨ko1_trial_pocket, ro1_trial_pocket_names, ko1_trial_pocket_names, ro1_trial_pocket_asksToGo, ko1_trial_pocket_asksToGo, ro1_trial_pocket_tellings, ko1_trial_pocket_tellings, ro1_trial_pocket_slots, ko1_trial_pocket_slots, ro1_trial_pocket_awake, ko1_trial_pocket_awake, ro1_trial_pocket_answering, ko1_trial_pocket_answering⟩ := id lo1_trial_pocket
  obtain ⟨ko1_trial_told, ro1_trial_told_row, ko1_trial_told_row⟩ := id lo1_trial_told
  have ko1_trial_tally := id lo1_trial_tally
  obtain ⟨ko1_snapshot, ro1_snapshot_pocket, lo1_snapshot_pocket, ro1_snapshot_told, lo1_snapshot_told, ro1_snapshot_tally, lo1_snapshot_tally, ro1_snapshot_settings, ko1_snapshot_settings⟩ := id lo1_snapshot
  obtain ⟨ko1_snapshot_pocket, ro1_snapshot_pocket_names, ko1_snapshot_pocket_names, ro1_snapshot_pocket_asksToGo, ko1_snapshot_pocket_asksToGo, ro1_snapshot_pocket_tellings, ko1_snapshot_pocket_tellings, ro1_snapshot_pocket_slots, ko1_snapshot_pocket_slots, ro1_snapshot_pocket_awake, ko1_snapshot_pocket_awake, ro1_snapshot_pocket_answering, ko1_snapshot_pocket_answering⟩ := id lo1_snapshot_pocket
  obtain ⟨ko1_snapshot_told, ro1_snapshot_told_row, ko1_snapshot_told_row⟩ := id lo1_snapshot_told
  have ko1_snapshot_tally := id lo1_snapshot_tally
  obtain ⟨ko1_history, ro1_history_rows, ko1_history_rows⟩ := id lo1_history
  obtain ⟨ko1_text, ro1_text_characters, ko1_text_characters, ro1_text_kinds, ko1_text_kinds, ro1_text_numbers, ko1_text_numbers⟩ := id lo1_text
  show AW m_X6_frame d none Q 11 [some (.inr (some 1)), some (.inl x1)] [] h1 (0, 0)
  refine aw_aload_n (pc := 11) dX6_frame_11 rfl ?_
  refine aw_aload_n (pc := 12) dX6_frame_12 rfl ?_
  refine aw_getr (pc := 13) (r := some 2) dX6_frame_13 fl_X6_10 (by decide) rfl ko1 ro1_state ?_
  refine aw_iload_n (pc := 16) dX6_frame_16 rfl ?_
  refine aw_invV (pc := 17) (md' := m_X2_makeFrame) (ci := 2) (as := [(.inl x1)]) dX6_frame_17 mo_X2_makeFrame im_X2_makeFrame se_X2_makeFrame ml_X6_88 rfl ko1_state rfl hd (Nat.le_of_ble_eq_true rfl) (Nat.le_of_ble_eq_true rfl) (Nat.le_of_ble_eq_true rfl) ?_
  refine am_mono g (fun _ h2 _ ok_h2 g => ?_)
  obtain ⟨v3, rfl, ss_h2, g⟩ := g
  replace hL := QM.ss hL ss_h2
  obtain ⟨ko1, ro1_state, lo1_state, ro1_before, lo1_before, ro1_trial, lo1_trial, ro1_snapshot, lo1_snapshot, ro1_history, lo1_history, ro1_text, lo1_text⟩ := id hL
  obtain ⟨ko1_state, ro1_state_pocket, lo1_state_pocket, ro1_state_told, lo1_state_told, ro1_state_tally, lo1_state_tally, ro1_state_settings, ko1_state_settings⟩ := id lo1_state
  obtain ⟨ko1_state_pocket, ro1_state_pocket_names, ko1_state_pocket_names, ro1_state_pocket_asksToGo, ko1_state_pocket_asksToGo, ro1_state_pocket_tellings, ko1_state_pocket_tellings, ro1_state_pocket_slots, ko1_state_pocket_slots, ro1_state_pocket_awake, ko1_state_pocket_awake, ro1_state_pocket_answering, ko1_state_pocket_answering⟩ := id lo1_state_pocket
  obtain ⟨ko1_state_told, ro1_state_told_row, ko1_state_told_row⟩ := id lo1_state_told
  have ko1_state_tally := id lo1_state_tally
  obtain ⟨ko1_before, ro1_before_pocket, lo1_before_pocket, ro1_before_told, lo1_before_told, ro1_before_tally, lo1_before_tally, ro1_before_settings, ko1_before_settings⟩ := id lo1_before
  obtain ⟨ko1_before_pocket, ro1_before_pocket_names, ko1_before_pocket_names, ro1_before_pocket_asksToGo, ko1_before_pocket_asksToGo, ro1_before_pocket_tellings, ko1_before_pocket_tellings, ro1_before_pocket_slots, ko1_before_pocket_slots, ro1_before_pocket_awake, ko1_before_pocket_awake, ro1_before_pocket_answering, ko1_before_pocket_answering⟩ := id lo1_before_pocket
  obtain ⟨ko1_before_told, ro1_before_told_row, ko1_before_told_row⟩ := id lo1_before_told
  have ko1_before_tally := id lo1_before_tally
  obtain ⟨ko1_trial, ro1_trial_pocket, lo1_trial_pocket, ro1_trial_told, lo1_trial_told, ro1_trial_tally, lo1_trial_tally, ro1_trial_settings, ko1_trial_settings⟩ := id lo1_trial
  obtain ⟨ko1_trial_pocket, ro1_trial_pocket_names, ko1_trial_pocket_names, ro1_trial_pocket_asksToGo, ko1_trial_pocket_asksToGo, ro1_trial_pocket_tellings, ko1_trial_pocket_tellings, ro1_trial_pocket_slots, ko1_trial_pocket_slots, ro1_trial_pocket_awake, ko1_trial_pocket_awake, ro1_trial_pocket_answering, ko1_trial_pocket_answering⟩ := id lo1_trial_pocket
  obtain ⟨ko1_trial_told, ro1_trial_told_row, ko1_trial_told_row⟩ := id lo1_trial_told
  have ko1_trial_tally := id lo1_trial_tally
  obtain ⟨ko1_snapshot, ro1_snapshot_pocket, lo1_snapshot_pocket, ro1_snapshot_told, lo1_snapshot_told, ro1_snapshot_tally, lo1_snapshot_tally, ro1_snapshot_settings, ko1_snapshot_settings⟩ := id lo1_snapshot
  obtain ⟨ko1_snapshot_pocket, ro1_snapshot_pocket_names, ko1_snapshot_pocket_names, ro1_snapshot_pocket_asksToGo, ko1_snapshot_pocket_asksToGo, ro1_snapshot_pocket_tellings, ko1_snapshot_pocket_tellings, ro1_snapshot_pocket_slots, ko1_snapshot_pocket_slots, ro1_snapshot_pocket_awake, ko1_snapshot_pocket_awake, ro1_snapshot_pocket_answering, ko1_snapshot_pocket_answering⟩ := id lo1_snapshot_pocket
  obtain ⟨ko1_snapshot_told, ro1_snapshot_told_row, ko1_snapshot_told_row⟩ := id lo1_snapshot_told
  have ko1_snapshot_tally := id lo1_snapshot_tally
  obtain ⟨ko1_history, ro1_history_rows, ko1_history_rows⟩ := id lo1_history
  obtain ⟨ko1_text, ro1_text_characters, ko1_text_characters, ro1_text_kinds, ko1_text_kinds, ro1_text_numbers, ko1_text_numbers⟩ := id lo1_text
  show AW m_X6_frame d none Q 20 [some (.inr (some 1)), some (.inl x1)] [(.inl v3), (.inr (some 1))] h2 (0, 0)
  refine aw_invV (pc := 20) (md' := m_X6_recorded) (ci := 6) (as := [(.inl v3)]) dX6_frame_20 mo_X6_recorded im_X6_recorded se_X6_recorded ml_X6_51 rfl ko1 rfl hd (Nat.le_of_ble_eq_true rfl) (Nat.le_of_ble_eq_true rfl) (Nat.le_of_ble_eq_true rfl) ?_
  refine am_mono g (fun _ h4 _ ok_h4 g => ?_)
  obtain ⟨v5, rfl, ss_h4, g⟩ := g
  replace hL := QM.sw hL ss_h4
  obtain ⟨ko1, ro1_state, lo1_state, ro1_before, lo1_before, ro1_trial, lo1_trial, ro1_snapshot, lo1_snapshot, ro1_history, lo1_history, ro1_text, lo1_text⟩ := id hL
  obtain ⟨ko1_state, ro1_state_pocket, lo1_state_pocket, ro1_state_told, lo1_state_told, ro1_state_tally, lo1_state_tally, ro1_state_settings, ko1_state_settings⟩ := id lo1_state
  obtain ⟨ko1_state_pocket, ro1_state_pocket_names, ko1_state_pocket_names, ro1_state_pocket_asksToGo, ko1_state_pocket_asksToGo, ro1_state_pocket_tellings, ko1_state_pocket_tellings, ro1_state_pocket_slots, ko1_state_pocket_slots, ro1_state_pocket_awake, ko1_state_pocket_awake, ro1_state_pocket_answering, ko1_state_pocket_answering⟩ := id lo1_state_pocket
  obtain ⟨ko1_state_told, ro1_state_told_row, ko1_state_told_row⟩ := id lo1_state_told
  have ko1_state_tally := id lo1_state_tally
  obtain ⟨ko1_before, ro1_before_pocket, lo1_before_pocket, ro1_before_told, lo1_before_told, ro1_before_tally, lo1_before_tally, ro1_before_settings, ko1_before_settings⟩ := id lo1_before
  obtain ⟨ko1_before_pocket, ro1_before_pocket_names, ko1_before_pocket_names, ro1_before_pocket_asksToGo, ko1_before_pocket_asksToGo, ro1_before_pocket_tellings, ko1_before_pocket_tellings, ro1_before_pocket_slots, ko1_before_pocket_slots, ro1_before_pocket_awake, ko1_before_pocket_awake, ro1_before_pocket_answering, ko1_before_pocket_answering⟩ := id lo1_before_pocket
  obtain ⟨ko1_before_told, ro1_before_told_row, ko1_before_told_row⟩ := id lo1_before_told
  have ko1_before_tally := id lo1_before_tally
  obtain ⟨ko1_trial, ro1_trial_pocket, lo1_trial_pocket, ro1_trial_told, lo1_trial_told, ro1_trial_tally, lo1_trial_tally, ro1_trial_settings, ko1_trial_settings⟩ := id lo1_trial
  obtain ⟨ko1_trial_pocket, ro1_trial_pocket_names, ko1_trial_pocket_names, ro1_trial_pocket_asksToGo, ko1_trial_pocket_asksToGo, ro1_trial_pocket_tellings, ko1_trial_pocket_tellings, ro1_trial_pocket_slots, ko1_trial_pocket_slots, ro1_trial_pocket_awake, ko1_trial_pocket_awake, ro1_trial_pocket_answering, ko1_trial_pocket_answering⟩ := id lo1_trial_pocket
  obtain ⟨ko1_trial_told, ro1_trial_told_row, ko1_trial_told_row⟩ := id lo1_trial_told
  have ko1_trial_tally := id lo1_trial_tally
  obtain ⟨ko1_snapshot, ro1_snapshot_pocket, lo1_snapshot_pocket, ro1_snapshot_told, lo1_snapshot_told, ro1_snapshot_tally, lo1_snapshot_tally, ro1_snapshot_settings, ko1_snapshot_settings⟩ := id lo1_snapshot
  obtain ⟨ko1_snapshot_pocket, ro1_snapshot_pocket_names, ko1_snapshot_pocket_names, ro1_snapshot_pocket_asksToGo, ko1_snapshot_pocket_asksToGo, ro1_snapshot_pocket_tellings, ko1_snapshot_pocket_tellings, ro1_snapshot_pocket_slots, ko1_snapshot_pocket_slots, ro1_snapshot_pocket_awake, ko1_snapshot_pocket_awake, ro1_snapshot_pocket_answering, ko1_snapshot_pocket_answering⟩ := id lo1_snapshot_pocket
  obtain ⟨ko1_snapshot_told, ro1_snapshot_told_row, ko1_snapshot_told_row⟩ := id lo1_snapshot_told
  have ko1_snapshot_tally := id lo1_snapshot_tally
  obtain ⟨ko1_history, ro1_history_rows, ko1_history_rows⟩ := id lo1_history
  obtain ⟨ko1_text, ro1_text_characters, ko1_text_characters, ro1_text_kinds, ko1_text_kinds, ro1_text_numbers, ko1_text_numbers⟩ := id lo1_text
  show AW m_X6_frame d none Q 23 [some (.inr (some 1)), some (.inl x1)] [(.inl v5)] h4 (0, 0)
  exact ax_ireturn (pc := 23) dX6_frame_23 rfl g (by decide) (by decide)
set_option maxRecDepth 100000 in
set_option maxHeartbeats 4000000 in
theorem vc_X6_rounds {d : Nat} {Q : Option Int → AH → Prop} {h : AH} {x1 : Int} (hd : 1 ≤ d) (hL : QM h)
  (g :
    AM (d - 1) m_X2_copyFrom [(.inr (some 14)), (.inr (some 2))] h (fun r h1 => 
      r = none ∧ SS h h1 ∧
      AM (d - 1) m_X2_makeRounds [(.inr (some 2)), (.inl x1)] h1 (fun r h2 => 
        ∃ v3, r = some v3 ∧ SS h1 h2 ∧
        AM (d - 1) m_X6_recorded [(.inr (some 1)), (.inl v3)] h2 (fun r h4 => 
          ∃ v5, r = some v5 ∧ SW h2 h4 ∧
          Q (some v5) h4)))) :
  AM d m_X6_rounds [(.inr (some 1)), (.inl x1)] h Q := by
  refine am_body mo_X6_rounds (Nat.le_of_ble_eq_true rfl) ?_
  show AW m_X6_rounds d none Q 0 [some (.inr (some 1)), some (.inl x1)] [] h (0, 0)
  obtain ⟨ko1, ro1_state, lo1_state, ro1_before, lo1_before, ro1_trial, lo1_trial, ro1_snapshot, lo1_snapshot, ro1_history, lo1_history, ro1_text, lo1_text⟩ := id hL
  obtain ⟨ko1_state, ro1_state_pocket, lo1_state_pocket, ro1_state_told, lo1_state_told, ro1_state_tally, lo1_state_tally, ro1_state_settings, ko1_state_settings⟩ := id lo1_state
  obtain ⟨ko1_state_pocket, ro1_state_pocket_names, ko1_state_pocket_names, ro1_state_pocket_asksToGo, ko1_state_pocket_asksToGo, ro1_state_pocket_tellings, ko1_state_pocket_tellings, ro1_state_pocket_slots, ko1_state_pocket_slots, ro1_state_pocket_awake, ko1_state_pocket_awake, ro1_state_pocket_answering, ko1_state_pocket_answering⟩ := id lo1_state_pocket
  obtain ⟨ko1_state_told, ro1_state_told_row, ko1_state_told_row⟩ := id lo1_state_told
  have ko1_state_tally := id lo1_state_tally
  obtain ⟨ko1_before, ro1_before_pocket, lo1_before_pocket, ro1_before_told, lo1_before_told, ro1_before_tally, lo1_before_tally, ro1_before_settings, ko1_before_settings⟩ := id lo1_before
  obtain ⟨ko1_before_pocket, ro1_before_pocket_names, ko1_before_pocket_names, ro1_before_pocket_asksToGo, ko1_before_pocket_asksToGo, ro1_before_pocket_tellings, ko1_before_pocket_tellings, ro1_before_pocket_slots, ko1_before_pocket_slots, ro1_before_pocket_awake, ko1_before_pocket_awake, ro1_before_pocket_answering, ko1_before_pocket_answering⟩ := id lo1_before_pocket
  obtain ⟨ko1_before_told, ro1_before_told_row, ko1_before_told_row⟩ := id lo1_before_told
  have ko1_before_tally := id lo1_before_tally
  obtain ⟨ko1_trial, ro1_trial_pocket, lo1_trial_pocket, ro1_trial_told, lo1_trial_told, ro1_trial_tally, lo1_trial_tally, ro1_trial_settings, ko1_trial_settings⟩ := id lo1_trial
  obtain ⟨ko1_trial_pocket, ro1_trial_pocket_names, ko1_trial_pocket_names, ro1_trial_pocket_asksToGo, ko1_trial_pocket_asksToGo, ro1_trial_pocket_tellings, ko1_trial_pocket_tellings, ro1_trial_pocket_slots, ko1_trial_pocket_slots, ro1_trial_pocket_awake, ko1_trial_pocket_awake, ro1_trial_pocket_answering, ko1_trial_pocket_answering⟩ := id lo1_trial_pocket
  obtain ⟨ko1_trial_told, ro1_trial_told_row, ko1_trial_told_row⟩ := id lo1_trial_told
  have ko1_trial_tally := id lo1_trial_tally
  obtain ⟨ko1_snapshot, ro1_snapshot_pocket, lo1_snapshot_pocket, ro1_snapshot_told, lo1_snapshot_told, ro1_snapshot_tally, lo1_snapshot_tally, ro1_snapshot_settings, ko1_snapshot_settings⟩ := id lo1_snapshot
  obtain ⟨ko1_snapshot_pocket, ro1_snapshot_pocket_names, ko1_snapshot_pocket_names, ro1_snapshot_pocket_asksToGo, ko1_snapshot_pocket_asksToGo, ro1_snapshot_pocket_tellings, ko1_snapshot_pocket_tellings, ro1_snapshot_pocket_slots, ko1_snapshot_pocket_slots, ro1_snapshot_pocket_awake, ko1_snapshot_pocket_awake, ro1_snapshot_pocket_answering, ko1_snapshot_pocket_answering⟩ := id lo1_snapshot_pocket
  obtain ⟨ko1_snapshot_told, ro1_snapshot_told_row, ko1_snapshot_told_row⟩ := id lo1_snapshot_told
  have ko1_snapshot_tally := id lo1_snapshot_tally
  obtain ⟨ko1_history, ro1_history_rows, ko1_history_rows⟩ := id lo1_history
  obtain ⟨ko1_text, ro1_text_characters, ko1_text_characters, ro1_text_kinds, ko1_text_kinds, ro1_text_numbers, ko1_text_numbers⟩ := id lo1_text
  refine aw_aload_n (pc := 0) dX6_rounds_0 rfl ?_
  refine aw_getr (pc := 1) (r := some 14) dX6_rounds_1 fl_X6_16 (by decide) rfl ko1 ro1_before ?_
  refine aw_aload_n (pc := 4) dX6_rounds_4 rfl ?_
  refine aw_getr (pc := 5) (r := some 2) dX6_rounds_5 fl_X6_10 (by decide) rfl ko1 ro1_state ?_
  refine aw_invV (pc := 8) (md' := m_X2_copyFrom) (ci := 2) (as := [(.inr (some 2))]) dX6_rounds_8 mo_X2_copyFrom im_X2_copyFrom se_X2_copyFrom ml_X6_43 rfl ko1_before rfl hd (Nat.le_of_ble_eq_true rfl) (Nat.le_of_ble_eq_true rfl) (Nat.le_of_ble_eq_true rfl) ?_
  refine am_mono g (fun _ h1 _ ok_h1 g => ?_)
  obtain ⟨rfl, ss_h1, g⟩ := g
  replace hL := QM.ss hL ss_h1
  obtain ⟨ko1, ro1_state, lo1_state, ro1_before, lo1_before, ro1_trial, lo1_trial, ro1_snapshot, lo1_snapshot, ro1_history, lo1_history, ro1_text, lo1_text⟩ := id hL
  obtain ⟨ko1_state, ro1_state_pocket, lo1_state_pocket, ro1_state_told, lo1_state_told, ro1_state_tally, lo1_state_tally, ro1_state_settings, ko1_state_settings⟩ := id lo1_state
  obtain ⟨ko1_state_pocket, ro1_state_pocket_names, ko1_state_pocket_names, ro1_state_pocket_asksToGo, ko1_state_pocket_asksToGo, ro1_state_pocket_tellings, ko1_state_pocket_tellings, ro1_state_pocket_slots, ko1_state_pocket_slots, ro1_state_pocket_awake, ko1_state_pocket_awake, ro1_state_pocket_answering, ko1_state_pocket_answering⟩ := id lo1_state_pocket
  obtain ⟨ko1_state_told, ro1_state_told_row, ko1_state_told_row⟩ := id lo1_state_told
  have ko1_state_tally := id lo1_state_tally
  obtain ⟨ko1_before, ro1_before_pocket, lo1_before_pocket, ro1_before_told, lo1_before_told, ro1_before_tally, lo1_before_tally, ro1_before_settings, ko1_before_settings⟩ := id lo1_before
  obtain ⟨ko1_before_pocket, ro1_before_pocket_names, ko1_before_pocket_names, ro1_before_pocket_asksToGo, ko1_before_pocket_asksToGo, ro1_before_pocket_tellings, ko1_before_pocket_tellings, ro1_before_pocket_slots, ko1_before_pocket_slots, ro1_before_pocket_awake, ko1_before_pocket_awake, ro1_before_pocket_answering, ko1_before_pocket_answering⟩ := id lo1_before_pocket
  obtain ⟨ko1_before_told, ro1_before_told_row, ko1_before_told_row⟩ := id lo1_before_told
  have ko1_before_tally := id lo1_before_tally
  obtain ⟨ko1_trial, ro1_trial_pocket, lo1_trial_pocket, ro1_trial_told, lo1_trial_told, ro1_trial_tally, lo1_trial_tally, ro1_trial_settings, ko1_trial_settings⟩ := id lo1_trial
  obtain ⟨ko1_trial_pocket, ro1_trial_pocket_names, ko1_trial_pocket_names, ro1_trial_pocket_asksToGo, ko1_trial_pocket_asksToGo, ro1_trial_pocket_tellings, ko1_trial_pocket_tellings, ro1_trial_pocket_slots, ko1_trial_pocket_slots, ro1_trial_pocket_awake, ko1_trial_pocket_awake, ro1_trial_pocket_answering, ko1_trial_pocket_answering⟩ := id lo1_trial_pocket
  obtain ⟨ko1_trial_told, ro1_trial_told_row, ko1_trial_told_row⟩ := id lo1_trial_told
  have ko1_trial_tally := id lo1_trial_tally
  obtain ⟨ko1_snapshot, ro1_snapshot_pocket, lo1_snapshot_pocket, ro1_snapshot_told, lo1_snapshot_told, ro1_snapshot_tally, lo1_snapshot_tally, ro1_snapshot_settings, ko1_snapshot_settings⟩ := id lo1_snapshot
  obtain ⟨ko1_snapshot_pocket, ro1_snapshot_pocket_names, ko1_snapshot_pocket_names, ro1_snapshot_pocket_asksToGo, ko1_snapshot_pocket_asksToGo, ro1_snapshot_pocket_tellings, ko1_snapshot_pocket_tellings, ro1_snapshot_pocket_slots, ko1_snapshot_pocket_slots, ro1_snapshot_pocket_awake, ko1_snapshot_pocket_awake, ro1_snapshot_pocket_answering, ko1_snapshot_pocket_answering⟩ := id lo1_snapshot_pocket
  obtain ⟨ko1_snapshot_told, ro1_snapshot_told_row, ko1_snapshot_told_row⟩ := id lo1_snapshot_told
  have ko1_snapshot_tally := id lo1_snapshot_tally
  obtain ⟨ko1_history, ro1_history_rows, ko1_history_rows⟩ := id lo1_history
  obtain ⟨ko1_text, ro1_text_characters, ko1_text_characters, ro1_text_kinds, ko1_text_kinds, ro1_text_numbers, ko1_text_numbers⟩ := id lo1_text
  show AW m_X6_rounds d none Q 11 [some (.inr (some 1)), some (.inl x1)] [] h1 (0, 0)
  refine aw_aload_n (pc := 11) dX6_rounds_11 rfl ?_
  refine aw_aload_n (pc := 12) dX6_rounds_12 rfl ?_
  refine aw_getr (pc := 13) (r := some 2) dX6_rounds_13 fl_X6_10 (by decide) rfl ko1 ro1_state ?_
  refine aw_iload_n (pc := 16) dX6_rounds_16 rfl ?_
  refine aw_invV (pc := 17) (md' := m_X2_makeRounds) (ci := 2) (as := [(.inl x1)]) dX6_rounds_17 mo_X2_makeRounds im_X2_makeRounds se_X2_makeRounds ml_X6_91 rfl ko1_state rfl hd (Nat.le_of_ble_eq_true rfl) (Nat.le_of_ble_eq_true rfl) (Nat.le_of_ble_eq_true rfl) ?_
  refine am_mono g (fun _ h2 _ ok_h2 g => ?_)
  obtain ⟨v3, rfl, ss_h2, g⟩ := g
  replace hL := QM.ss hL ss_h2
  obtain ⟨ko1, ro1_state, lo1_state, ro1_before, lo1_before, ro1_trial, lo1_trial, ro1_snapshot, lo1_snapshot, ro1_history, lo1_history, ro1_text, lo1_text⟩ := id hL
  obtain ⟨ko1_state, ro1_state_pocket, lo1_state_pocket, ro1_state_told, lo1_state_told, ro1_state_tally, lo1_state_tally, ro1_state_settings, ko1_state_settings⟩ := id lo1_state
  obtain ⟨ko1_state_pocket, ro1_state_pocket_names, ko1_state_pocket_names, ro1_state_pocket_asksToGo, ko1_state_pocket_asksToGo, ro1_state_pocket_tellings, ko1_state_pocket_tellings, ro1_state_pocket_slots, ko1_state_pocket_slots, ro1_state_pocket_awake, ko1_state_pocket_awake, ro1_state_pocket_answering, ko1_state_pocket_answering⟩ := id lo1_state_pocket
  obtain ⟨ko1_state_told, ro1_state_told_row, ko1_state_told_row⟩ := id lo1_state_told
  have ko1_state_tally := id lo1_state_tally
  obtain ⟨ko1_before, ro1_before_pocket, lo1_before_pocket, ro1_before_told, lo1_before_told, ro1_before_tally, lo1_before_tally, ro1_before_settings, ko1_before_settings⟩ := id lo1_before
  obtain ⟨ko1_before_pocket, ro1_before_pocket_names, ko1_before_pocket_names, ro1_before_pocket_asksToGo, ko1_before_pocket_asksToGo, ro1_before_pocket_tellings, ko1_before_pocket_tellings, ro1_before_pocket_slots, ko1_before_pocket_slots, ro1_before_pocket_awake, ko1_before_pocket_awake, ro1_before_pocket_answering, ko1_before_pocket_answering⟩ := id lo1_before_pocket
  obtain ⟨ko1_before_told, ro1_before_told_row, ko1_before_told_row⟩ := id lo1_before_told
  have ko1_before_tally := id lo1_before_tally
  obtain ⟨ko1_trial, ro1_trial_pocket, lo1_trial_pocket, ro1_trial_told, lo1_trial_told, ro1_trial_tally, lo1_trial_tally, ro1_trial_settings, ko1_trial_settings⟩ := id lo1_trial
  obtain ⟨ko1_trial_pocket, ro1_trial_pocket_names, ko1_trial_pocket_names, ro1_trial_pocket_asksToGo, ko1_trial_pocket_asksToGo, ro1_trial_pocket_tellings, ko1_trial_pocket_tellings, ro1_trial_pocket_slots, ko1_trial_pocket_slots, ro1_trial_pocket_awake, ko1_trial_pocket_awake, ro1_trial_pocket_answering, ko1_trial_pocket_answering⟩ := id lo1_trial_pocket
  obtain ⟨ko1_trial_told, ro1_trial_told_row, ko1_trial_told_row⟩ := id lo1_trial_told
  have ko1_trial_tally := id lo1_trial_tally
  obtain ⟨ko1_snapshot, ro1_snapshot_pocket, lo1_snapshot_pocket, ro1_snapshot_told, lo1_snapshot_told, ro1_snapshot_tally, lo1_snapshot_tally, ro1_snapshot_settings, ko1_snapshot_settings⟩ := id lo1_snapshot
  obtain ⟨ko1_snapshot_pocket, ro1_snapshot_pocket_names, ko1_snapshot_pocket_names, ro1_snapshot_pocket_asksToGo, ko1_snapshot_pocket_asksToGo, ro1_snapshot_pocket_tellings, ko1_snapshot_pocket_tellings, ro1_snapshot_pocket_slots, ko1_snapshot_pocket_slots, ro1_snapshot_pocket_awake, ko1_snapshot_pocket_awake, ro1_snapshot_pocket_answering, ko1_snapshot_pocket_answering⟩ := id lo1_snapshot_pocket
  obtain ⟨ko1_snapshot_told, ro1_snapshot_told_row, ko1_snapshot_told_row⟩ := id lo1_snapshot_told
  have ko1_snapshot_tally := id lo1_snapshot_tally
  obtain ⟨ko1_history, ro1_history_rows, ko1_history_rows⟩ := id lo1_history
  obtain ⟨ko1_text, ro1_text_characters, ko1_text_characters, ro1_text_kinds, ko1_text_kinds, ro1_text_numbers, ko1_text_numbers⟩ := id lo1_text
  show AW m_X6_rounds d none Q 20 [some (.inr (some 1)), some (.inl x1)] [(.inl v3), (.inr (some 1))] h2 (0, 0)
  refine aw_invV (pc := 20) (md' := m_X6_recorded) (ci := 6) (as := [(.inl v3)]) dX6_rounds_20 mo_X6_recorded im_X6_recorded se_X6_recorded ml_X6_51 rfl ko1 rfl hd (Nat.le_of_ble_eq_true rfl) (Nat.le_of_ble_eq_true rfl) (Nat.le_of_ble_eq_true rfl) ?_
  refine am_mono g (fun _ h4 _ ok_h4 g => ?_)
  obtain ⟨v5, rfl, ss_h4, g⟩ := g
  replace hL := QM.sw hL ss_h4
  obtain ⟨ko1, ro1_state, lo1_state, ro1_before, lo1_before, ro1_trial, lo1_trial, ro1_snapshot, lo1_snapshot, ro1_history, lo1_history, ro1_text, lo1_text⟩ := id hL
  obtain ⟨ko1_state, ro1_state_pocket, lo1_state_pocket, ro1_state_told, lo1_state_told, ro1_state_tally, lo1_state_tally, ro1_state_settings, ko1_state_settings⟩ := id lo1_state
  obtain ⟨ko1_state_pocket, ro1_state_pocket_names, ko1_state_pocket_names, ro1_state_pocket_asksToGo, ko1_state_pocket_asksToGo, ro1_state_pocket_tellings, ko1_state_pocket_tellings, ro1_state_pocket_slots, ko1_state_pocket_slots, ro1_state_pocket_awake, ko1_state_pocket_awake, ro1_state_pocket_answering, ko1_state_pocket_answering⟩ := id lo1_state_pocket
  obtain ⟨ko1_state_told, ro1_state_told_row, ko1_state_told_row⟩ := id lo1_state_told
  have ko1_state_tally := id lo1_state_tally
  obtain ⟨ko1_before, ro1_before_pocket, lo1_before_pocket, ro1_before_told, lo1_before_told, ro1_before_tally, lo1_before_tally, ro1_before_settings, ko1_before_settings⟩ := id lo1_before
  obtain ⟨ko1_before_pocket, ro1_before_pocket_names, ko1_before_pocket_names, ro1_before_pocket_asksToGo, ko1_before_pocket_asksToGo, ro1_before_pocket_tellings, ko1_before_pocket_tellings, ro1_before_pocket_slots, ko1_before_pocket_slots, ro1_before_pocket_awake, ko1_before_pocket_awake, ro1_before_pocket_answering, ko1_before_pocket_answering⟩ := id lo1_before_pocket
  obtain ⟨ko1_before_told, ro1_before_told_row, ko1_before_told_row⟩ := id lo1_before_told
  have ko1_before_tally := id lo1_before_tally
  obtain ⟨ko1_trial, ro1_trial_pocket, lo1_trial_pocket, ro1_trial_told, lo1_trial_told, ro1_trial_tally, lo1_trial_tally, ro1_trial_settings, ko1_trial_settings⟩ := id lo1_trial
  obtain ⟨ko1_trial_pocket, ro1_trial_pocket_names, ko1_trial_pocket_names, ro1_trial_pocket_asksToGo, ko1_trial_pocket_asksToGo, ro1_trial_pocket_tellings, ko1_trial_pocket_tellings, ro1_trial_pocket_slots, ko1_trial_pocket_slots, ro1_trial_pocket_awake, ko1_trial_pocket_awake, ro1_trial_pocket_answering, ko1_trial_pocket_answering⟩ := id lo1_trial_pocket
  obtain ⟨ko1_trial_told, ro1_trial_told_row, ko1_trial_told_row⟩ := id lo1_trial_told
  have ko1_trial_tally := id lo1_trial_tally
  obtain ⟨ko1_snapshot, ro1_snapshot_pocket, lo1_snapshot_pocket, ro1_snapshot_told, lo1_snapshot_told, ro1_snapshot_tally, lo1_snapshot_tally, ro1_snapshot_settings, ko1_snapshot_settings⟩ := id lo1_snapshot
  obtain ⟨ko1_snapshot_pocket, ro1_snapshot_pocket_names, ko1_snapshot_pocket_names, ro1_snapshot_pocket_asksToGo, ko1_snapshot_pocket_asksToGo, ro1_snapshot_pocket_tellings, ko1_snapshot_pocket_tellings, ro1_snapshot_pocket_slots, ko1_snapshot_pocket_slots, ro1_snapshot_pocket_awake, ko1_snapshot_pocket_awake, ro1_snapshot_pocket_answering, ko1_snapshot_pocket_answering⟩ := id lo1_snapshot_pocket
  obtain ⟨ko1_snapshot_told, ro1_snapshot_told_row, ko1_snapshot_told_row⟩ := id lo1_snapshot_told
  have ko1_snapshot_tally := id lo1_snapshot_tally
  obtain ⟨ko1_history, ro1_history_rows, ko1_history_rows⟩ := id lo1_history
  obtain ⟨ko1_text, ro1_text_characters, ko1_text_characters, ro1_text_kinds, ko1_text_kinds, ro1_text_numbers, ko1_text_numbers⟩ := id lo1_text
  show AW m_X6_rounds d none Q 23 [some (.inr (some 1)), some (.inl x1)] [(.inl v5)] h4 (0, 0)
  exact ax_ireturn (pc := 23) dX6_rounds_23 rfl g (by decide) (by decide)
set_option maxRecDepth 100000 in
set_option maxHeartbeats 4000000 in
theorem vc_X6_clearText {d : Nat} {Q : Option Int → AH → Prop} {h : AH}  (hd : 1 ≤ d) (hL : QM h)
  (g :
    AM (d - 1) m_X4_empty [(.inr (some 100))] h (fun r h1 => 
      ∃ v2, r = some v2 ∧ SS h h1 ∧
      Q (some v2) h1)) :
  AM d m_X6_clearText [(.inr (some 1))] h Q := by
  refine am_body mo_X6_clearText (Nat.le_of_ble_eq_true rfl) ?_
  show AW m_X6_clearText d none Q 0 [some (.inr (some 1))] [] h (0, 0)
  obtain ⟨ko1, ro1_state, lo1_state, ro1_before, lo1_before, ro1_trial, lo1_trial, ro1_snapshot, lo1_snapshot, ro1_history, lo1_history, ro1_text, lo1_text⟩ := id hL
  obtain ⟨ko1_state, ro1_state_pocket, lo1_state_pocket, ro1_state_told, lo1_state_told, ro1_state_tally, lo1_state_tally, ro1_state_settings, ko1_state_settings⟩ := id lo1_state
  obtain ⟨ko1_state_pocket, ro1_state_pocket_names, ko1_state_pocket_names, ro1_state_pocket_asksToGo, ko1_state_pocket_asksToGo, ro1_state_pocket_tellings, ko1_state_pocket_tellings, ro1_state_pocket_slots, ko1_state_pocket_slots, ro1_state_pocket_awake, ko1_state_pocket_awake, ro1_state_pocket_answering, ko1_state_pocket_answering⟩ := id lo1_state_pocket
  obtain ⟨ko1_state_told, ro1_state_told_row, ko1_state_told_row⟩ := id lo1_state_told
  have ko1_state_tally := id lo1_state_tally
  obtain ⟨ko1_before, ro1_before_pocket, lo1_before_pocket, ro1_before_told, lo1_before_told, ro1_before_tally, lo1_before_tally, ro1_before_settings, ko1_before_settings⟩ := id lo1_before
  obtain ⟨ko1_before_pocket, ro1_before_pocket_names, ko1_before_pocket_names, ro1_before_pocket_asksToGo, ko1_before_pocket_asksToGo, ro1_before_pocket_tellings, ko1_before_pocket_tellings, ro1_before_pocket_slots, ko1_before_pocket_slots, ro1_before_pocket_awake, ko1_before_pocket_awake, ro1_before_pocket_answering, ko1_before_pocket_answering⟩ := id lo1_before_pocket
  obtain ⟨ko1_before_told, ro1_before_told_row, ko1_before_told_row⟩ := id lo1_before_told
  have ko1_before_tally := id lo1_before_tally
  obtain ⟨ko1_trial, ro1_trial_pocket, lo1_trial_pocket, ro1_trial_told, lo1_trial_told, ro1_trial_tally, lo1_trial_tally, ro1_trial_settings, ko1_trial_settings⟩ := id lo1_trial
  obtain ⟨ko1_trial_pocket, ro1_trial_pocket_names, ko1_trial_pocket_names, ro1_trial_pocket_asksToGo, ko1_trial_pocket_asksToGo, ro1_trial_pocket_tellings, ko1_trial_pocket_tellings, ro1_trial_pocket_slots, ko1_trial_pocket_slots, ro1_trial_pocket_awake, ko1_trial_pocket_awake, ro1_trial_pocket_answering, ko1_trial_pocket_answering⟩ := id lo1_trial_pocket
  obtain ⟨ko1_trial_told, ro1_trial_told_row, ko1_trial_told_row⟩ := id lo1_trial_told
  have ko1_trial_tally := id lo1_trial_tally
  obtain ⟨ko1_snapshot, ro1_snapshot_pocket, lo1_snapshot_pocket, ro1_snapshot_told, lo1_snapshot_told, ro1_snapshot_tally, lo1_snapshot_tally, ro1_snapshot_settings, ko1_snapshot_settings⟩ := id lo1_snapshot
  obtain ⟨ko1_snapshot_pocket, ro1_snapshot_pocket_names, ko1_snapshot_pocket_names, ro1_snapshot_pocket_asksToGo, ko1_snapshot_pocket_asksToGo, ro1_snapshot_pocket_tellings, ko1_snapshot_pocket_tellings, ro1_snapshot_pocket_slots, ko1_snapshot_pocket_slots, ro1_snapshot_pocket_awake, ko1_snapshot_pocket_awake, ro1_snapshot_pocket_answering, ko1_snapshot_pocket_answering⟩ := id lo1_snapshot_pocket
  obtain ⟨ko1_snapshot_told, ro1_snapshot_told_row, ko1_snapshot_told_row⟩ := id lo1_snapshot_told
  have ko1_snapshot_tally := id lo1_snapshot_tally
  obtain ⟨ko1_history, ro1_history_rows, ko1_history_rows⟩ := id lo1_history
  obtain ⟨ko1_text, ro1_text_characters, ko1_text_characters, ro1_text_kinds, ko1_text_kinds, ro1_text_numbers, ko1_text_numbers⟩ := id lo1_text
  refine aw_aload_n (pc := 0) dX6_clearText_0 rfl ?_
  refine aw_getr (pc := 1) (r := some 100) dX6_clearText_1 fl_X6_39 (by decide) rfl ko1 ro1_text ?_
  refine aw_invV (pc := 4) (md' := m_X4_empty) (ci := 4) (as := []) dX6_clearText_4 mo_X4_empty im_X4_empty se_X4_empty ml_X6_98 rfl ko1_text rfl hd (Nat.le_of_ble_eq_true rfl) (Nat.le_of_ble_eq_true rfl) (Nat.le_of_ble_eq_true rfl) ?_
  refine am_mono g (fun _ h1 _ ok_h1 g => ?_)
  obtain ⟨v2, rfl, ss_h1, g⟩ := g
  replace hL := QM.ss hL ss_h1
  obtain ⟨ko1, ro1_state, lo1_state, ro1_before, lo1_before, ro1_trial, lo1_trial, ro1_snapshot, lo1_snapshot, ro1_history, lo1_history, ro1_text, lo1_text⟩ := id hL
  obtain ⟨ko1_state, ro1_state_pocket, lo1_state_pocket, ro1_state_told, lo1_state_told, ro1_state_tally, lo1_state_tally, ro1_state_settings, ko1_state_settings⟩ := id lo1_state
  obtain ⟨ko1_state_pocket, ro1_state_pocket_names, ko1_state_pocket_names, ro1_state_pocket_asksToGo, ko1_state_pocket_asksToGo, ro1_state_pocket_tellings, ko1_state_pocket_tellings, ro1_state_pocket_slots, ko1_state_pocket_slots, ro1_state_pocket_awake, ko1_state_pocket_awake, ro1_state_pocket_answering, ko1_state_pocket_answering⟩ := id lo1_state_pocket
  obtain ⟨ko1_state_told, ro1_state_told_row, ko1_state_told_row⟩ := id lo1_state_told
  have ko1_state_tally := id lo1_state_tally
  obtain ⟨ko1_before, ro1_before_pocket, lo1_before_pocket, ro1_before_told, lo1_before_told, ro1_before_tally, lo1_before_tally, ro1_before_settings, ko1_before_settings⟩ := id lo1_before
  obtain ⟨ko1_before_pocket, ro1_before_pocket_names, ko1_before_pocket_names, ro1_before_pocket_asksToGo, ko1_before_pocket_asksToGo, ro1_before_pocket_tellings, ko1_before_pocket_tellings, ro1_before_pocket_slots, ko1_before_pocket_slots, ro1_before_pocket_awake, ko1_before_pocket_awake, ro1_before_pocket_answering, ko1_before_pocket_answering⟩ := id lo1_before_pocket
  obtain ⟨ko1_before_told, ro1_before_told_row, ko1_before_told_row⟩ := id lo1_before_told
  have ko1_before_tally := id lo1_before_tally
  obtain ⟨ko1_trial, ro1_trial_pocket, lo1_trial_pocket, ro1_trial_told, lo1_trial_told, ro1_trial_tally, lo1_trial_tally, ro1_trial_settings, ko1_trial_settings⟩ := id lo1_trial
  obtain ⟨ko1_trial_pocket, ro1_trial_pocket_names, ko1_trial_pocket_names, ro1_trial_pocket_asksToGo, ko1_trial_pocket_asksToGo, ro1_trial_pocket_tellings, ko1_trial_pocket_tellings, ro1_trial_pocket_slots, ko1_trial_pocket_slots, ro1_trial_pocket_awake, ko1_trial_pocket_awake, ro1_trial_pocket_answering, ko1_trial_pocket_answering⟩ := id lo1_trial_pocket
  obtain ⟨ko1_trial_told, ro1_trial_told_row, ko1_trial_told_row⟩ := id lo1_trial_told
  have ko1_trial_tally := id lo1_trial_tally
  obtain ⟨ko1_snapshot, ro1_snapshot_pocket, lo1_snapshot_pocket, ro1_snapshot_told, lo1_snapshot_told, ro1_snapshot_tally, lo1_snapshot_tally, ro1_snapshot_settings, ko1_snapshot_settings⟩ := id lo1_snapshot
  obtain ⟨ko1_snapshot_pocket, ro1_snapshot_pocket_names, ko1_snapshot_pocket_names, ro1_snapshot_pocket_asksToGo, ko1_snapshot_pocket_asksToGo, ro1_snapshot_pocket_tellings, ko1_snapshot_pocket_tellings, ro1_snapshot_pocket_slots, ko1_snapshot_pocket_slots, ro1_snapshot_pocket_awake, ko1_snapshot_pocket_awake, ro1_snapshot_pocket_answering, ko1_snapshot_pocket_answering⟩ := id lo1_snapshot_pocket
  obtain ⟨ko1_snapshot_told, ro1_snapshot_told_row, ko1_snapshot_told_row⟩ := id lo1_snapshot_told
  have ko1_snapshot_tally := id lo1_snapshot_tally
  obtain ⟨ko1_history, ro1_history_rows, ko1_history_rows⟩ := id lo1_history
  obtain ⟨ko1_text, ro1_text_characters, ko1_text_characters, ro1_text_kinds, ko1_text_kinds, ro1_text_numbers, ko1_text_numbers⟩ := id lo1_text
  show AW m_X6_clearText d none Q 7 [some (.inr (some 1))] [(.inl v2)] h1 (0, 0)
  exact ax_ireturn (pc := 7) dX6_clearText_7 rfl g (by decide) (by decide)
set_option maxRecDepth 100000 in
set_option maxHeartbeats 4000000 in
theorem vc_X6_perform {d : Nat} {Q : Option Int → AH → Prop} {h : AH}  (hd : 1 ≤ d) (hL : QM h)
  (g :
    AM (d - 1) m_X4_readOrders [(.inr (some 100))] h (fun r h1 => 
      ∃ v2, r = some v2 ∧ SS h h1 ∧
      ((v2 = -1 → (
        AM (d - 1) m_X2_copyFrom [(.inr (some 14)), (.inr (some 2))] h1 (fun r h4 => 
          r = none ∧ SS h1 h4 ∧
          AM (d - 1) m_X4_orders [(.inr (some 100))] h4 (fun r h5 => 
            ∃ v6, r = some v6 ∧ SS h4 h5 ∧
            AW m_X6_perform d none Q 39 [some (.inr (some 1)), some (.inl v2), some (.inl v6), some (.inl 0), none] [] h5 (0, 0)))
      )) ∧
      (¬ (v2 = -1) → (
        (rg ((-100) - v2)) ∧
        Q (some ((-100) - v2)) h1
      ))))) :
  AM d m_X6_perform [(.inr (some 1))] h Q := by
  refine am_body mo_X6_perform (Nat.le_of_ble_eq_true rfl) ?_
  show AW m_X6_perform d none Q 0 [some (.inr (some 1)), none, none, none, none] [] h (0, 0)
  obtain ⟨ko1, ro1_state, lo1_state, ro1_before, lo1_before, ro1_trial, lo1_trial, ro1_snapshot, lo1_snapshot, ro1_history, lo1_history, ro1_text, lo1_text⟩ := id hL
  obtain ⟨ko1_state, ro1_state_pocket, lo1_state_pocket, ro1_state_told, lo1_state_told, ro1_state_tally, lo1_state_tally, ro1_state_settings, ko1_state_settings⟩ := id lo1_state
  obtain ⟨ko1_state_pocket, ro1_state_pocket_names, ko1_state_pocket_names, ro1_state_pocket_asksToGo, ko1_state_pocket_asksToGo, ro1_state_pocket_tellings, ko1_state_pocket_tellings, ro1_state_pocket_slots, ko1_state_pocket_slots, ro1_state_pocket_awake, ko1_state_pocket_awake, ro1_state_pocket_answering, ko1_state_pocket_answering⟩ := id lo1_state_pocket
  obtain ⟨ko1_state_told, ro1_state_told_row, ko1_state_told_row⟩ := id lo1_state_told
  have ko1_state_tally := id lo1_state_tally
  obtain ⟨ko1_before, ro1_before_pocket, lo1_before_pocket, ro1_before_told, lo1_before_told, ro1_before_tally, lo1_before_tally, ro1_before_settings, ko1_before_settings⟩ := id lo1_before
  obtain ⟨ko1_before_pocket, ro1_before_pocket_names, ko1_before_pocket_names, ro1_before_pocket_asksToGo, ko1_before_pocket_asksToGo, ro1_before_pocket_tellings, ko1_before_pocket_tellings, ro1_before_pocket_slots, ko1_before_pocket_slots, ro1_before_pocket_awake, ko1_before_pocket_awake, ro1_before_pocket_answering, ko1_before_pocket_answering⟩ := id lo1_before_pocket
  obtain ⟨ko1_before_told, ro1_before_told_row, ko1_before_told_row⟩ := id lo1_before_told
  have ko1_before_tally := id lo1_before_tally
  obtain ⟨ko1_trial, ro1_trial_pocket, lo1_trial_pocket, ro1_trial_told, lo1_trial_told, ro1_trial_tally, lo1_trial_tally, ro1_trial_settings, ko1_trial_settings⟩ := id lo1_trial
  obtain ⟨ko1_trial_pocket, ro1_trial_pocket_names, ko1_trial_pocket_names, ro1_trial_pocket_asksToGo, ko1_trial_pocket_asksToGo, ro1_trial_pocket_tellings, ko1_trial_pocket_tellings, ro1_trial_pocket_slots, ko1_trial_pocket_slots, ro1_trial_pocket_awake, ko1_trial_pocket_awake, ro1_trial_pocket_answering, ko1_trial_pocket_answering⟩ := id lo1_trial_pocket
  obtain ⟨ko1_trial_told, ro1_trial_told_row, ko1_trial_told_row⟩ := id lo1_trial_told
  have ko1_trial_tally := id lo1_trial_tally
  obtain ⟨ko1_snapshot, ro1_snapshot_pocket, lo1_snapshot_pocket, ro1_snapshot_told, lo1_snapshot_told, ro1_snapshot_tally, lo1_snapshot_tally, ro1_snapshot_settings, ko1_snapshot_settings⟩ := id lo1_snapshot
  obtain ⟨ko1_snapshot_pocket, ro1_snapshot_pocket_names, ko1_snapshot_pocket_names, ro1_snapshot_pocket_asksToGo, ko1_snapshot_pocket_asksToGo, ro1_snapshot_pocket_tellings, ko1_snapshot_pocket_tellings, ro1_snapshot_pocket_slots, ko1_snapshot_pocket_slots, ro1_snapshot_pocket_awake, ko1_snapshot_pocket_awake, ro1_snapshot_pocket_answering, ko1_snapshot_pocket_answering⟩ := id lo1_snapshot_pocket
  obtain ⟨ko1_snapshot_told, ro1_snapshot_told_row, ko1_snapshot_told_row⟩ := id lo1_snapshot_told
  have ko1_snapshot_tally := id lo1_snapshot_tally
  obtain ⟨ko1_history, ro1_history_rows, ko1_history_rows⟩ := id lo1_history
  obtain ⟨ko1_text, ro1_text_characters, ko1_text_characters, ro1_text_kinds, ko1_text_kinds, ro1_text_numbers, ko1_text_numbers⟩ := id lo1_text
  refine aw_aload_n (pc := 0) dX6_perform_0 rfl ?_
  refine aw_getr (pc := 1) (r := some 100) dX6_perform_1 fl_X6_39 (by decide) rfl ko1 ro1_text ?_
  refine aw_invV (pc := 4) (md' := m_X4_readOrders) (ci := 4) (as := []) dX6_perform_4 mo_X4_readOrders im_X4_readOrders se_X4_readOrders ml_X6_101 rfl ko1_text rfl hd (Nat.le_of_ble_eq_true rfl) (Nat.le_of_ble_eq_true rfl) (Nat.le_of_ble_eq_true rfl) ?_
  refine am_mono g (fun _ h1 _ ok_h1 g => ?_)
  obtain ⟨v2, rfl, ss_h1, g⟩ := g
  replace hL := QM.ss hL ss_h1
  obtain ⟨ko1, ro1_state, lo1_state, ro1_before, lo1_before, ro1_trial, lo1_trial, ro1_snapshot, lo1_snapshot, ro1_history, lo1_history, ro1_text, lo1_text⟩ := id hL
  obtain ⟨ko1_state, ro1_state_pocket, lo1_state_pocket, ro1_state_told, lo1_state_told, ro1_state_tally, lo1_state_tally, ro1_state_settings, ko1_state_settings⟩ := id lo1_state
  obtain ⟨ko1_state_pocket, ro1_state_pocket_names, ko1_state_pocket_names, ro1_state_pocket_asksToGo, ko1_state_pocket_asksToGo, ro1_state_pocket_tellings, ko1_state_pocket_tellings, ro1_state_pocket_slots, ko1_state_pocket_slots, ro1_state_pocket_awake, ko1_state_pocket_awake, ro1_state_pocket_answering, ko1_state_pocket_answering⟩ := id lo1_state_pocket
  obtain ⟨ko1_state_told, ro1_state_told_row, ko1_state_told_row⟩ := id lo1_state_told
  have ko1_state_tally := id lo1_state_tally
  obtain ⟨ko1_before, ro1_before_pocket, lo1_before_pocket, ro1_before_told, lo1_before_told, ro1_before_tally, lo1_before_tally, ro1_before_settings, ko1_before_settings⟩ := id lo1_before
  obtain ⟨ko1_before_pocket, ro1_before_pocket_names, ko1_before_pocket_names, ro1_before_pocket_asksToGo, ko1_before_pocket_asksToGo, ro1_before_pocket_tellings, ko1_before_pocket_tellings, ro1_before_pocket_slots, ko1_before_pocket_slots, ro1_before_pocket_awake, ko1_before_pocket_awake, ro1_before_pocket_answering, ko1_before_pocket_answering⟩ := id lo1_before_pocket
  obtain ⟨ko1_before_told, ro1_before_told_row, ko1_before_told_row⟩ := id lo1_before_told
  have ko1_before_tally := id lo1_before_tally
  obtain ⟨ko1_trial, ro1_trial_pocket, lo1_trial_pocket, ro1_trial_told, lo1_trial_told, ro1_trial_tally, lo1_trial_tally, ro1_trial_settings, ko1_trial_settings⟩ := id lo1_trial
  obtain ⟨ko1_trial_pocket, ro1_trial_pocket_names, ko1_trial_pocket_names, ro1_trial_pocket_asksToGo, ko1_trial_pocket_asksToGo, ro1_trial_pocket_tellings, ko1_trial_pocket_tellings, ro1_trial_pocket_slots, ko1_trial_pocket_slots, ro1_trial_pocket_awake, ko1_trial_pocket_awake, ro1_trial_pocket_answering, ko1_trial_pocket_answering⟩ := id lo1_trial_pocket
  obtain ⟨ko1_trial_told, ro1_trial_told_row, ko1_trial_told_row⟩ := id lo1_trial_told
  have ko1_trial_tally := id lo1_trial_tally
  obtain ⟨ko1_snapshot, ro1_snapshot_pocket, lo1_snapshot_pocket, ro1_snapshot_told, lo1_snapshot_told, ro1_snapshot_tally, lo1_snapshot_tally, ro1_snapshot_settings, ko1_snapshot_settings⟩ := id lo1_snapshot
  obtain ⟨ko1_snapshot_pocket, ro1_snapshot_pocket_names, ko1_snapshot_pocket_names, ro1_snapshot_pocket_asksToGo, ko1_snapshot_pocket_asksToGo, ro1_snapshot_pocket_tellings, ko1_snapshot_pocket_tellings, ro1_snapshot_pocket_slots, ko1_snapshot_pocket_slots, ro1_snapshot_pocket_awake, ko1_snapshot_pocket_awake, ro1_snapshot_pocket_answering, ko1_snapshot_pocket_answering⟩ := id lo1_snapshot_pocket
  obtain ⟨ko1_snapshot_told, ro1_snapshot_told_row, ko1_snapshot_told_row⟩ := id lo1_snapshot_told
  have ko1_snapshot_tally := id lo1_snapshot_tally
  obtain ⟨ko1_history, ro1_history_rows, ko1_history_rows⟩ := id lo1_history
  obtain ⟨ko1_text, ro1_text_characters, ko1_text_characters, ro1_text_kinds, ko1_text_kinds, ro1_text_numbers, ko1_text_numbers⟩ := id lo1_text
  show AW m_X6_perform d none Q 7 [some (.inr (some 1)), none, none, none, none] [(.inl v2)] h1 (0, 0)
  refine ax_istore_n (pc := 7) (ls' := [some (.inr (some 1)), some (.inl v2), none, none, none]) dX6_perform_7 (Nat.le_of_ble_eq_true rfl) rfl ?_
  refine aw_iload_n (pc := 8) dX6_perform_8 rfl ?_
  refine aw_iconst (pc := 9) dX6_perform_9 ?_
  refine aw_icmp_eq (pc := 10) (tgt := 18) dX6_perform_10 (by decide) (fun c3 => ?_) (fun c3 => ?_)
  · replace g := g.1 c3
    refine aw_aload_n (pc := 18) dX6_perform_18 rfl ?_
    refine aw_getr (pc := 19) (r := some 14) dX6_perform_19 fl_X6_16 (by decide) rfl ko1 ro1_before ?_
    refine aw_aload_n (pc := 22) dX6_perform_22 rfl ?_
    refine aw_getr (pc := 23) (r := some 2) dX6_perform_23 fl_X6_10 (by decide) rfl ko1 ro1_state ?_
    refine aw_invV (pc := 26) (md' := m_X2_copyFrom) (ci := 2) (as := [(.inr (some 2))]) dX6_perform_26 mo_X2_copyFrom im_X2_copyFrom se_X2_copyFrom ml_X6_43 rfl ko1_before rfl hd (Nat.le_of_ble_eq_true rfl) (Nat.le_of_ble_eq_true rfl) (Nat.le_of_ble_eq_true rfl) ?_
    refine am_mono g (fun _ h4 _ ok_h4 g => ?_)
    obtain ⟨rfl, ss_h4, g⟩ := g
    replace hL := QM.ss hL ss_h4
    obtain ⟨ko1, ro1_state, lo1_state, ro1_before, lo1_before, ro1_trial, lo1_trial, ro1_snapshot, lo1_snapshot, ro1_history, lo1_history, ro1_text, lo1_text⟩ := id hL
    obtain ⟨ko1_state, ro1_state_pocket, lo1_state_pocket, ro1_state_told, lo1_state_told, ro1_state_tally, lo1_state_tally, ro1_state_settings, ko1_state_settings⟩ := id lo1_state
    obtain ⟨ko1_state_pocket, ro1_state_pocket_names, ko1_state_pocket_names, ro1_state_pocket_asksToGo, ko1_state_pocket_asksToGo, ro1_state_pocket_tellings, ko1_state_pocket_tellings, ro1_state_pocket_slots, ko1_state_pocket_slots, ro1_state_pocket_awake, ko1_state_pocket_awake, ro1_state_pocket_answering, ko1_state_pocket_answering⟩ := id lo1_state_pocket
    obtain ⟨ko1_state_told, ro1_state_told_row, ko1_state_told_row⟩ := id lo1_state_told
    have ko1_state_tally := id lo1_state_tally
    obtain ⟨ko1_before, ro1_before_pocket, lo1_before_pocket, ro1_before_told, lo1_before_told, ro1_before_tally, lo1_before_tally, ro1_before_settings, ko1_before_settings⟩ := id lo1_before
    obtain ⟨ko1_before_pocket, ro1_before_pocket_names, ko1_before_pocket_names, ro1_before_pocket_asksToGo, ko1_before_pocket_asksToGo, ro1_before_pocket_tellings, ko1_before_pocket_tellings, ro1_before_pocket_slots, ko1_before_pocket_slots, ro1_before_pocket_awake, ko1_before_pocket_awake, ro1_before_pocket_answering, ko1_before_pocket_answering⟩ := id lo1_before_pocket
    obtain ⟨ko1_before_told, ro1_before_told_row, ko1_before_told_row⟩ := id lo1_before_told
    have ko1_before_tally := id lo1_before_tally
    obtain ⟨ko1_trial, ro1_trial_pocket, lo1_trial_pocket, ro1_trial_told, lo1_trial_told, ro1_trial_tally, lo1_trial_tally, ro1_trial_settings, ko1_trial_settings⟩ := id lo1_trial
    obtain ⟨ko1_trial_pocket, ro1_trial_pocket_names, ko1_trial_pocket_names, ro1_trial_pocket_asksToGo, ko1_trial_pocket_asksToGo, ro1_trial_pocket_tellings, ko1_trial_pocket_tellings, ro1_trial_pocket_slots, ko1_trial_pocket_slots, ro1_trial_pocket_awake, ko1_trial_pocket_awake, ro1_trial_pocket_answering, ko1_trial_pocket_answering⟩ := id lo1_trial_pocket
    obtain ⟨ko1_trial_told, ro1_trial_told_row, ko1_trial_told_row⟩ := id lo1_trial_told
    have ko1_trial_tally := id lo1_trial_tally
    obtain ⟨ko1_snapshot, ro1_snapshot_pocket, lo1_snapshot_pocket, ro1_snapshot_told, lo1_snapshot_told, ro1_snapshot_tally, lo1_snapshot_tally, ro1_snapshot_settings, ko1_snapshot_settings⟩ := id lo1_snapshot
    obtain ⟨ko1_snapshot_pocket, ro1_snapshot_pocket_names, ko1_snapshot_pocket_names, ro1_snapshot_pocket_asksToGo, ko1_snapshot_pocket_asksToGo, ro1_snapshot_pocket_tellings, ko1_snapshot_pocket_tellings, ro1_snapshot_pocket_slots, ko1_snapshot_pocket_slots, ro1_snapshot_pocket_awake, ko1_snapshot_pocket_awake, ro1_snapshot_pocket_answering, ko1_snapshot_pocket_answering⟩ := id lo1_snapshot_pocket
    obtain ⟨ko1_snapshot_told, ro1_snapshot_told_row, ko1_snapshot_told_row⟩ := id lo1_snapshot_told
    have ko1_snapshot_tally := id lo1_snapshot_tally
    obtain ⟨ko1_history, ro1_history_rows, ko1_history_rows⟩ := id lo1_history
    obtain ⟨ko1_text, ro1_text_characters, ko1_text_characters, ro1_text_kinds, ko1_text_kinds, ro1_text_numbers, ko1_text_numbers⟩ := id lo1_text
    show AW m_X6_perform d none Q 29 [some (.inr (some 1)), some (.inl v2), none, none, none] [] h4 (0, 0)
    refine aw_aload_n (pc := 29) dX6_perform_29 rfl ?_
    refine aw_getr (pc := 30) (r := some 100) dX6_perform_30 fl_X6_39 (by decide) rfl ko1 ro1_text ?_
    refine aw_invV (pc := 33) (md' := m_X4_orders) (ci := 4) (as := []) dX6_perform_33 mo_X4_orders im_X4_orders se_X4_orders ml_X6_104 rfl ko1_text rfl hd (Nat.le_of_ble_eq_true rfl) (Nat.le_of_ble_eq_true rfl) (Nat.le_of_ble_eq_true rfl) ?_
    refine am_mono g (fun _ h5 _ ok_h5 g => ?_)
    obtain ⟨v6, rfl, ss_h5, g⟩ := g
    replace hL := QM.ss hL ss_h5
    obtain ⟨ko1, ro1_state, lo1_state, ro1_before, lo1_before, ro1_trial, lo1_trial, ro1_snapshot, lo1_snapshot, ro1_history, lo1_history, ro1_text, lo1_text⟩ := id hL
    obtain ⟨ko1_state, ro1_state_pocket, lo1_state_pocket, ro1_state_told, lo1_state_told, ro1_state_tally, lo1_state_tally, ro1_state_settings, ko1_state_settings⟩ := id lo1_state
    obtain ⟨ko1_state_pocket, ro1_state_pocket_names, ko1_state_pocket_names, ro1_state_pocket_asksToGo, ko1_state_pocket_asksToGo, ro1_state_pocket_tellings, ko1_state_pocket_tellings, ro1_state_pocket_slots, ko1_state_pocket_slots, ro1_state_pocket_awake, ko1_state_pocket_awake, ro1_state_pocket_answering, ko1_state_pocket_answering⟩ := id lo1_state_pocket
    obtain ⟨ko1_state_told, ro1_state_told_row, ko1_state_told_row⟩ := id lo1_state_told
    have ko1_state_tally := id lo1_state_tally
    obtain ⟨ko1_before, ro1_before_pocket, lo1_before_pocket, ro1_before_told, lo1_before_told, ro1_before_tally, lo1_before_tally, ro1_before_settings, ko1_before_settings⟩ := id lo1_before
    obtain ⟨ko1_before_pocket, ro1_before_pocket_names, ko1_before_pocket_names, ro1_before_pocket_asksToGo, ko1_before_pocket_asksToGo, ro1_before_pocket_tellings, ko1_before_pocket_tellings, ro1_before_pocket_slots, ko1_before_pocket_slots, ro1_before_pocket_awake, ko1_before_pocket_awake, ro1_before_pocket_answering, ko1_before_pocket_answering⟩ := id lo1_before_pocket
    obtain ⟨ko1_before_told, ro1_before_told_row, ko1_before_told_row⟩ := id lo1_before_told
    have ko1_before_tally := id lo1_before_tally
    obtain ⟨ko1_trial, ro1_trial_pocket, lo1_trial_pocket, ro1_trial_told, lo1_trial_told, ro1_trial_tally, lo1_trial_tally, ro1_trial_settings, ko1_trial_settings⟩ := id lo1_trial
    obtain ⟨ko1_trial_pocket, ro1_trial_pocket_names, ko1_trial_pocket_names, ro1_trial_pocket_asksToGo, ko1_trial_pocket_asksToGo, ro1_trial_pocket_tellings, ko1_trial_pocket_tellings, ro1_trial_pocket_slots, ko1_trial_pocket_slots, ro1_trial_pocket_awake, ko1_trial_pocket_awake, ro1_trial_pocket_answering, ko1_trial_pocket_answering⟩ := id lo1_trial_pocket
    obtain ⟨ko1_trial_told, ro1_trial_told_row, ko1_trial_told_row⟩ := id lo1_trial_told
    have ko1_trial_tally := id lo1_trial_tally
    obtain ⟨ko1_snapshot, ro1_snapshot_pocket, lo1_snapshot_pocket, ro1_snapshot_told, lo1_snapshot_told, ro1_snapshot_tally, lo1_snapshot_tally, ro1_snapshot_settings, ko1_snapshot_settings⟩ := id lo1_snapshot
    obtain ⟨ko1_snapshot_pocket, ro1_snapshot_pocket_names, ko1_snapshot_pocket_names, ro1_snapshot_pocket_asksToGo, ko1_snapshot_pocket_asksToGo, ro1_snapshot_pocket_tellings, ko1_snapshot_pocket_tellings, ro1_snapshot_pocket_slots, ko1_snapshot_pocket_slots, ro1_snapshot_pocket_awake, ko1_snapshot_pocket_awake, ro1_snapshot_pocket_answering, ko1_snapshot_pocket_answering⟩ := id lo1_snapshot_pocket
    obtain ⟨ko1_snapshot_told, ro1_snapshot_told_row, ko1_snapshot_told_row⟩ := id lo1_snapshot_told
    have ko1_snapshot_tally := id lo1_snapshot_tally
    obtain ⟨ko1_history, ro1_history_rows, ko1_history_rows⟩ := id lo1_history
    obtain ⟨ko1_text, ro1_text_characters, ko1_text_characters, ro1_text_kinds, ko1_text_kinds, ro1_text_numbers, ko1_text_numbers⟩ := id lo1_text
    show AW m_X6_perform d none Q 36 [some (.inr (some 1)), some (.inl v2), none, none, none] [(.inl v6)] h5 (0, 0)
    refine ax_istore_n (pc := 36) (ls' := [some (.inr (some 1)), some (.inl v2), some (.inl v6), none, none]) dX6_perform_36 (Nat.le_of_ble_eq_true rfl) rfl ?_
    refine aw_iconst (pc := 37) dX6_perform_37 ?_
    refine ax_istore_n (pc := 38) (ls' := [some (.inr (some 1)), some (.inl v2), some (.inl v6), some (.inl 0), none]) dX6_perform_38 (Nat.le_of_ble_eq_true rfl) rfl ?_
    exact g
  · replace g := g.2 c3
    refine aw_bipush (pc := 13) dX6_perform_13 ?_
    refine aw_iload_n (pc := 15) dX6_perform_15 rfl ?_
    obtain ⟨s7, g⟩ := g
    refine ax_isub (pc := 16) (v := (-100) - v2) dX6_perform_16 s7 rfl ?_
    exact ax_ireturn (pc := 17) dX6_perform_17 rfl g (by decide) (by decide)
set_option maxRecDepth 100000 in
set_option maxHeartbeats 4000000 in
theorem vc_X6_perform_39 {d : Nat} {Q : Option Int → AH → Prop} {h : AH} {x1 x2 x3 : Int} (hd : 1 ≤ d) (hL : QM h)
  (g :
    ((x2 ≤ x3 → (
      AM (d - 1) m_X6_recorded [(.inr (some 1)), (.inl x2)] h (fun r h9 => 
        ∃ v10, r = some v10 ∧ SW h h9 ∧
        Q (some v10) h9)
    )) ∧
    (¬ (x2 ≤ x3) → (
      AM (d - 1) m_X4_kindAt [(.inr (some 100)), (.inl x3)] h (fun r h11 => 
        ∃ v12, r = some v12 ∧ SS h h11 ∧
        AM (d - 1) m_X4_numberAt [(.inr (some 100)), (.inl x3)] h11 (fun r h13 => 
          ∃ v14, r = some v14 ∧ SS h11 h13 ∧
          AM (d - 1) m_X2_carryOut [(.inr (some 2)), (.inl v12), (.inl v14)] h13 (fun r h15 => 
            ∃ v16, r = some v16 ∧ SS h13 h15 ∧
            ((0 ≤ v16 → (
              (rg (x3 + 1)) ∧
              AW m_X6_perform d none Q 39 [some (.inr (some 1)), some (.inl x1), some (.inl x2), some (.inl (x3 + 1)), none] [] h15 (0, 0)
            )) ∧
            (¬ (0 ≤ v16) → (
              ((v16 = -5 → (
                (rg (x3 + 1)) ∧
                AW m_X6_perform d none Q 39 [some (.inr (some 1)), some (.inl x1), some (.inl x2), some (.inl (x3 + 1)), none] [] h15 (0, 0)
              )) ∧
              (¬ (v16 = -5) → (
                AM (d - 1) m_X2_copyFrom [(.inr (some 2)), (.inr (some 14))] h15 (fun r h21 => 
                  r = none ∧ SS h15 h21 ∧
                  Q (some v16) h21)
              )))
            ))))))
    )))) :
  AW m_X6_perform d none Q 39 [some (.inr (some 1)), some (.inl x1), some (.inl x2), some (.inl x3), none] [] h (0, 0) := by
  obtain ⟨ko1, ro1_state, lo1_state, ro1_before, lo1_before, ro1_trial, lo1_trial, ro1_snapshot, lo1_snapshot, ro1_history, lo1_history, ro1_text, lo1_text⟩ := id hL
  obtain ⟨ko1_state, ro1_state_pocket, lo1_state_pocket, ro1_state_told, lo1_state_told, ro1_state_tally, lo1_state_tally, ro1_state_settings, ko1_state_settings⟩ := id lo1_state
  obtain ⟨ko1_state_pocket, ro1_state_pocket_names, ko1_state_pocket_names, ro1_state_pocket_asksToGo, ko1_state_pocket_asksToGo, ro1_state_pocket_tellings, ko1_state_pocket_tellings, ro1_state_pocket_slots, ko1_state_pocket_slots, ro1_state_pocket_awake, ko1_state_pocket_awake, ro1_state_pocket_answering, ko1_state_pocket_answering⟩ := id lo1_state_pocket
  obtain ⟨ko1_state_told, ro1_state_told_row, ko1_state_told_row⟩ := id lo1_state_told
  have ko1_state_tally := id lo1_state_tally
  obtain ⟨ko1_before, ro1_before_pocket, lo1_before_pocket, ro1_before_told, lo1_before_told, ro1_before_tally, lo1_before_tally, ro1_before_settings, ko1_before_settings⟩ := id lo1_before
  obtain ⟨ko1_before_pocket, ro1_before_pocket_names, ko1_before_pocket_names, ro1_before_pocket_asksToGo, ko1_before_pocket_asksToGo, ro1_before_pocket_tellings, ko1_before_pocket_tellings, ro1_before_pocket_slots, ko1_before_pocket_slots, ro1_before_pocket_awake, ko1_before_pocket_awake, ro1_before_pocket_answering, ko1_before_pocket_answering⟩ := id lo1_before_pocket
  obtain ⟨ko1_before_told, ro1_before_told_row, ko1_before_told_row⟩ := id lo1_before_told
  have ko1_before_tally := id lo1_before_tally
  obtain ⟨ko1_trial, ro1_trial_pocket, lo1_trial_pocket, ro1_trial_told, lo1_trial_told, ro1_trial_tally, lo1_trial_tally, ro1_trial_settings, ko1_trial_settings⟩ := id lo1_trial
  obtain ⟨ko1_trial_pocket, ro1_trial_pocket_names, ko1_trial_pocket_names, ro1_trial_pocket_asksToGo, ko1_trial_pocket_asksToGo, ro1_trial_pocket_tellings, ko1_trial_pocket_tellings, ro1_trial_pocket_slots, ko1_trial_pocket_slots, ro1_trial_pocket_awake, ko1_trial_pocket_awake, ro1_trial_pocket_answering, ko1_trial_pocket_answering⟩ := id lo1_trial_pocket
  obtain ⟨ko1_trial_told, ro1_trial_told_row, ko1_trial_told_row⟩ := id lo1_trial_told
  have ko1_trial_tally := id lo1_trial_tally
  obtain ⟨ko1_snapshot, ro1_snapshot_pocket, lo1_snapshot_pocket, ro1_snapshot_told, lo1_snapshot_told, ro1_snapshot_tally, lo1_snapshot_tally, ro1_snapshot_settings, ko1_snapshot_settings⟩ := id lo1_snapshot
  obtain ⟨ko1_snapshot_pocket, ro1_snapshot_pocket_names, ko1_snapshot_pocket_names, ro1_snapshot_pocket_asksToGo, ko1_snapshot_pocket_asksToGo, ro1_snapshot_pocket_tellings, ko1_snapshot_pocket_tellings, ro1_snapshot_pocket_slots, ko1_snapshot_pocket_slots, ro1_snapshot_pocket_awake, ko1_snapshot_pocket_awake, ro1_snapshot_pocket_answering, ko1_snapshot_pocket_answering⟩ := id lo1_snapshot_pocket
  obtain ⟨ko1_snapshot_told, ro1_snapshot_told_row, ko1_snapshot_told_row⟩ := id lo1_snapshot_told
  have ko1_snapshot_tally := id lo1_snapshot_tally
  obtain ⟨ko1_history, ro1_history_rows, ko1_history_rows⟩ := id lo1_history
  obtain ⟨ko1_text, ro1_text_characters, ko1_text_characters, ro1_text_kinds, ko1_text_kinds, ro1_text_numbers, ko1_text_numbers⟩ := id lo1_text
  refine aw_iload_n (pc := 39) dX6_perform_39 rfl ?_
  refine aw_iload_n (pc := 40) dX6_perform_40 rfl ?_
  refine aw_icmp_ge (pc := 41) (tgt := 101) dX6_perform_41 (by decide) (fun c8 => ?_) (fun c8 => ?_)
  · replace g := g.1 c8
    refine aw_aload_n (pc := 101) dX6_perform_101 rfl ?_
    refine aw_iload_n (pc := 102) dX6_perform_102 rfl ?_
    refine aw_invV (pc := 103) (md' := m_X6_recorded) (ci := 6) (as := [(.inl x2)]) dX6_perform_103 mo_X6_recorded im_X6_recorded se_X6_recorded ml_X6_51 rfl ko1 rfl hd (Nat.le_of_ble_eq_true rfl) (Nat.le_of_ble_eq_true rfl) (Nat.le_of_ble_eq_true rfl) ?_
    refine am_mono g (fun _ h9 _ ok_h9 g => ?_)
    obtain ⟨v10, rfl, ss_h9, g⟩ := g
    replace hL := QM.sw hL ss_h9
    obtain ⟨ko1, ro1_state, lo1_state, ro1_before, lo1_before, ro1_trial, lo1_trial, ro1_snapshot, lo1_snapshot, ro1_history, lo1_history, ro1_text, lo1_text⟩ := id hL
    obtain ⟨ko1_state, ro1_state_pocket, lo1_state_pocket, ro1_state_told, lo1_state_told, ro1_state_tally, lo1_state_tally, ro1_state_settings, ko1_state_settings⟩ := id lo1_state
    obtain ⟨ko1_state_pocket, ro1_state_pocket_names, ko1_state_pocket_names, ro1_state_pocket_asksToGo, ko1_state_pocket_asksToGo, ro1_state_pocket_tellings, ko1_state_pocket_tellings, ro1_state_pocket_slots, ko1_state_pocket_slots, ro1_state_pocket_awake, ko1_state_pocket_awake, ro1_state_pocket_answering, ko1_state_pocket_answering⟩ := id lo1_state_pocket
    obtain ⟨ko1_state_told, ro1_state_told_row, ko1_state_told_row⟩ := id lo1_state_told
    have ko1_state_tally := id lo1_state_tally
    obtain ⟨ko1_before, ro1_before_pocket, lo1_before_pocket, ro1_before_told, lo1_before_told, ro1_before_tally, lo1_before_tally, ro1_before_settings, ko1_before_settings⟩ := id lo1_before
    obtain ⟨ko1_before_pocket, ro1_before_pocket_names, ko1_before_pocket_names, ro1_before_pocket_asksToGo, ko1_before_pocket_asksToGo, ro1_before_pocket_tellings, ko1_before_pocket_tellings, ro1_before_pocket_slots, ko1_before_pocket_slots, ro1_before_pocket_awake, ko1_before_pocket_awake, ro1_before_pocket_answering, ko1_before_pocket_answering⟩ := id lo1_before_pocket
    obtain ⟨ko1_before_told, ro1_before_told_row, ko1_before_told_row⟩ := id lo1_before_told
    have ko1_before_tally := id lo1_before_tally
    obtain ⟨ko1_trial, ro1_trial_pocket, lo1_trial_pocket, ro1_trial_told, lo1_trial_told, ro1_trial_tally, lo1_trial_tally, ro1_trial_settings, ko1_trial_settings⟩ := id lo1_trial
    obtain ⟨ko1_trial_pocket, ro1_trial_pocket_names, ko1_trial_pocket_names, ro1_trial_pocket_asksToGo, ko1_trial_pocket_asksToGo, ro1_trial_pocket_tellings, ko1_trial_pocket_tellings, ro1_trial_pocket_slots, ko1_trial_pocket_slots, ro1_trial_pocket_awake, ko1_trial_pocket_awake, ro1_trial_pocket_answering, ko1_trial_pocket_answering⟩ := id lo1_trial_pocket
    obtain ⟨ko1_trial_told, ro1_trial_told_row, ko1_trial_told_row⟩ := id lo1_trial_told
    have ko1_trial_tally := id lo1_trial_tally
    obtain ⟨ko1_snapshot, ro1_snapshot_pocket, lo1_snapshot_pocket, ro1_snapshot_told, lo1_snapshot_told, ro1_snapshot_tally, lo1_snapshot_tally, ro1_snapshot_settings, ko1_snapshot_settings⟩ := id lo1_snapshot
    obtain ⟨ko1_snapshot_pocket, ro1_snapshot_pocket_names, ko1_snapshot_pocket_names, ro1_snapshot_pocket_asksToGo, ko1_snapshot_pocket_asksToGo, ro1_snapshot_pocket_tellings, ko1_snapshot_pocket_tellings, ro1_snapshot_pocket_slots, ko1_snapshot_pocket_slots, ro1_snapshot_pocket_awake, ko1_snapshot_pocket_awake, ro1_snapshot_pocket_answering, ko1_snapshot_pocket_answering⟩ := id lo1_snapshot_pocket
    obtain ⟨ko1_snapshot_told, ro1_snapshot_told_row, ko1_snapshot_told_row⟩ := id lo1_snapshot_told
    have ko1_snapshot_tally := id lo1_snapshot_tally
    obtain ⟨ko1_history, ro1_history_rows, ko1_history_rows⟩ := id lo1_history
    obtain ⟨ko1_text, ro1_text_characters, ko1_text_characters, ro1_text_kinds, ko1_text_kinds, ro1_text_numbers, ko1_text_numbers⟩ := id lo1_text
    show AW m_X6_perform d none Q 106 [some (.inr (some 1)), some (.inl x1), some (.inl x2), some (.inl x3), none] [(.inl v10)] h9 (0, 0)
    exact ax_ireturn (pc := 106) dX6_perform_106 rfl g (by decide) (by decide)
  · replace g := g.2 c8
    refine aw_aload_n (pc := 44) dX6_perform_44 rfl ?_
    refine aw_getr (pc := 45) (r := some 2) dX6_perform_45 fl_X6_10 (by decide) rfl ko1 ro1_state ?_
    refine aw_aload_n (pc := 48) dX6_perform_48 rfl ?_
    refine aw_getr (pc := 49) (r := some 100) dX6_perform_49 fl_X6_39 (by decide) rfl ko1 ro1_text ?_
    refine aw_iload_n (pc := 52) dX6_perform_52 rfl ?_
    refine aw_invV (pc := 53) (md' := m_X4_kindAt) (ci := 4) (as := [(.inl x3)]) dX6_perform_53 mo_X4_kindAt im_X4_kindAt se_X4_kindAt ml_X6_107 rfl ko1_text rfl hd (Nat.le_of_ble_eq_true rfl) (Nat.le_of_ble_eq_true rfl) (Nat.le_of_ble_eq_true rfl) ?_
    refine am_mono g (fun _ h11 _ ok_h11 g => ?_)
    obtain ⟨v12, rfl, ss_h11, g⟩ := g
    replace hL := QM.ss hL ss_h11
    obtain ⟨ko1, ro1_state, lo1_state, ro1_before, lo1_before, ro1_trial, lo1_trial, ro1_snapshot, lo1_snapshot, ro1_history, lo1_history, ro1_text, lo1_text⟩ := id hL
    obtain ⟨ko1_state, ro1_state_pocket, lo1_state_pocket, ro1_state_told, lo1_state_told, ro1_state_tally, lo1_state_tally, ro1_state_settings, ko1_state_settings⟩ := id lo1_state
    obtain ⟨ko1_state_pocket, ro1_state_pocket_names, ko1_state_pocket_names, ro1_state_pocket_asksToGo, ko1_state_pocket_asksToGo, ro1_state_pocket_tellings, ko1_state_pocket_tellings, ro1_state_pocket_slots, ko1_state_pocket_slots, ro1_state_pocket_awake, ko1_state_pocket_awake, ro1_state_pocket_answering, ko1_state_pocket_answering⟩ := id lo1_state_pocket
    obtain ⟨ko1_state_told, ro1_state_told_row, ko1_state_told_row⟩ := id lo1_state_told
    have ko1_state_tally := id lo1_state_tally
    obtain ⟨ko1_before, ro1_before_pocket, lo1_before_pocket, ro1_before_told, lo1_before_told, ro1_before_tally, lo1_before_tally, ro1_before_settings, ko1_before_settings⟩ := id lo1_before
    obtain ⟨ko1_before_pocket, ro1_before_pocket_names, ko1_before_pocket_names, ro1_before_pocket_asksToGo, ko1_before_pocket_asksToGo, ro1_before_pocket_tellings, ko1_before_pocket_tellings, ro1_before_pocket_slots, ko1_before_pocket_slots, ro1_before_pocket_awake, ko1_before_pocket_awake, ro1_before_pocket_answering, ko1_before_pocket_answering⟩ := id lo1_before_pocket
    obtain ⟨ko1_before_told, ro1_before_told_row, ko1_before_told_row⟩ := id lo1_before_told
    have ko1_before_tally := id lo1_before_tally
    obtain ⟨ko1_trial, ro1_trial_pocket, lo1_trial_pocket, ro1_trial_told, lo1_trial_told, ro1_trial_tally, lo1_trial_tally, ro1_trial_settings, ko1_trial_settings⟩ := id lo1_trial
    obtain ⟨ko1_trial_pocket, ro1_trial_pocket_names, ko1_trial_pocket_names, ro1_trial_pocket_asksToGo, ko1_trial_pocket_asksToGo, ro1_trial_pocket_tellings, ko1_trial_pocket_tellings, ro1_trial_pocket_slots, ko1_trial_pocket_slots, ro1_trial_pocket_awake, ko1_trial_pocket_awake, ro1_trial_pocket_answering, ko1_trial_pocket_answering⟩ := id lo1_trial_pocket
    obtain ⟨ko1_trial_told, ro1_trial_told_row, ko1_trial_told_row⟩ := id lo1_trial_told
    have ko1_trial_tally := id lo1_trial_tally
    obtain ⟨ko1_snapshot, ro1_snapshot_pocket, lo1_snapshot_pocket, ro1_snapshot_told, lo1_snapshot_told, ro1_snapshot_tally, lo1_snapshot_tally, ro1_snapshot_settings, ko1_snapshot_settings⟩ := id lo1_snapshot
    obtain ⟨ko1_snapshot_pocket, ro1_snapshot_pocket_names, ko1_snapshot_pocket_names, ro1_snapshot_pocket_asksToGo, ko1_snapshot_pocket_asksToGo, ro1_snapshot_pocket_tellings, ko1_snapshot_pocket_tellings, ro1_snapshot_pocket_slots, ko1_snapshot_pocket_slots, ro1_snapshot_pocket_awake, ko1_snapshot_pocket_awake, ro1_snapshot_pocket_answering, ko1_snapshot_pocket_answering⟩ := id lo1_snapshot_pocket
    obtain ⟨ko1_snapshot_told, ro1_snapshot_told_row, ko1_snapshot_told_row⟩ := id lo1_snapshot_told
    have ko1_snapshot_tally := id lo1_snapshot_tally
    obtain ⟨ko1_history, ro1_history_rows, ko1_history_rows⟩ := id lo1_history
    obtain ⟨ko1_text, ro1_text_characters, ko1_text_characters, ro1_text_kinds, ko1_text_kinds, ro1_text_numbers, ko1_text_numbers⟩ := id lo1_text
    show AW m_X6_perform d none Q 56 [some (.inr (some 1)), some (.inl x1), some (.inl x2), some (.inl x3), none] [(.inl v12), (.inr (some 2))] h11 (0, 0)
    refine aw_aload_n (pc := 56) dX6_perform_56 rfl ?_
    refine aw_getr (pc := 57) (r := some 100) dX6_perform_57 fl_X6_39 (by decide) rfl ko1 ro1_text ?_
    refine aw_iload_n (pc := 60) dX6_perform_60 rfl ?_
    refine aw_invV (pc := 61) (md' := m_X4_numberAt) (ci := 4) (as := [(.inl x3)]) dX6_perform_61 mo_X4_numberAt im_X4_numberAt se_X4_numberAt ml_X6_111 rfl ko1_text rfl hd (Nat.le_of_ble_eq_true rfl) (Nat.le_of_ble_eq_true rfl) (Nat.le_of_ble_eq_true rfl) ?_
    refine am_mono g (fun _ h13 _ ok_h13 g => ?_)
    obtain ⟨v14, rfl, ss_h13, g⟩ := g
    replace hL := QM.ss hL ss_h13
    obtain ⟨ko1, ro1_state, lo1_state, ro1_before, lo1_before, ro1_trial, lo1_trial, ro1_snapshot, lo1_snapshot, ro1_history, lo1_history, ro1_text, lo1_text⟩ := id hL
    obtain ⟨ko1_state, ro1_state_pocket, lo1_state_pocket, ro1_state_told, lo1_state_told, ro1_state_tally, lo1_state_tally, ro1_state_settings, ko1_state_settings⟩ := id lo1_state
    obtain ⟨ko1_state_pocket, ro1_state_pocket_names, ko1_state_pocket_names, ro1_state_pocket_asksToGo, ko1_state_pocket_asksToGo, ro1_state_pocket_tellings, ko1_state_pocket_tellings, ro1_state_pocket_slots, ko1_state_pocket_slots, ro1_state_pocket_awake, ko1_state_pocket_awake, ro1_state_pocket_answering, ko1_state_pocket_answering⟩ := id lo1_state_pocket
    obtain ⟨ko1_state_told, ro1_state_told_row, ko1_state_told_row⟩ := id lo1_state_told
    have ko1_state_tally := id lo1_state_tally
    obtain ⟨ko1_before, ro1_before_pocket, lo1_before_pocket, ro1_before_told, lo1_before_told, ro1_before_tally, lo1_before_tally, ro1_before_settings, ko1_before_settings⟩ := id lo1_before
    obtain ⟨ko1_before_pocket, ro1_before_pocket_names, ko1_before_pocket_names, ro1_before_pocket_asksToGo, ko1_before_pocket_asksToGo, ro1_before_pocket_tellings, ko1_before_pocket_tellings, ro1_before_pocket_slots, ko1_before_pocket_slots, ro1_before_pocket_awake, ko1_before_pocket_awake, ro1_before_pocket_answering, ko1_before_pocket_answering⟩ := id lo1_before_pocket
    obtain ⟨ko1_before_told, ro1_before_told_row, ko1_before_told_row⟩ := id lo1_before_told
    have ko1_before_tally := id lo1_before_tally
    obtain ⟨ko1_trial, ro1_trial_pocket, lo1_trial_pocket, ro1_trial_told, lo1_trial_told, ro1_trial_tally, lo1_trial_tally, ro1_trial_settings, ko1_trial_settings⟩ := id lo1_trial
    obtain ⟨ko1_trial_pocket, ro1_trial_pocket_names, ko1_trial_pocket_names, ro1_trial_pocket_asksToGo, ko1_trial_pocket_asksToGo, ro1_trial_pocket_tellings, ko1_trial_pocket_tellings, ro1_trial_pocket_slots, ko1_trial_pocket_slots, ro1_trial_pocket_awake, ko1_trial_pocket_awake, ro1_trial_pocket_answering, ko1_trial_pocket_answering⟩ := id lo1_trial_pocket
    obtain ⟨ko1_trial_told, ro1_trial_told_row, ko1_trial_told_row⟩ := id lo1_trial_told
    have ko1_trial_tally := id lo1_trial_tally
    obtain ⟨ko1_snapshot, ro1_snapshot_pocket, lo1_snapshot_pocket, ro1_snapshot_told, lo1_snapshot_told, ro1_snapshot_tally, lo1_snapshot_tally, ro1_snapshot_settings, ko1_snapshot_settings⟩ := id lo1_snapshot
    obtain ⟨ko1_snapshot_pocket, ro1_snapshot_pocket_names, ko1_snapshot_pocket_names, ro1_snapshot_pocket_asksToGo, ko1_snapshot_pocket_asksToGo, ro1_snapshot_pocket_tellings, ko1_snapshot_pocket_tellings, ro1_snapshot_pocket_slots, ko1_snapshot_pocket_slots, ro1_snapshot_pocket_awake, ko1_snapshot_pocket_awake, ro1_snapshot_pocket_answering, ko1_snapshot_pocket_answering⟩ := id lo1_snapshot_pocket
    obtain ⟨ko1_snapshot_told, ro1_snapshot_told_row, ko1_snapshot_told_row⟩ := id lo1_snapshot_told
    have ko1_snapshot_tally := id lo1_snapshot_tally
    obtain ⟨ko1_history, ro1_history_rows, ko1_history_rows⟩ := id lo1_history
    obtain ⟨ko1_text, ro1_text_characters, ko1_text_characters, ro1_text_kinds, ko1_text_kinds, ro1_text_numbers, ko1_text_numbers⟩ := id lo1_text
    show AW m_X6_perform d none Q 64 [some (.inr (some 1)), some (.inl x1), some (.inl x2), some (.inl x3), none] [(.inl v14), (.inl v12), (.inr (some 2))] h13 (0, 0)
    refine aw_invV (pc := 64) (md' := m_X2_carryOut) (ci := 2) (as := [(.inl v12), (.inl v14)]) dX6_perform_64 mo_X2_carryOut im_X2_carryOut se_X2_carryOut ml_X6_114 rfl ko1_state rfl hd (Nat.le_of_ble_eq_true rfl) (Nat.le_of_ble_eq_true rfl) (Nat.le_of_ble_eq_true rfl) ?_
    refine am_mono g (fun _ h15 _ ok_h15 g => ?_)
    obtain ⟨v16, rfl, ss_h15, g⟩ := g
    replace hL := QM.ss hL ss_h15
    obtain ⟨ko1, ro1_state, lo1_state, ro1_before, lo1_before, ro1_trial, lo1_trial, ro1_snapshot, lo1_snapshot, ro1_history, lo1_history, ro1_text, lo1_text⟩ := id hL
    obtain ⟨ko1_state, ro1_state_pocket, lo1_state_pocket, ro1_state_told, lo1_state_told, ro1_state_tally, lo1_state_tally, ro1_state_settings, ko1_state_settings⟩ := id lo1_state
    obtain ⟨ko1_state_pocket, ro1_state_pocket_names, ko1_state_pocket_names, ro1_state_pocket_asksToGo, ko1_state_pocket_asksToGo, ro1_state_pocket_tellings, ko1_state_pocket_tellings, ro1_state_pocket_slots, ko1_state_pocket_slots, ro1_state_pocket_awake, ko1_state_pocket_awake, ro1_state_pocket_answering, ko1_state_pocket_answering⟩ := id lo1_state_pocket
    obtain ⟨ko1_state_told, ro1_state_told_row, ko1_state_told_row⟩ := id lo1_state_told
    have ko1_state_tally := id lo1_state_tally
    obtain ⟨ko1_before, ro1_before_pocket, lo1_before_pocket, ro1_before_told, lo1_before_told, ro1_before_tally, lo1_before_tally, ro1_before_settings, ko1_before_settings⟩ := id lo1_before
    obtain ⟨ko1_before_pocket, ro1_before_pocket_names, ko1_before_pocket_names, ro1_before_pocket_asksToGo, ko1_before_pocket_asksToGo, ro1_before_pocket_tellings, ko1_before_pocket_tellings, ro1_before_pocket_slots, ko1_before_pocket_slots, ro1_before_pocket_awake, ko1_before_pocket_awake, ro1_before_pocket_answering, ko1_before_pocket_answering⟩ := id lo1_before_pocket
    obtain ⟨ko1_before_told, ro1_before_told_row, ko1_before_told_row⟩ := id lo1_before_told
    have ko1_before_tally := id lo1_before_tally
    obtain ⟨ko1_trial, ro1_trial_pocket, lo1_trial_pocket, ro1_trial_told, lo1_trial_told, ro1_trial_tally, lo1_trial_tally, ro1_trial_settings, ko1_trial_settings⟩ := id lo1_trial
    obtain ⟨ko1_trial_pocket, ro1_trial_pocket_names, ko1_trial_pocket_names, ro1_trial_pocket_asksToGo, ko1_trial_pocket_asksToGo, ro1_trial_pocket_tellings, ko1_trial_pocket_tellings, ro1_trial_pocket_slots, ko1_trial_pocket_slots, ro1_trial_pocket_awake, ko1_trial_pocket_awake, ro1_trial_pocket_answering, ko1_trial_pocket_answering⟩ := id lo1_trial_pocket
    obtain ⟨ko1_trial_told, ro1_trial_told_row, ko1_trial_told_row⟩ := id lo1_trial_told
    have ko1_trial_tally := id lo1_trial_tally
    obtain ⟨ko1_snapshot, ro1_snapshot_pocket, lo1_snapshot_pocket, ro1_snapshot_told, lo1_snapshot_told, ro1_snapshot_tally, lo1_snapshot_tally, ro1_snapshot_settings, ko1_snapshot_settings⟩ := id lo1_snapshot
    obtain ⟨ko1_snapshot_pocket, ro1_snapshot_pocket_names, ko1_snapshot_pocket_names, ro1_snapshot_pocket_asksToGo, ko1_snapshot_pocket_asksToGo, ro1_snapshot_pocket_tellings, ko1_snapshot_pocket_tellings, ro1_snapshot_pocket_slots, ko1_snapshot_pocket_slots, ro1_snapshot_pocket_awake, ko1_snapshot_pocket_awake, ro1_snapshot_pocket_answering, ko1_snapshot_pocket_answering⟩ := id lo1_snapshot_pocket
    obtain ⟨ko1_snapshot_told, ro1_snapshot_told_row, ko1_snapshot_told_row⟩ := id lo1_snapshot_told
    have ko1_snapshot_tally := id lo1_snapshot_tally
    obtain ⟨ko1_history, ro1_history_rows, ko1_history_rows⟩ := id lo1_history
    obtain ⟨ko1_text, ro1_text_characters, ko1_text_characters, ro1_text_kinds, ko1_text_kinds, ro1_text_numbers, ko1_text_numbers⟩ := id lo1_text
    show AW m_X6_perform d none Q 67 [some (.inr (some 1)), some (.inl x1), some (.inl x2), some (.inl x3), none] [(.inl v16)] h15 (0, 0)
    refine ax_istore (pc := 67) (ls' := [some (.inr (some 1)), some (.inl x1), some (.inl x2), some (.inl x3), some (.inl v16)]) dX6_perform_67 (Nat.le_of_ble_eq_true rfl) rfl ?_
    refine aw_iload (pc := 69) dX6_perform_69 rfl ?_
    refine aw_if_ge (pc := 71) (tgt := 95) dX6_perform_71 (by decide) (fun c17 => ?_) (fun c17 => ?_)
    · replace g := g.1 c17
      obtain ⟨s18, g⟩ := g
      refine ax_iinc (pc := 95) (v' := x3 + 1) (ls' := [some (.inr (some 1)), some (.inl x1), some (.inl x2), some (.inl (x3 + 1)), some (.inl v16)]) dX6_perform_95 rfl s18 rfl rfl ?_
      refine aw_goto (pc := 98) (tgt := 39) dX6_perform_98 (by decide) ?_
      exact aw_fewer (show subl [some (.inr (some 1)), some (.inl x1), some (.inl x2), some (.inl (x3 + 1)), none] [some (.inr (some 1)), some (.inl x1), some (.inl x2), some (.inl (x3 + 1)), some (.inl v16)] from (And.intro rfl (And.intro rfl (And.intro rfl (And.intro rfl trivial))))) g
    · replace g := g.2 c17
      refine aw_iload (pc := 74) dX6_perform_74 rfl ?_
      refine aw_bipush (pc := 76) dX6_perform_76 ?_
      refine aw_icmp_eq (pc := 78) (tgt := 95) dX6_perform_78 (by decide) (fun c19 => ?_) (fun c19 => ?_)
      · replace g := g.1 c19
        obtain ⟨s20, g⟩ := g
        refine ax_iinc (pc := 95) (v' := x3 + 1) (ls' := [some (.inr (some 1)), some (.inl x1), some (.inl x2), some (.inl (x3 + 1)), some (.inl v16)]) dX6_perform_95 rfl s20 rfl rfl ?_
        refine aw_goto (pc := 98) (tgt := 39) dX6_perform_98 (by decide) ?_
        exact aw_fewer (show subl [some (.inr (some 1)), some (.inl x1), some (.inl x2), some (.inl (x3 + 1)), none] [some (.inr (some 1)), some (.inl x1), some (.inl x2), some (.inl (x3 + 1)), some (.inl v16)] from (And.intro rfl (And.intro rfl (And.intro rfl (And.intro rfl trivial))))) g
      · replace g := g.2 c19
        refine aw_aload_n (pc := 81) dX6_perform_81 rfl ?_
        refine aw_getr (pc := 82) (r := some 2) dX6_perform_82 fl_X6_10 (by decide) rfl ko1 ro1_state ?_
        refine aw_aload_n (pc := 85) dX6_perform_85 rfl ?_
        refine aw_getr (pc := 86) (r := some 14) dX6_perform_86 fl_X6_16 (by decide) rfl ko1 ro1_before ?_
        refine aw_invV (pc := 89) (md' := m_X2_copyFrom) (ci := 2) (as := [(.inr (some 14))]) dX6_perform_89 mo_X2_copyFrom im_X2_copyFrom se_X2_copyFrom ml_X6_43 rfl ko1_state rfl hd (Nat.le_of_ble_eq_true rfl) (Nat.le_of_ble_eq_true rfl) (Nat.le_of_ble_eq_true rfl) ?_
        refine am_mono g (fun _ h21 _ ok_h21 g => ?_)
        obtain ⟨rfl, ss_h21, g⟩ := g
        replace hL := QM.ss hL ss_h21
        obtain ⟨ko1, ro1_state, lo1_state, ro1_before, lo1_before, ro1_trial, lo1_trial, ro1_snapshot, lo1_snapshot, ro1_history, lo1_history, ro1_text, lo1_text⟩ := id hL
        obtain ⟨ko1_state, ro1_state_pocket, lo1_state_pocket, ro1_state_told, lo1_state_told, ro1_state_tally, lo1_state_tally, ro1_state_settings, ko1_state_settings⟩ := id lo1_state
        obtain ⟨ko1_state_pocket, ro1_state_pocket_names, ko1_state_pocket_names, ro1_state_pocket_asksToGo, ko1_state_pocket_asksToGo, ro1_state_pocket_tellings, ko1_state_pocket_tellings, ro1_state_pocket_slots, ko1_state_pocket_slots, ro1_state_pocket_awake, ko1_state_pocket_awake, ro1_state_pocket_answering, ko1_state_pocket_answering⟩ := id lo1_state_pocket
        obtain ⟨ko1_state_told, ro1_state_told_row, ko1_state_told_row⟩ := id lo1_state_told
        have ko1_state_tally := id lo1_state_tally
        obtain ⟨ko1_before, ro1_before_pocket, lo1_before_pocket, ro1_before_told, lo1_before_told, ro1_before_tally, lo1_before_tally, ro1_before_settings, ko1_before_settings⟩ := id lo1_before
        obtain ⟨ko1_before_pocket, ro1_before_pocket_names, ko1_before_pocket_names, ro1_before_pocket_asksToGo, ko1_before_pocket_asksToGo, ro1_before_pocket_tellings, ko1_before_pocket_tellings, ro1_before_pocket_slots, ko1_before_pocket_slots, ro1_before_pocket_awake, ko1_before_pocket_awake, ro1_before_pocket_answering, ko1_before_pocket_answering⟩ := id lo1_before_pocket
        obtain ⟨ko1_before_told, ro1_before_told_row, ko1_before_told_row⟩ := id lo1_before_told
        have ko1_before_tally := id lo1_before_tally
        obtain ⟨ko1_trial, ro1_trial_pocket, lo1_trial_pocket, ro1_trial_told, lo1_trial_told, ro1_trial_tally, lo1_trial_tally, ro1_trial_settings, ko1_trial_settings⟩ := id lo1_trial
        obtain ⟨ko1_trial_pocket, ro1_trial_pocket_names, ko1_trial_pocket_names, ro1_trial_pocket_asksToGo, ko1_trial_pocket_asksToGo, ro1_trial_pocket_tellings, ko1_trial_pocket_tellings, ro1_trial_pocket_slots, ko1_trial_pocket_slots, ro1_trial_pocket_awake, ko1_trial_pocket_awake, ro1_trial_pocket_answering, ko1_trial_pocket_answering⟩ := id lo1_trial_pocket
        obtain ⟨ko1_trial_told, ro1_trial_told_row, ko1_trial_told_row⟩ := id lo1_trial_told
        have ko1_trial_tally := id lo1_trial_tally
        obtain ⟨ko1_snapshot, ro1_snapshot_pocket, lo1_snapshot_pocket, ro1_snapshot_told, lo1_snapshot_told, ro1_snapshot_tally, lo1_snapshot_tally, ro1_snapshot_settings, ko1_snapshot_settings⟩ := id lo1_snapshot
        obtain ⟨ko1_snapshot_pocket, ro1_snapshot_pocket_names, ko1_snapshot_pocket_names, ro1_snapshot_pocket_asksToGo, ko1_snapshot_pocket_asksToGo, ro1_snapshot_pocket_tellings, ko1_snapshot_pocket_tellings, ro1_snapshot_pocket_slots, ko1_snapshot_pocket_slots, ro1_snapshot_pocket_awake, ko1_snapshot_pocket_awake, ro1_snapshot_pocket_answering, ko1_snapshot_pocket_answering⟩ := id lo1_snapshot_pocket
        obtain ⟨ko1_snapshot_told, ro1_snapshot_told_row, ko1_snapshot_told_row⟩ := id lo1_snapshot_told
        have ko1_snapshot_tally := id lo1_snapshot_tally
        obtain ⟨ko1_history, ro1_history_rows, ko1_history_rows⟩ := id lo1_history
        obtain ⟨ko1_text, ro1_text_characters, ko1_text_characters, ro1_text_kinds, ko1_text_kinds, ro1_text_numbers, ko1_text_numbers⟩ := id lo1_text
        show AW m_X6_perform d none Q 92 [some (.inr (some 1)), some (.inl x1), some (.inl x2), some (.inl x3), some (.inl v16)] [] h21 (0, 0)
        refine aw_iload (pc := 92) dX6_perform_92 rfl ?_
        exact ax_ireturn (pc := 94) dX6_perform_94 rfl g (by decide) (by decide)
set_option maxRecDepth 100000 in
set_option maxHeartbeats 4000000 in
theorem vc_X6_undo {d : Nat} {Q : Option Int → AH → Prop} {h : AH}  (hd : 1 ≤ d) (hL : QM h)
  (g :
    AM (d - 1) m_X0_backTo [(.inr (some 50)), (.inr (some 2))] h (fun r h1 => 
      ∃ v2, r = some v2 ∧ SS h h1 ∧
      Q (some v2) h1)) :
  AM d m_X6_undo [(.inr (some 1))] h Q := by
  refine am_body mo_X6_undo (Nat.le_of_ble_eq_true rfl) ?_
  show AW m_X6_undo d none Q 0 [some (.inr (some 1))] [] h (0, 0)
  obtain ⟨ko1, ro1_state, lo1_state, ro1_before, lo1_before, ro1_trial, lo1_trial, ro1_snapshot, lo1_snapshot, ro1_history, lo1_history, ro1_text, lo1_text⟩ := id hL
  obtain ⟨ko1_state, ro1_state_pocket, lo1_state_pocket, ro1_state_told, lo1_state_told, ro1_state_tally, lo1_state_tally, ro1_state_settings, ko1_state_settings⟩ := id lo1_state
  obtain ⟨ko1_state_pocket, ro1_state_pocket_names, ko1_state_pocket_names, ro1_state_pocket_asksToGo, ko1_state_pocket_asksToGo, ro1_state_pocket_tellings, ko1_state_pocket_tellings, ro1_state_pocket_slots, ko1_state_pocket_slots, ro1_state_pocket_awake, ko1_state_pocket_awake, ro1_state_pocket_answering, ko1_state_pocket_answering⟩ := id lo1_state_pocket
  obtain ⟨ko1_state_told, ro1_state_told_row, ko1_state_told_row⟩ := id lo1_state_told
  have ko1_state_tally := id lo1_state_tally
  obtain ⟨ko1_before, ro1_before_pocket, lo1_before_pocket, ro1_before_told, lo1_before_told, ro1_before_tally, lo1_before_tally, ro1_before_settings, ko1_before_settings⟩ := id lo1_before
  obtain ⟨ko1_before_pocket, ro1_before_pocket_names, ko1_before_pocket_names, ro1_before_pocket_asksToGo, ko1_before_pocket_asksToGo, ro1_before_pocket_tellings, ko1_before_pocket_tellings, ro1_before_pocket_slots, ko1_before_pocket_slots, ro1_before_pocket_awake, ko1_before_pocket_awake, ro1_before_pocket_answering, ko1_before_pocket_answering⟩ := id lo1_before_pocket
  obtain ⟨ko1_before_told, ro1_before_told_row, ko1_before_told_row⟩ := id lo1_before_told
  have ko1_before_tally := id lo1_before_tally
  obtain ⟨ko1_trial, ro1_trial_pocket, lo1_trial_pocket, ro1_trial_told, lo1_trial_told, ro1_trial_tally, lo1_trial_tally, ro1_trial_settings, ko1_trial_settings⟩ := id lo1_trial
  obtain ⟨ko1_trial_pocket, ro1_trial_pocket_names, ko1_trial_pocket_names, ro1_trial_pocket_asksToGo, ko1_trial_pocket_asksToGo, ro1_trial_pocket_tellings, ko1_trial_pocket_tellings, ro1_trial_pocket_slots, ko1_trial_pocket_slots, ro1_trial_pocket_awake, ko1_trial_pocket_awake, ro1_trial_pocket_answering, ko1_trial_pocket_answering⟩ := id lo1_trial_pocket
  obtain ⟨ko1_trial_told, ro1_trial_told_row, ko1_trial_told_row⟩ := id lo1_trial_told
  have ko1_trial_tally := id lo1_trial_tally
  obtain ⟨ko1_snapshot, ro1_snapshot_pocket, lo1_snapshot_pocket, ro1_snapshot_told, lo1_snapshot_told, ro1_snapshot_tally, lo1_snapshot_tally, ro1_snapshot_settings, ko1_snapshot_settings⟩ := id lo1_snapshot
  obtain ⟨ko1_snapshot_pocket, ro1_snapshot_pocket_names, ko1_snapshot_pocket_names, ro1_snapshot_pocket_asksToGo, ko1_snapshot_pocket_asksToGo, ro1_snapshot_pocket_tellings, ko1_snapshot_pocket_tellings, ro1_snapshot_pocket_slots, ko1_snapshot_pocket_slots, ro1_snapshot_pocket_awake, ko1_snapshot_pocket_awake, ro1_snapshot_pocket_answering, ko1_snapshot_pocket_answering⟩ := id lo1_snapshot_pocket
  obtain ⟨ko1_snapshot_told, ro1_snapshot_told_row, ko1_snapshot_told_row⟩ := id lo1_snapshot_told
  have ko1_snapshot_tally := id lo1_snapshot_tally
  obtain ⟨ko1_history, ro1_history_rows, ko1_history_rows⟩ := id lo1_history
  obtain ⟨ko1_text, ro1_text_characters, ko1_text_characters, ro1_text_kinds, ko1_text_kinds, ro1_text_numbers, ko1_text_numbers⟩ := id lo1_text
  refine aw_aload_n (pc := 0) dX6_undo_0 rfl ?_
  refine aw_getr (pc := 1) (r := some 50) dX6_undo_1 fl_X6_32 (by decide) rfl ko1 ro1_history ?_
  refine aw_aload_n (pc := 4) dX6_undo_4 rfl ?_
  refine aw_getr (pc := 5) (r := some 2) dX6_undo_5 fl_X6_10 (by decide) rfl ko1 ro1_state ?_
  refine aw_invV (pc := 8) (md' := m_X0_backTo) (ci := 0) (as := [(.inr (some 2))]) dX6_undo_8 mo_X0_backTo im_X0_backTo se_X0_backTo ml_X6_118 rfl ko1_history rfl hd (Nat.le_of_ble_eq_true rfl) (Nat.le_of_ble_eq_true rfl) (Nat.le_of_ble_eq_true rfl) ?_
  refine am_mono g (fun _ h1 _ ok_h1 g => ?_)
  obtain ⟨v2, rfl, ss_h1, g⟩ := g
  replace hL := QM.ss hL ss_h1
  obtain ⟨ko1, ro1_state, lo1_state, ro1_before, lo1_before, ro1_trial, lo1_trial, ro1_snapshot, lo1_snapshot, ro1_history, lo1_history, ro1_text, lo1_text⟩ := id hL
  obtain ⟨ko1_state, ro1_state_pocket, lo1_state_pocket, ro1_state_told, lo1_state_told, ro1_state_tally, lo1_state_tally, ro1_state_settings, ko1_state_settings⟩ := id lo1_state
  obtain ⟨ko1_state_pocket, ro1_state_pocket_names, ko1_state_pocket_names, ro1_state_pocket_asksToGo, ko1_state_pocket_asksToGo, ro1_state_pocket_tellings, ko1_state_pocket_tellings, ro1_state_pocket_slots, ko1_state_pocket_slots, ro1_state_pocket_awake, ko1_state_pocket_awake, ro1_state_pocket_answering, ko1_state_pocket_answering⟩ := id lo1_state_pocket
  obtain ⟨ko1_state_told, ro1_state_told_row, ko1_state_told_row⟩ := id lo1_state_told
  have ko1_state_tally := id lo1_state_tally
  obtain ⟨ko1_before, ro1_before_pocket, lo1_before_pocket, ro1_before_told, lo1_before_told, ro1_before_tally, lo1_before_tally, ro1_before_settings, ko1_before_settings⟩ := id lo1_before
  obtain ⟨ko1_before_pocket, ro1_before_pocket_names, ko1_before_pocket_names, ro1_before_pocket_asksToGo, ko1_before_pocket_asksToGo, ro1_before_pocket_tellings, ko1_before_pocket_tellings, ro1_before_pocket_slots, ko1_before_pocket_slots, ro1_before_pocket_awake, ko1_before_pocket_awake, ro1_before_pocket_answering, ko1_before_pocket_answering⟩ := id lo1_before_pocket
  obtain ⟨ko1_before_told, ro1_before_told_row, ko1_before_told_row⟩ := id lo1_before_told
  have ko1_before_tally := id lo1_before_tally
  obtain ⟨ko1_trial, ro1_trial_pocket, lo1_trial_pocket, ro1_trial_told, lo1_trial_told, ro1_trial_tally, lo1_trial_tally, ro1_trial_settings, ko1_trial_settings⟩ := id lo1_trial
  obtain ⟨ko1_trial_pocket, ro1_trial_pocket_names, ko1_trial_pocket_names, ro1_trial_pocket_asksToGo, ko1_trial_pocket_asksToGo, ro1_trial_pocket_tellings, ko1_trial_pocket_tellings, ro1_trial_pocket_slots, ko1_trial_pocket_slots, ro1_trial_pocket_awake, ko1_trial_pocket_awake, ro1_trial_pocket_answering, ko1_trial_pocket_answering⟩ := id lo1_trial_pocket
  obtain ⟨ko1_trial_told, ro1_trial_told_row, ko1_trial_told_row⟩ := id lo1_trial_told
  have ko1_trial_tally := id lo1_trial_tally
  obtain ⟨ko1_snapshot, ro1_snapshot_pocket, lo1_snapshot_pocket, ro1_snapshot_told, lo1_snapshot_told, ro1_snapshot_tally, lo1_snapshot_tally, ro1_snapshot_settings, ko1_snapshot_settings⟩ := id lo1_snapshot
  obtain ⟨ko1_snapshot_pocket, ro1_snapshot_pocket_names, ko1_snapshot_pocket_names, ro1_snapshot_pocket_asksToGo, ko1_snapshot_pocket_asksToGo, ro1_snapshot_pocket_tellings, ko1_snapshot_pocket_tellings, ro1_snapshot_pocket_slots, ko1_snapshot_pocket_slots, ro1_snapshot_pocket_awake, ko1_snapshot_pocket_awake, ro1_snapshot_pocket_answering, ko1_snapshot_pocket_answering⟩ := id lo1_snapshot_pocket
  obtain ⟨ko1_snapshot_told, ro1_snapshot_told_row, ko1_snapshot_told_row⟩ := id lo1_snapshot_told
  have ko1_snapshot_tally := id lo1_snapshot_tally
  obtain ⟨ko1_history, ro1_history_rows, ko1_history_rows⟩ := id lo1_history
  obtain ⟨ko1_text, ro1_text_characters, ko1_text_characters, ro1_text_kinds, ko1_text_kinds, ro1_text_numbers, ko1_text_numbers⟩ := id lo1_text
  show AW m_X6_undo d none Q 11 [some (.inr (some 1))] [(.inl v2)] h1 (0, 0)
  exact ax_ireturn (pc := 11) dX6_undo_11 rfl g (by decide) (by decide)
set_option maxRecDepth 100000 in
set_option maxHeartbeats 4000000 in
theorem vc_X6_keep {d : Nat} {Q : Option Int → AH → Prop} {h : AH}  (hd : 1 ≤ d) (hL : QM h)
  (g :
    AM (d - 1) m_X2_copyFrom [(.inr (some 38)), (.inr (some 2))] h (fun r h1 => 
      r = none ∧ SS h h1 ∧
      AM (d - 1) m_X1_cards [(.inr (some 3))] (up h1 1 4 1) (fun r h2 => 
        ∃ v3, r = some v3 ∧ SS (up h1 1 4 1) h2 ∧
        Q (some v3) h2))) :
  AM d m_X6_keep [(.inr (some 1))] h Q := by
  refine am_body mo_X6_keep (Nat.le_of_ble_eq_true rfl) ?_
  show AW m_X6_keep d none Q 0 [some (.inr (some 1))] [] h (0, 0)
  obtain ⟨ko1, ro1_state, lo1_state, ro1_before, lo1_before, ro1_trial, lo1_trial, ro1_snapshot, lo1_snapshot, ro1_history, lo1_history, ro1_text, lo1_text⟩ := id hL
  obtain ⟨ko1_state, ro1_state_pocket, lo1_state_pocket, ro1_state_told, lo1_state_told, ro1_state_tally, lo1_state_tally, ro1_state_settings, ko1_state_settings⟩ := id lo1_state
  obtain ⟨ko1_state_pocket, ro1_state_pocket_names, ko1_state_pocket_names, ro1_state_pocket_asksToGo, ko1_state_pocket_asksToGo, ro1_state_pocket_tellings, ko1_state_pocket_tellings, ro1_state_pocket_slots, ko1_state_pocket_slots, ro1_state_pocket_awake, ko1_state_pocket_awake, ro1_state_pocket_answering, ko1_state_pocket_answering⟩ := id lo1_state_pocket
  obtain ⟨ko1_state_told, ro1_state_told_row, ko1_state_told_row⟩ := id lo1_state_told
  have ko1_state_tally := id lo1_state_tally
  obtain ⟨ko1_before, ro1_before_pocket, lo1_before_pocket, ro1_before_told, lo1_before_told, ro1_before_tally, lo1_before_tally, ro1_before_settings, ko1_before_settings⟩ := id lo1_before
  obtain ⟨ko1_before_pocket, ro1_before_pocket_names, ko1_before_pocket_names, ro1_before_pocket_asksToGo, ko1_before_pocket_asksToGo, ro1_before_pocket_tellings, ko1_before_pocket_tellings, ro1_before_pocket_slots, ko1_before_pocket_slots, ro1_before_pocket_awake, ko1_before_pocket_awake, ro1_before_pocket_answering, ko1_before_pocket_answering⟩ := id lo1_before_pocket
  obtain ⟨ko1_before_told, ro1_before_told_row, ko1_before_told_row⟩ := id lo1_before_told
  have ko1_before_tally := id lo1_before_tally
  obtain ⟨ko1_trial, ro1_trial_pocket, lo1_trial_pocket, ro1_trial_told, lo1_trial_told, ro1_trial_tally, lo1_trial_tally, ro1_trial_settings, ko1_trial_settings⟩ := id lo1_trial
  obtain ⟨ko1_trial_pocket, ro1_trial_pocket_names, ko1_trial_pocket_names, ro1_trial_pocket_asksToGo, ko1_trial_pocket_asksToGo, ro1_trial_pocket_tellings, ko1_trial_pocket_tellings, ro1_trial_pocket_slots, ko1_trial_pocket_slots, ro1_trial_pocket_awake, ko1_trial_pocket_awake, ro1_trial_pocket_answering, ko1_trial_pocket_answering⟩ := id lo1_trial_pocket
  obtain ⟨ko1_trial_told, ro1_trial_told_row, ko1_trial_told_row⟩ := id lo1_trial_told
  have ko1_trial_tally := id lo1_trial_tally
  obtain ⟨ko1_snapshot, ro1_snapshot_pocket, lo1_snapshot_pocket, ro1_snapshot_told, lo1_snapshot_told, ro1_snapshot_tally, lo1_snapshot_tally, ro1_snapshot_settings, ko1_snapshot_settings⟩ := id lo1_snapshot
  obtain ⟨ko1_snapshot_pocket, ro1_snapshot_pocket_names, ko1_snapshot_pocket_names, ro1_snapshot_pocket_asksToGo, ko1_snapshot_pocket_asksToGo, ro1_snapshot_pocket_tellings, ko1_snapshot_pocket_tellings, ro1_snapshot_pocket_slots, ko1_snapshot_pocket_slots, ro1_snapshot_pocket_awake, ko1_snapshot_pocket_awake, ro1_snapshot_pocket_answering, ko1_snapshot_pocket_answering⟩ := id lo1_snapshot_pocket
  obtain ⟨ko1_snapshot_told, ro1_snapshot_told_row, ko1_snapshot_told_row⟩ := id lo1_snapshot_told
  have ko1_snapshot_tally := id lo1_snapshot_tally
  obtain ⟨ko1_history, ro1_history_rows, ko1_history_rows⟩ := id lo1_history
  obtain ⟨ko1_text, ro1_text_characters, ko1_text_characters, ro1_text_kinds, ko1_text_kinds, ro1_text_numbers, ko1_text_numbers⟩ := id lo1_text
  refine aw_aload_n (pc := 0) dX6_keep_0 rfl ?_
  refine aw_getr (pc := 1) (r := some 38) dX6_keep_1 fl_X6_22 (by decide) rfl ko1 ro1_snapshot ?_
  refine aw_aload_n (pc := 4) dX6_keep_4 rfl ?_
  refine aw_getr (pc := 5) (r := some 2) dX6_keep_5 fl_X6_10 (by decide) rfl ko1 ro1_state ?_
  refine aw_invV (pc := 8) (md' := m_X2_copyFrom) (ci := 2) (as := [(.inr (some 2))]) dX6_keep_8 mo_X2_copyFrom im_X2_copyFrom se_X2_copyFrom ml_X6_43 rfl ko1_snapshot rfl hd (Nat.le_of_ble_eq_true rfl) (Nat.le_of_ble_eq_true rfl) (Nat.le_of_ble_eq_true rfl) ?_
  refine am_mono g (fun _ h1 _ ok_h1 g => ?_)
  obtain ⟨rfl, ss_h1, g⟩ := g
  replace hL := QM.ss hL ss_h1
  obtain ⟨ko1, ro1_state, lo1_state, ro1_before, lo1_before, ro1_trial, lo1_trial, ro1_snapshot, lo1_snapshot, ro1_history, lo1_history, ro1_text, lo1_text⟩ := id hL
  obtain ⟨ko1_state, ro1_state_pocket, lo1_state_pocket, ro1_state_told, lo1_state_told, ro1_state_tally, lo1_state_tally, ro1_state_settings, ko1_state_settings⟩ := id lo1_state
  obtain ⟨ko1_state_pocket, ro1_state_pocket_names, ko1_state_pocket_names, ro1_state_pocket_asksToGo, ko1_state_pocket_asksToGo, ro1_state_pocket_tellings, ko1_state_pocket_tellings, ro1_state_pocket_slots, ko1_state_pocket_slots, ro1_state_pocket_awake, ko1_state_pocket_awake, ro1_state_pocket_answering, ko1_state_pocket_answering⟩ := id lo1_state_pocket
  obtain ⟨ko1_state_told, ro1_state_told_row, ko1_state_told_row⟩ := id lo1_state_told
  have ko1_state_tally := id lo1_state_tally
  obtain ⟨ko1_before, ro1_before_pocket, lo1_before_pocket, ro1_before_told, lo1_before_told, ro1_before_tally, lo1_before_tally, ro1_before_settings, ko1_before_settings⟩ := id lo1_before
  obtain ⟨ko1_before_pocket, ro1_before_pocket_names, ko1_before_pocket_names, ro1_before_pocket_asksToGo, ko1_before_pocket_asksToGo, ro1_before_pocket_tellings, ko1_before_pocket_tellings, ro1_before_pocket_slots, ko1_before_pocket_slots, ro1_before_pocket_awake, ko1_before_pocket_awake, ro1_before_pocket_answering, ko1_before_pocket_answering⟩ := id lo1_before_pocket
  obtain ⟨ko1_before_told, ro1_before_told_row, ko1_before_told_row⟩ := id lo1_before_told
  have ko1_before_tally := id lo1_before_tally
  obtain ⟨ko1_trial, ro1_trial_pocket, lo1_trial_pocket, ro1_trial_told, lo1_trial_told, ro1_trial_tally, lo1_trial_tally, ro1_trial_settings, ko1_trial_settings⟩ := id lo1_trial
  obtain ⟨ko1_trial_pocket, ro1_trial_pocket_names, ko1_trial_pocket_names, ro1_trial_pocket_asksToGo, ko1_trial_pocket_asksToGo, ro1_trial_pocket_tellings, ko1_trial_pocket_tellings, ro1_trial_pocket_slots, ko1_trial_pocket_slots, ro1_trial_pocket_awake, ko1_trial_pocket_awake, ro1_trial_pocket_answering, ko1_trial_pocket_answering⟩ := id lo1_trial_pocket
  obtain ⟨ko1_trial_told, ro1_trial_told_row, ko1_trial_told_row⟩ := id lo1_trial_told
  have ko1_trial_tally := id lo1_trial_tally
  obtain ⟨ko1_snapshot, ro1_snapshot_pocket, lo1_snapshot_pocket, ro1_snapshot_told, lo1_snapshot_told, ro1_snapshot_tally, lo1_snapshot_tally, ro1_snapshot_settings, ko1_snapshot_settings⟩ := id lo1_snapshot
  obtain ⟨ko1_snapshot_pocket, ro1_snapshot_pocket_names, ko1_snapshot_pocket_names, ro1_snapshot_pocket_asksToGo, ko1_snapshot_pocket_asksToGo, ro1_snapshot_pocket_tellings, ko1_snapshot_pocket_tellings, ro1_snapshot_pocket_slots, ko1_snapshot_pocket_slots, ro1_snapshot_pocket_awake, ko1_snapshot_pocket_awake, ro1_snapshot_pocket_answering, ko1_snapshot_pocket_answering⟩ := id lo1_snapshot_pocket
  obtain ⟨ko1_snapshot_told, ro1_snapshot_told_row, ko1_snapshot_told_row⟩ := id lo1_snapshot_told
  have ko1_snapshot_tally := id lo1_snapshot_tally
  obtain ⟨ko1_history, ro1_history_rows, ko1_history_rows⟩ := id lo1_history
  obtain ⟨ko1_text, ro1_text_characters, ko1_text_characters, ro1_text_kinds, ko1_text_kinds, ro1_text_numbers, ko1_text_numbers⟩ := id lo1_text
  show AW m_X6_keep d none Q 11 [some (.inr (some 1))] [] h1 (0, 0)
  refine aw_aload_n (pc := 11) dX6_keep_11 rfl ?_
  refine aw_iconst (pc := 12) dX6_keep_12 ?_
  refine aw_puti (pc := 13) dX6_keep_13 fl_X6_25 (by decide) rfl rfl ko1 (show okr (some .boolean) 1 from by simp [okr]) ?_
  refine aw_aload_n (pc := 16) dX6_keep_16 rfl ?_
  refine aw_getr (pc := 17) (r := some 2) dX6_keep_17 fl_X6_10 (by decide) rfl (hkU ko1) (hrU ro1_state) ?_
  refine aw_getr (pc := 20) (r := some 3) dX6_keep_20 fl_X6_122 (by decide) rfl (hkU ko1_state) (hrU ro1_state_pocket) ?_
  refine aw_invV (pc := 23) (md' := m_X1_cards) (ci := 1) (as := []) dX6_keep_23 mo_X1_cards im_X1_cards se_X1_cards ml_X6_126 rfl (hkU ko1_state_pocket) rfl hd (Nat.le_of_ble_eq_true rfl) (Nat.le_of_ble_eq_true rfl) (Nat.le_of_ble_eq_true rfl) ?_
  refine am_mono g (fun _ h2 _ ok_h2 g => ?_)
  obtain ⟨v3, rfl, ss_h2, g⟩ := g
  replace hL := QM.ss hL (SS.tr (SS.up SS.rf) ss_h2)
  obtain ⟨ko1, ro1_state, lo1_state, ro1_before, lo1_before, ro1_trial, lo1_trial, ro1_snapshot, lo1_snapshot, ro1_history, lo1_history, ro1_text, lo1_text⟩ := id hL
  obtain ⟨ko1_state, ro1_state_pocket, lo1_state_pocket, ro1_state_told, lo1_state_told, ro1_state_tally, lo1_state_tally, ro1_state_settings, ko1_state_settings⟩ := id lo1_state
  obtain ⟨ko1_state_pocket, ro1_state_pocket_names, ko1_state_pocket_names, ro1_state_pocket_asksToGo, ko1_state_pocket_asksToGo, ro1_state_pocket_tellings, ko1_state_pocket_tellings, ro1_state_pocket_slots, ko1_state_pocket_slots, ro1_state_pocket_awake, ko1_state_pocket_awake, ro1_state_pocket_answering, ko1_state_pocket_answering⟩ := id lo1_state_pocket
  obtain ⟨ko1_state_told, ro1_state_told_row, ko1_state_told_row⟩ := id lo1_state_told
  have ko1_state_tally := id lo1_state_tally
  obtain ⟨ko1_before, ro1_before_pocket, lo1_before_pocket, ro1_before_told, lo1_before_told, ro1_before_tally, lo1_before_tally, ro1_before_settings, ko1_before_settings⟩ := id lo1_before
  obtain ⟨ko1_before_pocket, ro1_before_pocket_names, ko1_before_pocket_names, ro1_before_pocket_asksToGo, ko1_before_pocket_asksToGo, ro1_before_pocket_tellings, ko1_before_pocket_tellings, ro1_before_pocket_slots, ko1_before_pocket_slots, ro1_before_pocket_awake, ko1_before_pocket_awake, ro1_before_pocket_answering, ko1_before_pocket_answering⟩ := id lo1_before_pocket
  obtain ⟨ko1_before_told, ro1_before_told_row, ko1_before_told_row⟩ := id lo1_before_told
  have ko1_before_tally := id lo1_before_tally
  obtain ⟨ko1_trial, ro1_trial_pocket, lo1_trial_pocket, ro1_trial_told, lo1_trial_told, ro1_trial_tally, lo1_trial_tally, ro1_trial_settings, ko1_trial_settings⟩ := id lo1_trial
  obtain ⟨ko1_trial_pocket, ro1_trial_pocket_names, ko1_trial_pocket_names, ro1_trial_pocket_asksToGo, ko1_trial_pocket_asksToGo, ro1_trial_pocket_tellings, ko1_trial_pocket_tellings, ro1_trial_pocket_slots, ko1_trial_pocket_slots, ro1_trial_pocket_awake, ko1_trial_pocket_awake, ro1_trial_pocket_answering, ko1_trial_pocket_answering⟩ := id lo1_trial_pocket
  obtain ⟨ko1_trial_told, ro1_trial_told_row, ko1_trial_told_row⟩ := id lo1_trial_told
  have ko1_trial_tally := id lo1_trial_tally
  obtain ⟨ko1_snapshot, ro1_snapshot_pocket, lo1_snapshot_pocket, ro1_snapshot_told, lo1_snapshot_told, ro1_snapshot_tally, lo1_snapshot_tally, ro1_snapshot_settings, ko1_snapshot_settings⟩ := id lo1_snapshot
  obtain ⟨ko1_snapshot_pocket, ro1_snapshot_pocket_names, ko1_snapshot_pocket_names, ro1_snapshot_pocket_asksToGo, ko1_snapshot_pocket_asksToGo, ro1_snapshot_pocket_tellings, ko1_snapshot_pocket_tellings, ro1_snapshot_pocket_slots, ko1_snapshot_pocket_slots, ro1_snapshot_pocket_awake, ko1_snapshot_pocket_awake, ro1_snapshot_pocket_answering, ko1_snapshot_pocket_answering⟩ := id lo1_snapshot_pocket
  obtain ⟨ko1_snapshot_told, ro1_snapshot_told_row, ko1_snapshot_told_row⟩ := id lo1_snapshot_told
  have ko1_snapshot_tally := id lo1_snapshot_tally
  obtain ⟨ko1_history, ro1_history_rows, ko1_history_rows⟩ := id lo1_history
  obtain ⟨ko1_text, ro1_text_characters, ko1_text_characters, ro1_text_kinds, ko1_text_kinds, ro1_text_numbers, ko1_text_numbers⟩ := id lo1_text
  show AW m_X6_keep d none Q 26 [some (.inr (some 1))] [(.inl v3)] h2 (0, 0)
  exact ax_ireturn (pc := 26) dX6_keep_26 rfl g (by decide) (by decide)
set_option maxRecDepth 100000 in
set_option maxHeartbeats 4000000 in
theorem vc_X6_restore {d : Nat} {Q : Option Int → AH → Prop} {h : AH}  (hd : 1 ≤ d) (hL : QM h)
  (g :
    ((¬ hi h 1 4 = 0 → (
      AM (d - 1) m_X2_copyFrom [(.inr (some 14)), (.inr (some 2))] h (fun r h2 => 
        r = none ∧ SS h h2 ∧
        AM (d - 1) m_X2_copyFrom [(.inr (some 2)), (.inr (some 38))] h2 (fun r h3 => 
          r = none ∧ SS h2 h3 ∧
          AM (d - 1) m_X1_cards [(.inr (some 3))] h3 (fun r h4 => 
            ∃ v5, r = some v5 ∧ SS h3 h4 ∧
            AM (d - 1) m_X6_recorded [(.inr (some 1)), (.inl v5)] h4 (fun r h6 => 
              ∃ v7, r = some v7 ∧ SW h4 h6 ∧
              Q (some v7) h6))))
    )) ∧
    (¬ (¬ hi h 1 4 = 0) → (
      Q (some (-5)) h
    )))) :
  AM d m_X6_restore [(.inr (some 1))] h Q := by
  refine am_body mo_X6_restore (Nat.le_of_ble_eq_true rfl) ?_
  show AW m_X6_restore d none Q 0 [some (.inr (some 1))] [] h (0, 0)
  obtain ⟨ko1, ro1_state, lo1_state, ro1_before, lo1_before, ro1_trial, lo1_trial, ro1_snapshot, lo1_snapshot, ro1_history, lo1_history, ro1_text, lo1_text⟩ := id hL
  obtain ⟨ko1_state, ro1_state_pocket, lo1_state_pocket, ro1_state_told, lo1_state_told, ro1_state_tally, lo1_state_tally, ro1_state_settings, ko1_state_settings⟩ := id lo1_state
  obtain ⟨ko1_state_pocket, ro1_state_pocket_names, ko1_state_pocket_names, ro1_state_pocket_asksToGo, ko1_state_pocket_asksToGo, ro1_state_pocket_tellings, ko1_state_pocket_tellings, ro1_state_pocket_slots, ko1_state_pocket_slots, ro1_state_pocket_awake, ko1_state_pocket_awake, ro1_state_pocket_answering, ko1_state_pocket_answering⟩ := id lo1_state_pocket
  obtain ⟨ko1_state_told, ro1_state_told_row, ko1_state_told_row⟩ := id lo1_state_told
  have ko1_state_tally := id lo1_state_tally
  obtain ⟨ko1_before, ro1_before_pocket, lo1_before_pocket, ro1_before_told, lo1_before_told, ro1_before_tally, lo1_before_tally, ro1_before_settings, ko1_before_settings⟩ := id lo1_before
  obtain ⟨ko1_before_pocket, ro1_before_pocket_names, ko1_before_pocket_names, ro1_before_pocket_asksToGo, ko1_before_pocket_asksToGo, ro1_before_pocket_tellings, ko1_before_pocket_tellings, ro1_before_pocket_slots, ko1_before_pocket_slots, ro1_before_pocket_awake, ko1_before_pocket_awake, ro1_before_pocket_answering, ko1_before_pocket_answering⟩ := id lo1_before_pocket
  obtain ⟨ko1_before_told, ro1_before_told_row, ko1_before_told_row⟩ := id lo1_before_told
  have ko1_before_tally := id lo1_before_tally
  obtain ⟨ko1_trial, ro1_trial_pocket, lo1_trial_pocket, ro1_trial_told, lo1_trial_told, ro1_trial_tally, lo1_trial_tally, ro1_trial_settings, ko1_trial_settings⟩ := id lo1_trial
  obtain ⟨ko1_trial_pocket, ro1_trial_pocket_names, ko1_trial_pocket_names, ro1_trial_pocket_asksToGo, ko1_trial_pocket_asksToGo, ro1_trial_pocket_tellings, ko1_trial_pocket_tellings, ro1_trial_pocket_slots, ko1_trial_pocket_slots, ro1_trial_pocket_awake, ko1_trial_pocket_awake, ro1_trial_pocket_answering, ko1_trial_pocket_answering⟩ := id lo1_trial_pocket
  obtain ⟨ko1_trial_told, ro1_trial_told_row, ko1_trial_told_row⟩ := id lo1_trial_told
  have ko1_trial_tally := id lo1_trial_tally
  obtain ⟨ko1_snapshot, ro1_snapshot_pocket, lo1_snapshot_pocket, ro1_snapshot_told, lo1_snapshot_told, ro1_snapshot_tally, lo1_snapshot_tally, ro1_snapshot_settings, ko1_snapshot_settings⟩ := id lo1_snapshot
  obtain ⟨ko1_snapshot_pocket, ro1_snapshot_pocket_names, ko1_snapshot_pocket_names, ro1_snapshot_pocket_asksToGo, ko1_snapshot_pocket_asksToGo, ro1_snapshot_pocket_tellings, ko1_snapshot_pocket_tellings, ro1_snapshot_pocket_slots, ko1_snapshot_pocket_slots, ro1_snapshot_pocket_awake, ko1_snapshot_pocket_awake, ro1_snapshot_pocket_answering, ko1_snapshot_pocket_answering⟩ := id lo1_snapshot_pocket
  obtain ⟨ko1_snapshot_told, ro1_snapshot_told_row, ko1_snapshot_told_row⟩ := id lo1_snapshot_told
  have ko1_snapshot_tally := id lo1_snapshot_tally
  obtain ⟨ko1_history, ro1_history_rows, ko1_history_rows⟩ := id lo1_history
  obtain ⟨ko1_text, ro1_text_characters, ko1_text_characters, ro1_text_kinds, ko1_text_kinds, ro1_text_numbers, ko1_text_numbers⟩ := id lo1_text
  refine aw_aload_n (pc := 0) dX6_restore_0 rfl ?_
  refine ax_geti (pc := 1) (v := hi h 1 4) dX6_restore_1 fl_X6_25 (by decide) rfl ko1 rfl ?_
  refine aw_if_ne (pc := 4) (tgt := 10) dX6_restore_4 (by decide) (fun c1 => ?_) (fun c1 => ?_)
  · replace g := g.1 c1
    refine aw_aload_n (pc := 10) dX6_restore_10 rfl ?_
    refine aw_getr (pc := 11) (r := some 14) dX6_restore_11 fl_X6_16 (by decide) rfl ko1 ro1_before ?_
    refine aw_aload_n (pc := 14) dX6_restore_14 rfl ?_
    refine aw_getr (pc := 15) (r := some 2) dX6_restore_15 fl_X6_10 (by decide) rfl ko1 ro1_state ?_
    refine aw_invV (pc := 18) (md' := m_X2_copyFrom) (ci := 2) (as := [(.inr (some 2))]) dX6_restore_18 mo_X2_copyFrom im_X2_copyFrom se_X2_copyFrom ml_X6_43 rfl ko1_before rfl hd (Nat.le_of_ble_eq_true rfl) (Nat.le_of_ble_eq_true rfl) (Nat.le_of_ble_eq_true rfl) ?_
    refine am_mono g (fun _ h2 _ ok_h2 g => ?_)
    obtain ⟨rfl, ss_h2, g⟩ := g
    replace hL := QM.ss hL ss_h2
    obtain ⟨ko1, ro1_state, lo1_state, ro1_before, lo1_before, ro1_trial, lo1_trial, ro1_snapshot, lo1_snapshot, ro1_history, lo1_history, ro1_text, lo1_text⟩ := id hL
    obtain ⟨ko1_state, ro1_state_pocket, lo1_state_pocket, ro1_state_told, lo1_state_told, ro1_state_tally, lo1_state_tally, ro1_state_settings, ko1_state_settings⟩ := id lo1_state
    obtain ⟨ko1_state_pocket, ro1_state_pocket_names, ko1_state_pocket_names, ro1_state_pocket_asksToGo, ko1_state_pocket_asksToGo, ro1_state_pocket_tellings, ko1_state_pocket_tellings, ro1_state_pocket_slots, ko1_state_pocket_slots, ro1_state_pocket_awake, ko1_state_pocket_awake, ro1_state_pocket_answering, ko1_state_pocket_answering⟩ := id lo1_state_pocket
    obtain ⟨ko1_state_told, ro1_state_told_row, ko1_state_told_row⟩ := id lo1_state_told
    have ko1_state_tally := id lo1_state_tally
    obtain ⟨ko1_before, ro1_before_pocket, lo1_before_pocket, ro1_before_told, lo1_before_told, ro1_before_tally, lo1_before_tally, ro1_before_settings, ko1_before_settings⟩ := id lo1_before
    obtain ⟨ko1_before_pocket, ro1_before_pocket_names, ko1_before_pocket_names, ro1_before_pocket_asksToGo, ko1_before_pocket_asksToGo, ro1_before_pocket_tellings, ko1_before_pocket_tellings, ro1_before_pocket_slots, ko1_before_pocket_slots, ro1_before_pocket_awake, ko1_before_pocket_awake, ro1_before_pocket_answering, ko1_before_pocket_answering⟩ := id lo1_before_pocket
    obtain ⟨ko1_before_told, ro1_before_told_row, ko1_before_told_row⟩ := id lo1_before_told
    have ko1_before_tally := id lo1_before_tally
    obtain ⟨ko1_trial, ro1_trial_pocket, lo1_trial_pocket, ro1_trial_told, lo1_trial_told, ro1_trial_tally, lo1_trial_tally, ro1_trial_settings, ko1_trial_settings⟩ := id lo1_trial
    obtain ⟨ko1_trial_pocket, ro1_trial_pocket_names, ko1_trial_pocket_names, ro1_trial_pocket_asksToGo, ko1_trial_pocket_asksToGo, ro1_trial_pocket_tellings, ko1_trial_pocket_tellings, ro1_trial_pocket_slots, ko1_trial_pocket_slots, ro1_trial_pocket_awake, ko1_trial_pocket_awake, ro1_trial_pocket_answering, ko1_trial_pocket_answering⟩ := id lo1_trial_pocket
    obtain ⟨ko1_trial_told, ro1_trial_told_row, ko1_trial_told_row⟩ := id lo1_trial_told
    have ko1_trial_tally := id lo1_trial_tally
    obtain ⟨ko1_snapshot, ro1_snapshot_pocket, lo1_snapshot_pocket, ro1_snapshot_told, lo1_snapshot_told, ro1_snapshot_tally, lo1_snapshot_tally, ro1_snapshot_settings, ko1_snapshot_settings⟩ := id lo1_snapshot
    obtain ⟨ko1_snapshot_pocket, ro1_snapshot_pocket_names, ko1_snapshot_pocket_names, ro1_snapshot_pocket_asksToGo, ko1_snapshot_pocket_asksToGo, ro1_snapshot_pocket_tellings, ko1_snapshot_pocket_tellings, ro1_snapshot_pocket_slots, ko1_snapshot_pocket_slots, ro1_snapshot_pocket_awake, ko1_snapshot_pocket_awake, ro1_snapshot_pocket_answering, ko1_snapshot_pocket_answering⟩ := id lo1_snapshot_pocket
    obtain ⟨ko1_snapshot_told, ro1_snapshot_told_row, ko1_snapshot_told_row⟩ := id lo1_snapshot_told
    have ko1_snapshot_tally := id lo1_snapshot_tally
    obtain ⟨ko1_history, ro1_history_rows, ko1_history_rows⟩ := id lo1_history
    obtain ⟨ko1_text, ro1_text_characters, ko1_text_characters, ro1_text_kinds, ko1_text_kinds, ro1_text_numbers, ko1_text_numbers⟩ := id lo1_text
    show AW m_X6_restore d none Q 21 [some (.inr (some 1))] [] h2 (0, 0)
    refine aw_aload_n (pc := 21) dX6_restore_21 rfl ?_
    refine aw_getr (pc := 22) (r := some 2) dX6_restore_22 fl_X6_10 (by decide) rfl ko1 ro1_state ?_
    refine aw_aload_n (pc := 25) dX6_restore_25 rfl ?_
    refine aw_getr (pc := 26) (r := some 38) dX6_restore_26 fl_X6_22 (by decide) rfl ko1 ro1_snapshot ?_
    refine aw_invV (pc := 29) (md' := m_X2_copyFrom) (ci := 2) (as := [(.inr (some 38))]) dX6_restore_29 mo_X2_copyFrom im_X2_copyFrom se_X2_copyFrom ml_X6_43 rfl ko1_state rfl hd (Nat.le_of_ble_eq_true rfl) (Nat.le_of_ble_eq_true rfl) (Nat.le_of_ble_eq_true rfl) ?_
    refine am_mono g (fun _ h3 _ ok_h3 g => ?_)
    obtain ⟨rfl, ss_h3, g⟩ := g
    replace hL := QM.ss hL ss_h3
    obtain ⟨ko1, ro1_state, lo1_state, ro1_before, lo1_before, ro1_trial, lo1_trial, ro1_snapshot, lo1_snapshot, ro1_history, lo1_history, ro1_text, lo1_text⟩ := id hL
    obtain ⟨ko1_state, ro1_state_pocket, lo1_state_pocket, ro1_state_told, lo1_state_told, ro1_state_tally, lo1_state_tally, ro1_state_settings, ko1_state_settings⟩ := id lo1_state
    obtain ⟨ko1_state_pocket, ro1_state_pocket_names, ko1_state_pocket_names, ro1_state_pocket_asksToGo, ko1_state_pocket_asksToGo, ro1_state_pocket_tellings, ko1_state_pocket_tellings, ro1_state_pocket_slots, ko1_state_pocket_slots, ro1_state_pocket_awake, ko1_state_pocket_awake, ro1_state_pocket_answering, ko1_state_pocket_answering⟩ := id lo1_state_pocket
    obtain ⟨ko1_state_told, ro1_state_told_row, ko1_state_told_row⟩ := id lo1_state_told
    have ko1_state_tally := id lo1_state_tally
    obtain ⟨ko1_before, ro1_before_pocket, lo1_before_pocket, ro1_before_told, lo1_before_told, ro1_before_tally, lo1_before_tally, ro1_before_settings, ko1_before_settings⟩ := id lo1_before
    obtain ⟨ko1_before_pocket, ro1_before_pocket_names, ko1_before_pocket_names, ro1_before_pocket_asksToGo, ko1_before_pocket_asksToGo, ro1_before_pocket_tellings, ko1_before_pocket_tellings, ro1_before_pocket_slots, ko1_before_pocket_slots, ro1_before_pocket_awake, ko1_before_pocket_awake, ro1_before_pocket_answering, ko1_before_pocket_answering⟩ := id lo1_before_pocket
    obtain ⟨ko1_before_told, ro1_before_told_row, ko1_before_told_row⟩ := id lo1_before_told
    have ko1_before_tally := id lo1_before_tally
    obtain ⟨ko1_trial, ro1_trial_pocket, lo1_trial_pocket, ro1_trial_told, lo1_trial_told, ro1_trial_tally, lo1_trial_tally, ro1_trial_settings, ko1_trial_settings⟩ := id lo1_trial
    obtain ⟨ko1_trial_pocket, ro1_trial_pocket_names, ko1_trial_pocket_names, ro1_trial_pocket_asksToGo, ko1_trial_pocket_asksToGo, ro1_trial_pocket_tellings, ko1_trial_pocket_tellings, ro1_trial_pocket_slots, ko1_trial_pocket_slots, ro1_trial_pocket_awake, ko1_trial_pocket_awake, ro1_trial_pocket_answering, ko1_trial_pocket_answering⟩ := id lo1_trial_pocket
    obtain ⟨ko1_trial_told, ro1_trial_told_row, ko1_trial_told_row⟩ := id lo1_trial_told
    have ko1_trial_tally := id lo1_trial_tally
    obtain ⟨ko1_snapshot, ro1_snapshot_pocket, lo1_snapshot_pocket, ro1_snapshot_told, lo1_snapshot_told, ro1_snapshot_tally, lo1_snapshot_tally, ro1_snapshot_settings, ko1_snapshot_settings⟩ := id lo1_snapshot
    obtain ⟨ko1_snapshot_pocket, ro1_snapshot_pocket_names, ko1_snapshot_pocket_names, ro1_snapshot_pocket_asksToGo, ko1_snapshot_pocket_asksToGo, ro1_snapshot_pocket_tellings, ko1_snapshot_pocket_tellings, ro1_snapshot_pocket_slots, ko1_snapshot_pocket_slots, ro1_snapshot_pocket_awake, ko1_snapshot_pocket_awake, ro1_snapshot_pocket_answering, ko1_snapshot_pocket_answering⟩ := id lo1_snapshot_pocket
    obtain ⟨ko1_snapshot_told, ro1_snapshot_told_row, ko1_snapshot_told_row⟩ := id lo1_snapshot_told
    have ko1_snapshot_tally := id lo1_snapshot_tally
    obtain ⟨ko1_history, ro1_history_rows, ko1_history_rows⟩ := id lo1_history
    obtain ⟨ko1_text, ro1_text_characters, ko1_text_characters, ro1_text_kinds, ko1_text_kinds, ro1_text_numbers, ko1_text_numbers⟩ := id lo1_text
    show AW m_X6_restore d none Q 32 [some (.inr (some 1))] [] h3 (0, 0)
    refine aw_aload_n (pc := 32) dX6_restore_32 rfl ?_
    refine aw_aload_n (pc := 33) dX6_restore_33 rfl ?_
    refine aw_getr (pc := 34) (r := some 2) dX6_restore_34 fl_X6_10 (by decide) rfl ko1 ro1_state ?_
    refine aw_getr (pc := 37) (r := some 3) dX6_restore_37 fl_X6_122 (by decide) rfl ko1_state ro1_state_pocket ?_
    refine aw_invV (pc := 40) (md' := m_X1_cards) (ci := 1) (as := []) dX6_restore_40 mo_X1_cards im_X1_cards se_X1_cards ml_X6_126 rfl ko1_state_pocket rfl hd (Nat.le_of_ble_eq_true rfl) (Nat.le_of_ble_eq_true rfl) (Nat.le_of_ble_eq_true rfl) ?_
    refine am_mono g (fun _ h4 _ ok_h4 g => ?_)
    obtain ⟨v5, rfl, ss_h4, g⟩ := g
    replace hL := QM.ss hL ss_h4
    obtain ⟨ko1, ro1_state, lo1_state, ro1_before, lo1_before, ro1_trial, lo1_trial, ro1_snapshot, lo1_snapshot, ro1_history, lo1_history, ro1_text, lo1_text⟩ := id hL
    obtain ⟨ko1_state, ro1_state_pocket, lo1_state_pocket, ro1_state_told, lo1_state_told, ro1_state_tally, lo1_state_tally, ro1_state_settings, ko1_state_settings⟩ := id lo1_state
    obtain ⟨ko1_state_pocket, ro1_state_pocket_names, ko1_state_pocket_names, ro1_state_pocket_asksToGo, ko1_state_pocket_asksToGo, ro1_state_pocket_tellings, ko1_state_pocket_tellings, ro1_state_pocket_slots, ko1_state_pocket_slots, ro1_state_pocket_awake, ko1_state_pocket_awake, ro1_state_pocket_answering, ko1_state_pocket_answering⟩ := id lo1_state_pocket
    obtain ⟨ko1_state_told, ro1_state_told_row, ko1_state_told_row⟩ := id lo1_state_told
    have ko1_state_tally := id lo1_state_tally
    obtain ⟨ko1_before, ro1_before_pocket, lo1_before_pocket, ro1_before_told, lo1_before_told, ro1_before_tally, lo1_before_tally, ro1_before_settings, ko1_before_settings⟩ := id lo1_before
    obtain ⟨ko1_before_pocket, ro1_before_pocket_names, ko1_before_pocket_names, ro1_before_pocket_asksToGo, ko1_before_pocket_asksToGo, ro1_before_pocket_tellings, ko1_before_pocket_tellings, ro1_before_pocket_slots, ko1_before_pocket_slots, ro1_before_pocket_awake, ko1_before_pocket_awake, ro1_before_pocket_answering, ko1_before_pocket_answering⟩ := id lo1_before_pocket
    obtain ⟨ko1_before_told, ro1_before_told_row, ko1_before_told_row⟩ := id lo1_before_told
    have ko1_before_tally := id lo1_before_tally
    obtain ⟨ko1_trial, ro1_trial_pocket, lo1_trial_pocket, ro1_trial_told, lo1_trial_told, ro1_trial_tally, lo1_trial_tally, ro1_trial_settings, ko1_trial_settings⟩ := id lo1_trial
    obtain ⟨ko1_trial_pocket, ro1_trial_pocket_names, ko1_trial_pocket_names, ro1_trial_pocket_asksToGo, ko1_trial_pocket_asksToGo, ro1_trial_pocket_tellings, ko1_trial_pocket_tellings, ro1_trial_pocket_slots, ko1_trial_pocket_slots, ro1_trial_pocket_awake, ko1_trial_pocket_awake, ro1_trial_pocket_answering, ko1_trial_pocket_answering⟩ := id lo1_trial_pocket
    obtain ⟨ko1_trial_told, ro1_trial_told_row, ko1_trial_told_row⟩ := id lo1_trial_told
    have ko1_trial_tally := id lo1_trial_tally
    obtain ⟨ko1_snapshot, ro1_snapshot_pocket, lo1_snapshot_pocket, ro1_snapshot_told, lo1_snapshot_told, ro1_snapshot_tally, lo1_snapshot_tally, ro1_snapshot_settings, ko1_snapshot_settings⟩ := id lo1_snapshot
    obtain ⟨ko1_snapshot_pocket, ro1_snapshot_pocket_names, ko1_snapshot_pocket_names, ro1_snapshot_pocket_asksToGo, ko1_snapshot_pocket_asksToGo, ro1_snapshot_pocket_tellings, ko1_snapshot_pocket_tellings, ro1_snapshot_pocket_slots, ko1_snapshot_pocket_slots, ro1_snapshot_pocket_awake, ko1_snapshot_pocket_awake, ro1_snapshot_pocket_answering, ko1_snapshot_pocket_answering⟩ := id lo1_snapshot_pocket
    obtain ⟨ko1_snapshot_told, ro1_snapshot_told_row, ko1_snapshot_told_row⟩ := id lo1_snapshot_told
    have ko1_snapshot_tally := id lo1_snapshot_tally
    obtain ⟨ko1_history, ro1_history_rows, ko1_history_rows⟩ := id lo1_history
    obtain ⟨ko1_text, ro1_text_characters, ko1_text_characters, ro1_text_kinds, ko1_text_kinds, ro1_text_numbers, ko1_text_numbers⟩ := id lo1_text
    show AW m_X6_restore d none Q 43 [some (.inr (some 1))] [(.inl v5), (.inr (some 1))] h4 (0, 0)
    refine aw_invV (pc := 43) (md' := m_X6_recorded) (ci := 6) (as := [(.inl v5)]) dX6_restore_43 mo_X6_recorded im_X6_recorded se_X6_recorded ml_X6_51 rfl ko1 rfl hd (Nat.le_of_ble_eq_true rfl) (Nat.le_of_ble_eq_true rfl) (Nat.le_of_ble_eq_true rfl) ?_
    refine am_mono g (fun _ h6 _ ok_h6 g => ?_)
    obtain ⟨v7, rfl, ss_h6, g⟩ := g
    replace hL := QM.sw hL ss_h6
    obtain ⟨ko1, ro1_state, lo1_state, ro1_before, lo1_before, ro1_trial, lo1_trial, ro1_snapshot, lo1_snapshot, ro1_history, lo1_history, ro1_text, lo1_text⟩ := id hL
    obtain ⟨ko1_state, ro1_state_pocket, lo1_state_pocket, ro1_state_told, lo1_state_told, ro1_state_tally, lo1_state_tally, ro1_state_settings, ko1_state_settings⟩ := id lo1_state
    obtain ⟨ko1_state_pocket, ro1_state_pocket_names, ko1_state_pocket_names, ro1_state_pocket_asksToGo, ko1_state_pocket_asksToGo, ro1_state_pocket_tellings, ko1_state_pocket_tellings, ro1_state_pocket_slots, ko1_state_pocket_slots, ro1_state_pocket_awake, ko1_state_pocket_awake, ro1_state_pocket_answering, ko1_state_pocket_answering⟩ := id lo1_state_pocket
    obtain ⟨ko1_state_told, ro1_state_told_row, ko1_state_told_row⟩ := id lo1_state_told
    have ko1_state_tally := id lo1_state_tally
    obtain ⟨ko1_before, ro1_before_pocket, lo1_before_pocket, ro1_before_told, lo1_before_told, ro1_before_tally, lo1_before_tally, ro1_before_settings, ko1_before_settings⟩ := id lo1_before
    obtain ⟨ko1_before_pocket, ro1_before_pocket_names, ko1_before_pocket_names, ro1_before_pocket_asksToGo, ko1_before_pocket_asksToGo, ro1_before_pocket_tellings, ko1_before_pocket_tellings, ro1_before_pocket_slots, ko1_before_pocket_slots, ro1_before_pocket_awake, ko1_before_pocket_awake, ro1_before_pocket_answering, ko1_before_pocket_answering⟩ := id lo1_before_pocket
    obtain ⟨ko1_before_told, ro1_before_told_row, ko1_before_told_row⟩ := id lo1_before_told
    have ko1_before_tally := id lo1_before_tally
    obtain ⟨ko1_trial, ro1_trial_pocket, lo1_trial_pocket, ro1_trial_told, lo1_trial_told, ro1_trial_tally, lo1_trial_tally, ro1_trial_settings, ko1_trial_settings⟩ := id lo1_trial
    obtain ⟨ko1_trial_pocket, ro1_trial_pocket_names, ko1_trial_pocket_names, ro1_trial_pocket_asksToGo, ko1_trial_pocket_asksToGo, ro1_trial_pocket_tellings, ko1_trial_pocket_tellings, ro1_trial_pocket_slots, ko1_trial_pocket_slots, ro1_trial_pocket_awake, ko1_trial_pocket_awake, ro1_trial_pocket_answering, ko1_trial_pocket_answering⟩ := id lo1_trial_pocket
    obtain ⟨ko1_trial_told, ro1_trial_told_row, ko1_trial_told_row⟩ := id lo1_trial_told
    have ko1_trial_tally := id lo1_trial_tally
    obtain ⟨ko1_snapshot, ro1_snapshot_pocket, lo1_snapshot_pocket, ro1_snapshot_told, lo1_snapshot_told, ro1_snapshot_tally, lo1_snapshot_tally, ro1_snapshot_settings, ko1_snapshot_settings⟩ := id lo1_snapshot
    obtain ⟨ko1_snapshot_pocket, ro1_snapshot_pocket_names, ko1_snapshot_pocket_names, ro1_snapshot_pocket_asksToGo, ko1_snapshot_pocket_asksToGo, ro1_snapshot_pocket_tellings, ko1_snapshot_pocket_tellings, ro1_snapshot_pocket_slots, ko1_snapshot_pocket_slots, ro1_snapshot_pocket_awake, ko1_snapshot_pocket_awake, ro1_snapshot_pocket_answering, ko1_snapshot_pocket_answering⟩ := id lo1_snapshot_pocket
    obtain ⟨ko1_snapshot_told, ro1_snapshot_told_row, ko1_snapshot_told_row⟩ := id lo1_snapshot_told
    have ko1_snapshot_tally := id lo1_snapshot_tally
    obtain ⟨ko1_history, ro1_history_rows, ko1_history_rows⟩ := id lo1_history
    obtain ⟨ko1_text, ro1_text_characters, ko1_text_characters, ro1_text_kinds, ko1_text_kinds, ro1_text_numbers, ko1_text_numbers⟩ := id lo1_text
    show AW m_X6_restore d none Q 46 [some (.inr (some 1))] [(.inl v7)] h6 (0, 0)
    exact ax_ireturn (pc := 46) dX6_restore_46 rfl g (by decide) (by decide)
  · replace g := g.2 c1
    refine aw_bipush (pc := 7) dX6_restore_7 ?_
    exact ax_ireturn (pc := 9) dX6_restore_9 rfl g (by decide) (by decide)
set_option maxRecDepth 100000 in
set_option maxHeartbeats 4000000 in
theorem vc_X6_card {d : Nat} {Q : Option Int → AH → Prop} {h : AH} {x1 : Int} (hd : 1 ≤ d) (hL : QM h)
  (g :
    ((0 ≤ x1 → (
      AM (d - 1) m_X1_cards [(.inr (some 3))] h (fun r h2 => 
        ∃ v3, r = some v3 ∧ SS h h2 ∧
        ((v3 ≤ x1 → (
          Q (some (-5)) h2
        )) ∧
        (¬ (v3 ≤ x1) → (
          AM (d - 1) m_X1_nameAt [(.inr (some 3)), (.inl x1)] h2 (fun r h5 => 
            ∃ v6, r = some v6 ∧ SS h2 h5 ∧
            Q (some v6) h5)
        ))))
    )) ∧
    (¬ (0 ≤ x1) → (
      Q (some (-2)) h
    )))) :
  AM d m_X6_card [(.inr (some 1)), (.inl x1)] h Q := by
  refine am_body mo_X6_card (Nat.le_of_ble_eq_true rfl) ?_
  show AW m_X6_card d none Q 0 [some (.inr (some 1)), some (.inl x1)] [] h (0, 0)
  obtain ⟨ko1, ro1_state, lo1_state, ro1_before, lo1_before, ro1_trial, lo1_trial, ro1_snapshot, lo1_snapshot, ro1_history, lo1_history, ro1_text, lo1_text⟩ := id hL
  obtain ⟨ko1_state, ro1_state_pocket, lo1_state_pocket, ro1_state_told, lo1_state_told, ro1_state_tally, lo1_state_tally, ro1_state_settings, ko1_state_settings⟩ := id lo1_state
  obtain ⟨ko1_state_pocket, ro1_state_pocket_names, ko1_state_pocket_names, ro1_state_pocket_asksToGo, ko1_state_pocket_asksToGo, ro1_state_pocket_tellings, ko1_state_pocket_tellings, ro1_state_pocket_slots, ko1_state_pocket_slots, ro1_state_pocket_awake, ko1_state_pocket_awake, ro1_state_pocket_answering, ko1_state_pocket_answering⟩ := id lo1_state_pocket
  obtain ⟨ko1_state_told, ro1_state_told_row, ko1_state_told_row⟩ := id lo1_state_told
  have ko1_state_tally := id lo1_state_tally
  obtain ⟨ko1_before, ro1_before_pocket, lo1_before_pocket, ro1_before_told, lo1_before_told, ro1_before_tally, lo1_before_tally, ro1_before_settings, ko1_before_settings⟩ := id lo1_before
  obtain ⟨ko1_before_pocket, ro1_before_pocket_names, ko1_before_pocket_names, ro1_before_pocket_asksToGo, ko1_before_pocket_asksToGo, ro1_before_pocket_tellings, ko1_before_pocket_tellings, ro1_before_pocket_slots, ko1_before_pocket_slots, ro1_before_pocket_awake, ko1_before_pocket_awake, ro1_before_pocket_answering, ko1_before_pocket_answering⟩ := id lo1_before_pocket
  obtain ⟨ko1_before_told, ro1_before_told_row, ko1_before_told_row⟩ := id lo1_before_told
  have ko1_before_tally := id lo1_before_tally
  obtain ⟨ko1_trial, ro1_trial_pocket, lo1_trial_pocket, ro1_trial_told, lo1_trial_told, ro1_trial_tally, lo1_trial_tally, ro1_trial_settings, ko1_trial_settings⟩ := id lo1_trial
  obtain ⟨ko1_trial_pocket, ro1_trial_pocket_names, ko1_trial_pocket_names, ro1_trial_pocket_asksToGo, ko1_trial_pocket_asksToGo, ro1_trial_pocket_tellings, ko1_trial_pocket_tellings, ro1_trial_pocket_slots, ko1_trial_pocket_slots, ro1_trial_pocket_awake, ko1_trial_pocket_awake, ro1_trial_pocket_answering, ko1_trial_pocket_answering⟩ := id lo1_trial_pocket
  obtain ⟨ko1_trial_told, ro1_trial_told_row, ko1_trial_told_row⟩ := id lo1_trial_told
  have ko1_trial_tally := id lo1_trial_tally
  obtain ⟨ko1_snapshot, ro1_snapshot_pocket, lo1_snapshot_pocket, ro1_snapshot_told, lo1_snapshot_told, ro1_snapshot_tally, lo1_snapshot_tally, ro1_snapshot_settings, ko1_snapshot_settings⟩ := id lo1_snapshot
  obtain ⟨ko1_snapshot_pocket, ro1_snapshot_pocket_names, ko1_snapshot_pocket_names, ro1_snapshot_pocket_asksToGo, ko1_snapshot_pocket_asksToGo, ro1_snapshot_pocket_tellings, ko1_snapshot_pocket_tellings, ro1_snapshot_pocket_slots, ko1_snapshot_pocket_slots, ro1_snapshot_pocket_awake, ko1_snapshot_pocket_awake, ro1_snapshot_pocket_answering, ko1_snapshot_pocket_answering⟩ := id lo1_snapshot_pocket
  obtain ⟨ko1_snapshot_told, ro1_snapshot_told_row, ko1_snapshot_told_row⟩ := id lo1_snapshot_told
  have ko1_snapshot_tally := id lo1_snapshot_tally
  obtain ⟨ko1_history, ro1_history_rows, ko1_history_rows⟩ := id lo1_history
  obtain ⟨ko1_text, ro1_text_characters, ko1_text_characters, ro1_text_kinds, ko1_text_kinds, ro1_text_numbers, ko1_text_numbers⟩ := id lo1_text
  refine aw_iload_n (pc := 0) dX6_card_0 rfl ?_
  refine aw_if_ge (pc := 1) (tgt := 7) dX6_card_1 (by decide) (fun c1 => ?_) (fun c1 => ?_)
  · replace g := g.1 c1
    refine aw_iload_n (pc := 7) dX6_card_7 rfl ?_
    refine aw_aload_n (pc := 8) dX6_card_8 rfl ?_
    refine aw_getr (pc := 9) (r := some 2) dX6_card_9 fl_X6_10 (by decide) rfl ko1 ro1_state ?_
    refine aw_getr (pc := 12) (r := some 3) dX6_card_12 fl_X6_122 (by decide) rfl ko1_state ro1_state_pocket ?_
    refine aw_invV (pc := 15) (md' := m_X1_cards) (ci := 1) (as := []) dX6_card_15 mo_X1_cards im_X1_cards se_X1_cards ml_X6_126 rfl ko1_state_pocket rfl hd (Nat.le_of_ble_eq_true rfl) (Nat.le_of_ble_eq_true rfl) (Nat.le_of_ble_eq_true rfl) ?_
    refine am_mono g (fun _ h2 _ ok_h2 g => ?_)
    obtain ⟨v3, rfl, ss_h2, g⟩ := g
    replace hL := QM.ss hL ss_h2
    obtain ⟨ko1, ro1_state, lo1_state, ro1_before, lo1_before, ro1_trial, lo1_trial, ro1_snapshot, lo1_snapshot, ro1_history, lo1_history, ro1_text, lo1_text⟩ := id hL
    obtain ⟨ko1_state, ro1_state_pocket, lo1_state_pocket, ro1_state_told, lo1_state_told, ro1_state_tally, lo1_state_tally, ro1_state_settings, ko1_state_settings⟩ := id lo1_state
    obtain ⟨ko1_state_pocket, ro1_state_pocket_names, ko1_state_pocket_names, ro1_state_pocket_asksToGo, ko1_state_pocket_asksToGo, ro1_state_pocket_tellings, ko1_state_pocket_tellings, ro1_state_pocket_slots, ko1_state_pocket_slots, ro1_state_pocket_awake, ko1_state_pocket_awake, ro1_state_pocket_answering, ko1_state_pocket_answering⟩ := id lo1_state_pocket
    obtain ⟨ko1_state_told, ro1_state_told_row, ko1_state_told_row⟩ := id lo1_state_told
    have ko1_state_tally := id lo1_state_tally
    obtain ⟨ko1_before, ro1_before_pocket, lo1_before_pocket, ro1_before_told, lo1_before_told, ro1_before_tally, lo1_before_tally, ro1_before_settings, ko1_before_settings⟩ := id lo1_before
    obtain ⟨ko1_before_pocket, ro1_before_pocket_names, ko1_before_pocket_names, ro1_before_pocket_asksToGo, ko1_before_pocket_asksToGo, ro1_before_pocket_tellings, ko1_before_pocket_tellings, ro1_before_pocket_slots, ko1_before_pocket_slots, ro1_before_pocket_awake, ko1_before_pocket_awake, ro1_before_pocket_answering, ko1_before_pocket_answering⟩ := id lo1_before_pocket
    obtain ⟨ko1_before_told, ro1_before_told_row, ko1_before_told_row⟩ := id lo1_before_told
    have ko1_before_tally := id lo1_before_tally
    obtain ⟨ko1_trial, ro1_trial_pocket, lo1_trial_pocket, ro1_trial_told, lo1_trial_told, ro1_trial_tally, lo1_trial_tally, ro1_trial_settings, ko1_trial_settings⟩ := id lo1_trial
    obtain ⟨ko1_trial_pocket, ro1_trial_pocket_names, ko1_trial_pocket_names, ro1_trial_pocket_asksToGo, ko1_trial_pocket_asksToGo, ro1_trial_pocket_tellings, ko1_trial_pocket_tellings, ro1_trial_pocket_slots, ko1_trial_pocket_slots, ro1_trial_pocket_awake, ko1_trial_pocket_awake, ro1_trial_pocket_answering, ko1_trial_pocket_answering⟩ := id lo1_trial_pocket
    obtain ⟨ko1_trial_told, ro1_trial_told_row, ko1_trial_told_row⟩ := id lo1_trial_told
    have ko1_trial_tally := id lo1_trial_tally
    obtain ⟨ko1_snapshot, ro1_snapshot_pocket, lo1_snapshot_pocket, ro1_snapshot_told, lo1_snapshot_told, ro1_snapshot_tally, lo1_snapshot_tally, ro1_snapshot_settings, ko1_snapshot_settings⟩ := id lo1_snapshot
    obtain ⟨ko1_snapshot_pocket, ro1_snapshot_pocket_names, ko1_snapshot_pocket_names, ro1_snapshot_pocket_asksToGo, ko1_snapshot_pocket_asksToGo, ro1_snapshot_pocket_tellings, ko1_snapshot_pocket_tellings, ro1_snapshot_pocket_slots, ko1_snapshot_pocket_slots, ro1_snapshot_pocket_awake, ko1_snapshot_pocket_awake, ro1_snapshot_pocket_answering, ko1_snapshot_pocket_answering⟩ := id lo1_snapshot_pocket
    obtain ⟨ko1_snapshot_told, ro1_snapshot_told_row, ko1_snapshot_told_row⟩ := id lo1_snapshot_told
    have ko1_snapshot_tally := id lo1_snapshot_tally
    obtain ⟨ko1_history, ro1_history_rows, ko1_history_rows⟩ := id lo1_history
    obtain ⟨ko1_text, ro1_text_characters, ko1_text_characters, ro1_text_kinds, ko1_text_kinds, ro1_text_numbers, ko1_text_numbers⟩ := id lo1_text
    show AW m_X6_card d none Q 18 [some (.inr (some 1)), some (.inl x1)] [(.inl v3), (.inl x1)] h2 (0, 0)
    refine aw_icmp_ge (pc := 18) (tgt := 35) dX6_card_18 (by decide) (fun c4 => ?_) (fun c4 => ?_)
    · replace g := g.1 c4
      refine aw_bipush (pc := 35) dX6_card_35 ?_
      exact ax_ireturn (pc := 37) dX6_card_37 rfl g (by decide) (by decide)
    · replace g := g.2 c4
      refine aw_aload_n (pc := 21) dX6_card_21 rfl ?_
      refine aw_getr (pc := 22) (r := some 2) dX6_card_22 fl_X6_10 (by decide) rfl ko1 ro1_state ?_
      refine aw_getr (pc := 25) (r := some 3) dX6_card_25 fl_X6_122 (by decide) rfl ko1_state ro1_state_pocket ?_
      refine aw_iload_n (pc := 28) dX6_card_28 rfl ?_
      refine aw_invV (pc := 29) (md' := m_X1_nameAt) (ci := 1) (as := [(.inl x1)]) dX6_card_29 mo_X1_nameAt im_X1_nameAt se_X1_nameAt ml_X6_131 rfl ko1_state_pocket rfl hd (Nat.le_of_ble_eq_true rfl) (Nat.le_of_ble_eq_true rfl) (Nat.le_of_ble_eq_true rfl) ?_
      refine am_mono g (fun _ h5 _ ok_h5 g => ?_)
      obtain ⟨v6, rfl, ss_h5, g⟩ := g
      replace hL := QM.ss hL ss_h5
      obtain ⟨ko1, ro1_state, lo1_state, ro1_before, lo1_before, ro1_trial, lo1_trial, ro1_snapshot, lo1_snapshot, ro1_history, lo1_history, ro1_text, lo1_text⟩ := id hL
      obtain ⟨ko1_state, ro1_state_pocket, lo1_state_pocket, ro1_state_told, lo1_state_told, ro1_state_tally, lo1_state_tally, ro1_state_settings, ko1_state_settings⟩ := id lo1_state
      obtain ⟨ko1_state_pocket, ro1_state_pocket_names, ko1_state_pocket_names, ro1_state_pocket_asksToGo, ko1_state_pocket_asksToGo, ro1_state_pocket_tellings, ko1_state_pocket_tellings, ro1_state_pocket_slots, ko1_state_pocket_slots, ro1_state_pocket_awake, ko1_state_pocket_awake, ro1_state_pocket_answering, ko1_state_pocket_answering⟩ := id lo1_state_pocket
      obtain ⟨ko1_state_told, ro1_state_told_row, ko1_state_told_row⟩ := id lo1_state_told
      have ko1_state_tally := id lo1_state_tally
      obtain ⟨ko1_before, ro1_before_pocket, lo1_before_pocket, ro1_before_told, lo1_before_told, ro1_before_tally, lo1_before_tally, ro1_before_settings, ko1_before_settings⟩ := id lo1_before
      obtain ⟨ko1_before_pocket, ro1_before_pocket_names, ko1_before_pocket_names, ro1_before_pocket_asksToGo, ko1_before_pocket_asksToGo, ro1_before_pocket_tellings, ko1_before_pocket_tellings, ro1_before_pocket_slots, ko1_before_pocket_slots, ro1_before_pocket_awake, ko1_before_pocket_awake, ro1_before_pocket_answering, ko1_before_pocket_answering⟩ := id lo1_before_pocket
      obtain ⟨ko1_before_told, ro1_before_told_row, ko1_before_told_row⟩ := id lo1_before_told
      have ko1_before_tally := id lo1_before_tally
      obtain ⟨ko1_trial, ro1_trial_pocket, lo1_trial_pocket, ro1_trial_told, lo1_trial_told, ro1_trial_tally, lo1_trial_tally, ro1_trial_settings, ko1_trial_settings⟩ := id lo1_trial
      obtain ⟨ko1_trial_pocket, ro1_trial_pocket_names, ko1_trial_pocket_names, ro1_trial_pocket_asksToGo, ko1_trial_pocket_asksToGo, ro1_trial_pocket_tellings, ko1_trial_pocket_tellings, ro1_trial_pocket_slots, ko1_trial_pocket_slots, ro1_trial_pocket_awake, ko1_trial_pocket_awake, ro1_trial_pocket_answering, ko1_trial_pocket_answering⟩ := id lo1_trial_pocket
      obtain ⟨ko1_trial_told, ro1_trial_told_row, ko1_trial_told_row⟩ := id lo1_trial_told
      have ko1_trial_tally := id lo1_trial_tally
      obtain ⟨ko1_snapshot, ro1_snapshot_pocket, lo1_snapshot_pocket, ro1_snapshot_told, lo1_snapshot_told, ro1_snapshot_tally, lo1_snapshot_tally, ro1_snapshot_settings, ko1_snapshot_settings⟩ := id lo1_snapshot
      obtain ⟨ko1_snapshot_pocket, ro1_snapshot_pocket_names, ko1_snapshot_pocket_names, ro1_snapshot_pocket_asksToGo, ko1_snapshot_pocket_asksToGo, ro1_snapshot_pocket_tellings, ko1_snapshot_pocket_tellings, ro1_snapshot_pocket_slots, ko1_snapshot_pocket_slots, ro1_snapshot_pocket_awake, ko1_snapshot_pocket_awake, ro1_snapshot_pocket_answering, ko1_snapshot_pocket_answering⟩ := id lo1_snapshot_pocket
      obtain ⟨ko1_snapshot_told, ro1_snapshot_told_row, ko1_snapshot_told_row⟩ := id lo1_snapshot_told
      have ko1_snapshot_tally := id lo1_snapshot_tally
      obtain ⟨ko1_history, ro1_history_rows, ko1_history_rows⟩ := id lo1_history
      obtain ⟨ko1_text, ro1_text_characters, ko1_text_characters, ro1_text_kinds, ko1_text_kinds, ro1_text_numbers, ko1_text_numbers⟩ := id lo1_text
      show AW m_X6_card d none Q 32 [some (.inr (some 1)), some (.inl x1)] [(.inl v6)] h5 (0, 0)
      refine aw_goto (pc := 32) (tgt := 37) dX6_card_32 (by decide) ?_
      exact ax_ireturn (pc := 37) dX6_card_37 rfl g (by decide) (by decide)
  · replace g := g.2 c1
    refine aw_bipush (pc := 4) dX6_card_4 ?_
    exact ax_ireturn (pc := 6) dX6_card_6 rfl g (by decide) (by decide)
set_option maxRecDepth 100000 in
set_option maxHeartbeats 4000000 in
theorem vc_X6_ofCard {d : Nat} {Q : Option Int → AH → Prop} {h : AH} {x1 x2 : Int} (hd : 1 ≤ d) (hL : QM h)
  (g :
    AM (d - 1) m_X1_placeOf [(.inr (some 3)), (.inl x1)] h (fun r h1 => 
      ∃ v2, r = some v2 ∧ SS h h1 ∧
      ((¬ v2 = -1 → (
        (((x2 < 0 ∨ 3 < x2) → (
          Q (some (-2)) h1
        )) ∧
        (((x2 = 0) → (
          AM (d - 1) m_X1_isAwake [(.inr (some 3)), (.inl v2)] h1 (fun r h6 => 
            ∃ v7, r = some v7 ∧ SS h1 h6 ∧
            ((v7 = 0 → (
              Q (some 0) h6
            )) ∧
            (¬ (v7 = 0) → (
              Q (some 1) h6
            ))))
        )) ∧
        (((x2 = 1) → (
          AM (d - 1) m_X1_asksToGo [(.inr (some 3)), (.inl v2)] h1 (fun r h10 => 
            ∃ v11, r = some v11 ∧ SS h1 h10 ∧
            Q (some v11) h10)
        )) ∧
        (((x2 = 2) → (
          AM (d - 1) m_X1_tellings [(.inr (some 3)), (.inl v2)] h1 (fun r h13 => 
            ∃ v14, r = some v14 ∧ SS h1 h13 ∧
            Q (some v14) h13)
        )) ∧
        (((x2 = 3) → (
          AM (d - 1) m_X1_sharedBits [(.inr (some 3)), (.inl v2)] h1 (fun r h16 => 
            ∃ v17, r = some v17 ∧ SS h1 h16 ∧
            Q (some v17) h16)
        )))))))
      )) ∧
      (¬ (¬ v2 = -1) → (
        Q (some (-1)) h1
      ))))) :
  AM d m_X6_ofCard [(.inr (some 1)), (.inl x1), (.inl x2)] h Q := by
  refine am_body mo_X6_ofCard (Nat.le_of_ble_eq_true rfl) ?_
  show AW m_X6_ofCard d none Q 0 [some (.inr (some 1)), some (.inl x1), some (.inl x2), none, none] [] h (0, 0)
  obtain ⟨ko1, ro1_state, lo1_state, ro1_before, lo1_before, ro1_trial, lo1_trial, ro1_snapshot, lo1_snapshot, ro1_history, lo1_history, ro1_text, lo1_text⟩ := id hL
  obtain ⟨ko1_state, ro1_state_pocket, lo1_state_pocket, ro1_state_told, lo1_state_told, ro1_state_tally, lo1_state_tally, ro1_state_settings, ko1_state_settings⟩ := id lo1_state
  obtain ⟨ko1_state_pocket, ro1_state_pocket_names, ko1_state_pocket_names, ro1_state_pocket_asksToGo, ko1_state_pocket_asksToGo, ro1_state_pocket_tellings, ko1_state_pocket_tellings, ro1_state_pocket_slots, ko1_state_pocket_slots, ro1_state_pocket_awake, ko1_state_pocket_awake, ro1_state_pocket_answering, ko1_state_pocket_answering⟩ := id lo1_state_pocket
  obtain ⟨ko1_state_told, ro1_state_told_row, ko1_state_told_row⟩ := id lo1_state_told
  have ko1_state_tally := id lo1_state_tally
  obtain ⟨ko1_before, ro1_before_pocket, lo1_before_pocket, ro1_before_told, lo1_before_told, ro1_before_tally, lo1_before_tally, ro1_before_settings, ko1_before_settings⟩ := id lo1_before
  obtain ⟨ko1_before_pocket, ro1_before_pocket_names, ko1_before_pocket_names, ro1_before_pocket_asksToGo, ko1_before_pocket_asksToGo, ro1_before_pocket_tellings, ko1_before_pocket_tellings, ro1_before_pocket_slots, ko1_before_pocket_slots, ro1_before_pocket_awake, ko1_before_pocket_awake, ro1_before_pocket_answering, ko1_before_pocket_answering⟩ := id lo1_before_pocket
  obtain ⟨ko1_before_told, ro1_before_told_row, ko1_before_told_row⟩ := id lo1_before_told
  have ko1_before_tally := id lo1_before_tally
  obtain ⟨ko1_trial, ro1_trial_pocket, lo1_trial_pocket, ro1_trial_told, lo1_trial_told, ro1_trial_tally, lo1_trial_tally, ro1_trial_settings, ko1_trial_settings⟩ := id lo1_trial
  obtain ⟨ko1_trial_pocket, ro1_trial_pocket_names, ko1_trial_pocket_names, ro1_trial_pocket_asksToGo, ko1_trial_pocket_asksToGo, ro1_trial_pocket_tellings, ko1_trial_pocket_tellings, ro1_trial_pocket_slots, ko1_trial_pocket_slots, ro1_trial_pocket_awake, ko1_trial_pocket_awake, ro1_trial_pocket_answering, ko1_trial_pocket_answering⟩ := id lo1_trial_pocket
  obtain ⟨ko1_trial_told, ro1_trial_told_row, ko1_trial_told_row⟩ := id lo1_trial_told
  have ko1_trial_tally := id lo1_trial_tally
  obtain ⟨ko1_snapshot, ro1_snapshot_pocket, lo1_snapshot_pocket, ro1_snapshot_told, lo1_snapshot_told, ro1_snapshot_tally, lo1_snapshot_tally, ro1_snapshot_settings, ko1_snapshot_settings⟩ := id lo1_snapshot
  obtain ⟨ko1_snapshot_pocket, ro1_snapshot_pocket_names, ko1_snapshot_pocket_names, ro1_snapshot_pocket_asksToGo, ko1_snapshot_pocket_asksToGo, ro1_snapshot_pocket_tellings, ko1_snapshot_pocket_tellings, ro1_snapshot_pocket_slots, ko1_snapshot_pocket_slots, ro1_snapshot_pocket_awake, ko1_snapshot_pocket_awake, ro1_snapshot_pocket_answering, ko1_snapshot_pocket_answering⟩ := id lo1_snapshot_pocket
  obtain ⟨ko1_snapshot_told, ro1_snapshot_told_row, ko1_snapshot_told_row⟩ := id lo1_snapshot_told
  have ko1_snapshot_tally := id lo1_snapshot_tally
  obtain ⟨ko1_history, ro1_history_rows, ko1_history_rows⟩ := id lo1_history
  obtain ⟨ko1_text, ro1_text_characters, ko1_text_characters, ro1_text_kinds, ko1_text_kinds, ro1_text_numbers, ko1_text_numbers⟩ := id lo1_text
  refine aw_aload_n (pc := 0) dX6_ofCard_0 rfl ?_
  refine aw_getr (pc := 1) (r := some 2) dX6_ofCard_1 fl_X6_10 (by decide) rfl ko1 ro1_state ?_
  refine aw_getr (pc := 4) (r := some 3) dX6_ofCard_4 fl_X6_122 (by decide) rfl ko1_state ro1_state_pocket ?_
  refine ax_astore_n (pc := 7) (ls' := [some (.inr (some 1)), some (.inl x1), some (.inl x2), some (.inr (some 3)), none]) dX6_ofCard_7 (Nat.le_of_ble_eq_true rfl) rfl ?_
  refine aw_aload_n (pc := 8) dX6_ofCard_8 rfl ?_
  refine aw_iload_n (pc := 9) dX6_ofCard_9 rfl ?_
  refine aw_invV (pc := 10) (md' := m_X1_placeOf) (ci := 1) (as := [(.inl x1)]) dX6_ofCard_10 mo_X1_placeOf im_X1_placeOf se_X1_placeOf ml_X6_134 rfl ko1_state_pocket rfl hd (Nat.le_of_ble_eq_true rfl) (Nat.le_of_ble_eq_true rfl) (Nat.le_of_ble_eq_true rfl) ?_
  refine am_mono g (fun _ h1 _ ok_h1 g => ?_)
  obtain ⟨v2, rfl, ss_h1, g⟩ := g
  replace hL := QM.ss hL ss_h1
  obtain ⟨ko1, ro1_state, lo1_state, ro1_before, lo1_before, ro1_trial, lo1_trial, ro1_snapshot, lo1_snapshot, ro1_history, lo1_history, ro1_text, lo1_text⟩ := id hL
  obtain ⟨ko1_state, ro1_state_pocket, lo1_state_pocket, ro1_state_told, lo1_state_told, ro1_state_tally, lo1_state_tally, ro1_state_settings, ko1_state_settings⟩ := id lo1_state
  obtain ⟨ko1_state_pocket, ro1_state_pocket_names, ko1_state_pocket_names, ro1_state_pocket_asksToGo, ko1_state_pocket_asksToGo, ro1_state_pocket_tellings, ko1_state_pocket_tellings, ro1_state_pocket_slots, ko1_state_pocket_slots, ro1_state_pocket_awake, ko1_state_pocket_awake, ro1_state_pocket_answering, ko1_state_pocket_answering⟩ := id lo1_state_pocket
  obtain ⟨ko1_state_told, ro1_state_told_row, ko1_state_told_row⟩ := id lo1_state_told
  have ko1_state_tally := id lo1_state_tally
  obtain ⟨ko1_before, ro1_before_pocket, lo1_before_pocket, ro1_before_told, lo1_before_told, ro1_before_tally, lo1_before_tally, ro1_before_settings, ko1_before_settings⟩ := id lo1_before
  obtain ⟨ko1_before_pocket, ro1_before_pocket_names, ko1_before_pocket_names, ro1_before_pocket_asksToGo, ko1_before_pocket_asksToGo, ro1_before_pocket_tellings, ko1_before_pocket_tellings, ro1_before_pocket_slots, ko1_before_pocket_slots, ro1_before_pocket_awake, ko1_before_pocket_awake, ro1_before_pocket_answering, ko1_before_pocket_answering⟩ := id lo1_before_pocket
  obtain ⟨ko1_before_told, ro1_before_told_row, ko1_before_told_row⟩ := id lo1_before_told
  have ko1_before_tally := id lo1_before_tally
  obtain ⟨ko1_trial, ro1_trial_pocket, lo1_trial_pocket, ro1_trial_told, lo1_trial_told, ro1_trial_tally, lo1_trial_tally, ro1_trial_settings, ko1_trial_settings⟩ := id lo1_trial
  obtain ⟨ko1_trial_pocket, ro1_trial_pocket_names, ko1_trial_pocket_names, ro1_trial_pocket_asksToGo, ko1_trial_pocket_asksToGo, ro1_trial_pocket_tellings, ko1_trial_pocket_tellings, ro1_trial_pocket_slots, ko1_trial_pocket_slots, ro1_trial_pocket_awake, ko1_trial_pocket_awake, ro1_trial_pocket_answering, ko1_trial_pocket_answering⟩ := id lo1_trial_pocket
  obtain ⟨ko1_trial_told, ro1_trial_told_row, ko1_trial_told_row⟩ := id lo1_trial_told
  have ko1_trial_tally := id lo1_trial_tally
  obtain ⟨ko1_snapshot, ro1_snapshot_pocket, lo1_snapshot_pocket, ro1_snapshot_told, lo1_snapshot_told, ro1_snapshot_tally, lo1_snapshot_tally, ro1_snapshot_settings, ko1_snapshot_settings⟩ := id lo1_snapshot
  obtain ⟨ko1_snapshot_pocket, ro1_snapshot_pocket_names, ko1_snapshot_pocket_names, ro1_snapshot_pocket_asksToGo, ko1_snapshot_pocket_asksToGo, ro1_snapshot_pocket_tellings, ko1_snapshot_pocket_tellings, ro1_snapshot_pocket_slots, ko1_snapshot_pocket_slots, ro1_snapshot_pocket_awake, ko1_snapshot_pocket_awake, ro1_snapshot_pocket_answering, ko1_snapshot_pocket_answering⟩ := id lo1_snapshot_pocket
  obtain ⟨ko1_snapshot_told, ro1_snapshot_told_row, ko1_snapshot_told_row⟩ := id lo1_snapshot_told
  have ko1_snapshot_tally := id lo1_snapshot_tally
  obtain ⟨ko1_history, ro1_history_rows, ko1_history_rows⟩ := id lo1_history
  obtain ⟨ko1_text, ro1_text_characters, ko1_text_characters, ro1_text_kinds, ko1_text_kinds, ro1_text_numbers, ko1_text_numbers⟩ := id lo1_text
  show AW m_X6_ofCard d none Q 13 [some (.inr (some 1)), some (.inl x1), some (.inl x2), some (.inr (some 3)), none] [(.inl v2)] h1 (0, 0)
  refine ax_istore (pc := 13) (ls' := [some (.inr (some 1)), some (.inl x1), some (.inl x2), some (.inr (some 3)), some (.inl v2)]) dX6_ofCard_13 (Nat.le_of_ble_eq_true rfl) rfl ?_
  refine aw_iload (pc := 15) dX6_ofCard_15 rfl ?_
  refine aw_iconst (pc := 17) dX6_ofCard_17 ?_
  refine aw_icmp_ne (pc := 18) (tgt := 23) dX6_ofCard_18 (by decide) (fun c3 => ?_) (fun c3 => ?_)
  · replace g := g.1 c3
    refine aw_iload_n (pc := 23) dX6_ofCard_23 rfl ?_
    by_cases c4 : x2 < 0 ∨ 3 < x2
    · replace g := g.1 (by omega)
      refine aw_tblOut (pc := 24) (tgt := 92) dX6_ofCard_24 c4 (by decide) ?_
      refine aw_bipush (pc := 92) dX6_ofCard_92 ?_
      exact ax_ireturn (pc := 94) dX6_ofCard_94 rfl g (by decide) (by decide)
    · replace g := g.2
      by_cases c5 : x2 = 0
      · replace g := g.1 c5
        refine aw_tblIn (pc := 24) (tgt := 56) (off := 32) dX6_ofCard_24 (by omega) (by omega) (by rw [c5]; rfl) (by decide) ?_
        refine aw_aload_n (pc := 56) dX6_ofCard_56 rfl ?_
        refine aw_iload (pc := 57) dX6_ofCard_57 rfl ?_
        refine aw_invV (pc := 59) (md' := m_X1_isAwake) (ci := 1) (as := [(.inl v2)]) dX6_ofCard_59 mo_X1_isAwake im_X1_isAwake se_X1_isAwake ml_X6_137 rfl ko1_state_pocket rfl hd (Nat.le_of_ble_eq_true rfl) (Nat.le_of_ble_eq_true rfl) (Nat.le_of_ble_eq_true rfl) ?_
        refine am_mono g (fun _ h6 _ ok_h6 g => ?_)
        obtain ⟨v7, rfl, ss_h6, g⟩ := g
        replace hL := QM.ss hL ss_h6
        obtain ⟨ko1, ro1_state, lo1_state, ro1_before, lo1_before, ro1_trial, lo1_trial, ro1_snapshot, lo1_snapshot, ro1_history, lo1_history, ro1_text, lo1_text⟩ := id hL
        obtain ⟨ko1_state, ro1_state_pocket, lo1_state_pocket, ro1_state_told, lo1_state_told, ro1_state_tally, lo1_state_tally, ro1_state_settings, ko1_state_settings⟩ := id lo1_state
        obtain ⟨ko1_state_pocket, ro1_state_pocket_names, ko1_state_pocket_names, ro1_state_pocket_asksToGo, ko1_state_pocket_asksToGo, ro1_state_pocket_tellings, ko1_state_pocket_tellings, ro1_state_pocket_slots, ko1_state_pocket_slots, ro1_state_pocket_awake, ko1_state_pocket_awake, ro1_state_pocket_answering, ko1_state_pocket_answering⟩ := id lo1_state_pocket
        obtain ⟨ko1_state_told, ro1_state_told_row, ko1_state_told_row⟩ := id lo1_state_told
        have ko1_state_tally := id lo1_state_tally
        obtain ⟨ko1_before, ro1_before_pocket, lo1_before_pocket, ro1_before_told, lo1_before_told, ro1_before_tally, lo1_before_tally, ro1_before_settings, ko1_before_settings⟩ := id lo1_before
        obtain ⟨ko1_before_pocket, ro1_before_pocket_names, ko1_before_pocket_names, ro1_before_pocket_asksToGo, ko1_before_pocket_asksToGo, ro1_before_pocket_tellings, ko1_before_pocket_tellings, ro1_before_pocket_slots, ko1_before_pocket_slots, ro1_before_pocket_awake, ko1_before_pocket_awake, ro1_before_pocket_answering, ko1_before_pocket_answering⟩ := id lo1_before_pocket
        obtain ⟨ko1_before_told, ro1_before_told_row, ko1_before_told_row⟩ := id lo1_before_told
        have ko1_before_tally := id lo1_before_tally
        obtain ⟨ko1_trial, ro1_trial_pocket, lo1_trial_pocket, ro1_trial_told, lo1_trial_told, ro1_trial_tally, lo1_trial_tally, ro1_trial_settings, ko1_trial_settings⟩ := id lo1_trial
        obtain ⟨ko1_trial_pocket, ro1_trial_pocket_names, ko1_trial_pocket_names, ro1_trial_pocket_asksToGo, ko1_trial_pocket_asksToGo, ro1_trial_pocket_tellings, ko1_trial_pocket_tellings, ro1_trial_pocket_slots, ko1_trial_pocket_slots, ro1_trial_pocket_awake, ko1_trial_pocket_awake, ro1_trial_pocket_answering, ko1_trial_pocket_answering⟩ := id lo1_trial_pocket
        obtain ⟨ko1_trial_told, ro1_trial_told_row, ko1_trial_told_row⟩ := id lo1_trial_told
        have ko1_trial_tally := id lo1_trial_tally
        obtain ⟨ko1_snapshot, ro1_snapshot_pocket, lo1_snapshot_pocket, ro1_snapshot_told, lo1_snapshot_told, ro1_snapshot_tally, lo1_snapshot_tally, ro1_snapshot_settings, ko1_snapshot_settings⟩ := id lo1_snapshot
        obtain ⟨ko1_snapshot_pocket, ro1_snapshot_pocket_names, ko1_snapshot_pocket_names, ro1_snapshot_pocket_asksToGo, ko1_snapshot_pocket_asksToGo, ro1_snapshot_pocket_tellings, ko1_snapshot_pocket_tellings, ro1_snapshot_pocket_slots, ko1_snapshot_pocket_slots, ro1_snapshot_pocket_awake, ko1_snapshot_pocket_awake, ro1_snapshot_pocket_answering, ko1_snapshot_pocket_answering⟩ := id lo1_snapshot_pocket
        obtain ⟨ko1_snapshot_told, ro1_snapshot_told_row, ko1_snapshot_told_row⟩ := id lo1_snapshot_told
        have ko1_snapshot_tally := id lo1_snapshot_tally
        obtain ⟨ko1_history, ro1_history_rows, ko1_history_rows⟩ := id lo1_history
        obtain ⟨ko1_text, ro1_text_characters, ko1_text_characters, ro1_text_kinds, ko1_text_kinds, ro1_text_numbers, ko1_text_numbers⟩ := id lo1_text
        show AW m_X6_ofCard d none Q 62 [some (.inr (some 1)), some (.inl x1), some (.inl x2), some (.inr (some 3)), some (.inl v2)] [(.inl v7)] h6 (0, 0)
        refine aw_if_eq (pc := 62) (tgt := 69) dX6_ofCard_62 (by decide) (fun c8 => ?_) (fun c8 => ?_)
        · replace g := g.1 c8
          refine aw_iconst (pc := 69) dX6_ofCard_69 ?_
          exact ax_ireturn (pc := 70) dX6_ofCard_70 rfl g (by decide) (by decide)
        · replace g := g.2 c8
          refine aw_iconst (pc := 65) dX6_ofCard_65 ?_
          refine aw_goto (pc := 66) (tgt := 70) dX6_ofCard_66 (by decide) ?_
          exact ax_ireturn (pc := 70) dX6_ofCard_70 rfl g (by decide) (by decide)
      replace g := g.2
      by_cases c9 : x2 = 1
      · replace g := g.1 c9
        refine aw_tblIn (pc := 24) (tgt := 71) (off := 47) dX6_ofCard_24 (by omega) (by omega) (by rw [c9]; rfl) (by decide) ?_
        refine aw_aload_n (pc := 71) dX6_ofCard_71 rfl ?_
        refine aw_iload (pc := 72) dX6_ofCard_72 rfl ?_
        refine aw_invV (pc := 74) (md' := m_X1_asksToGo) (ci := 1) (as := [(.inl v2)]) dX6_ofCard_74 mo_X1_asksToGo im_X1_asksToGo se_X1_asksToGo ml_X6_141 rfl ko1_state_pocket rfl hd (Nat.le_of_ble_eq_true rfl) (Nat.le_of_ble_eq_true rfl) (Nat.le_of_ble_eq_true rfl) ?_
        refine am_mono g (fun _ h10 _ ok_h10 g => ?_)
        obtain ⟨v11, rfl, ss_h10, g⟩ := g
        replace hL := QM.ss hL ss_h10
        obtain ⟨ko1, ro1_state, lo1_state, ro1_before, lo1_before, ro1_trial, lo1_trial, ro1_snapshot, lo1_snapshot, ro1_history, lo1_history, ro1_text, lo1_text⟩ := id hL
        obtain ⟨ko1_state, ro1_state_pocket, lo1_state_pocket, ro1_state_told, lo1_state_told, ro1_state_tally, lo1_state_tally, ro1_state_settings, ko1_state_settings⟩ := id lo1_state
        obtain ⟨ko1_state_pocket, ro1_state_pocket_names, ko1_state_pocket_names, ro1_state_pocket_asksToGo, ko1_state_pocket_asksToGo, ro1_state_pocket_tellings, ko1_state_pocket_tellings, ro1_state_pocket_slots, ko1_state_pocket_slots, ro1_state_pocket_awake, ko1_state_pocket_awake, ro1_state_pocket_answering, ko1_state_pocket_answering⟩ := id lo1_state_pocket
        obtain ⟨ko1_state_told, ro1_state_told_row, ko1_state_told_row⟩ := id lo1_state_told
        have ko1_state_tally := id lo1_state_tally
        obtain ⟨ko1_before, ro1_before_pocket, lo1_before_pocket, ro1_before_told, lo1_before_told, ro1_before_tally, lo1_before_tally, ro1_before_settings, ko1_before_settings⟩ := id lo1_before
        obtain ⟨ko1_before_pocket, ro1_before_pocket_names, ko1_before_pocket_names, ro1_before_pocket_asksToGo, ko1_before_pocket_asksToGo, ro1_before_pocket_tellings, ko1_before_pocket_tellings, ro1_before_pocket_slots, ko1_before_pocket_slots, ro1_before_pocket_awake, ko1_before_pocket_awake, ro1_before_pocket_answering, ko1_before_pocket_answering⟩ := id lo1_before_pocket
        obtain ⟨ko1_before_told, ro1_before_told_row, ko1_before_told_row⟩ := id lo1_before_told
        have ko1_before_tally := id lo1_before_tally
        obtain ⟨ko1_trial, ro1_trial_pocket, lo1_trial_pocket, ro1_trial_told, lo1_trial_told, ro1_trial_tally, lo1_trial_tally, ro1_trial_settings, ko1_trial_settings⟩ := id lo1_trial
        obtain ⟨ko1_trial_pocket, ro1_trial_pocket_names, ko1_trial_pocket_names, ro1_trial_pocket_asksToGo, ko1_trial_pocket_asksToGo, ro1_trial_pocket_tellings, ko1_trial_pocket_tellings, ro1_trial_pocket_slots, ko1_trial_pocket_slots, ro1_trial_pocket_awake, ko1_trial_pocket_awake, ro1_trial_pocket_answering, ko1_trial_pocket_answering⟩ := id lo1_trial_pocket
        obtain ⟨ko1_trial_told, ro1_trial_told_row, ko1_trial_told_row⟩ := id lo1_trial_told
        have ko1_trial_tally := id lo1_trial_tally
        obtain ⟨ko1_snapshot, ro1_snapshot_pocket, lo1_snapshot_pocket, ro1_snapshot_told, lo1_snapshot_told, ro1_snapshot_tally, lo1_snapshot_tally, ro1_snapshot_settings, ko1_snapshot_settings⟩ := id lo1_snapshot
        obtain ⟨ko1_snapshot_pocket, ro1_snapshot_pocket_names, ko1_snapshot_pocket_names, ro1_snapshot_pocket_asksToGo, ko1_snapshot_pocket_asksToGo, ro1_snapshot_pocket_tellings, ko1_snapshot_pocket_tellings, ro1_snapshot_pocket_slots, ko1_snapshot_pocket_slots, ro1_snapshot_pocket_awake, ko1_snapshot_pocket_awake, ro1_snapshot_pocket_answering, ko1_snapshot_pocket_answering⟩ := id lo1_snapshot_pocket
        obtain ⟨ko1_snapshot_told, ro1_snapshot_told_row, ko1_snapshot_told_row⟩ := id lo1_snapshot_told
        have ko1_snapshot_tally := id lo1_snapshot_tally
        obtain ⟨ko1_history, ro1_history_rows, ko1_history_rows⟩ := id lo1_history
        obtain ⟨ko1_text, ro1_text_characters, ko1_text_characters, ro1_text_kinds, ko1_text_kinds, ro1_text_numbers, ko1_text_numbers⟩ := id lo1_text
        show AW m_X6_ofCard d none Q 77 [some (.inr (some 1)), some (.inl x1), some (.inl x2), some (.inr (some 3)), some (.inl v2)] [(.inl v11)] h10 (0, 0)
        exact ax_ireturn (pc := 77) dX6_ofCard_77 rfl g (by decide) (by decide)
      replace g := g.2
      by_cases c12 : x2 = 2
      · replace g := g.1 c12
        refine aw_tblIn (pc := 24) (tgt := 78) (off := 54) dX6_ofCard_24 (by omega) (by omega) (by rw [c12]; rfl) (by decide) ?_
        refine aw_aload_n (pc := 78) dX6_ofCard_78 rfl ?_
        refine aw_iload (pc := 79) dX6_ofCard_79 rfl ?_
        refine aw_invV (pc := 81) (md' := m_X1_tellings) (ci := 1) (as := [(.inl v2)]) dX6_ofCard_81 mo_X1_tellings im_X1_tellings se_X1_tellings ml_X6_144 rfl ko1_state_pocket rfl hd (Nat.le_of_ble_eq_true rfl) (Nat.le_of_ble_eq_true rfl) (Nat.le_of_ble_eq_true rfl) ?_
        refine am_mono g (fun _ h13 _ ok_h13 g => ?_)
        obtain ⟨v14, rfl, ss_h13, g⟩ := g
        replace hL := QM.ss hL ss_h13
        obtain ⟨ko1, ro1_state, lo1_state, ro1_before, lo1_before, ro1_trial, lo1_trial, ro1_snapshot, lo1_snapshot, ro1_history, lo1_history, ro1_text, lo1_text⟩ := id hL
        obtain ⟨ko1_state, ro1_state_pocket, lo1_state_pocket, ro1_state_told, lo1_state_told, ro1_state_tally, lo1_state_tally, ro1_state_settings, ko1_state_settings⟩ := id lo1_state
        obtain ⟨ko1_state_pocket, ro1_state_pocket_names, ko1_state_pocket_names, ro1_state_pocket_asksToGo, ko1_state_pocket_asksToGo, ro1_state_pocket_tellings, ko1_state_pocket_tellings, ro1_state_pocket_slots, ko1_state_pocket_slots, ro1_state_pocket_awake, ko1_state_pocket_awake, ro1_state_pocket_answering, ko1_state_pocket_answering⟩ := id lo1_state_pocket
        obtain ⟨ko1_state_told, ro1_state_told_row, ko1_state_told_row⟩ := id lo1_state_told
        have ko1_state_tally := id lo1_state_tally
        obtain ⟨ko1_before, ro1_before_pocket, lo1_before_pocket, ro1_before_told, lo1_before_told, ro1_before_tally, lo1_before_tally, ro1_before_settings, ko1_before_settings⟩ := id lo1_before
        obtain ⟨ko1_before_pocket, ro1_before_pocket_names, ko1_before_pocket_names, ro1_before_pocket_asksToGo, ko1_before_pocket_asksToGo, ro1_before_pocket_tellings, ko1_before_pocket_tellings, ro1_before_pocket_slots, ko1_before_pocket_slots, ro1_before_pocket_awake, ko1_before_pocket_awake, ro1_before_pocket_answering, ko1_before_pocket_answering⟩ := id lo1_before_pocket
        obtain ⟨ko1_before_told, ro1_before_told_row, ko1_before_told_row⟩ := id lo1_before_told
        have ko1_before_tally := id lo1_before_tally
        obtain ⟨ko1_trial, ro1_trial_pocket, lo1_trial_pocket, ro1_trial_told, lo1_trial_told, ro1_trial_tally, lo1_trial_tally, ro1_trial_settings, ko1_trial_settings⟩ := id lo1_trial
        obtain ⟨ko1_trial_pocket, ro1_trial_pocket_names, ko1_trial_pocket_names, ro1_trial_pocket_asksToGo, ko1_trial_pocket_asksToGo, ro1_trial_pocket_tellings, ko1_trial_pocket_tellings, ro1_trial_pocket_slots, ko1_trial_pocket_slots, ro1_trial_pocket_awake, ko1_trial_pocket_awake, ro1_trial_pocket_answering, ko1_trial_pocket_answering⟩ := id lo1_trial_pocket
        obtain ⟨ko1_trial_told, ro1_trial_told_row, ko1_trial_told_row⟩ := id lo1_trial_told
        have ko1_trial_tally := id lo1_trial_tally
        obtain ⟨ko1_snapshot, ro1_snapshot_pocket, lo1_snapshot_pocket, ro1_snapshot_told, lo1_snapshot_told, ro1_snapshot_tally, lo1_snapshot_tally, ro1_snapshot_settings, ko1_snapshot_settings⟩ := id lo1_snapshot
        obtain ⟨ko1_snapshot_pocket, ro1_snapshot_pocket_names, ko1_snapshot_pocket_names, ro1_snapshot_pocket_asksToGo, ko1_snapshot_pocket_asksToGo, ro1_snapshot_pocket_tellings, ko1_snapshot_pocket_tellings, ro1_snapshot_pocket_slots, ko1_snapshot_pocket_slots, ro1_snapshot_pocket_awake, ko1_snapshot_pocket_awake, ro1_snapshot_pocket_answering, ko1_snapshot_pocket_answering⟩ := id lo1_snapshot_pocket
        obtain ⟨ko1_snapshot_told, ro1_snapshot_told_row, ko1_snapshot_told_row⟩ := id lo1_snapshot_told
        have ko1_snapshot_tally := id lo1_snapshot_tally
        obtain ⟨ko1_history, ro1_history_rows, ko1_history_rows⟩ := id lo1_history
        obtain ⟨ko1_text, ro1_text_characters, ko1_text_characters, ro1_text_kinds, ko1_text_kinds, ro1_text_numbers, ko1_text_numbers⟩ := id lo1_text
        show AW m_X6_ofCard d none Q 84 [some (.inr (some 1)), some (.inl x1), some (.inl x2), some (.inr (some 3)), some (.inl v2)] [(.inl v14)] h13 (0, 0)
        exact ax_ireturn (pc := 84) dX6_ofCard_84 rfl g (by decide) (by decide)
      replace g := g.2
      have c15 : x2 = 3 := by omega
      replace g := g c15
      refine aw_tblIn (pc := 24) (tgt := 85) (off := 61) dX6_ofCard_24 (by omega) (by omega) (by rw [c15]; rfl) (by decide) ?_
      refine aw_aload_n (pc := 85) dX6_ofCard_85 rfl ?_
      refine aw_iload (pc := 86) dX6_ofCard_86 rfl ?_
      refine aw_invV (pc := 88) (md' := m_X1_sharedBits) (ci := 1) (as := [(.inl v2)]) dX6_ofCard_88 mo_X1_sharedBits im_X1_sharedBits se_X1_sharedBits ml_X6_147 rfl ko1_state_pocket rfl hd (Nat.le_of_ble_eq_true rfl) (Nat.le_of_ble_eq_true rfl) (Nat.le_of_ble_eq_true rfl) ?_
      refine am_mono g (fun _ h16 _ ok_h16 g => ?_)
      obtain ⟨v17, rfl, ss_h16, g⟩ := g
      replace hL := QM.ss hL ss_h16
      obtain ⟨ko1, ro1_state, lo1_state, ro1_before, lo1_before, ro1_trial, lo1_trial, ro1_snapshot, lo1_snapshot, ro1_history, lo1_history, ro1_text, lo1_text⟩ := id hL
      obtain ⟨ko1_state, ro1_state_pocket, lo1_state_pocket, ro1_state_told, lo1_state_told, ro1_state_tally, lo1_state_tally, ro1_state_settings, ko1_state_settings⟩ := id lo1_state
      obtain ⟨ko1_state_pocket, ro1_state_pocket_names, ko1_state_pocket_names, ro1_state_pocket_asksToGo, ko1_state_pocket_asksToGo, ro1_state_pocket_tellings, ko1_state_pocket_tellings, ro1_state_pocket_slots, ko1_state_pocket_slots, ro1_state_pocket_awake, ko1_state_pocket_awake, ro1_state_pocket_answering, ko1_state_pocket_answering⟩ := id lo1_state_pocket
      obtain ⟨ko1_state_told, ro1_state_told_row, ko1_state_told_row⟩ := id lo1_state_told
      have ko1_state_tally := id lo1_state_tally
      obtain ⟨ko1_before, ro1_before_pocket, lo1_before_pocket, ro1_before_told, lo1_before_told, ro1_before_tally, lo1_before_tally, ro1_before_settings, ko1_before_settings⟩ := id lo1_before
      obtain ⟨ko1_before_pocket, ro1_before_pocket_names, ko1_before_pocket_names, ro1_before_pocket_asksToGo, ko1_before_pocket_asksToGo, ro1_before_pocket_tellings, ko1_before_pocket_tellings, ro1_before_pocket_slots, ko1_before_pocket_slots, ro1_before_pocket_awake, ko1_before_pocket_awake, ro1_before_pocket_answering, ko1_before_pocket_answering⟩ := id lo1_before_pocket
      obtain ⟨ko1_before_told, ro1_before_told_row, ko1_before_told_row⟩ := id lo1_before_told
      have ko1_before_tally := id lo1_before_tally
      obtain ⟨ko1_trial, ro1_trial_pocket, lo1_trial_pocket, ro1_trial_told, lo1_trial_told, ro1_trial_tally, lo1_trial_tally, ro1_trial_settings, ko1_trial_settings⟩ := id lo1_trial
      obtain ⟨ko1_trial_pocket, ro1_trial_pocket_names, ko1_trial_pocket_names, ro1_trial_pocket_asksToGo, ko1_trial_pocket_asksToGo, ro1_trial_pocket_tellings, ko1_trial_pocket_tellings, ro1_trial_pocket_slots, ko1_trial_pocket_slots, ro1_trial_pocket_awake, ko1_trial_pocket_awake, ro1_trial_pocket_answering, ko1_trial_pocket_answering⟩ := id lo1_trial_pocket
      obtain ⟨ko1_trial_told, ro1_trial_told_row, ko1_trial_told_row⟩ := id lo1_trial_told
      have ko1_trial_tally := id lo1_trial_tally
      obtain ⟨ko1_snapshot, ro1_snapshot_pocket, lo1_snapshot_pocket, ro1_snapshot_told, lo1_snapshot_told, ro1_snapshot_tally, lo1_snapshot_tally, ro1_snapshot_settings, ko1_snapshot_settings⟩ := id lo1_snapshot
      obtain ⟨ko1_snapshot_pocket, ro1_snapshot_pocket_names, ko1_snapshot_pocket_names, ro1_snapshot_pocket_asksToGo, ko1_snapshot_pocket_asksToGo, ro1_snapshot_pocket_tellings, ko1_snapshot_pocket_tellings, ro1_snapshot_pocket_slots, ko1_snapshot_pocket_slots, ro1_snapshot_pocket_awake, ko1_snapshot_pocket_awake, ro1_snapshot_pocket_answering, ko1_snapshot_pocket_answering⟩ := id lo1_snapshot_pocket
      obtain ⟨ko1_snapshot_told, ro1_snapshot_told_row, ko1_snapshot_told_row⟩ := id lo1_snapshot_told
      have ko1_snapshot_tally := id lo1_snapshot_tally
      obtain ⟨ko1_history, ro1_history_rows, ko1_history_rows⟩ := id lo1_history
      obtain ⟨ko1_text, ro1_text_characters, ko1_text_characters, ro1_text_kinds, ko1_text_kinds, ro1_text_numbers, ko1_text_numbers⟩ := id lo1_text
      show AW m_X6_ofCard d none Q 91 [some (.inr (some 1)), some (.inl x1), some (.inl x2), some (.inr (some 3)), some (.inl v2)] [(.inl v17)] h16 (0, 0)
      exact ax_ireturn (pc := 91) dX6_ofCard_91 rfl g (by decide) (by decide)
  · replace g := g.2 c3
    refine aw_iconst (pc := 21) dX6_ofCard_21 ?_
    exact ax_ireturn (pc := 22) dX6_ofCard_22 rfl g (by decide) (by decide)
set_option maxRecDepth 100000 in
set_option maxHeartbeats 4000000 in
theorem vc_X6_told {d : Nat} {Q : Option Int → AH → Prop} {h : AH} {x1 : Int} (hd : 1 ≤ d) (hL : QM h)
  (g :
    ((0 ≤ x1 → (
      AM (d - 1) m_X5_names [(.inr (some 10))] h (fun r h2 => 
        ∃ v3, r = some v3 ∧ SS h h2 ∧
        ((v3 ≤ x1 → (
          Q (some (-5)) h2
        )) ∧
        (¬ (v3 ≤ x1) → (
          AM (d - 1) m_X5_nameAt [(.inr (some 10)), (.inl x1)] h2 (fun r h5 => 
            ∃ v6, r = some v6 ∧ SS h2 h5 ∧
            Q (some v6) h5)
        ))))
    )) ∧
    (¬ (0 ≤ x1) → (
      Q (some (-2)) h
    )))) :
  AM d m_X6_told [(.inr (some 1)), (.inl x1)] h Q := by
  refine am_body mo_X6_told (Nat.le_of_ble_eq_true rfl) ?_
  show AW m_X6_told d none Q 0 [some (.inr (some 1)), some (.inl x1)] [] h (0, 0)
  obtain ⟨ko1, ro1_state, lo1_state, ro1_before, lo1_before, ro1_trial, lo1_trial, ro1_snapshot, lo1_snapshot, ro1_history, lo1_history, ro1_text, lo1_text⟩ := id hL
  obtain ⟨ko1_state, ro1_state_pocket, lo1_state_pocket, ro1_state_told, lo1_state_told, ro1_state_tally, lo1_state_tally, ro1_state_settings, ko1_state_settings⟩ := id lo1_state
  obtain ⟨ko1_state_pocket, ro1_state_pocket_names, ko1_state_pocket_names, ro1_state_pocket_asksToGo, ko1_state_pocket_asksToGo, ro1_state_pocket_tellings, ko1_state_pocket_tellings, ro1_state_pocket_slots, ko1_state_pocket_slots, ro1_state_pocket_awake, ko1_state_pocket_awake, ro1_state_pocket_answering, ko1_state_pocket_answering⟩ := id lo1_state_pocket
  obtain ⟨ko1_state_told, ro1_state_told_row, ko1_state_told_row⟩ := id lo1_state_told
  have ko1_state_tally := id lo1_state_tally
  obtain ⟨ko1_before, ro1_before_pocket, lo1_before_pocket, ro1_before_told, lo1_before_told, ro1_before_tally, lo1_before_tally, ro1_before_settings, ko1_before_settings⟩ := id lo1_before
  obtain ⟨ko1_before_pocket, ro1_before_pocket_names, ko1_before_pocket_names, ro1_before_pocket_asksToGo, ko1_before_pocket_asksToGo, ro1_before_pocket_tellings, ko1_before_pocket_tellings, ro1_before_pocket_slots, ko1_before_pocket_slots, ro1_before_pocket_awake, ko1_before_pocket_awake, ro1_before_pocket_answering, ko1_before_pocket_answering⟩ := id lo1_before_pocket
  obtain ⟨ko1_before_told, ro1_before_told_row, ko1_before_told_row⟩ := id lo1_before_told
  have ko1_before_tally := id lo1_before_tally
  obtain ⟨ko1_trial, ro1_trial_pocket, lo1_trial_pocket, ro1_trial_told, lo1_trial_told, ro1_trial_tally, lo1_trial_tally, ro1_trial_settings, ko1_trial_settings⟩ := id lo1_trial
  obtain ⟨ko1_trial_pocket, ro1_trial_pocket_names, ko1_trial_pocket_names, ro1_trial_pocket_asksToGo, ko1_trial_pocket_asksToGo, ro1_trial_pocket_tellings, ko1_trial_pocket_tellings, ro1_trial_pocket_slots, ko1_trial_pocket_slots, ro1_trial_pocket_awake, ko1_trial_pocket_awake, ro1_trial_pocket_answering, ko1_trial_pocket_answering⟩ := id lo1_trial_pocket
  obtain ⟨ko1_trial_told, ro1_trial_told_row, ko1_trial_told_row⟩ := id lo1_trial_told
  have ko1_trial_tally := id lo1_trial_tally
  obtain ⟨ko1_snapshot, ro1_snapshot_pocket, lo1_snapshot_pocket, ro1_snapshot_told, lo1_snapshot_told, ro1_snapshot_tally, lo1_snapshot_tally, ro1_snapshot_settings, ko1_snapshot_settings⟩ := id lo1_snapshot
  obtain ⟨ko1_snapshot_pocket, ro1_snapshot_pocket_names, ko1_snapshot_pocket_names, ro1_snapshot_pocket_asksToGo, ko1_snapshot_pocket_asksToGo, ro1_snapshot_pocket_tellings, ko1_snapshot_pocket_tellings, ro1_snapshot_pocket_slots, ko1_snapshot_pocket_slots, ro1_snapshot_pocket_awake, ko1_snapshot_pocket_awake, ro1_snapshot_pocket_answering, ko1_snapshot_pocket_answering⟩ := id lo1_snapshot_pocket
  obtain ⟨ko1_snapshot_told, ro1_snapshot_told_row, ko1_snapshot_told_row⟩ := id lo1_snapshot_told
  have ko1_snapshot_tally := id lo1_snapshot_tally
  obtain ⟨ko1_history, ro1_history_rows, ko1_history_rows⟩ := id lo1_history
  obtain ⟨ko1_text, ro1_text_characters, ko1_text_characters, ro1_text_kinds, ko1_text_kinds, ro1_text_numbers, ko1_text_numbers⟩ := id lo1_text
  refine aw_iload_n (pc := 0) dX6_told_0 rfl ?_
  refine aw_if_ge (pc := 1) (tgt := 7) dX6_told_1 (by decide) (fun c1 => ?_) (fun c1 => ?_)
  · replace g := g.1 c1
    refine aw_iload_n (pc := 7) dX6_told_7 rfl ?_
    refine aw_aload_n (pc := 8) dX6_told_8 rfl ?_
    refine aw_getr (pc := 9) (r := some 2) dX6_told_9 fl_X6_10 (by decide) rfl ko1 ro1_state ?_
    refine aw_getr (pc := 12) (r := some 10) dX6_told_12 fl_X6_150 (by decide) rfl ko1_state ro1_state_told ?_
    refine aw_invV (pc := 15) (md' := m_X5_names) (ci := 5) (as := []) dX6_told_15 mo_X5_names im_X5_names se_X5_names ml_X6_154 rfl ko1_state_told rfl hd (Nat.le_of_ble_eq_true rfl) (Nat.le_of_ble_eq_true rfl) (Nat.le_of_ble_eq_true rfl) ?_
    refine am_mono g (fun _ h2 _ ok_h2 g => ?_)
    obtain ⟨v3, rfl, ss_h2, g⟩ := g
    replace hL := QM.ss hL ss_h2
    obtain ⟨ko1, ro1_state, lo1_state, ro1_before, lo1_before, ro1_trial, lo1_trial, ro1_snapshot, lo1_snapshot, ro1_history, lo1_history, ro1_text, lo1_text⟩ := id hL
    obtain ⟨ko1_state, ro1_state_pocket, lo1_state_pocket, ro1_state_told, lo1_state_told, ro1_state_tally, lo1_state_tally, ro1_state_settings, ko1_state_settings⟩ := id lo1_state
    obtain ⟨ko1_state_pocket, ro1_state_pocket_names, ko1_state_pocket_names, ro1_state_pocket_asksToGo, ko1_state_pocket_asksToGo, ro1_state_pocket_tellings, ko1_state_pocket_tellings, ro1_state_pocket_slots, ko1_state_pocket_slots, ro1_state_pocket_awake, ko1_state_pocket_awake, ro1_state_pocket_answering, ko1_state_pocket_answering⟩ := id lo1_state_pocket
    obtain ⟨ko1_state_told, ro1_state_told_row, ko1_state_told_row⟩ := id lo1_state_told
    have ko1_state_tally := id lo1_state_tally
    obtain ⟨ko1_before, ro1_before_pocket, lo1_before_pocket, ro1_before_told, lo1_before_told, ro1_before_tally, lo1_before_tally, ro1_before_settings, ko1_before_settings⟩ := id lo1_before
    obtain ⟨ko1_before_pocket, ro1_before_pocket_names, ko1_before_pocket_names, ro1_before_pocket_asksToGo, ko1_before_pocket_asksToGo, ro1_before_pocket_tellings, ko1_before_pocket_tellings, ro1_before_pocket_slots, ko1_before_pocket_slots, ro1_before_pocket_awake, ko1_before_pocket_awake, ro1_before_pocket_answering, ko1_before_pocket_answering⟩ := id lo1_before_pocket
    obtain ⟨ko1_before_told, ro1_before_told_row, ko1_before_told_row⟩ := id lo1_before_told
    have ko1_before_tally := id lo1_before_tally
    obtain ⟨ko1_trial, ro1_trial_pocket, lo1_trial_pocket, ro1_trial_told, lo1_trial_told, ro1_trial_tally, lo1_trial_tally, ro1_trial_settings, ko1_trial_settings⟩ := id lo1_trial
    obtain ⟨ko1_trial_pocket, ro1_trial_pocket_names, ko1_trial_pocket_names, ro1_trial_pocket_asksToGo, ko1_trial_pocket_asksToGo, ro1_trial_pocket_tellings, ko1_trial_pocket_tellings, ro1_trial_pocket_slots, ko1_trial_pocket_slots, ro1_trial_pocket_awake, ko1_trial_pocket_awake, ro1_trial_pocket_answering, ko1_trial_pocket_answering⟩ := id lo1_trial_pocket
    obtain ⟨ko1_trial_told, ro1_trial_told_row, ko1_trial_told_row⟩ := id lo1_trial_told
    have ko1_trial_tally := id lo1_trial_tally
    obtain ⟨ko1_snapshot, ro1_snapshot_pocket, lo1_snapshot_pocket, ro1_snapshot_told, lo1_snapshot_told, ro1_snapshot_tally, lo1_snapshot_tally, ro1_snapshot_settings, ko1_snapshot_settings⟩ := id lo1_snapshot
    obtain ⟨ko1_snapshot_pocket, ro1_snapshot_pocket_names, ko1_snapshot_pocket_names, ro1_snapshot_pocket_asksToGo, ko1_snapshot_pocket_asksToGo, ro1_snapshot_pocket_tellings, ko1_snapshot_pocket_tellings, ro1_snapshot_pocket_slots, ko1_snapshot_pocket_slots, ro1_snapshot_pocket_awake, ko1_snapshot_pocket_awake, ro1_snapshot_pocket_answering, ko1_snapshot_pocket_answering⟩ := id lo1_snapshot_pocket
    obtain ⟨ko1_snapshot_told, ro1_snapshot_told_row, ko1_snapshot_told_row⟩ := id lo1_snapshot_told
    have ko1_snapshot_tally := id lo1_snapshot_tally
    obtain ⟨ko1_history, ro1_history_rows, ko1_history_rows⟩ := id lo1_history
    obtain ⟨ko1_text, ro1_text_characters, ko1_text_characters, ro1_text_kinds, ko1_text_kinds, ro1_text_numbers, ko1_text_numbers⟩ := id lo1_text
    show AW m_X6_told d none Q 18 [some (.inr (some 1)), some (.inl x1)] [(.inl v3), (.inl x1)] h2 (0, 0)
    refine aw_icmp_ge (pc := 18) (tgt := 35) dX6_told_18 (by decide) (fun c4 => ?_) (fun c4 => ?_)
    · replace g := g.1 c4
      refine aw_bipush (pc := 35) dX6_told_35 ?_
      exact ax_ireturn (pc := 37) dX6_told_37 rfl g (by decide) (by decide)
    · replace g := g.2 c4
      refine aw_aload_n (pc := 21) dX6_told_21 rfl ?_
      refine aw_getr (pc := 22) (r := some 2) dX6_told_22 fl_X6_10 (by decide) rfl ko1 ro1_state ?_
      refine aw_getr (pc := 25) (r := some 10) dX6_told_25 fl_X6_150 (by decide) rfl ko1_state ro1_state_told ?_
      refine aw_iload_n (pc := 28) dX6_told_28 rfl ?_
      refine aw_invV (pc := 29) (md' := m_X5_nameAt) (ci := 5) (as := [(.inl x1)]) dX6_told_29 mo_X5_nameAt im_X5_nameAt se_X5_nameAt ml_X6_159 rfl ko1_state_told rfl hd (Nat.le_of_ble_eq_true rfl) (Nat.le_of_ble_eq_true rfl) (Nat.le_of_ble_eq_true rfl) ?_
      refine am_mono g (fun _ h5 _ ok_h5 g => ?_)
      obtain ⟨v6, rfl, ss_h5, g⟩ := g
      replace hL := QM.ss hL ss_h5
      obtain ⟨ko1, ro1_state, lo1_state, ro1_before, lo1_before, ro1_trial, lo1_trial, ro1_snapshot, lo1_snapshot, ro1_history, lo1_history, ro1_text, lo1_text⟩ := id hL
      obtain ⟨ko1_state, ro1_state_pocket, lo1_state_pocket, ro1_state_told, lo1_state_told, ro1_state_tally, lo1_state_tally, ro1_state_settings, ko1_state_settings⟩ := id lo1_state
      obtain ⟨ko1_state_pocket, ro1_state_pocket_names, ko1_state_pocket_names, ro1_state_pocket_asksToGo, ko1_state_pocket_asksToGo, ro1_state_pocket_tellings, ko1_state_pocket_tellings, ro1_state_pocket_slots, ko1_state_pocket_slots, ro1_state_pocket_awake, ko1_state_pocket_awake, ro1_state_pocket_answering, ko1_state_pocket_answering⟩ := id lo1_state_pocket
      obtain ⟨ko1_state_told, ro1_state_told_row, ko1_state_told_row⟩ := id lo1_state_told
      have ko1_state_tally := id lo1_state_tally
      obtain ⟨ko1_before, ro1_before_pocket, lo1_before_pocket, ro1_before_told, lo1_before_told, ro1_before_tally, lo1_before_tally, ro1_before_settings, ko1_before_settings⟩ := id lo1_before
      obtain ⟨ko1_before_pocket, ro1_before_pocket_names, ko1_before_pocket_names, ro1_before_pocket_asksToGo, ko1_before_pocket_asksToGo, ro1_before_pocket_tellings, ko1_before_pocket_tellings, ro1_before_pocket_slots, ko1_before_pocket_slots, ro1_before_pocket_awake, ko1_before_pocket_awake, ro1_before_pocket_answering, ko1_before_pocket_answering⟩ := id lo1_before_pocket
      obtain ⟨ko1_before_told, ro1_before_told_row, ko1_before_told_row⟩ := id lo1_before_told
      have ko1_before_tally := id lo1_before_tally
      obtain ⟨ko1_trial, ro1_trial_pocket, lo1_trial_pocket, ro1_trial_told, lo1_trial_told, ro1_trial_tally, lo1_trial_tally, ro1_trial_settings, ko1_trial_settings⟩ := id lo1_trial
      obtain ⟨ko1_trial_pocket, ro1_trial_pocket_names, ko1_trial_pocket_names, ro1_trial_pocket_asksToGo, ko1_trial_pocket_asksToGo, ro1_trial_pocket_tellings, ko1_trial_pocket_tellings, ro1_trial_pocket_slots, ko1_trial_pocket_slots, ro1_trial_pocket_awake, ko1_trial_pocket_awake, ro1_trial_pocket_answering, ko1_trial_pocket_answering⟩ := id lo1_trial_pocket
      obtain ⟨ko1_trial_told, ro1_trial_told_row, ko1_trial_told_row⟩ := id lo1_trial_told
      have ko1_trial_tally := id lo1_trial_tally
      obtain ⟨ko1_snapshot, ro1_snapshot_pocket, lo1_snapshot_pocket, ro1_snapshot_told, lo1_snapshot_told, ro1_snapshot_tally, lo1_snapshot_tally, ro1_snapshot_settings, ko1_snapshot_settings⟩ := id lo1_snapshot
      obtain ⟨ko1_snapshot_pocket, ro1_snapshot_pocket_names, ko1_snapshot_pocket_names, ro1_snapshot_pocket_asksToGo, ko1_snapshot_pocket_asksToGo, ro1_snapshot_pocket_tellings, ko1_snapshot_pocket_tellings, ro1_snapshot_pocket_slots, ko1_snapshot_pocket_slots, ro1_snapshot_pocket_awake, ko1_snapshot_pocket_awake, ro1_snapshot_pocket_answering, ko1_snapshot_pocket_answering⟩ := id lo1_snapshot_pocket
      obtain ⟨ko1_snapshot_told, ro1_snapshot_told_row, ko1_snapshot_told_row⟩ := id lo1_snapshot_told
      have ko1_snapshot_tally := id lo1_snapshot_tally
      obtain ⟨ko1_history, ro1_history_rows, ko1_history_rows⟩ := id lo1_history
      obtain ⟨ko1_text, ro1_text_characters, ko1_text_characters, ro1_text_kinds, ko1_text_kinds, ro1_text_numbers, ko1_text_numbers⟩ := id lo1_text
      show AW m_X6_told d none Q 32 [some (.inr (some 1)), some (.inl x1)] [(.inl v6)] h5 (0, 0)
      refine aw_goto (pc := 32) (tgt := 37) dX6_told_32 (by decide) ?_
      exact ax_ireturn (pc := 37) dX6_told_37 rfl g (by decide) (by decide)
  · replace g := g.2 c1
    refine aw_bipush (pc := 4) dX6_told_4 ?_
    exact ax_ireturn (pc := 6) dX6_told_6 rfl g (by decide) (by decide)
set_option maxRecDepth 100000 in
set_option maxHeartbeats 4000000 in
theorem vc_X6_total {d : Nat} {Q : Option Int → AH → Prop} {h : AH} {x1 : Int} (hd : 1 ≤ d) (hL : QM h)
  (g :
    (((x1 < 0 ∨ 16 < x1 ∨ x1 = 4 ∨ x1 = 5 ∨ x1 = 6 ∨ x1 = 7 ∨ x1 = 8 ∨ x1 = 9 ∨ x1 = 10 ∨ x1 = 14) → (
      AM (d - 1) m_X3_numberOf [(.inr (some 12)), (.inl x1)] h (fun r h2 => 
        ∃ v3, r = some v3 ∧ SS h h2 ∧
        Q (some v3) h2)
    )) ∧
    (((x1 = 0) → (
      AM (d - 1) m_X1_cards [(.inr (some 3))] h (fun r h15 => 
        ∃ v16, r = some v16 ∧ SS h h15 ∧
        Q (some v16) h15)
    )) ∧
    (((x1 = 1) → (
      AM (d - 1) m_X1_awakeCards [(.inr (some 3))] h (fun r h18 => 
        ∃ v19, r = some v19 ∧ SS h h18 ∧
        Q (some v19) h18)
    )) ∧
    (((x1 = 2) → (
      AM (d - 1) m_X1_leavingCards [(.inr (some 3))] h (fun r h21 => 
        ∃ v22, r = some v22 ∧ SS h h21 ∧
        Q (some v22) h21)
    )) ∧
    (((x1 = 3) → (
      AM (d - 1) m_X5_names [(.inr (some 10))] h (fun r h24 => 
        ∃ v25, r = some v25 ∧ SS h h24 ∧
        Q (some v25) h24)
    )) ∧
    (((x1 = 11) → (
      AM (d - 1) m_X2_valueOf [(.inr (some 2)), (.inl 0)] h (fun r h27 => 
        ∃ v28, r = some v28 ∧ SS h h27 ∧
        Q (some v28) h27)
    )) ∧
    (((x1 = 12) → (
      AM (d - 1) m_X2_valueOf [(.inr (some 2)), (.inl 1)] h (fun r h30 => 
        ∃ v31, r = some v31 ∧ SS h h30 ∧
        Q (some v31) h30)
    )) ∧
    (((x1 = 13) → (
      Q (some (hi h 2 4)) h
    )) ∧
    (((x1 = 15) → (
      AM (d - 1) m_X0_states [(.inr (some 50))] h (fun r h34 => 
        ∃ v35, r = some v35 ∧ SS h h34 ∧
        Q (some v35) h34)
    )) ∧
    (((x1 = 16) → (
      AM (d - 1) m_X4_length [(.inr (some 100))] h (fun r h37 => 
        ∃ v38, r = some v38 ∧ SS h h37 ∧
        Q (some v38) h37)
    ))))))))))))) :
  AM d m_X6_total [(.inr (some 1)), (.inl x1)] h Q := by
  refine am_body mo_X6_total (Nat.le_of_ble_eq_true rfl) ?_
  show AW m_X6_total d none Q 0 [some (.inr (some 1)), some (.inl x1)] [] h (0, 0)
  obtain ⟨ko1, ro1_state, lo1_state, ro1_before, lo1_before, ro1_trial, lo1_trial, ro1_snapshot, lo1_snapshot, ro1_history, lo1_history, ro1_text, lo1_text⟩ := id hL
  obtain ⟨ko1_state, ro1_state_pocket, lo1_state_pocket, ro1_state_told, lo1_state_told, ro1_state_tally, lo1_state_tally, ro1_state_settings, ko1_state_settings⟩ := id lo1_state
  obtain ⟨ko1_state_pocket, ro1_state_pocket_names, ko1_state_pocket_names, ro1_state_pocket_asksToGo, ko1_state_pocket_asksToGo, ro1_state_pocket_tellings, ko1_state_pocket_tellings, ro1_state_pocket_slots, ko1_state_pocket_slots, ro1_state_pocket_awake, ko1_state_pocket_awake, ro1_state_pocket_answering, ko1_state_pocket_answering⟩ := id lo1_state_pocket
  obtain ⟨ko1_state_told, ro1_state_told_row, ko1_state_told_row⟩ := id lo1_state_told
  have ko1_state_tally := id lo1_state_tally
  obtain ⟨ko1_before, ro1_before_pocket, lo1_before_pocket, ro1_before_told, lo1_before_told, ro1_before_tally, lo1_before_tally, ro1_before_settings, ko1_before_settings⟩ := id lo1_before
  obtain ⟨ko1_before_pocket, ro1_before_pocket_names, ko1_before_pocket_names, ro1_before_pocket_asksToGo, ko1_before_pocket_asksToGo, ro1_before_pocket_tellings, ko1_before_pocket_tellings, ro1_before_pocket_slots, ko1_before_pocket_slots, ro1_before_pocket_awake, ko1_before_pocket_awake, ro1_before_pocket_answering, ko1_before_pocket_answering⟩ := id lo1_before_pocket
  obtain ⟨ko1_before_told, ro1_before_told_row, ko1_before_told_row⟩ := id lo1_before_told
  have ko1_before_tally := id lo1_before_tally
  obtain ⟨ko1_trial, ro1_trial_pocket, lo1_trial_pocket, ro1_trial_told, lo1_trial_told, ro1_trial_tally, lo1_trial_tally, ro1_trial_settings, ko1_trial_settings⟩ := id lo1_trial
  obtain ⟨ko1_trial_pocket, ro1_trial_pocket_names, ko1_trial_pocket_names, ro1_trial_pocket_asksToGo, ko1_trial_pocket_asksToGo, ro1_trial_pocket_tellings, ko1_trial_pocket_tellings, ro1_trial_pocket_slots, ko1_trial_pocket_slots, ro1_trial_pocket_awake, ko1_trial_pocket_awake, ro1_trial_pocket_answering, ko1_trial_pocket_answering⟩ := id lo1_trial_pocket
  obtain ⟨ko1_trial_told, ro1_trial_told_row, ko1_trial_told_row⟩ := id lo1_trial_told
  have ko1_trial_tally := id lo1_trial_tally
  obtain ⟨ko1_snapshot, ro1_snapshot_pocket, lo1_snapshot_pocket, ro1_snapshot_told, lo1_snapshot_told, ro1_snapshot_tally, lo1_snapshot_tally, ro1_snapshot_settings, ko1_snapshot_settings⟩ := id lo1_snapshot
  obtain ⟨ko1_snapshot_pocket, ro1_snapshot_pocket_names, ko1_snapshot_pocket_names, ro1_snapshot_pocket_asksToGo, ko1_snapshot_pocket_asksToGo, ro1_snapshot_pocket_tellings, ko1_snapshot_pocket_tellings, ro1_snapshot_pocket_slots, ko1_snapshot_pocket_slots, ro1_snapshot_pocket_awake, ko1_snapshot_pocket_awake, ro1_snapshot_pocket_answering, ko1_snapshot_pocket_answering⟩ := id lo1_snapshot_pocket
  obtain ⟨ko1_snapshot_told, ro1_snapshot_told_row, ko1_snapshot_told_row⟩ := id lo1_snapshot_told
  have ko1_snapshot_tally := id lo1_snapshot_tally
  obtain ⟨ko1_history, ro1_history_rows, ko1_history_rows⟩ := id lo1_history
  obtain ⟨ko1_text, ro1_text_characters, ko1_text_characters, ro1_text_kinds, ko1_text_kinds, ro1_text_numbers, ko1_text_numbers⟩ := id lo1_text
  refine aw_iload_n (pc := 0) dX6_total_0 rfl ?_
  by_cases c1 : x1 < 0 ∨ 16 < x1
  · replace g := g.1 (by omega)
    refine aw_tblOut (pc := 1) (tgt := 170) dX6_total_1 c1 (by decide) ?_
    refine aw_aload_n (pc := 170) dX6_total_170 rfl ?_
    refine aw_getr (pc := 171) (r := some 2) dX6_total_171 fl_X6_10 (by decide) rfl ko1 ro1_state ?_
    refine aw_getr (pc := 174) (r := some 12) dX6_total_174 fl_X6_179 (by decide) rfl ko1_state ro1_state_tally ?_
    refine aw_iload_n (pc := 177) dX6_total_177 rfl ?_
    refine aw_invV (pc := 178) (md' := m_X3_numberOf) (ci := 3) (as := [(.inl x1)]) dX6_total_178 mo_X3_numberOf im_X3_numberOf se_X3_numberOf ml_X6_183 rfl ko1_state_tally rfl hd (Nat.le_of_ble_eq_true rfl) (Nat.le_of_ble_eq_true rfl) (Nat.le_of_ble_eq_true rfl) ?_
    refine am_mono g (fun _ h2 _ ok_h2 g => ?_)
    obtain ⟨v3, rfl, ss_h2, g⟩ := g
    replace hL := QM.ss hL ss_h2
    obtain ⟨ko1, ro1_state, lo1_state, ro1_before, lo1_before, ro1_trial, lo1_trial, ro1_snapshot, lo1_snapshot, ro1_history, lo1_history, ro1_text, lo1_text⟩ := id hL
    obtain ⟨ko1_state, ro1_state_pocket, lo1_state_pocket, ro1_state_told, lo1_state_told, ro1_state_tally, lo1_state_tally, ro1_state_settings, ko1_state_settings⟩ := id lo1_state
    obtain ⟨ko1_state_pocket, ro1_state_pocket_names, ko1_state_pocket_names, ro1_state_pocket_asksToGo, ko1_state_pocket_asksToGo, ro1_state_pocket_tellings, ko1_state_pocket_tellings, ro1_state_pocket_slots, ko1_state_pocket_slots, ro1_state_pocket_awake, ko1_state_pocket_awake, ro1_state_pocket_answering, ko1_state_pocket_answering⟩ := id lo1_state_pocket
    obtain ⟨ko1_state_told, ro1_state_told_row, ko1_state_told_row⟩ := id lo1_state_told
    have ko1_state_tally := id lo1_state_tally
    obtain ⟨ko1_before, ro1_before_pocket, lo1_before_pocket, ro1_before_told, lo1_before_told, ro1_before_tally, lo1_before_tally, ro1_before_settings, ko1_before_settings⟩ := id lo1_before
    obtain ⟨ko1_before_pocket, ro1_before_pocket_names, ko1_before_pocket_names, ro1_before_pocket_asksToGo, ko1_before_pocket_asksToGo, ro1_before_pocket_tellings, ko1_before_pocket_tellings, ro1_before_pocket_slots, ko1_before_pocket_slots, ro1_before_pocket_awake, ko1_before_pocket_awake, ro1_before_pocket_answering, ko1_before_pocket_answering⟩ := id lo1_before_pocket
    obtain ⟨ko1_before_told, ro1_before_told_row, ko1_before_told_row⟩ := id lo1_before_told
    have ko1_before_tally := id lo1_before_tally
    obtain ⟨ko1_trial, ro1_trial_pocket, lo1_trial_pocket, ro1_trial_told, lo1_trial_told, ro1_trial_tally, lo1_trial_tally, ro1_trial_settings, ko1_trial_settings⟩ := id lo1_trial
    obtain ⟨ko1_trial_pocket, ro1_trial_pocket_names, ko1_trial_pocket_names, ro1_trial_pocket_asksToGo, ko1_trial_pocket_asksToGo, ro1_trial_pocket_tellings, ko1_trial_pocket_tellings, ro1_trial_pocket_slots, ko1_trial_pocket_slots, ro1_trial_pocket_awake, ko1_trial_pocket_awake, ro1_trial_pocket_answering, ko1_trial_pocket_answering⟩ := id lo1_trial_pocket
    obtain ⟨ko1_trial_told, ro1_trial_told_row, ko1_trial_told_row⟩ := id lo1_trial_told
    have ko1_trial_tally := id lo1_trial_tally
    obtain ⟨ko1_snapshot, ro1_snapshot_pocket, lo1_snapshot_pocket, ro1_snapshot_told, lo1_snapshot_told, ro1_snapshot_tally, lo1_snapshot_tally, ro1_snapshot_settings, ko1_snapshot_settings⟩ := id lo1_snapshot
    obtain ⟨ko1_snapshot_pocket, ro1_snapshot_pocket_names, ko1_snapshot_pocket_names, ro1_snapshot_pocket_asksToGo, ko1_snapshot_pocket_asksToGo, ro1_snapshot_pocket_tellings, ko1_snapshot_pocket_tellings, ro1_snapshot_pocket_slots, ko1_snapshot_pocket_slots, ro1_snapshot_pocket_awake, ko1_snapshot_pocket_awake, ro1_snapshot_pocket_answering, ko1_snapshot_pocket_answering⟩ := id lo1_snapshot_pocket
    obtain ⟨ko1_snapshot_told, ro1_snapshot_told_row, ko1_snapshot_told_row⟩ := id lo1_snapshot_told
    have ko1_snapshot_tally := id lo1_snapshot_tally
    obtain ⟨ko1_history, ro1_history_rows, ko1_history_rows⟩ := id lo1_history
    obtain ⟨ko1_text, ro1_text_characters, ko1_text_characters, ro1_text_kinds, ko1_text_kinds, ro1_text_numbers, ko1_text_numbers⟩ := id lo1_text
    show AW m_X6_total d none Q 181 [some (.inr (some 1)), some (.inl x1)] [(.inl v3)] h2 (0, 0)
    exact ax_ireturn (pc := 181) dX6_total_181 rfl g (by decide) (by decide)
  · have g0 := g.1
    replace g := g.2
    by_cases c6 : x1 = 4
    · replace g := g0 (by omega)
      refine aw_tblIn (pc := 1) (tgt := 170) dX6_total_1 (by omega) (by omega) (by rw [c6]; rfl) (by decide) ?_
      refine aw_aload_n (pc := 170) dX6_total_170 rfl ?_
      refine aw_getr (pc := 171) (r := some 2) dX6_total_171 fl_X6_10 (by decide) rfl ko1 ro1_state ?_
      refine aw_getr (pc := 174) (r := some 12) dX6_total_174 fl_X6_179 (by decide) rfl ko1_state ro1_state_tally ?_
      refine aw_iload_n (pc := 177) dX6_total_177 rfl ?_
      refine aw_invV (pc := 178) (md' := m_X3_numberOf) (ci := 3) (as := [(.inl x1)]) dX6_total_178 mo_X3_numberOf im_X3_numberOf se_X3_numberOf ml_X6_183 rfl ko1_state_tally rfl hd (Nat.le_of_ble_eq_true rfl) (Nat.le_of_ble_eq_true rfl) (Nat.le_of_ble_eq_true rfl) ?_
      refine am_mono g (fun _ h4 _ ok_h4 g => ?_)
      obtain ⟨v5, rfl, ss_h4, g⟩ := g
      replace hL := QM.ss hL ss_h4
      obtain ⟨ko1, ro1_state, lo1_state, ro1_before, lo1_before, ro1_trial, lo1_trial, ro1_snapshot, lo1_snapshot, ro1_history, lo1_history, ro1_text, lo1_text⟩ := id hL
      obtain ⟨ko1_state, ro1_state_pocket, lo1_state_pocket, ro1_state_told, lo1_state_told, ro1_state_tally, lo1_state_tally, ro1_state_settings, ko1_state_settings⟩ := id lo1_state
      obtain ⟨ko1_state_pocket, ro1_state_pocket_names, ko1_state_pocket_names, ro1_state_pocket_asksToGo, ko1_state_pocket_asksToGo, ro1_state_pocket_tellings, ko1_state_pocket_tellings, ro1_state_pocket_slots, ko1_state_pocket_slots, ro1_state_pocket_awake, ko1_state_pocket_awake, ro1_state_pocket_answering, ko1_state_pocket_answering⟩ := id lo1_state_pocket
      obtain ⟨ko1_state_told, ro1_state_told_row, ko1_state_told_row⟩ := id lo1_state_told
      have ko1_state_tally := id lo1_state_tally
      obtain ⟨ko1_before, ro1_before_pocket, lo1_before_pocket, ro1_before_told, lo1_before_told, ro1_before_tally, lo1_before_tally, ro1_before_settings, ko1_before_settings⟩ := id lo1_before
      obtain ⟨ko1_before_pocket, ro1_before_pocket_names, ko1_before_pocket_names, ro1_before_pocket_asksToGo, ko1_before_pocket_asksToGo, ro1_before_pocket_tellings, ko1_before_pocket_tellings, ro1_before_pocket_slots, ko1_before_pocket_slots, ro1_before_pocket_awake, ko1_before_pocket_awake, ro1_before_pocket_answering, ko1_before_pocket_answering⟩ := id lo1_before_pocket
      obtain ⟨ko1_before_told, ro1_before_told_row, ko1_before_told_row⟩ := id lo1_before_told
      have ko1_before_tally := id lo1_before_tally
      obtain ⟨ko1_trial, ro1_trial_pocket, lo1_trial_pocket, ro1_trial_told, lo1_trial_told, ro1_trial_tally, lo1_trial_tally, ro1_trial_settings, ko1_trial_settings⟩ := id lo1_trial
      obtain ⟨ko1_trial_pocket, ro1_trial_pocket_names, ko1_trial_pocket_names, ro1_trial_pocket_asksToGo, ko1_trial_pocket_asksToGo, ro1_trial_pocket_tellings, ko1_trial_pocket_tellings, ro1_trial_pocket_slots, ko1_trial_pocket_slots, ro1_trial_pocket_awake, ko1_trial_pocket_awake, ro1_trial_pocket_answering, ko1_trial_pocket_answering⟩ := id lo1_trial_pocket
      obtain ⟨ko1_trial_told, ro1_trial_told_row, ko1_trial_told_row⟩ := id lo1_trial_told
      have ko1_trial_tally := id lo1_trial_tally
      obtain ⟨ko1_snapshot, ro1_snapshot_pocket, lo1_snapshot_pocket, ro1_snapshot_told, lo1_snapshot_told, ro1_snapshot_tally, lo1_snapshot_tally, ro1_snapshot_settings, ko1_snapshot_settings⟩ := id lo1_snapshot
      obtain ⟨ko1_snapshot_pocket, ro1_snapshot_pocket_names, ko1_snapshot_pocket_names, ro1_snapshot_pocket_asksToGo, ko1_snapshot_pocket_asksToGo, ro1_snapshot_pocket_tellings, ko1_snapshot_pocket_tellings, ro1_snapshot_pocket_slots, ko1_snapshot_pocket_slots, ro1_snapshot_pocket_awake, ko1_snapshot_pocket_awake, ro1_snapshot_pocket_answering, ko1_snapshot_pocket_answering⟩ := id lo1_snapshot_pocket
      obtain ⟨ko1_snapshot_told, ro1_snapshot_told_row, ko1_snapshot_told_row⟩ := id lo1_snapshot_told
      have ko1_snapshot_tally := id lo1_snapshot_tally
      obtain ⟨ko1_history, ro1_history_rows, ko1_history_rows⟩ := id lo1_history
      obtain ⟨ko1_text, ro1_text_characters, ko1_text_characters, ro1_text_kinds, ko1_text_kinds, ro1_text_numbers, ko1_text_numbers⟩ := id lo1_text
      show AW m_X6_total d none Q 181 [some (.inr (some 1)), some (.inl x1)] [(.inl v5)] h4 (0, 0)
      exact ax_ireturn (pc := 181) dX6_total_181 rfl g (by decide) (by decide)
    by_cases c7 : x1 = 5
    · replace g := g0 (by omega)
      refine aw_tblIn (pc := 1) (tgt := 170) dX6_total_1 (by omega) (by omega) (by rw [c7]; rfl) (by decide) ?_
      refine aw_aload_n (pc := 170) dX6_total_170 rfl ?_
      refine aw_getr (pc := 171) (r := some 2) dX6_total_171 fl_X6_10 (by decide) rfl ko1 ro1_state ?_
      refine aw_getr (pc := 174) (r := some 12) dX6_total_174 fl_X6_179 (by decide) rfl ko1_state ro1_state_tally ?_
      refine aw_iload_n (pc := 177) dX6_total_177 rfl ?_
      refine aw_invV (pc := 178) (md' := m_X3_numberOf) (ci := 3) (as := [(.inl x1)]) dX6_total_178 mo_X3_numberOf im_X3_numberOf se_X3_numberOf ml_X6_183 rfl ko1_state_tally rfl hd (Nat.le_of_ble_eq_true rfl) (Nat.le_of_ble_eq_true rfl) (Nat.le_of_ble_eq_true rfl) ?_
      refine am_mono g (fun _ h4 _ ok_h4 g => ?_)
      obtain ⟨v5, rfl, ss_h4, g⟩ := g
      replace hL := QM.ss hL ss_h4
      obtain ⟨ko1, ro1_state, lo1_state, ro1_before, lo1_before, ro1_trial, lo1_trial, ro1_snapshot, lo1_snapshot, ro1_history, lo1_history, ro1_text, lo1_text⟩ := id hL
      obtain ⟨ko1_state, ro1_state_pocket, lo1_state_pocket, ro1_state_told, lo1_state_told, ro1_state_tally, lo1_state_tally, ro1_state_settings, ko1_state_settings⟩ := id lo1_state
      obtain ⟨ko1_state_pocket, ro1_state_pocket_names, ko1_state_pocket_names, ro1_state_pocket_asksToGo, ko1_state_pocket_asksToGo, ro1_state_pocket_tellings, ko1_state_pocket_tellings, ro1_state_pocket_slots, ko1_state_pocket_slots, ro1_state_pocket_awake, ko1_state_pocket_awake, ro1_state_pocket_answering, ko1_state_pocket_answering⟩ := id lo1_state_pocket
      obtain ⟨ko1_state_told, ro1_state_told_row, ko1_state_told_row⟩ := id lo1_state_told
      have ko1_state_tally := id lo1_state_tally
      obtain ⟨ko1_before, ro1_before_pocket, lo1_before_pocket, ro1_before_told, lo1_before_told, ro1_before_tally, lo1_before_tally, ro1_before_settings, ko1_before_settings⟩ := id lo1_before
      obtain ⟨ko1_before_pocket, ro1_before_pocket_names, ko1_before_pocket_names, ro1_before_pocket_asksToGo, ko1_before_pocket_asksToGo, ro1_before_pocket_tellings, ko1_before_pocket_tellings, ro1_before_pocket_slots, ko1_before_pocket_slots, ro1_before_pocket_awake, ko1_before_pocket_awake, ro1_before_pocket_answering, ko1_before_pocket_answering⟩ := id lo1_before_pocket
      obtain ⟨ko1_before_told, ro1_before_told_row, ko1_before_told_row⟩ := id lo1_before_told
      have ko1_before_tally := id lo1_before_tally
      obtain ⟨ko1_trial, ro1_trial_pocket, lo1_trial_pocket, ro1_trial_told, lo1_trial_told, ro1_trial_tally, lo1_trial_tally, ro1_trial_settings, ko1_trial_settings⟩ := id lo1_trial
      obtain ⟨ko1_trial_pocket, ro1_trial_pocket_names, ko1_trial_pocket_names, ro1_trial_pocket_asksToGo, ko1_trial_pocket_asksToGo, ro1_trial_pocket_tellings, ko1_trial_pocket_tellings, ro1_trial_pocket_slots, ko1_trial_pocket_slots, ro1_trial_pocket_awake, ko1_trial_pocket_awake, ro1_trial_pocket_answering, ko1_trial_pocket_answering⟩ := id lo1_trial_pocket
      obtain ⟨ko1_trial_told, ro1_trial_told_row, ko1_trial_told_row⟩ := id lo1_trial_told
      have ko1_trial_tally := id lo1_trial_tally
      obtain ⟨ko1_snapshot, ro1_snapshot_pocket, lo1_snapshot_pocket, ro1_snapshot_told, lo1_snapshot_told, ro1_snapshot_tally, lo1_snapshot_tally, ro1_snapshot_settings, ko1_snapshot_settings⟩ := id lo1_snapshot
      obtain ⟨ko1_snapshot_pocket, ro1_snapshot_pocket_names, ko1_snapshot_pocket_names, ro1_snapshot_pocket_asksToGo, ko1_snapshot_pocket_asksToGo, ro1_snapshot_pocket_tellings, ko1_snapshot_pocket_tellings, ro1_snapshot_pocket_slots, ko1_snapshot_pocket_slots, ro1_snapshot_pocket_awake, ko1_snapshot_pocket_awake, ro1_snapshot_pocket_answering, ko1_snapshot_pocket_answering⟩ := id lo1_snapshot_pocket
      obtain ⟨ko1_snapshot_told, ro1_snapshot_told_row, ko1_snapshot_told_row⟩ := id lo1_snapshot_told
      have ko1_snapshot_tally := id lo1_snapshot_tally
      obtain ⟨ko1_history, ro1_history_rows, ko1_history_rows⟩ := id lo1_history
      obtain ⟨ko1_text, ro1_text_characters, ko1_text_characters, ro1_text_kinds, ko1_text_kinds, ro1_text_numbers, ko1_text_numbers⟩ := id lo1_text
      show AW m_X6_total d none Q 181 [some (.inr (some 1)), some (.inl x1)] [(.inl v5)] h4 (0, 0)
      exact ax_ireturn (pc := 181) dX6_total_181 rfl g (by decide) (by decide)
    by_cases c8 : x1 = 6
    · replace g := g0 (by omega)
      refine aw_tblIn (pc := 1) (tgt := 170) dX6_total_1 (by omega) (by omega) (by rw [c8]; rfl) (by decide) ?_
      refine aw_aload_n (pc := 170) dX6_total_170 rfl ?_
      refine aw_getr (pc := 171) (r := some 2) dX6_total_171 fl_X6_10 (by decide) rfl ko1 ro1_state ?_
      refine aw_getr (pc := 174) (r := some 12) dX6_total_174 fl_X6_179 (by decide) rfl ko1_state ro1_state_tally ?_
      refine aw_iload_n (pc := 177) dX6_total_177 rfl ?_
      refine aw_invV (pc := 178) (md' := m_X3_numberOf) (ci := 3) (as := [(.inl x1)]) dX6_total_178 mo_X3_numberOf im_X3_numberOf se_X3_numberOf ml_X6_183 rfl ko1_state_tally rfl hd (Nat.le_of_ble_eq_true rfl) (Nat.le_of_ble_eq_true rfl) (Nat.le_of_ble_eq_true rfl) ?_
      refine am_mono g (fun _ h4 _ ok_h4 g => ?_)
      obtain ⟨v5, rfl, ss_h4, g⟩ := g
      replace hL := QM.ss hL ss_h4
      obtain ⟨ko1, ro1_state, lo1_state, ro1_before, lo1_before, ro1_trial, lo1_trial, ro1_snapshot, lo1_snapshot, ro1_history, lo1_history, ro1_text, lo1_text⟩ := id hL
      obtain ⟨ko1_state, ro1_state_pocket, lo1_state_pocket, ro1_state_told, lo1_state_told, ro1_state_tally, lo1_state_tally, ro1_state_settings, ko1_state_settings⟩ := id lo1_state
      obtain ⟨ko1_state_pocket, ro1_state_pocket_names, ko1_state_pocket_names, ro1_state_pocket_asksToGo, ko1_state_pocket_asksToGo, ro1_state_pocket_tellings, ko1_state_pocket_tellings, ro1_state_pocket_slots, ko1_state_pocket_slots, ro1_state_pocket_awake, ko1_state_pocket_awake, ro1_state_pocket_answering, ko1_state_pocket_answering⟩ := id lo1_state_pocket
      obtain ⟨ko1_state_told, ro1_state_told_row, ko1_state_told_row⟩ := id lo1_state_told
      have ko1_state_tally := id lo1_state_tally
      obtain ⟨ko1_before, ro1_before_pocket, lo1_before_pocket, ro1_before_told, lo1_before_told, ro1_before_tally, lo1_before_tally, ro1_before_settings, ko1_before_settings⟩ := id lo1_before
      obtain ⟨ko1_before_pocket, ro1_before_pocket_names, ko1_before_pocket_names, ro1_before_pocket_asksToGo, ko1_before_pocket_asksToGo, ro1_before_pocket_tellings, ko1_before_pocket_tellings, ro1_before_pocket_slots, ko1_before_pocket_slots, ro1_before_pocket_awake, ko1_before_pocket_awake, ro1_before_pocket_answering, ko1_before_pocket_answering⟩ := id lo1_before_pocket
      obtain ⟨ko1_before_told, ro1_before_told_row, ko1_before_told_row⟩ := id lo1_before_told
      have ko1_before_tally := id lo1_before_tally
      obtain ⟨ko1_trial, ro1_trial_pocket, lo1_trial_pocket, ro1_trial_told, lo1_trial_told, ro1_trial_tally, lo1_trial_tally, ro1_trial_settings, ko1_trial_settings⟩ := id lo1_trial
      obtain ⟨ko1_trial_pocket, ro1_trial_pocket_names, ko1_trial_pocket_names, ro1_trial_pocket_asksToGo, ko1_trial_pocket_asksToGo, ro1_trial_pocket_tellings, ko1_trial_pocket_tellings, ro1_trial_pocket_slots, ko1_trial_pocket_slots, ro1_trial_pocket_awake, ko1_trial_pocket_awake, ro1_trial_pocket_answering, ko1_trial_pocket_answering⟩ := id lo1_trial_pocket
      obtain ⟨ko1_trial_told, ro1_trial_told_row, ko1_trial_told_row⟩ := id lo1_trial_told
      have ko1_trial_tally := id lo1_trial_tally
      obtain ⟨ko1_snapshot, ro1_snapshot_pocket, lo1_snapshot_pocket, ro1_snapshot_told, lo1_snapshot_told, ro1_snapshot_tally, lo1_snapshot_tally, ro1_snapshot_settings, ko1_snapshot_settings⟩ := id lo1_snapshot
      obtain ⟨ko1_snapshot_pocket, ro1_snapshot_pocket_names, ko1_snapshot_pocket_names, ro1_snapshot_pocket_asksToGo, ko1_snapshot_pocket_asksToGo, ro1_snapshot_pocket_tellings, ko1_snapshot_pocket_tellings, ro1_snapshot_pocket_slots, ko1_snapshot_pocket_slots, ro1_snapshot_pocket_awake, ko1_snapshot_pocket_awake, ro1_snapshot_pocket_answering, ko1_snapshot_pocket_answering⟩ := id lo1_snapshot_pocket
      obtain ⟨ko1_snapshot_told, ro1_snapshot_told_row, ko1_snapshot_told_row⟩ := id lo1_snapshot_told
      have ko1_snapshot_tally := id lo1_snapshot_tally
      obtain ⟨ko1_history, ro1_history_rows, ko1_history_rows⟩ := id lo1_history
      obtain ⟨ko1_text, ro1_text_characters, ko1_text_characters, ro1_text_kinds, ko1_text_kinds, ro1_text_numbers, ko1_text_numbers⟩ := id lo1_text
      show AW m_X6_total d none Q 181 [some (.inr (some 1)), some (.inl x1)] [(.inl v5)] h4 (0, 0)
      exact ax_ireturn (pc := 181) dX6_total_181 rfl g (by decide) (by decide)
    by_cases c9 : x1 = 7
    · replace g := g0 (by omega)
      refine aw_tblIn (pc := 1) (tgt := 170) dX6_total_1 (by omega) (by omega) (by rw [c9]; rfl) (by decide) ?_
      refine aw_aload_n (pc := 170) dX6_total_170 rfl ?_
      refine aw_getr (pc := 171) (r := some 2) dX6_total_171 fl_X6_10 (by decide) rfl ko1 ro1_state ?_
      refine aw_getr (pc := 174) (r := some 12) dX6_total_174 fl_X6_179 (by decide) rfl ko1_state ro1_state_tally ?_
      refine aw_iload_n (pc := 177) dX6_total_177 rfl ?_
      refine aw_invV (pc := 178) (md' := m_X3_numberOf) (ci := 3) (as := [(.inl x1)]) dX6_total_178 mo_X3_numberOf im_X3_numberOf se_X3_numberOf ml_X6_183 rfl ko1_state_tally rfl hd (Nat.le_of_ble_eq_true rfl) (Nat.le_of_ble_eq_true rfl) (Nat.le_of_ble_eq_true rfl) ?_
      refine am_mono g (fun _ h4 _ ok_h4 g => ?_)
      obtain ⟨v5, rfl, ss_h4, g⟩ := g
      replace hL := QM.ss hL ss_h4
      obtain ⟨ko1, ro1_state, lo1_state, ro1_before, lo1_before, ro1_trial, lo1_trial, ro1_snapshot, lo1_snapshot, ro1_history, lo1_history, ro1_text, lo1_text⟩ := id hL
      obtain ⟨ko1_state, ro1_state_pocket, lo1_state_pocket, ro1_state_told, lo1_state_told, ro1_state_tally, lo1_state_tally, ro1_state_settings, ko1_state_settings⟩ := id lo1_state
      obtain ⟨ko1_state_pocket, ro1_state_pocket_names, ko1_state_pocket_names, ro1_state_pocket_asksToGo, ko1_state_pocket_asksToGo, ro1_state_pocket_tellings, ko1_state_pocket_tellings, ro1_state_pocket_slots, ko1_state_pocket_slots, ro1_state_pocket_awake, ko1_state_pocket_awake, ro1_state_pocket_answering, ko1_state_pocket_answering⟩ := id lo1_state_pocket
      obtain ⟨ko1_state_told, ro1_state_told_row, ko1_state_told_row⟩ := id lo1_state_told
      have ko1_state_tally := id lo1_state_tally
      obtain ⟨ko1_before, ro1_before_pocket, lo1_before_pocket, ro1_before_told, lo1_before_told, ro1_before_tally, lo1_before_tally, ro1_before_settings, ko1_before_settings⟩ := id lo1_before
      obtain ⟨ko1_before_pocket, ro1_before_pocket_names, ko1_before_pocket_names, ro1_before_pocket_asksToGo, ko1_before_pocket_asksToGo, ro1_before_pocket_tellings, ko1_before_pocket_tellings, ro1_before_pocket_slots, ko1_before_pocket_slots, ro1_before_pocket_awake, ko1_before_pocket_awake, ro1_before_pocket_answering, ko1_before_pocket_answering⟩ := id lo1_before_pocket
      obtain ⟨ko1_before_told, ro1_before_told_row, ko1_before_told_row⟩ := id lo1_before_told
      have ko1_before_tally := id lo1_before_tally
      obtain ⟨ko1_trial, ro1_trial_pocket, lo1_trial_pocket, ro1_trial_told, lo1_trial_told, ro1_trial_tally, lo1_trial_tally, ro1_trial_settings, ko1_trial_settings⟩ := id lo1_trial
      obtain ⟨ko1_trial_pocket, ro1_trial_pocket_names, ko1_trial_pocket_names, ro1_trial_pocket_asksToGo, ko1_trial_pocket_asksToGo, ro1_trial_pocket_tellings, ko1_trial_pocket_tellings, ro1_trial_pocket_slots, ko1_trial_pocket_slots, ro1_trial_pocket_awake, ko1_trial_pocket_awake, ro1_trial_pocket_answering, ko1_trial_pocket_answering⟩ := id lo1_trial_pocket
      obtain ⟨ko1_trial_told, ro1_trial_told_row, ko1_trial_told_row⟩ := id lo1_trial_told
      have ko1_trial_tally := id lo1_trial_tally
      obtain ⟨ko1_snapshot, ro1_snapshot_pocket, lo1_snapshot_pocket, ro1_snapshot_told, lo1_snapshot_told, ro1_snapshot_tally, lo1_snapshot_tally, ro1_snapshot_settings, ko1_snapshot_settings⟩ := id lo1_snapshot
      obtain ⟨ko1_snapshot_pocket, ro1_snapshot_pocket_names, ko1_snapshot_pocket_names, ro1_snapshot_pocket_asksToGo, ko1_snapshot_pocket_asksToGo, ro1_snapshot_pocket_tellings, ko1_snapshot_pocket_tellings, ro1_snapshot_pocket_slots, ko1_snapshot_pocket_slots, ro1_snapshot_pocket_awake, ko1_snapshot_pocket_awake, ro1_snapshot_pocket_answering, ko1_snapshot_pocket_answering⟩ := id lo1_snapshot_pocket
      obtain ⟨ko1_snapshot_told, ro1_snapshot_told_row, ko1_snapshot_told_row⟩ := id lo1_snapshot_told
      have ko1_snapshot_tally := id lo1_snapshot_tally
      obtain ⟨ko1_history, ro1_history_rows, ko1_history_rows⟩ := id lo1_history
      obtain ⟨ko1_text, ro1_text_characters, ko1_text_characters, ro1_text_kinds, ko1_text_kinds, ro1_text_numbers, ko1_text_numbers⟩ := id lo1_text
      show AW m_X6_total d none Q 181 [some (.inr (some 1)), some (.inl x1)] [(.inl v5)] h4 (0, 0)
      exact ax_ireturn (pc := 181) dX6_total_181 rfl g (by decide) (by decide)
    by_cases c10 : x1 = 8
    · replace g := g0 (by omega)
      refine aw_tblIn (pc := 1) (tgt := 170) dX6_total_1 (by omega) (by omega) (by rw [c10]; rfl) (by decide) ?_
      refine aw_aload_n (pc := 170) dX6_total_170 rfl ?_
      refine aw_getr (pc := 171) (r := some 2) dX6_total_171 fl_X6_10 (by decide) rfl ko1 ro1_state ?_
      refine aw_getr (pc := 174) (r := some 12) dX6_total_174 fl_X6_179 (by decide) rfl ko1_state ro1_state_tally ?_
      refine aw_iload_n (pc := 177) dX6_total_177 rfl ?_
      refine aw_invV (pc := 178) (md' := m_X3_numberOf) (ci := 3) (as := [(.inl x1)]) dX6_total_178 mo_X3_numberOf im_X3_numberOf se_X3_numberOf ml_X6_183 rfl ko1_state_tally rfl hd (Nat.le_of_ble_eq_true rfl) (Nat.le_of_ble_eq_true rfl) (Nat.le_of_ble_eq_true rfl) ?_
      refine am_mono g (fun _ h4 _ ok_h4 g => ?_)
      obtain ⟨v5, rfl, ss_h4, g⟩ := g
      replace hL := QM.ss hL ss_h4
      obtain ⟨ko1, ro1_state, lo1_state, ro1_before, lo1_before, ro1_trial, lo1_trial, ro1_snapshot, lo1_snapshot, ro1_history, lo1_history, ro1_text, lo1_text⟩ := id hL
      obtain ⟨ko1_state, ro1_state_pocket, lo1_state_pocket, ro1_state_told, lo1_state_told, ro1_state_tally, lo1_state_tally, ro1_state_settings, ko1_state_settings⟩ := id lo1_state
      obtain ⟨ko1_state_pocket, ro1_state_pocket_names, ko1_state_pocket_names, ro1_state_pocket_asksToGo, ko1_state_pocket_asksToGo, ro1_state_pocket_tellings, ko1_state_pocket_tellings, ro1_state_pocket_slots, ko1_state_pocket_slots, ro1_state_pocket_awake, ko1_state_pocket_awake, ro1_state_pocket_answering, ko1_state_pocket_answering⟩ := id lo1_state_pocket
      obtain ⟨ko1_state_told, ro1_state_told_row, ko1_state_told_row⟩ := id lo1_state_told
      have ko1_state_tally := id lo1_state_tally
      obtain ⟨ko1_before, ro1_before_pocket, lo1_before_pocket, ro1_before_told, lo1_before_told, ro1_before_tally, lo1_before_tally, ro1_before_settings, ko1_before_settings⟩ := id lo1_before
      obtain ⟨ko1_before_pocket, ro1_before_pocket_names, ko1_before_pocket_names, ro1_before_pocket_asksToGo, ko1_before_pocket_asksToGo, ro1_before_pocket_tellings, ko1_before_pocket_tellings, ro1_before_pocket_slots, ko1_before_pocket_slots, ro1_before_pocket_awake, ko1_before_pocket_awake, ro1_before_pocket_answering, ko1_before_pocket_answering⟩ := id lo1_before_pocket
      obtain ⟨ko1_before_told, ro1_before_told_row, ko1_before_told_row⟩ := id lo1_before_told
      have ko1_before_tally := id lo1_before_tally
      obtain ⟨ko1_trial, ro1_trial_pocket, lo1_trial_pocket, ro1_trial_told, lo1_trial_told, ro1_trial_tally, lo1_trial_tally, ro1_trial_settings, ko1_trial_settings⟩ := id lo1_trial
      obtain ⟨ko1_trial_pocket, ro1_trial_pocket_names, ko1_trial_pocket_names, ro1_trial_pocket_asksToGo, ko1_trial_pocket_asksToGo, ro1_trial_pocket_tellings, ko1_trial_pocket_tellings, ro1_trial_pocket_slots, ko1_trial_pocket_slots, ro1_trial_pocket_awake, ko1_trial_pocket_awake, ro1_trial_pocket_answering, ko1_trial_pocket_answering⟩ := id lo1_trial_pocket
      obtain ⟨ko1_trial_told, ro1_trial_told_row, ko1_trial_told_row⟩ := id lo1_trial_told
      have ko1_trial_tally := id lo1_trial_tally
      obtain ⟨ko1_snapshot, ro1_snapshot_pocket, lo1_snapshot_pocket, ro1_snapshot_told, lo1_snapshot_told, ro1_snapshot_tally, lo1_snapshot_tally, ro1_snapshot_settings, ko1_snapshot_settings⟩ := id lo1_snapshot
      obtain ⟨ko1_snapshot_pocket, ro1_snapshot_pocket_names, ko1_snapshot_pocket_names, ro1_snapshot_pocket_asksToGo, ko1_snapshot_pocket_asksToGo, ro1_snapshot_pocket_tellings, ko1_snapshot_pocket_tellings, ro1_snapshot_pocket_slots, ko1_snapshot_pocket_slots, ro1_snapshot_pocket_awake, ko1_snapshot_pocket_awake, ro1_snapshot_pocket_answering, ko1_snapshot_pocket_answering⟩ := id lo1_snapshot_pocket
      obtain ⟨ko1_snapshot_told, ro1_snapshot_told_row, ko1_snapshot_told_row⟩ := id lo1_snapshot_told
      have ko1_snapshot_tally := id lo1_snapshot_tally
      obtain ⟨ko1_history, ro1_history_rows, ko1_history_rows⟩ := id lo1_history
      obtain ⟨ko1_text, ro1_text_characters, ko1_text_characters, ro1_text_kinds, ko1_text_kinds, ro1_text_numbers, ko1_text_numbers⟩ := id lo1_text
      show AW m_X6_total d none Q 181 [some (.inr (some 1)), some (.inl x1)] [(.inl v5)] h4 (0, 0)
      exact ax_ireturn (pc := 181) dX6_total_181 rfl g (by decide) (by decide)
    by_cases c11 : x1 = 9
    · replace g := g0 (by omega)
      refine aw_tblIn (pc := 1) (tgt := 170) dX6_total_1 (by omega) (by omega) (by rw [c11]; rfl) (by decide) ?_
      refine aw_aload_n (pc := 170) dX6_total_170 rfl ?_
      refine aw_getr (pc := 171) (r := some 2) dX6_total_171 fl_X6_10 (by decide) rfl ko1 ro1_state ?_
      refine aw_getr (pc := 174) (r := some 12) dX6_total_174 fl_X6_179 (by decide) rfl ko1_state ro1_state_tally ?_
      refine aw_iload_n (pc := 177) dX6_total_177 rfl ?_
      refine aw_invV (pc := 178) (md' := m_X3_numberOf) (ci := 3) (as := [(.inl x1)]) dX6_total_178 mo_X3_numberOf im_X3_numberOf se_X3_numberOf ml_X6_183 rfl ko1_state_tally rfl hd (Nat.le_of_ble_eq_true rfl) (Nat.le_of_ble_eq_true rfl) (Nat.le_of_ble_eq_true rfl) ?_
      refine am_mono g (fun _ h4 _ ok_h4 g => ?_)
      obtain ⟨v5, rfl, ss_h4, g⟩ := g
      replace hL := QM.ss hL ss_h4
      obtain ⟨ko1, ro1_state, lo1_state, ro1_before, lo1_before, ro1_trial, lo1_trial, ro1_snapshot, lo1_snapshot, ro1_history, lo1_history, ro1_text, lo1_text⟩ := id hL
      obtain ⟨ko1_state, ro1_state_pocket, lo1_state_pocket, ro1_state_told, lo1_state_told, ro1_state_tally, lo1_state_tally, ro1_state_settings, ko1_state_settings⟩ := id lo1_state
      obtain ⟨ko1_state_pocket, ro1_state_pocket_names, ko1_state_pocket_names, ro1_state_pocket_asksToGo, ko1_state_pocket_asksToGo, ro1_state_pocket_tellings, ko1_state_pocket_tellings, ro1_state_pocket_slots, ko1_state_pocket_slots, ro1_state_pocket_awake, ko1_state_pocket_awake, ro1_state_pocket_answering, ko1_state_pocket_answering⟩ := id lo1_state_pocket
      obtain ⟨ko1_state_told, ro1_state_told_row, ko1_state_told_row⟩ := id lo1_state_told
      have ko1_state_tally := id lo1_state_tally
      obtain ⟨ko1_before, ro1_before_pocket, lo1_before_pocket, ro1_before_told, lo1_before_told, ro1_before_tally, lo1_before_tally, ro1_before_settings, ko1_before_settings⟩ := id lo1_before
      obtain ⟨ko1_before_pocket, ro1_before_pocket_names, ko1_before_pocket_names, ro1_before_pocket_asksToGo, ko1_before_pocket_asksToGo, ro1_before_pocket_tellings, ko1_before_pocket_tellings, ro1_before_pocket_slots, ko1_before_pocket_slots, ro1_before_pocket_awake, ko1_before_pocket_awake, ro1_before_pocket_answering, ko1_before_pocket_answering⟩ := id lo1_before_pocket
      obtain ⟨ko1_before_told, ro1_before_told_row, ko1_before_told_row⟩ := id lo1_before_told
      have ko1_before_tally := id lo1_before_tally
      obtain ⟨ko1_trial, ro1_trial_pocket, lo1_trial_pocket, ro1_trial_told, lo1_trial_told, ro1_trial_tally, lo1_trial_tally, ro1_trial_settings, ko1_trial_settings⟩ := id lo1_trial
      obtain ⟨ko1_trial_pocket, ro1_trial_pocket_names, ko1_trial_pocket_names, ro1_trial_pocket_asksToGo, ko1_trial_pocket_asksToGo, ro1_trial_pocket_tellings, ko1_trial_pocket_tellings, ro1_trial_pocket_slots, ko1_trial_pocket_slots, ro1_trial_pocket_awake, ko1_trial_pocket_awake, ro1_trial_pocket_answering, ko1_trial_pocket_answering⟩ := id lo1_trial_pocket
      obtain ⟨ko1_trial_told, ro1_trial_told_row, ko1_trial_told_row⟩ := id lo1_trial_told
      have ko1_trial_tally := id lo1_trial_tally
      obtain ⟨ko1_snapshot, ro1_snapshot_pocket, lo1_snapshot_pocket, ro1_snapshot_told, lo1_snapshot_told, ro1_snapshot_tally, lo1_snapshot_tally, ro1_snapshot_settings, ko1_snapshot_settings⟩ := id lo1_snapshot
      obtain ⟨ko1_snapshot_pocket, ro1_snapshot_pocket_names, ko1_snapshot_pocket_names, ro1_snapshot_pocket_asksToGo, ko1_snapshot_pocket_asksToGo, ro1_snapshot_pocket_tellings, ko1_snapshot_pocket_tellings, ro1_snapshot_pocket_slots, ko1_snapshot_pocket_slots, ro1_snapshot_pocket_awake, ko1_snapshot_pocket_awake, ro1_snapshot_pocket_answering, ko1_snapshot_pocket_answering⟩ := id lo1_snapshot_pocket
      obtain ⟨ko1_snapshot_told, ro1_snapshot_told_row, ko1_snapshot_told_row⟩ := id lo1_snapshot_told
      have ko1_snapshot_tally := id lo1_snapshot_tally
      obtain ⟨ko1_history, ro1_history_rows, ko1_history_rows⟩ := id lo1_history
      obtain ⟨ko1_text, ro1_text_characters, ko1_text_characters, ro1_text_kinds, ko1_text_kinds, ro1_text_numbers, ko1_text_numbers⟩ := id lo1_text
      show AW m_X6_total d none Q 181 [some (.inr (some 1)), some (.inl x1)] [(.inl v5)] h4 (0, 0)
      exact ax_ireturn (pc := 181) dX6_total_181 rfl g (by decide) (by decide)
    by_cases c12 : x1 = 10
    · replace g := g0 (by omega)
      refine aw_tblIn (pc := 1) (tgt := 170) dX6_total_1 (by omega) (by omega) (by rw [c12]; rfl) (by decide) ?_
      refine aw_aload_n (pc := 170) dX6_total_170 rfl ?_
      refine aw_getr (pc := 171) (r := some 2) dX6_total_171 fl_X6_10 (by decide) rfl ko1 ro1_state ?_
      refine aw_getr (pc := 174) (r := some 12) dX6_total_174 fl_X6_179 (by decide) rfl ko1_state ro1_state_tally ?_
      refine aw_iload_n (pc := 177) dX6_total_177 rfl ?_
      refine aw_invV (pc := 178) (md' := m_X3_numberOf) (ci := 3) (as := [(.inl x1)]) dX6_total_178 mo_X3_numberOf im_X3_numberOf se_X3_numberOf ml_X6_183 rfl ko1_state_tally rfl hd (Nat.le_of_ble_eq_true rfl) (Nat.le_of_ble_eq_true rfl) (Nat.le_of_ble_eq_true rfl) ?_
      refine am_mono g (fun _ h4 _ ok_h4 g => ?_)
      obtain ⟨v5, rfl, ss_h4, g⟩ := g
      replace hL := QM.ss hL ss_h4
      obtain ⟨ko1, ro1_state, lo1_state, ro1_before, lo1_before, ro1_trial, lo1_trial, ro1_snapshot, lo1_snapshot, ro1_history, lo1_history, ro1_text, lo1_text⟩ := id hL
      obtain ⟨ko1_state, ro1_state_pocket, lo1_state_pocket, ro1_state_told, lo1_state_told, ro1_state_tally, lo1_state_tally, ro1_state_settings, ko1_state_settings⟩ := id lo1_state
      obtain ⟨ko1_state_pocket, ro1_state_pocket_names, ko1_state_pocket_names, ro1_state_pocket_asksToGo, ko1_state_pocket_asksToGo, ro1_state_pocket_tellings, ko1_state_pocket_tellings, ro1_state_pocket_slots, ko1_state_pocket_slots, ro1_state_pocket_awake, ko1_state_pocket_awake, ro1_state_pocket_answering, ko1_state_pocket_answering⟩ := id lo1_state_pocket
      obtain ⟨ko1_state_told, ro1_state_told_row, ko1_state_told_row⟩ := id lo1_state_told
      have ko1_state_tally := id lo1_state_tally
      obtain ⟨ko1_before, ro1_before_pocket, lo1_before_pocket, ro1_before_told, lo1_before_told, ro1_before_tally, lo1_before_tally, ro1_before_settings, ko1_before_settings⟩ := id lo1_before
      obtain ⟨ko1_before_pocket, ro1_before_pocket_names, ko1_before_pocket_names, ro1_before_pocket_asksToGo, ko1_before_pocket_asksToGo, ro1_before_pocket_tellings, ko1_before_pocket_tellings, ro1_before_pocket_slots, ko1_before_pocket_slots, ro1_before_pocket_awake, ko1_before_pocket_awake, ro1_before_pocket_answering, ko1_before_pocket_answering⟩ := id lo1_before_pocket
      obtain ⟨ko1_before_told, ro1_before_told_row, ko1_before_told_row⟩ := id lo1_before_told
      have ko1_before_tally := id lo1_before_tally
      obtain ⟨ko1_trial, ro1_trial_pocket, lo1_trial_pocket, ro1_trial_told, lo1_trial_told, ro1_trial_tally, lo1_trial_tally, ro1_trial_settings, ko1_trial_settings⟩ := id lo1_trial
      obtain ⟨ko1_trial_pocket, ro1_trial_pocket_names, ko1_trial_pocket_names, ro1_trial_pocket_asksToGo, ko1_trial_pocket_asksToGo, ro1_trial_pocket_tellings, ko1_trial_pocket_tellings, ro1_trial_pocket_slots, ko1_trial_pocket_slots, ro1_trial_pocket_awake, ko1_trial_pocket_awake, ro1_trial_pocket_answering, ko1_trial_pocket_answering⟩ := id lo1_trial_pocket
      obtain ⟨ko1_trial_told, ro1_trial_told_row, ko1_trial_told_row⟩ := id lo1_trial_told
      have ko1_trial_tally := id lo1_trial_tally
      obtain ⟨ko1_snapshot, ro1_snapshot_pocket, lo1_snapshot_pocket, ro1_snapshot_told, lo1_snapshot_told, ro1_snapshot_tally, lo1_snapshot_tally, ro1_snapshot_settings, ko1_snapshot_settings⟩ := id lo1_snapshot
      obtain ⟨ko1_snapshot_pocket, ro1_snapshot_pocket_names, ko1_snapshot_pocket_names, ro1_snapshot_pocket_asksToGo, ko1_snapshot_pocket_asksToGo, ro1_snapshot_pocket_tellings, ko1_snapshot_pocket_tellings, ro1_snapshot_pocket_slots, ko1_snapshot_pocket_slots, ro1_snapshot_pocket_awake, ko1_snapshot_pocket_awake, ro1_snapshot_pocket_answering, ko1_snapshot_pocket_answering⟩ := id lo1_snapshot_pocket
      obtain ⟨ko1_snapshot_told, ro1_snapshot_told_row, ko1_snapshot_told_row⟩ := id lo1_snapshot_told
      have ko1_snapshot_tally := id lo1_snapshot_tally
      obtain ⟨ko1_history, ro1_history_rows, ko1_history_rows⟩ := id lo1_history
      obtain ⟨ko1_text, ro1_text_characters, ko1_text_characters, ro1_text_kinds, ko1_text_kinds, ro1_text_numbers, ko1_text_numbers⟩ := id lo1_text
      show AW m_X6_total d none Q 181 [some (.inr (some 1)), some (.inl x1)] [(.inl v5)] h4 (0, 0)
      exact ax_ireturn (pc := 181) dX6_total_181 rfl g (by decide) (by decide)
    by_cases c13 : x1 = 14
    · replace g := g0 (by omega)
      refine aw_tblIn (pc := 1) (tgt := 170) dX6_total_1 (by omega) (by omega) (by rw [c13]; rfl) (by decide) ?_
      refine aw_aload_n (pc := 170) dX6_total_170 rfl ?_
      refine aw_getr (pc := 171) (r := some 2) dX6_total_171 fl_X6_10 (by decide) rfl ko1 ro1_state ?_
      refine aw_getr (pc := 174) (r := some 12) dX6_total_174 fl_X6_179 (by decide) rfl ko1_state ro1_state_tally ?_
      refine aw_iload_n (pc := 177) dX6_total_177 rfl ?_
      refine aw_invV (pc := 178) (md' := m_X3_numberOf) (ci := 3) (as := [(.inl x1)]) dX6_total_178 mo_X3_numberOf im_X3_numberOf se_X3_numberOf ml_X6_183 rfl ko1_state_tally rfl hd (Nat.le_of_ble_eq_true rfl) (Nat.le_of_ble_eq_true rfl) (Nat.le_of_ble_eq_true rfl) ?_
      refine am_mono g (fun _ h4 _ ok_h4 g => ?_)
      obtain ⟨v5, rfl, ss_h4, g⟩ := g
      replace hL := QM.ss hL ss_h4
      obtain ⟨ko1, ro1_state, lo1_state, ro1_before, lo1_before, ro1_trial, lo1_trial, ro1_snapshot, lo1_snapshot, ro1_history, lo1_history, ro1_text, lo1_text⟩ := id hL
      obtain ⟨ko1_state, ro1_state_pocket, lo1_state_pocket, ro1_state_told, lo1_state_told, ro1_state_tally, lo1_state_tally, ro1_state_settings, ko1_state_settings⟩ := id lo1_state
      obtain ⟨ko1_state_pocket, ro1_state_pocket_names, ko1_state_pocket_names, ro1_state_pocket_asksToGo, ko1_state_pocket_asksToGo, ro1_state_pocket_tellings, ko1_state_pocket_tellings, ro1_state_pocket_slots, ko1_state_pocket_slots, ro1_state_pocket_awake, ko1_state_pocket_awake, ro1_state_pocket_answering, ko1_state_pocket_answering⟩ := id lo1_state_pocket
      obtain ⟨ko1_state_told, ro1_state_told_row, ko1_state_told_row⟩ := id lo1_state_told
      have ko1_state_tally := id lo1_state_tally
      obtain ⟨ko1_before, ro1_before_pocket, lo1_before_pocket, ro1_before_told, lo1_before_told, ro1_before_tally, lo1_before_tally, ro1_before_settings, ko1_before_settings⟩ := id lo1_before
      obtain ⟨ko1_before_pocket, ro1_before_pocket_names, ko1_before_pocket_names, ro1_before_pocket_asksToGo, ko1_before_pocket_asksToGo, ro1_before_pocket_tellings, ko1_before_pocket_tellings, ro1_before_pocket_slots, ko1_before_pocket_slots, ro1_before_pocket_awake, ko1_before_pocket_awake, ro1_before_pocket_answering, ko1_before_pocket_answering⟩ := id lo1_before_pocket
      obtain ⟨ko1_before_told, ro1_before_told_row, ko1_before_told_row⟩ := id lo1_before_told
      have ko1_before_tally := id lo1_before_tally
      obtain ⟨ko1_trial, ro1_trial_pocket, lo1_trial_pocket, ro1_trial_told, lo1_trial_told, ro1_trial_tally, lo1_trial_tally, ro1_trial_settings, ko1_trial_settings⟩ := id lo1_trial
      obtain ⟨ko1_trial_pocket, ro1_trial_pocket_names, ko1_trial_pocket_names, ro1_trial_pocket_asksToGo, ko1_trial_pocket_asksToGo, ro1_trial_pocket_tellings, ko1_trial_pocket_tellings, ro1_trial_pocket_slots, ko1_trial_pocket_slots, ro1_trial_pocket_awake, ko1_trial_pocket_awake, ro1_trial_pocket_answering, ko1_trial_pocket_answering⟩ := id lo1_trial_pocket
      obtain ⟨ko1_trial_told, ro1_trial_told_row, ko1_trial_told_row⟩ := id lo1_trial_told
      have ko1_trial_tally := id lo1_trial_tally
      obtain ⟨ko1_snapshot, ro1_snapshot_pocket, lo1_snapshot_pocket, ro1_snapshot_told, lo1_snapshot_told, ro1_snapshot_tally, lo1_snapshot_tally, ro1_snapshot_settings, ko1_snapshot_settings⟩ := id lo1_snapshot
      obtain ⟨ko1_snapshot_pocket, ro1_snapshot_pocket_names, ko1_snapshot_pocket_names, ro1_snapshot_pocket_asksToGo, ko1_snapshot_pocket_asksToGo, ro1_snapshot_pocket_tellings, ko1_snapshot_pocket_tellings, ro1_snapshot_pocket_slots, ko1_snapshot_pocket_slots, ro1_snapshot_pocket_awake, ko1_snapshot_pocket_awake, ro1_snapshot_pocket_answering, ko1_snapshot_pocket_answering⟩ := id lo1_snapshot_pocket
      obtain ⟨ko1_snapshot_told, ro1_snapshot_told_row, ko1_snapshot_told_row⟩ := id lo1_snapshot_told
      have ko1_snapshot_tally := id lo1_snapshot_tally
      obtain ⟨ko1_history, ro1_history_rows, ko1_history_rows⟩ := id lo1_history
      obtain ⟨ko1_text, ro1_text_characters, ko1_text_characters, ro1_text_kinds, ko1_text_kinds, ro1_text_numbers, ko1_text_numbers⟩ := id lo1_text
      show AW m_X6_total d none Q 181 [some (.inr (some 1)), some (.inl x1)] [(.inl v5)] h4 (0, 0)
      exact ax_ireturn (pc := 181) dX6_total_181 rfl g (by decide) (by decide)
    by_cases c14 : x1 = 0
    · replace g := g.1 c14
      refine aw_tblIn (pc := 1) (tgt := 84) (off := 83) dX6_total_1 (by omega) (by omega) (by rw [c14]; rfl) (by decide) ?_
      refine aw_aload_n (pc := 84) dX6_total_84 rfl ?_
      refine aw_getr (pc := 85) (r := some 2) dX6_total_85 fl_X6_10 (by decide) rfl ko1 ro1_state ?_
      refine aw_getr (pc := 88) (r := some 3) dX6_total_88 fl_X6_122 (by decide) rfl ko1_state ro1_state_pocket ?_
      refine aw_invV (pc := 91) (md' := m_X1_cards) (ci := 1) (as := []) dX6_total_91 mo_X1_cards im_X1_cards se_X1_cards ml_X6_126 rfl ko1_state_pocket rfl hd (Nat.le_of_ble_eq_true rfl) (Nat.le_of_ble_eq_true rfl) (Nat.le_of_ble_eq_true rfl) ?_
      refine am_mono g (fun _ h15 _ ok_h15 g => ?_)
      obtain ⟨v16, rfl, ss_h15, g⟩ := g
      replace hL := QM.ss hL ss_h15
      obtain ⟨ko1, ro1_state, lo1_state, ro1_before, lo1_before, ro1_trial, lo1_trial, ro1_snapshot, lo1_snapshot, ro1_history, lo1_history, ro1_text, lo1_text⟩ := id hL
      obtain ⟨ko1_state, ro1_state_pocket, lo1_state_pocket, ro1_state_told, lo1_state_told, ro1_state_tally, lo1_state_tally, ro1_state_settings, ko1_state_settings⟩ := id lo1_state
      obtain ⟨ko1_state_pocket, ro1_state_pocket_names, ko1_state_pocket_names, ro1_state_pocket_asksToGo, ko1_state_pocket_asksToGo, ro1_state_pocket_tellings, ko1_state_pocket_tellings, ro1_state_pocket_slots, ko1_state_pocket_slots, ro1_state_pocket_awake, ko1_state_pocket_awake, ro1_state_pocket_answering, ko1_state_pocket_answering⟩ := id lo1_state_pocket
      obtain ⟨ko1_state_told, ro1_state_told_row, ko1_state_told_row⟩ := id lo1_state_told
      have ko1_state_tally := id lo1_state_tally
      obtain ⟨ko1_before, ro1_before_pocket, lo1_before_pocket, ro1_before_told, lo1_before_told, ro1_before_tally, lo1_before_tally, ro1_before_settings, ko1_before_settings⟩ := id lo1_before
      obtain ⟨ko1_before_pocket, ro1_before_pocket_names, ko1_before_pocket_names, ro1_before_pocket_asksToGo, ko1_before_pocket_asksToGo, ro1_before_pocket_tellings, ko1_before_pocket_tellings, ro1_before_pocket_slots, ko1_before_pocket_slots, ro1_before_pocket_awake, ko1_before_pocket_awake, ro1_before_pocket_answering, ko1_before_pocket_answering⟩ := id lo1_before_pocket
      obtain ⟨ko1_before_told, ro1_before_told_row, ko1_before_told_row⟩ := id lo1_before_told
      have ko1_before_tally := id lo1_before_tally
      obtain ⟨ko1_trial, ro1_trial_pocket, lo1_trial_pocket, ro1_trial_told, lo1_trial_told, ro1_trial_tally, lo1_trial_tally, ro1_trial_settings, ko1_trial_settings⟩ := id lo1_trial
      obtain ⟨ko1_trial_pocket, ro1_trial_pocket_names, ko1_trial_pocket_names, ro1_trial_pocket_asksToGo, ko1_trial_pocket_asksToGo, ro1_trial_pocket_tellings, ko1_trial_pocket_tellings, ro1_trial_pocket_slots, ko1_trial_pocket_slots, ro1_trial_pocket_awake, ko1_trial_pocket_awake, ro1_trial_pocket_answering, ko1_trial_pocket_answering⟩ := id lo1_trial_pocket
      obtain ⟨ko1_trial_told, ro1_trial_told_row, ko1_trial_told_row⟩ := id lo1_trial_told
      have ko1_trial_tally := id lo1_trial_tally
      obtain ⟨ko1_snapshot, ro1_snapshot_pocket, lo1_snapshot_pocket, ro1_snapshot_told, lo1_snapshot_told, ro1_snapshot_tally, lo1_snapshot_tally, ro1_snapshot_settings, ko1_snapshot_settings⟩ := id lo1_snapshot
      obtain ⟨ko1_snapshot_pocket, ro1_snapshot_pocket_names, ko1_snapshot_pocket_names, ro1_snapshot_pocket_asksToGo, ko1_snapshot_pocket_asksToGo, ro1_snapshot_pocket_tellings, ko1_snapshot_pocket_tellings, ro1_snapshot_pocket_slots, ko1_snapshot_pocket_slots, ro1_snapshot_pocket_awake, ko1_snapshot_pocket_awake, ro1_snapshot_pocket_answering, ko1_snapshot_pocket_answering⟩ := id lo1_snapshot_pocket
      obtain ⟨ko1_snapshot_told, ro1_snapshot_told_row, ko1_snapshot_told_row⟩ := id lo1_snapshot_told
      have ko1_snapshot_tally := id lo1_snapshot_tally
      obtain ⟨ko1_history, ro1_history_rows, ko1_history_rows⟩ := id lo1_history
      obtain ⟨ko1_text, ro1_text_characters, ko1_text_characters, ro1_text_kinds, ko1_text_kinds, ro1_text_numbers, ko1_text_numbers⟩ := id lo1_text
      show AW m_X6_total d none Q 94 [some (.inr (some 1)), some (.inl x1)] [(.inl v16)] h15 (0, 0)
      exact ax_ireturn (pc := 94) dX6_total_94 rfl g (by decide) (by decide)
    replace g := g.2
    by_cases c17 : x1 = 1
    · replace g := g.1 c17
      refine aw_tblIn (pc := 1) (tgt := 95) (off := 94) dX6_total_1 (by omega) (by omega) (by rw [c17]; rfl) (by decide) ?_
      refine aw_aload_n (pc := 95) dX6_total_95 rfl ?_
      refine aw_getr (pc := 96) (r := some 2) dX6_total_96 fl_X6_10 (by decide) rfl ko1 ro1_state ?_
      refine aw_getr (pc := 99) (r := some 3) dX6_total_99 fl_X6_122 (by decide) rfl ko1_state ro1_state_pocket ?_
      refine aw_invV (pc := 102) (md' := m_X1_awakeCards) (ci := 1) (as := []) dX6_total_102 mo_X1_awakeCards im_X1_awakeCards se_X1_awakeCards ml_X6_160 rfl ko1_state_pocket rfl hd (Nat.le_of_ble_eq_true rfl) (Nat.le_of_ble_eq_true rfl) (Nat.le_of_ble_eq_true rfl) ?_
      refine am_mono g (fun _ h18 _ ok_h18 g => ?_)
      obtain ⟨v19, rfl, ss_h18, g⟩ := g
      replace hL := QM.ss hL ss_h18
      obtain ⟨ko1, ro1_state, lo1_state, ro1_before, lo1_before, ro1_trial, lo1_trial, ro1_snapshot, lo1_snapshot, ro1_history, lo1_history, ro1_text, lo1_text⟩ := id hL
      obtain ⟨ko1_state, ro1_state_pocket, lo1_state_pocket, ro1_state_told, lo1_state_told, ro1_state_tally, lo1_state_tally, ro1_state_settings, ko1_state_settings⟩ := id lo1_state
      obtain ⟨ko1_state_pocket, ro1_state_pocket_names, ko1_state_pocket_names, ro1_state_pocket_asksToGo, ko1_state_pocket_asksToGo, ro1_state_pocket_tellings, ko1_state_pocket_tellings, ro1_state_pocket_slots, ko1_state_pocket_slots, ro1_state_pocket_awake, ko1_state_pocket_awake, ro1_state_pocket_answering, ko1_state_pocket_answering⟩ := id lo1_state_pocket
      obtain ⟨ko1_state_told, ro1_state_told_row, ko1_state_told_row⟩ := id lo1_state_told
      have ko1_state_tally := id lo1_state_tally
      obtain ⟨ko1_before, ro1_before_pocket, lo1_before_pocket, ro1_before_told, lo1_before_told, ro1_before_tally, lo1_before_tally, ro1_before_settings, ko1_before_settings⟩ := id lo1_before
      obtain ⟨ko1_before_pocket, ro1_before_pocket_names, ko1_before_pocket_names, ro1_before_pocket_asksToGo, ko1_before_pocket_asksToGo, ro1_before_pocket_tellings, ko1_before_pocket_tellings, ro1_before_pocket_slots, ko1_before_pocket_slots, ro1_before_pocket_awake, ko1_before_pocket_awake, ro1_before_pocket_answering, ko1_before_pocket_answering⟩ := id lo1_before_pocket
      obtain ⟨ko1_before_told, ro1_before_told_row, ko1_before_told_row⟩ := id lo1_before_told
      have ko1_before_tally := id lo1_before_tally
      obtain ⟨ko1_trial, ro1_trial_pocket, lo1_trial_pocket, ro1_trial_told, lo1_trial_told, ro1_trial_tally, lo1_trial_tally, ro1_trial_settings, ko1_trial_settings⟩ := id lo1_trial
      obtain ⟨ko1_trial_pocket, ro1_trial_pocket_names, ko1_trial_pocket_names, ro1_trial_pocket_asksToGo, ko1_trial_pocket_asksToGo, ro1_trial_pocket_tellings, ko1_trial_pocket_tellings, ro1_trial_pocket_slots, ko1_trial_pocket_slots, ro1_trial_pocket_awake, ko1_trial_pocket_awake, ro1_trial_pocket_answering, ko1_trial_pocket_answering⟩ := id lo1_trial_pocket
      obtain ⟨ko1_trial_told, ro1_trial_told_row, ko1_trial_told_row⟩ := id lo1_trial_told
      have ko1_trial_tally := id lo1_trial_tally
      obtain ⟨ko1_snapshot, ro1_snapshot_pocket, lo1_snapshot_pocket, ro1_snapshot_told, lo1_snapshot_told, ro1_snapshot_tally, lo1_snapshot_tally, ro1_snapshot_settings, ko1_snapshot_settings⟩ := id lo1_snapshot
      obtain ⟨ko1_snapshot_pocket, ro1_snapshot_pocket_names, ko1_snapshot_pocket_names, ro1_snapshot_pocket_asksToGo, ko1_snapshot_pocket_asksToGo, ro1_snapshot_pocket_tellings, ko1_snapshot_pocket_tellings, ro1_snapshot_pocket_slots, ko1_snapshot_pocket_slots, ro1_snapshot_pocket_awake, ko1_snapshot_pocket_awake, ro1_snapshot_pocket_answering, ko1_snapshot_pocket_answering⟩ := id lo1_snapshot_pocket
      obtain ⟨ko1_snapshot_told, ro1_snapshot_told_row, ko1_snapshot_told_row⟩ := id lo1_snapshot_told
      have ko1_snapshot_tally := id lo1_snapshot_tally
      obtain ⟨ko1_history, ro1_history_rows, ko1_history_rows⟩ := id lo1_history
      obtain ⟨ko1_text, ro1_text_characters, ko1_text_characters, ro1_text_kinds, ko1_text_kinds, ro1_text_numbers, ko1_text_numbers⟩ := id lo1_text
      show AW m_X6_total d none Q 105 [some (.inr (some 1)), some (.inl x1)] [(.inl v19)] h18 (0, 0)
      exact ax_ireturn (pc := 105) dX6_total_105 rfl g (by decide) (by decide)
    replace g := g.2
    by_cases c20 : x1 = 2
    · replace g := g.1 c20
      refine aw_tblIn (pc := 1) (tgt := 106) (off := 105) dX6_total_1 (by omega) (by omega) (by rw [c20]; rfl) (by decide) ?_
      refine aw_aload_n (pc := 106) dX6_total_106 rfl ?_
      refine aw_getr (pc := 107) (r := some 2) dX6_total_107 fl_X6_10 (by decide) rfl ko1 ro1_state ?_
      refine aw_getr (pc := 110) (r := some 3) dX6_total_110 fl_X6_122 (by decide) rfl ko1_state ro1_state_pocket ?_
      refine aw_invV (pc := 113) (md' := m_X1_leavingCards) (ci := 1) (as := []) dX6_total_113 mo_X1_leavingCards im_X1_leavingCards se_X1_leavingCards ml_X6_163 rfl ko1_state_pocket rfl hd (Nat.le_of_ble_eq_true rfl) (Nat.le_of_ble_eq_true rfl) (Nat.le_of_ble_eq_true rfl) ?_
      refine am_mono g (fun _ h21 _ ok_h21 g => ?_)
      obtain ⟨v22, rfl, ss_h21, g⟩ := g
      replace hL := QM.ss hL ss_h21
      obtain ⟨ko1, ro1_state, lo1_state, ro1_before, lo1_before, ro1_trial, lo1_trial, ro1_snapshot, lo1_snapshot, ro1_history, lo1_history, ro1_text, lo1_text⟩ := id hL
      obtain ⟨ko1_state, ro1_state_pocket, lo1_state_pocket, ro1_state_told, lo1_state_told, ro1_state_tally, lo1_state_tally, ro1_state_settings, ko1_state_settings⟩ := id lo1_state
      obtain ⟨ko1_state_pocket, ro1_state_pocket_names, ko1_state_pocket_names, ro1_state_pocket_asksToGo, ko1_state_pocket_asksToGo, ro1_state_pocket_tellings, ko1_state_pocket_tellings, ro1_state_pocket_slots, ko1_state_pocket_slots, ro1_state_pocket_awake, ko1_state_pocket_awake, ro1_state_pocket_answering, ko1_state_pocket_answering⟩ := id lo1_state_pocket
      obtain ⟨ko1_state_told, ro1_state_told_row, ko1_state_told_row⟩ := id lo1_state_told
      have ko1_state_tally := id lo1_state_tally
      obtain ⟨ko1_before, ro1_before_pocket, lo1_before_pocket, ro1_before_told, lo1_before_told, ro1_before_tally, lo1_before_tally, ro1_before_settings, ko1_before_settings⟩ := id lo1_before
      obtain ⟨ko1_before_pocket, ro1_before_pocket_names, ko1_before_pocket_names, ro1_before_pocket_asksToGo, ko1_before_pocket_asksToGo, ro1_before_pocket_tellings, ko1_before_pocket_tellings, ro1_before_pocket_slots, ko1_before_pocket_slots, ro1_before_pocket_awake, ko1_before_pocket_awake, ro1_before_pocket_answering, ko1_before_pocket_answering⟩ := id lo1_before_pocket
      obtain ⟨ko1_before_told, ro1_before_told_row, ko1_before_told_row⟩ := id lo1_before_told
      have ko1_before_tally := id lo1_before_tally
      obtain ⟨ko1_trial, ro1_trial_pocket, lo1_trial_pocket, ro1_trial_told, lo1_trial_told, ro1_trial_tally, lo1_trial_tally, ro1_trial_settings, ko1_trial_settings⟩ := id lo1_trial
      obtain ⟨ko1_trial_pocket, ro1_trial_pocket_names, ko1_trial_pocket_names, ro1_trial_pocket_asksToGo, ko1_trial_pocket_asksToGo, ro1_trial_pocket_tellings, ko1_trial_pocket_tellings, ro1_trial_pocket_slots, ko1_trial_pocket_slots, ro1_trial_pocket_awake, ko1_trial_pocket_awake, ro1_trial_pocket_answering, ko1_trial_pocket_answering⟩ := id lo1_trial_pocket
      obtain ⟨ko1_trial_told, ro1_trial_told_row, ko1_trial_told_row⟩ := id lo1_trial_told
      have ko1_trial_tally := id lo1_trial_tally
      obtain ⟨ko1_snapshot, ro1_snapshot_pocket, lo1_snapshot_pocket, ro1_snapshot_told, lo1_snapshot_told, ro1_snapshot_tally, lo1_snapshot_tally, ro1_snapshot_settings, ko1_snapshot_settings⟩ := id lo1_snapshot
      obtain ⟨ko1_snapshot_pocket, ro1_snapshot_pocket_names, ko1_snapshot_pocket_names, ro1_snapshot_pocket_asksToGo, ko1_snapshot_pocket_asksToGo, ro1_snapshot_pocket_tellings, ko1_snapshot_pocket_tellings, ro1_snapshot_pocket_slots, ko1_snapshot_pocket_slots, ro1_snapshot_pocket_awake, ko1_snapshot_pocket_awake, ro1_snapshot_pocket_answering, ko1_snapshot_pocket_answering⟩ := id lo1_snapshot_pocket
      obtain ⟨ko1_snapshot_told, ro1_snapshot_told_row, ko1_snapshot_told_row⟩ := id lo1_snapshot_told
      have ko1_snapshot_tally := id lo1_snapshot_tally
      obtain ⟨ko1_history, ro1_history_rows, ko1_history_rows⟩ := id lo1_history
      obtain ⟨ko1_text, ro1_text_characters, ko1_text_characters, ro1_text_kinds, ko1_text_kinds, ro1_text_numbers, ko1_text_numbers⟩ := id lo1_text
      show AW m_X6_total d none Q 116 [some (.inr (some 1)), some (.inl x1)] [(.inl v22)] h21 (0, 0)
      exact ax_ireturn (pc := 116) dX6_total_116 rfl g (by decide) (by decide)
    replace g := g.2
    by_cases c23 : x1 = 3
    · replace g := g.1 c23
      refine aw_tblIn (pc := 1) (tgt := 117) (off := 116) dX6_total_1 (by omega) (by omega) (by rw [c23]; rfl) (by decide) ?_
      refine aw_aload_n (pc := 117) dX6_total_117 rfl ?_
      refine aw_getr (pc := 118) (r := some 2) dX6_total_118 fl_X6_10 (by decide) rfl ko1 ro1_state ?_
      refine aw_getr (pc := 121) (r := some 10) dX6_total_121 fl_X6_150 (by decide) rfl ko1_state ro1_state_told ?_
      refine aw_invV (pc := 124) (md' := m_X5_names) (ci := 5) (as := []) dX6_total_124 mo_X5_names im_X5_names se_X5_names ml_X6_154 rfl ko1_state_told rfl hd (Nat.le_of_ble_eq_true rfl) (Nat.le_of_ble_eq_true rfl) (Nat.le_of_ble_eq_true rfl) ?_
      refine am_mono g (fun _ h24 _ ok_h24 g => ?_)
      obtain ⟨v25, rfl, ss_h24, g⟩ := g
      replace hL := QM.ss hL ss_h24
      obtain ⟨ko1, ro1_state, lo1_state, ro1_before, lo1_before, ro1_trial, lo1_trial, ro1_snapshot, lo1_snapshot, ro1_history, lo1_history, ro1_text, lo1_text⟩ := id hL
      obtain ⟨ko1_state, ro1_state_pocket, lo1_state_pocket, ro1_state_told, lo1_state_told, ro1_state_tally, lo1_state_tally, ro1_state_settings, ko1_state_settings⟩ := id lo1_state
      obtain ⟨ko1_state_pocket, ro1_state_pocket_names, ko1_state_pocket_names, ro1_state_pocket_asksToGo, ko1_state_pocket_asksToGo, ro1_state_pocket_tellings, ko1_state_pocket_tellings, ro1_state_pocket_slots, ko1_state_pocket_slots, ro1_state_pocket_awake, ko1_state_pocket_awake, ro1_state_pocket_answering, ko1_state_pocket_answering⟩ := id lo1_state_pocket
      obtain ⟨ko1_state_told, ro1_state_told_row, ko1_state_told_row⟩ := id lo1_state_told
      have ko1_state_tally := id lo1_state_tally
      obtain ⟨ko1_before, ro1_before_pocket, lo1_before_pocket, ro1_before_told, lo1_before_told, ro1_before_tally, lo1_before_tally, ro1_before_settings, ko1_before_settings⟩ := id lo1_before
      obtain ⟨ko1_before_pocket, ro1_before_pocket_names, ko1_before_pocket_names, ro1_before_pocket_asksToGo, ko1_before_pocket_asksToGo, ro1_before_pocket_tellings, ko1_before_pocket_tellings, ro1_before_pocket_slots, ko1_before_pocket_slots, ro1_before_pocket_awake, ko1_before_pocket_awake, ro1_before_pocket_answering, ko1_before_pocket_answering⟩ := id lo1_before_pocket
      obtain ⟨ko1_before_told, ro1_before_told_row, ko1_before_told_row⟩ := id lo1_before_told
      have ko1_before_tally := id lo1_before_tally
      obtain ⟨ko1_trial, ro1_trial_pocket, lo1_trial_pocket, ro1_trial_told, lo1_trial_told, ro1_trial_tally, lo1_trial_tally, ro1_trial_settings, ko1_trial_settings⟩ := id lo1_trial
      obtain ⟨ko1_trial_pocket, ro1_trial_pocket_names, ko1_trial_pocket_names, ro1_trial_pocket_asksToGo, ko1_trial_pocket_asksToGo, ro1_trial_pocket_tellings, ko1_trial_pocket_tellings, ro1_trial_pocket_slots, ko1_trial_pocket_slots, ro1_trial_pocket_awake, ko1_trial_pocket_awake, ro1_trial_pocket_answering, ko1_trial_pocket_answering⟩ := id lo1_trial_pocket
      obtain ⟨ko1_trial_told, ro1_trial_told_row, ko1_trial_told_row⟩ := id lo1_trial_told
      have ko1_trial_tally := id lo1_trial_tally
      obtain ⟨ko1_snapshot, ro1_snapshot_pocket, lo1_snapshot_pocket, ro1_snapshot_told, lo1_snapshot_told, ro1_snapshot_tally, lo1_snapshot_tally, ro1_snapshot_settings, ko1_snapshot_settings⟩ := id lo1_snapshot
      obtain ⟨ko1_snapshot_pocket, ro1_snapshot_pocket_names, ko1_snapshot_pocket_names, ro1_snapshot_pocket_asksToGo, ko1_snapshot_pocket_asksToGo, ro1_snapshot_pocket_tellings, ko1_snapshot_pocket_tellings, ro1_snapshot_pocket_slots, ko1_snapshot_pocket_slots, ro1_snapshot_pocket_awake, ko1_snapshot_pocket_awake, ro1_snapshot_pocket_answering, ko1_snapshot_pocket_answering⟩ := id lo1_snapshot_pocket
      obtain ⟨ko1_snapshot_told, ro1_snapshot_told_row, ko1_snapshot_told_row⟩ := id lo1_snapshot_told
      have ko1_snapshot_tally := id lo1_snapshot_tally
      obtain ⟨ko1_history, ro1_history_rows, ko1_history_rows⟩ := id lo1_history
      obtain ⟨ko1_text, ro1_text_characters, ko1_text_characters, ro1_text_kinds, ko1_text_kinds, ro1_text_numbers, ko1_text_numbers⟩ := id lo1_text
      show AW m_X6_total d none Q 127 [some (.inr (some 1)), some (.inl x1)] [(.inl v25)] h24 (0, 0)
      exact ax_ireturn (pc := 127) dX6_total_127 rfl g (by decide) (by decide)
    replace g := g.2
    by_cases c26 : x1 = 11
    · replace g := g.1 c26
      refine aw_tblIn (pc := 1) (tgt := 128) (off := 127) dX6_total_1 (by omega) (by omega) (by rw [c26]; rfl) (by decide) ?_
      refine aw_aload_n (pc := 128) dX6_total_128 rfl ?_
      refine aw_getr (pc := 129) (r := some 2) dX6_total_129 fl_X6_10 (by decide) rfl ko1 ro1_state ?_
      refine aw_iconst (pc := 132) dX6_total_132 ?_
      refine aw_invV (pc := 133) (md' := m_X2_valueOf) (ci := 2) (as := [(.inl 0)]) dX6_total_133 mo_X2_valueOf im_X2_valueOf se_X2_valueOf ml_X6_166 rfl ko1_state rfl hd (Nat.le_of_ble_eq_true rfl) (Nat.le_of_ble_eq_true rfl) (Nat.le_of_ble_eq_true rfl) ?_
      refine am_mono g (fun _ h27 _ ok_h27 g => ?_)
      obtain ⟨v28, rfl, ss_h27, g⟩ := g
      replace hL := QM.ss hL ss_h27
      obtain ⟨ko1, ro1_state, lo1_state, ro1_before, lo1_before, ro1_trial, lo1_trial, ro1_snapshot, lo1_snapshot, ro1_history, lo1_history, ro1_text, lo1_text⟩ := id hL
      obtain ⟨ko1_state, ro1_state_pocket, lo1_state_pocket, ro1_state_told, lo1_state_told, ro1_state_tally, lo1_state_tally, ro1_state_settings, ko1_state_settings⟩ := id lo1_state
      obtain ⟨ko1_state_pocket, ro1_state_pocket_names, ko1_state_pocket_names, ro1_state_pocket_asksToGo, ko1_state_pocket_asksToGo, ro1_state_pocket_tellings, ko1_state_pocket_tellings, ro1_state_pocket_slots, ko1_state_pocket_slots, ro1_state_pocket_awake, ko1_state_pocket_awake, ro1_state_pocket_answering, ko1_state_pocket_answering⟩ := id lo1_state_pocket
      obtain ⟨ko1_state_told, ro1_state_told_row, ko1_state_told_row⟩ := id lo1_state_told
      have ko1_state_tally := id lo1_state_tally
      obtain ⟨ko1_before, ro1_before_pocket, lo1_before_pocket, ro1_before_told, lo1_before_told, ro1_before_tally, lo1_before_tally, ro1_before_settings, ko1_before_settings⟩ := id lo1_before
      obtain ⟨ko1_before_pocket, ro1_before_pocket_names, ko1_before_pocket_names, ro1_before_pocket_asksToGo, ko1_before_pocket_asksToGo, ro1_before_pocket_tellings, ko1_before_pocket_tellings, ro1_before_pocket_slots, ko1_before_pocket_slots, ro1_before_pocket_awake, ko1_before_pocket_awake, ro1_before_pocket_answering, ko1_before_pocket_answering⟩ := id lo1_before_pocket
      obtain ⟨ko1_before_told, ro1_before_told_row, ko1_before_told_row⟩ := id lo1_before_told
      have ko1_before_tally := id lo1_before_tally
      obtain ⟨ko1_trial, ro1_trial_pocket, lo1_trial_pocket, ro1_trial_told, lo1_trial_told, ro1_trial_tally, lo1_trial_tally, ro1_trial_settings, ko1_trial_settings⟩ := id lo1_trial
      obtain ⟨ko1_trial_pocket, ro1_trial_pocket_names, ko1_trial_pocket_names, ro1_trial_pocket_asksToGo, ko1_trial_pocket_asksToGo, ro1_trial_pocket_tellings, ko1_trial_pocket_tellings, ro1_trial_pocket_slots, ko1_trial_pocket_slots, ro1_trial_pocket_awake, ko1_trial_pocket_awake, ro1_trial_pocket_answering, ko1_trial_pocket_answering⟩ := id lo1_trial_pocket
      obtain ⟨ko1_trial_told, ro1_trial_told_row, ko1_trial_told_row⟩ := id lo1_trial_told
      have ko1_trial_tally := id lo1_trial_tally
      obtain ⟨ko1_snapshot, ro1_snapshot_pocket, lo1_snapshot_pocket, ro1_snapshot_told, lo1_snapshot_told, ro1_snapshot_tally, lo1_snapshot_tally, ro1_snapshot_settings, ko1_snapshot_settings⟩ := id lo1_snapshot
      obtain ⟨ko1_snapshot_pocket, ro1_snapshot_pocket_names, ko1_snapshot_pocket_names, ro1_snapshot_pocket_asksToGo, ko1_snapshot_pocket_asksToGo, ro1_snapshot_pocket_tellings, ko1_snapshot_pocket_tellings, ro1_snapshot_pocket_slots, ko1_snapshot_pocket_slots, ro1_snapshot_pocket_awake, ko1_snapshot_pocket_awake, ro1_snapshot_pocket_answering, ko1_snapshot_pocket_answering⟩ := id lo1_snapshot_pocket
      obtain ⟨ko1_snapshot_told, ro1_snapshot_told_row, ko1_snapshot_told_row⟩ := id lo1_snapshot_told
      have ko1_snapshot_tally := id lo1_snapshot_tally
      obtain ⟨ko1_history, ro1_history_rows, ko1_history_rows⟩ := id lo1_history
      obtain ⟨ko1_text, ro1_text_characters, ko1_text_characters, ro1_text_kinds, ko1_text_kinds, ro1_text_numbers, ko1_text_numbers⟩ := id lo1_text
      show AW m_X6_total d none Q 136 [some (.inr (some 1)), some (.inl x1)] [(.inl v28)] h27 (0, 0)
      exact ax_ireturn (pc := 136) dX6_total_136 rfl g (by decide) (by decide)
    replace g := g.2
    by_cases c29 : x1 = 12
    · replace g := g.1 c29
      refine aw_tblIn (pc := 1) (tgt := 137) (off := 136) dX6_total_1 (by omega) (by omega) (by rw [c29]; rfl) (by decide) ?_
      refine aw_aload_n (pc := 137) dX6_total_137 rfl ?_
      refine aw_getr (pc := 138) (r := some 2) dX6_total_138 fl_X6_10 (by decide) rfl ko1 ro1_state ?_
      refine aw_iconst (pc := 141) dX6_total_141 ?_
      refine aw_invV (pc := 142) (md' := m_X2_valueOf) (ci := 2) (as := [(.inl 1)]) dX6_total_142 mo_X2_valueOf im_X2_valueOf se_X2_valueOf ml_X6_166 rfl ko1_state rfl hd (Nat.le_of_ble_eq_true rfl) (Nat.le_of_ble_eq_true rfl) (Nat.le_of_ble_eq_true rfl) ?_
      refine am_mono g (fun _ h30 _ ok_h30 g => ?_)
      obtain ⟨v31, rfl, ss_h30, g⟩ := g
      replace hL := QM.ss hL ss_h30
      obtain ⟨ko1, ro1_state, lo1_state, ro1_before, lo1_before, ro1_trial, lo1_trial, ro1_snapshot, lo1_snapshot, ro1_history, lo1_history, ro1_text, lo1_text⟩ := id hL
      obtain ⟨ko1_state, ro1_state_pocket, lo1_state_pocket, ro1_state_told, lo1_state_told, ro1_state_tally, lo1_state_tally, ro1_state_settings, ko1_state_settings⟩ := id lo1_state
      obtain ⟨ko1_state_pocket, ro1_state_pocket_names, ko1_state_pocket_names, ro1_state_pocket_asksToGo, ko1_state_pocket_asksToGo, ro1_state_pocket_tellings, ko1_state_pocket_tellings, ro1_state_pocket_slots, ko1_state_pocket_slots, ro1_state_pocket_awake, ko1_state_pocket_awake, ro1_state_pocket_answering, ko1_state_pocket_answering⟩ := id lo1_state_pocket
      obtain ⟨ko1_state_told, ro1_state_told_row, ko1_state_told_row⟩ := id lo1_state_told
      have ko1_state_tally := id lo1_state_tally
      obtain ⟨ko1_before, ro1_before_pocket, lo1_before_pocket, ro1_before_told, lo1_before_told, ro1_before_tally, lo1_before_tally, ro1_before_settings, ko1_before_settings⟩ := id lo1_before
      obtain ⟨ko1_before_pocket, ro1_before_pocket_names, ko1_before_pocket_names, ro1_before_pocket_asksToGo, ko1_before_pocket_asksToGo, ro1_before_pocket_tellings, ko1_before_pocket_tellings, ro1_before_pocket_slots, ko1_before_pocket_slots, ro1_before_pocket_awake, ko1_before_pocket_awake, ro1_before_pocket_answering, ko1_before_pocket_answering⟩ := id lo1_before_pocket
      obtain ⟨ko1_before_told, ro1_before_told_row, ko1_before_told_row⟩ := id lo1_before_told
      have ko1_before_tally := id lo1_before_tally
      obtain ⟨ko1_trial, ro1_trial_pocket, lo1_trial_pocket, ro1_trial_told, lo1_trial_told, ro1_trial_tally, lo1_trial_tally, ro1_trial_settings, ko1_trial_settings⟩ := id lo1_trial
      obtain ⟨ko1_trial_pocket, ro1_trial_pocket_names, ko1_trial_pocket_names, ro1_trial_pocket_asksToGo, ko1_trial_pocket_asksToGo, ro1_trial_pocket_tellings, ko1_trial_pocket_tellings, ro1_trial_pocket_slots, ko1_trial_pocket_slots, ro1_trial_pocket_awake, ko1_trial_pocket_awake, ro1_trial_pocket_answering, ko1_trial_pocket_answering⟩ := id lo1_trial_pocket
      obtain ⟨ko1_trial_told, ro1_trial_told_row, ko1_trial_told_row⟩ := id lo1_trial_told
      have ko1_trial_tally := id lo1_trial_tally
      obtain ⟨ko1_snapshot, ro1_snapshot_pocket, lo1_snapshot_pocket, ro1_snapshot_told, lo1_snapshot_told, ro1_snapshot_tally, lo1_snapshot_tally, ro1_snapshot_settings, ko1_snapshot_settings⟩ := id lo1_snapshot
      obtain ⟨ko1_snapshot_pocket, ro1_snapshot_pocket_names, ko1_snapshot_pocket_names, ro1_snapshot_pocket_asksToGo, ko1_snapshot_pocket_asksToGo, ro1_snapshot_pocket_tellings, ko1_snapshot_pocket_tellings, ro1_snapshot_pocket_slots, ko1_snapshot_pocket_slots, ro1_snapshot_pocket_awake, ko1_snapshot_pocket_awake, ro1_snapshot_pocket_answering, ko1_snapshot_pocket_answering⟩ := id lo1_snapshot_pocket
      obtain ⟨ko1_snapshot_told, ro1_snapshot_told_row, ko1_snapshot_told_row⟩ := id lo1_snapshot_told
      have ko1_snapshot_tally := id lo1_snapshot_tally
      obtain ⟨ko1_history, ro1_history_rows, ko1_history_rows⟩ := id lo1_history
      obtain ⟨ko1_text, ro1_text_characters, ko1_text_characters, ro1_text_kinds, ko1_text_kinds, ro1_text_numbers, ko1_text_numbers⟩ := id lo1_text
      show AW m_X6_total d none Q 145 [some (.inr (some 1)), some (.inl x1)] [(.inl v31)] h30 (0, 0)
      exact ax_ireturn (pc := 145) dX6_total_145 rfl g (by decide) (by decide)
    replace g := g.2
    by_cases c32 : x1 = 13
    · replace g := g.1 c32
      refine aw_tblIn (pc := 1) (tgt := 146) (off := 145) dX6_total_1 (by omega) (by omega) (by rw [c32]; rfl) (by decide) ?_
      refine aw_aload_n (pc := 146) dX6_total_146 rfl ?_
      refine aw_getr (pc := 147) (r := some 2) dX6_total_147 fl_X6_10 (by decide) rfl ko1 ro1_state ?_
      refine ax_geti (pc := 150) (v := hi h 2 4) dX6_total_150 fl_X6_169 (by decide) rfl ko1_state rfl ?_
      exact ax_ireturn (pc := 153) dX6_total_153 rfl g (by decide) (by decide)
    replace g := g.2
    by_cases c33 : x1 = 15
    · replace g := g.1 c33
      refine aw_tblIn (pc := 1) (tgt := 154) (off := 153) dX6_total_1 (by omega) (by omega) (by rw [c33]; rfl) (by decide) ?_
      refine aw_aload_n (pc := 154) dX6_total_154 rfl ?_
      refine aw_getr (pc := 155) (r := some 50) dX6_total_155 fl_X6_32 (by decide) rfl ko1 ro1_history ?_
      refine aw_invV (pc := 158) (md' := m_X0_states) (ci := 0) (as := []) dX6_total_158 mo_X0_states im_X0_states se_X0_states ml_X6_173 rfl ko1_history rfl hd (Nat.le_of_ble_eq_true rfl) (Nat.le_of_ble_eq_true rfl) (Nat.le_of_ble_eq_true rfl) ?_
      refine am_mono g (fun _ h34 _ ok_h34 g => ?_)
      obtain ⟨v35, rfl, ss_h34, g⟩ := g
      replace hL := QM.ss hL ss_h34
      obtain ⟨ko1, ro1_state, lo1_state, ro1_before, lo1_before, ro1_trial, lo1_trial, ro1_snapshot, lo1_snapshot, ro1_history, lo1_history, ro1_text, lo1_text⟩ := id hL
      obtain ⟨ko1_state, ro1_state_pocket, lo1_state_pocket, ro1_state_told, lo1_state_told, ro1_state_tally, lo1_state_tally, ro1_state_settings, ko1_state_settings⟩ := id lo1_state
      obtain ⟨ko1_state_pocket, ro1_state_pocket_names, ko1_state_pocket_names, ro1_state_pocket_asksToGo, ko1_state_pocket_asksToGo, ro1_state_pocket_tellings, ko1_state_pocket_tellings, ro1_state_pocket_slots, ko1_state_pocket_slots, ro1_state_pocket_awake, ko1_state_pocket_awake, ro1_state_pocket_answering, ko1_state_pocket_answering⟩ := id lo1_state_pocket
      obtain ⟨ko1_state_told, ro1_state_told_row, ko1_state_told_row⟩ := id lo1_state_told
      have ko1_state_tally := id lo1_state_tally
      obtain ⟨ko1_before, ro1_before_pocket, lo1_before_pocket, ro1_before_told, lo1_before_told, ro1_before_tally, lo1_before_tally, ro1_before_settings, ko1_before_settings⟩ := id lo1_before
      obtain ⟨ko1_before_pocket, ro1_before_pocket_names, ko1_before_pocket_names, ro1_before_pocket_asksToGo, ko1_before_pocket_asksToGo, ro1_before_pocket_tellings, ko1_before_pocket_tellings, ro1_before_pocket_slots, ko1_before_pocket_slots, ro1_before_pocket_awake, ko1_before_pocket_awake, ro1_before_pocket_answering, ko1_before_pocket_answering⟩ := id lo1_before_pocket
      obtain ⟨ko1_before_told, ro1_before_told_row, ko1_before_told_row⟩ := id lo1_before_told
      have ko1_before_tally := id lo1_before_tally
      obtain ⟨ko1_trial, ro1_trial_pocket, lo1_trial_pocket, ro1_trial_told, lo1_trial_told, ro1_trial_tally, lo1_trial_tally, ro1_trial_settings, ko1_trial_settings⟩ := id lo1_trial
      obtain ⟨ko1_trial_pocket, ro1_trial_pocket_names, ko1_trial_pocket_names, ro1_trial_pocket_asksToGo, ko1_trial_pocket_asksToGo, ro1_trial_pocket_tellings, ko1_trial_pocket_tellings, ro1_trial_pocket_slots, ko1_trial_pocket_slots, ro1_trial_pocket_awake, ko1_trial_pocket_awake, ro1_trial_pocket_answering, ko1_trial_pocket_answering⟩ := id lo1_trial_pocket
      obtain ⟨ko1_trial_told, ro1_trial_told_row, ko1_trial_told_row⟩ := id lo1_trial_told
      have ko1_trial_tally := id lo1_trial_tally
      obtain ⟨ko1_snapshot, ro1_snapshot_pocket, lo1_snapshot_pocket, ro1_snapshot_told, lo1_snapshot_told, ro1_snapshot_tally, lo1_snapshot_tally, ro1_snapshot_settings, ko1_snapshot_settings⟩ := id lo1_snapshot
      obtain ⟨ko1_snapshot_pocket, ro1_snapshot_pocket_names, ko1_snapshot_pocket_names, ro1_snapshot_pocket_asksToGo, ko1_snapshot_pocket_asksToGo, ro1_snapshot_pocket_tellings, ko1_snapshot_pocket_tellings, ro1_snapshot_pocket_slots, ko1_snapshot_pocket_slots, ro1_snapshot_pocket_awake, ko1_snapshot_pocket_awake, ro1_snapshot_pocket_answering, ko1_snapshot_pocket_answering⟩ := id lo1_snapshot_pocket
      obtain ⟨ko1_snapshot_told, ro1_snapshot_told_row, ko1_snapshot_told_row⟩ := id lo1_snapshot_told
      have ko1_snapshot_tally := id lo1_snapshot_tally
      obtain ⟨ko1_history, ro1_history_rows, ko1_history_rows⟩ := id lo1_history
      obtain ⟨ko1_text, ro1_text_characters, ko1_text_characters, ro1_text_kinds, ko1_text_kinds, ro1_text_numbers, ko1_text_numbers⟩ := id lo1_text
      show AW m_X6_total d none Q 161 [some (.inr (some 1)), some (.inl x1)] [(.inl v35)] h34 (0, 0)
      exact ax_ireturn (pc := 161) dX6_total_161 rfl g (by decide) (by decide)
    replace g := g.2
    have c36 : x1 = 16 := by omega
    replace g := g c36
    refine aw_tblIn (pc := 1) (tgt := 162) (off := 161) dX6_total_1 (by omega) (by omega) (by rw [c36]; rfl) (by decide) ?_
    refine aw_aload_n (pc := 162) dX6_total_162 rfl ?_
    refine aw_getr (pc := 163) (r := some 100) dX6_total_163 fl_X6_39 (by decide) rfl ko1 ro1_text ?_
    refine aw_invV (pc := 166) (md' := m_X4_length) (ci := 4) (as := []) dX6_total_166 mo_X4_length im_X4_length se_X4_length ml_X6_176 rfl ko1_text rfl hd (Nat.le_of_ble_eq_true rfl) (Nat.le_of_ble_eq_true rfl) (Nat.le_of_ble_eq_true rfl) ?_
    refine am_mono g (fun _ h37 _ ok_h37 g => ?_)
    obtain ⟨v38, rfl, ss_h37, g⟩ := g
    replace hL := QM.ss hL ss_h37
    obtain ⟨ko1, ro1_state, lo1_state, ro1_before, lo1_before, ro1_trial, lo1_trial, ro1_snapshot, lo1_snapshot, ro1_history, lo1_history, ro1_text, lo1_text⟩ := id hL
    obtain ⟨ko1_state, ro1_state_pocket, lo1_state_pocket, ro1_state_told, lo1_state_told, ro1_state_tally, lo1_state_tally, ro1_state_settings, ko1_state_settings⟩ := id lo1_state
    obtain ⟨ko1_state_pocket, ro1_state_pocket_names, ko1_state_pocket_names, ro1_state_pocket_asksToGo, ko1_state_pocket_asksToGo, ro1_state_pocket_tellings, ko1_state_pocket_tellings, ro1_state_pocket_slots, ko1_state_pocket_slots, ro1_state_pocket_awake, ko1_state_pocket_awake, ro1_state_pocket_answering, ko1_state_pocket_answering⟩ := id lo1_state_pocket
    obtain ⟨ko1_state_told, ro1_state_told_row, ko1_state_told_row⟩ := id lo1_state_told
    have ko1_state_tally := id lo1_state_tally
    obtain ⟨ko1_before, ro1_before_pocket, lo1_before_pocket, ro1_before_told, lo1_before_told, ro1_before_tally, lo1_before_tally, ro1_before_settings, ko1_before_settings⟩ := id lo1_before
    obtain ⟨ko1_before_pocket, ro1_before_pocket_names, ko1_before_pocket_names, ro1_before_pocket_asksToGo, ko1_before_pocket_asksToGo, ro1_before_pocket_tellings, ko1_before_pocket_tellings, ro1_before_pocket_slots, ko1_before_pocket_slots, ro1_before_pocket_awake, ko1_before_pocket_awake, ro1_before_pocket_answering, ko1_before_pocket_answering⟩ := id lo1_before_pocket
    obtain ⟨ko1_before_told, ro1_before_told_row, ko1_before_told_row⟩ := id lo1_before_told
    have ko1_before_tally := id lo1_before_tally
    obtain ⟨ko1_trial, ro1_trial_pocket, lo1_trial_pocket, ro1_trial_told, lo1_trial_told, ro1_trial_tally, lo1_trial_tally, ro1_trial_settings, ko1_trial_settings⟩ := id lo1_trial
    obtain ⟨ko1_trial_pocket, ro1_trial_pocket_names, ko1_trial_pocket_names, ro1_trial_pocket_asksToGo, ko1_trial_pocket_asksToGo, ro1_trial_pocket_tellings, ko1_trial_pocket_tellings, ro1_trial_pocket_slots, ko1_trial_pocket_slots, ro1_trial_pocket_awake, ko1_trial_pocket_awake, ro1_trial_pocket_answering, ko1_trial_pocket_answering⟩ := id lo1_trial_pocket
    obtain ⟨ko1_trial_told, ro1_trial_told_row, ko1_trial_told_row⟩ := id lo1_trial_told
    have ko1_trial_tally := id lo1_trial_tally
    obtain ⟨ko1_snapshot, ro1_snapshot_pocket, lo1_snapshot_pocket, ro1_snapshot_told, lo1_snapshot_told, ro1_snapshot_tally, lo1_snapshot_tally, ro1_snapshot_settings, ko1_snapshot_settings⟩ := id lo1_snapshot
    obtain ⟨ko1_snapshot_pocket, ro1_snapshot_pocket_names, ko1_snapshot_pocket_names, ro1_snapshot_pocket_asksToGo, ko1_snapshot_pocket_asksToGo, ro1_snapshot_pocket_tellings, ko1_snapshot_pocket_tellings, ro1_snapshot_pocket_slots, ko1_snapshot_pocket_slots, ro1_snapshot_pocket_awake, ko1_snapshot_pocket_awake, ro1_snapshot_pocket_answering, ko1_snapshot_pocket_answering⟩ := id lo1_snapshot_pocket
    obtain ⟨ko1_snapshot_told, ro1_snapshot_told_row, ko1_snapshot_told_row⟩ := id lo1_snapshot_told
    have ko1_snapshot_tally := id lo1_snapshot_tally
    obtain ⟨ko1_history, ro1_history_rows, ko1_history_rows⟩ := id lo1_history
    obtain ⟨ko1_text, ro1_text_characters, ko1_text_characters, ro1_text_kinds, ko1_text_kinds, ro1_text_numbers, ko1_text_numbers⟩ := id lo1_text
    show AW m_X6_total d none Q 169 [some (.inr (some 1)), some (.inl x1)] [(.inl v38)] h37 (0, 0)
    exact ax_ireturn (pc := 169) dX6_total_169 rfl g (by decide) (by decide)
set_option maxRecDepth 100000 in
set_option maxHeartbeats 4000000 in
theorem vc_X6_count {d : Nat} {Q : Option Int → AH → Prop} {h : AH} {x1 x2 : Int} (hd : 1 ≤ d) (hL : QM h)
  (g :
    AM (d - 1) m_X6_isBeginning [(.inl x1), (.inl x2)] h (fun r h1 => 
      ∃ v2, r = some v2 ∧ SS h h1 ∧
      ((v2 = 0 → (
        Q (some (-2)) h1
      )) ∧
      (¬ (v2 = 0) → (
        AM (d - 1) m_X1_awakeWith [(.inr (some 3)), (.inl x1), (.inl x2)] h1 (fun r h4 => 
          ∃ v5, r = some v5 ∧ SS h1 h4 ∧
          Q (some v5) h4)
      ))))) :
  AM d m_X6_count [(.inr (some 1)), (.inl x1), (.inl x2)] h Q := by
  refine am_body mo_X6_count (Nat.le_of_ble_eq_true rfl) ?_
  show AW m_X6_count d none Q 0 [some (.inr (some 1)), some (.inl x1), some (.inl x2)] [] h (0, 0)
  obtain ⟨ko1, ro1_state, lo1_state, ro1_before, lo1_before, ro1_trial, lo1_trial, ro1_snapshot, lo1_snapshot, ro1_history, lo1_history, ro1_text, lo1_text⟩ := id hL
  obtain ⟨ko1_state, ro1_state_pocket, lo1_state_pocket, ro1_state_told, lo1_state_told, ro1_state_tally, lo1_state_tally, ro1_state_settings, ko1_state_settings⟩ := id lo1_state
  obtain ⟨ko1_state_pocket, ro1_state_pocket_names, ko1_state_pocket_names, ro1_state_pocket_asksToGo, ko1_state_pocket_asksToGo, ro1_state_pocket_tellings, ko1_state_pocket_tellings, ro1_state_pocket_slots, ko1_state_pocket_slots, ro1_state_pocket_awake, ko1_state_pocket_awake, ro1_state_pocket_answering, ko1_state_pocket_answering⟩ := id lo1_state_pocket
  obtain ⟨ko1_state_told, ro1_state_told_row, ko1_state_told_row⟩ := id lo1_state_told
  have ko1_state_tally := id lo1_state_tally
  obtain ⟨ko1_before, ro1_before_pocket, lo1_before_pocket, ro1_before_told, lo1_before_told, ro1_before_tally, lo1_before_tally, ro1_before_settings, ko1_before_settings⟩ := id lo1_before
  obtain ⟨ko1_before_pocket, ro1_before_pocket_names, ko1_before_pocket_names, ro1_before_pocket_asksToGo, ko1_before_pocket_asksToGo, ro1_before_pocket_tellings, ko1_before_pocket_tellings, ro1_before_pocket_slots, ko1_before_pocket_slots, ro1_before_pocket_awake, ko1_before_pocket_awake, ro1_before_pocket_answering, ko1_before_pocket_answering⟩ := id lo1_before_pocket
  obtain ⟨ko1_before_told, ro1_before_told_row, ko1_before_told_row⟩ := id lo1_before_told
  have ko1_before_tally := id lo1_before_tally
  obtain ⟨ko1_trial, ro1_trial_pocket, lo1_trial_pocket, ro1_trial_told, lo1_trial_told, ro1_trial_tally, lo1_trial_tally, ro1_trial_settings, ko1_trial_settings⟩ := id lo1_trial
  obtain ⟨ko1_trial_pocket, ro1_trial_pocket_names, ko1_trial_pocket_names, ro1_trial_pocket_asksToGo, ko1_trial_pocket_asksToGo, ro1_trial_pocket_tellings, ko1_trial_pocket_tellings, ro1_trial_pocket_slots, ko1_trial_pocket_slots, ro1_trial_pocket_awake, ko1_trial_pocket_awake, ro1_trial_pocket_answering, ko1_trial_pocket_answering⟩ := id lo1_trial_pocket
  obtain ⟨ko1_trial_told, ro1_trial_told_row, ko1_trial_told_row⟩ := id lo1_trial_told
  have ko1_trial_tally := id lo1_trial_tally
  obtain ⟨ko1_snapshot, ro1_snapshot_pocket, lo1_snapshot_pocket, ro1_snapshot_told, lo1_snapshot_told, ro1_snapshot_tally, lo1_snapshot_tally, ro1_snapshot_settings, ko1_snapshot_settings⟩ := id lo1_snapshot
  obtain ⟨ko1_snapshot_pocket, ro1_snapshot_pocket_names, ko1_snapshot_pocket_names, ro1_snapshot_pocket_asksToGo, ko1_snapshot_pocket_asksToGo, ro1_snapshot_pocket_tellings, ko1_snapshot_pocket_tellings, ro1_snapshot_pocket_slots, ko1_snapshot_pocket_slots, ro1_snapshot_pocket_awake, ko1_snapshot_pocket_awake, ro1_snapshot_pocket_answering, ko1_snapshot_pocket_answering⟩ := id lo1_snapshot_pocket
  obtain ⟨ko1_snapshot_told, ro1_snapshot_told_row, ko1_snapshot_told_row⟩ := id lo1_snapshot_told
  have ko1_snapshot_tally := id lo1_snapshot_tally
  obtain ⟨ko1_history, ro1_history_rows, ko1_history_rows⟩ := id lo1_history
  obtain ⟨ko1_text, ro1_text_characters, ko1_text_characters, ro1_text_kinds, ko1_text_kinds, ro1_text_numbers, ko1_text_numbers⟩ := id lo1_text
  refine aw_iload_n (pc := 0) dX6_count_0 rfl ?_
  refine aw_iload_n (pc := 1) dX6_count_1 rfl ?_
  refine aw_invS (pc := 2) (md' := m_X6_isBeginning) (as := [(.inl x1), (.inl x2)]) dX6_count_2 mo_X6_isBeginning sm_X6_isBeginning ml_X6_77 rfl rfl hd (Nat.le_of_ble_eq_true rfl) (Nat.le_of_ble_eq_true rfl) (Nat.le_of_ble_eq_true rfl) ?_
  refine am_mono g (fun _ h1 _ ok_h1 g => ?_)
  obtain ⟨v2, rfl, ss_h1, g⟩ := g
  replace hL := QM.ss hL ss_h1
  obtain ⟨ko1, ro1_state, lo1_state, ro1_before, lo1_before, ro1_trial, lo1_trial, ro1_snapshot, lo1_snapshot, ro1_history, lo1_history, ro1_text, lo1_text⟩ := id hL
  obtain ⟨ko1_state, ro1_state_pocket, lo1_state_pocket, ro1_state_told, lo1_state_told, ro1_state_tally, lo1_state_tally, ro1_state_settings, ko1_state_settings⟩ := id lo1_state
  obtain ⟨ko1_state_pocket, ro1_state_pocket_names, ko1_state_pocket_names, ro1_state_pocket_asksToGo, ko1_state_pocket_asksToGo, ro1_state_pocket_tellings, ko1_state_pocket_tellings, ro1_state_pocket_slots, ko1_state_pocket_slots, ro1_state_pocket_awake, ko1_state_pocket_awake, ro1_state_pocket_answering, ko1_state_pocket_answering⟩ := id lo1_state_pocket
  obtain ⟨ko1_state_told, ro1_state_told_row, ko1_state_told_row⟩ := id lo1_state_told
  have ko1_state_tally := id lo1_state_tally
  obtain ⟨ko1_before, ro1_before_pocket, lo1_before_pocket, ro1_before_told, lo1_before_told, ro1_before_tally, lo1_before_tally, ro1_before_settings, ko1_before_settings⟩ := id lo1_before
  obtain ⟨ko1_before_pocket, ro1_before_pocket_names, ko1_before_pocket_names, ro1_before_pocket_asksToGo, ko1_before_pocket_asksToGo, ro1_before_pocket_tellings, ko1_before_pocket_tellings, ro1_before_pocket_slots, ko1_before_pocket_slots, ro1_before_pocket_awake, ko1_before_pocket_awake, ro1_before_pocket_answering, ko1_before_pocket_answering⟩ := id lo1_before_pocket
  obtain ⟨ko1_before_told, ro1_before_told_row, ko1_before_told_row⟩ := id lo1_before_told
  have ko1_before_tally := id lo1_before_tally
  obtain ⟨ko1_trial, ro1_trial_pocket, lo1_trial_pocket, ro1_trial_told, lo1_trial_told, ro1_trial_tally, lo1_trial_tally, ro1_trial_settings, ko1_trial_settings⟩ := id lo1_trial
  obtain ⟨ko1_trial_pocket, ro1_trial_pocket_names, ko1_trial_pocket_names, ro1_trial_pocket_asksToGo, ko1_trial_pocket_asksToGo, ro1_trial_pocket_tellings, ko1_trial_pocket_tellings, ro1_trial_pocket_slots, ko1_trial_pocket_slots, ro1_trial_pocket_awake, ko1_trial_pocket_awake, ro1_trial_pocket_answering, ko1_trial_pocket_answering⟩ := id lo1_trial_pocket
  obtain ⟨ko1_trial_told, ro1_trial_told_row, ko1_trial_told_row⟩ := id lo1_trial_told
  have ko1_trial_tally := id lo1_trial_tally
  obtain ⟨ko1_snapshot, ro1_snapshot_pocket, lo1_snapshot_pocket, ro1_snapshot_told, lo1_snapshot_told, ro1_snapshot_tally, lo1_snapshot_tally, ro1_snapshot_settings, ko1_snapshot_settings⟩ := id lo1_snapshot
  obtain ⟨ko1_snapshot_pocket, ro1_snapshot_pocket_names, ko1_snapshot_pocket_names, ro1_snapshot_pocket_asksToGo, ko1_snapshot_pocket_asksToGo, ro1_snapshot_pocket_tellings, ko1_snapshot_pocket_tellings, ro1_snapshot_pocket_slots, ko1_snapshot_pocket_slots, ro1_snapshot_pocket_awake, ko1_snapshot_pocket_awake, ro1_snapshot_pocket_answering, ko1_snapshot_pocket_answering⟩ := id lo1_snapshot_pocket
  obtain ⟨ko1_snapshot_told, ro1_snapshot_told_row, ko1_snapshot_told_row⟩ := id lo1_snapshot_told
  have ko1_snapshot_tally := id lo1_snapshot_tally
  obtain ⟨ko1_history, ro1_history_rows, ko1_history_rows⟩ := id lo1_history
  obtain ⟨ko1_text, ro1_text_characters, ko1_text_characters, ro1_text_kinds, ko1_text_kinds, ro1_text_numbers, ko1_text_numbers⟩ := id lo1_text
  show AW m_X6_count d none Q 5 [some (.inr (some 1)), some (.inl x1), some (.inl x2)] [(.inl v2)] h1 (0, 0)
  refine aw_if_eq (pc := 5) (tgt := 23) dX6_count_5 (by decide) (fun c3 => ?_) (fun c3 => ?_)
  · replace g := g.1 c3
    refine aw_bipush (pc := 23) dX6_count_23 ?_
    exact ax_ireturn (pc := 25) dX6_count_25 rfl g (by decide) (by decide)
  · replace g := g.2 c3
    refine aw_aload_n (pc := 8) dX6_count_8 rfl ?_
    refine aw_getr (pc := 9) (r := some 2) dX6_count_9 fl_X6_10 (by decide) rfl ko1 ro1_state ?_
    refine aw_getr (pc := 12) (r := some 3) dX6_count_12 fl_X6_122 (by decide) rfl ko1_state ro1_state_pocket ?_
    refine aw_iload_n (pc := 15) dX6_count_15 rfl ?_
    refine aw_iload_n (pc := 16) dX6_count_16 rfl ?_
    refine aw_invV (pc := 17) (md' := m_X1_awakeWith) (ci := 1) (as := [(.inl x1), (.inl x2)]) dX6_count_17 mo_X1_awakeWith im_X1_awakeWith se_X1_awakeWith ml_X6_188 rfl ko1_state_pocket rfl hd (Nat.le_of_ble_eq_true rfl) (Nat.le_of_ble_eq_true rfl) (Nat.le_of_ble_eq_true rfl) ?_
    refine am_mono g (fun _ h4 _ ok_h4 g => ?_)
    obtain ⟨v5, rfl, ss_h4, g⟩ := g
    replace hL := QM.ss hL ss_h4
    obtain ⟨ko1, ro1_state, lo1_state, ro1_before, lo1_before, ro1_trial, lo1_trial, ro1_snapshot, lo1_snapshot, ro1_history, lo1_history, ro1_text, lo1_text⟩ := id hL
    obtain ⟨ko1_state, ro1_state_pocket, lo1_state_pocket, ro1_state_told, lo1_state_told, ro1_state_tally, lo1_state_tally, ro1_state_settings, ko1_state_settings⟩ := id lo1_state
    obtain ⟨ko1_state_pocket, ro1_state_pocket_names, ko1_state_pocket_names, ro1_state_pocket_asksToGo, ko1_state_pocket_asksToGo, ro1_state_pocket_tellings, ko1_state_pocket_tellings, ro1_state_pocket_slots, ko1_state_pocket_slots, ro1_state_pocket_awake, ko1_state_pocket_awake, ro1_state_pocket_answering, ko1_state_pocket_answering⟩ := id lo1_state_pocket
    obtain ⟨ko1_state_told, ro1_state_told_row, ko1_state_told_row⟩ := id lo1_state_told
    have ko1_state_tally := id lo1_state_tally
    obtain ⟨ko1_before, ro1_before_pocket, lo1_before_pocket, ro1_before_told, lo1_before_told, ro1_before_tally, lo1_before_tally, ro1_before_settings, ko1_before_settings⟩ := id lo1_before
    obtain ⟨ko1_before_pocket, ro1_before_pocket_names, ko1_before_pocket_names, ro1_before_pocket_asksToGo, ko1_before_pocket_asksToGo, ro1_before_pocket_tellings, ko1_before_pocket_tellings, ro1_before_pocket_slots, ko1_before_pocket_slots, ro1_before_pocket_awake, ko1_before_pocket_awake, ro1_before_pocket_answering, ko1_before_pocket_answering⟩ := id lo1_before_pocket
    obtain ⟨ko1_before_told, ro1_before_told_row, ko1_before_told_row⟩ := id lo1_before_told
    have ko1_before_tally := id lo1_before_tally
    obtain ⟨ko1_trial, ro1_trial_pocket, lo1_trial_pocket, ro1_trial_told, lo1_trial_told, ro1_trial_tally, lo1_trial_tally, ro1_trial_settings, ko1_trial_settings⟩ := id lo1_trial
    obtain ⟨ko1_trial_pocket, ro1_trial_pocket_names, ko1_trial_pocket_names, ro1_trial_pocket_asksToGo, ko1_trial_pocket_asksToGo, ro1_trial_pocket_tellings, ko1_trial_pocket_tellings, ro1_trial_pocket_slots, ko1_trial_pocket_slots, ro1_trial_pocket_awake, ko1_trial_pocket_awake, ro1_trial_pocket_answering, ko1_trial_pocket_answering⟩ := id lo1_trial_pocket
    obtain ⟨ko1_trial_told, ro1_trial_told_row, ko1_trial_told_row⟩ := id lo1_trial_told
    have ko1_trial_tally := id lo1_trial_tally
    obtain ⟨ko1_snapshot, ro1_snapshot_pocket, lo1_snapshot_pocket, ro1_snapshot_told, lo1_snapshot_told, ro1_snapshot_tally, lo1_snapshot_tally, ro1_snapshot_settings, ko1_snapshot_settings⟩ := id lo1_snapshot
    obtain ⟨ko1_snapshot_pocket, ro1_snapshot_pocket_names, ko1_snapshot_pocket_names, ro1_snapshot_pocket_asksToGo, ko1_snapshot_pocket_asksToGo, ro1_snapshot_pocket_tellings, ko1_snapshot_pocket_tellings, ro1_snapshot_pocket_slots, ko1_snapshot_pocket_slots, ro1_snapshot_pocket_awake, ko1_snapshot_pocket_awake, ro1_snapshot_pocket_answering, ko1_snapshot_pocket_answering⟩ := id lo1_snapshot_pocket
    obtain ⟨ko1_snapshot_told, ro1_snapshot_told_row, ko1_snapshot_told_row⟩ := id lo1_snapshot_told
    have ko1_snapshot_tally := id lo1_snapshot_tally
    obtain ⟨ko1_history, ro1_history_rows, ko1_history_rows⟩ := id lo1_history
    obtain ⟨ko1_text, ro1_text_characters, ko1_text_characters, ro1_text_kinds, ko1_text_kinds, ro1_text_numbers, ko1_text_numbers⟩ := id lo1_text
    show AW m_X6_count d none Q 20 [some (.inr (some 1)), some (.inl x1), some (.inl x2)] [(.inl v5)] h4 (0, 0)
    refine aw_goto (pc := 20) (tgt := 25) dX6_count_20 (by decide) ?_
    exact ax_ireturn (pc := 25) dX6_count_25 rfl g (by decide) (by decide)
set_option maxRecDepth 100000 in
set_option maxHeartbeats 4000000 in
theorem vc_X6_walkTakes {d : Nat} {Q : Option Int → AH → Prop} {h : AH} {x1 x2 : Int} (hd : 1 ≤ d) (hL : QM h)
  (g :
    ((x2 < 0 → (
      Q (some (-2)) h
    )) ∧
    (¬ (x2 < 0) → (
      ((x2 ≤ 4 → (
        AM (d - 1) m_X2_copyFrom [(.inr (some 26)), (.inr (some 2))] h (fun r h3 => 
          r = none ∧ SS h h3 ∧
          AM (d - 1) m_X2_makeWalk [(.inr (some 26)), (.inl x1)] h3 (fun r h4 => 
            ∃ v5, r = some v5 ∧ SS h3 h4 ∧
            (((x2 < 0 ∨ 3 < x2) → (
              Q (some (hi h4 26 5)) h4
            )) ∧
            (((x2 = 0) → (
              Q (some (w ((hi h4 36 0) - (hi h4 12 0)))) h4
            )) ∧
            (((x2 = 1) → (
              Q (some (w ((hi h4 36 5) - (hi h4 12 5)))) h4
            )) ∧
            (((x2 = 2) → (
              Q (some v5) h4
            )) ∧
            (((x2 = 3) → (
              Q (some (w ((hi h4 36 4) - (hi h4 12 4)))) h4
            )))))))))
      )) ∧
      (¬ (x2 ≤ 4) → (
        Q (some (-2)) h
      )))
    )))) :
  AM d m_X6_walkTakes [(.inr (some 1)), (.inl x1), (.inl x2)] h Q := by
  refine am_body mo_X6_walkTakes (Nat.le_of_ble_eq_true rfl) ?_
  show AW m_X6_walkTakes d none Q 0 [some (.inr (some 1)), some (.inl x1), some (.inl x2), none] [] h (0, 0)
  obtain ⟨ko1, ro1_state, lo1_state, ro1_before, lo1_before, ro1_trial, lo1_trial, ro1_snapshot, lo1_snapshot, ro1_history, lo1_history, ro1_text, lo1_text⟩ := id hL
  obtain ⟨ko1_state, ro1_state_pocket, lo1_state_pocket, ro1_state_told, lo1_state_told, ro1_state_tally, lo1_state_tally, ro1_state_settings, ko1_state_settings⟩ := id lo1_state
  obtain ⟨ko1_state_pocket, ro1_state_pocket_names, ko1_state_pocket_names, ro1_state_pocket_asksToGo, ko1_state_pocket_asksToGo, ro1_state_pocket_tellings, ko1_state_pocket_tellings, ro1_state_pocket_slots, ko1_state_pocket_slots, ro1_state_pocket_awake, ko1_state_pocket_awake, ro1_state_pocket_answering, ko1_state_pocket_answering⟩ := id lo1_state_pocket
  obtain ⟨ko1_state_told, ro1_state_told_row, ko1_state_told_row⟩ := id lo1_state_told
  have ko1_state_tally := id lo1_state_tally
  obtain ⟨ko1_before, ro1_before_pocket, lo1_before_pocket, ro1_before_told, lo1_before_told, ro1_before_tally, lo1_before_tally, ro1_before_settings, ko1_before_settings⟩ := id lo1_before
  obtain ⟨ko1_before_pocket, ro1_before_pocket_names, ko1_before_pocket_names, ro1_before_pocket_asksToGo, ko1_before_pocket_asksToGo, ro1_before_pocket_tellings, ko1_before_pocket_tellings, ro1_before_pocket_slots, ko1_before_pocket_slots, ro1_before_pocket_awake, ko1_before_pocket_awake, ro1_before_pocket_answering, ko1_before_pocket_answering⟩ := id lo1_before_pocket
  obtain ⟨ko1_before_told, ro1_before_told_row, ko1_before_told_row⟩ := id lo1_before_told
  have ko1_before_tally := id lo1_before_tally
  obtain ⟨ko1_trial, ro1_trial_pocket, lo1_trial_pocket, ro1_trial_told, lo1_trial_told, ro1_trial_tally, lo1_trial_tally, ro1_trial_settings, ko1_trial_settings⟩ := id lo1_trial
  obtain ⟨ko1_trial_pocket, ro1_trial_pocket_names, ko1_trial_pocket_names, ro1_trial_pocket_asksToGo, ko1_trial_pocket_asksToGo, ro1_trial_pocket_tellings, ko1_trial_pocket_tellings, ro1_trial_pocket_slots, ko1_trial_pocket_slots, ro1_trial_pocket_awake, ko1_trial_pocket_awake, ro1_trial_pocket_answering, ko1_trial_pocket_answering⟩ := id lo1_trial_pocket
  obtain ⟨ko1_trial_told, ro1_trial_told_row, ko1_trial_told_row⟩ := id lo1_trial_told
  have ko1_trial_tally := id lo1_trial_tally
  obtain ⟨ko1_snapshot, ro1_snapshot_pocket, lo1_snapshot_pocket, ro1_snapshot_told, lo1_snapshot_told, ro1_snapshot_tally, lo1_snapshot_tally, ro1_snapshot_settings, ko1_snapshot_settings⟩ := id lo1_snapshot
  obtain ⟨ko1_snapshot_pocket, ro1_snapshot_pocket_names, ko1_snapshot_pocket_names, ro1_snapshot_pocket_asksToGo, ko1_snapshot_pocket_asksToGo, ro1_snapshot_pocket_tellings, ko1_snapshot_pocket_tellings, ro1_snapshot_pocket_slots, ko1_snapshot_pocket_slots, ro1_snapshot_pocket_awake, ko1_snapshot_pocket_awake, ro1_snapshot_pocket_answering, ko1_snapshot_pocket_answering⟩ := id lo1_snapshot_pocket
  obtain ⟨ko1_snapshot_told, ro1_snapshot_told_row, ko1_snapshot_told_row⟩ := id lo1_snapshot_told
  have ko1_snapshot_tally := id lo1_snapshot_tally
  obtain ⟨ko1_history, ro1_history_rows, ko1_history_rows⟩ := id lo1_history
  obtain ⟨ko1_text, ro1_text_characters, ko1_text_characters, ro1_text_kinds, ko1_text_kinds, ro1_text_numbers, ko1_text_numbers⟩ := id lo1_text
  refine aw_iload_n (pc := 0) dX6_walkTakes_0 rfl ?_
  refine aw_if_lt (pc := 1) (tgt := 9) dX6_walkTakes_1 (by decide) (fun c1 => ?_) (fun c1 => ?_)
  · replace g := g.1 c1
    refine aw_bipush (pc := 9) dX6_walkTakes_9 ?_
    exact ax_ireturn (pc := 11) dX6_walkTakes_11 rfl g (by decide) (by decide)
  · replace g := g.2 c1
    refine aw_iload_n (pc := 4) dX6_walkTakes_4 rfl ?_
    refine aw_iconst (pc := 5) dX6_walkTakes_5 ?_
    refine aw_icmp_le (pc := 6) (tgt := 12) dX6_walkTakes_6 (by decide) (fun c2 => ?_) (fun c2 => ?_)
    · replace g := g.1 c2
      refine aw_aload_n (pc := 12) dX6_walkTakes_12 rfl ?_
      refine aw_getr (pc := 13) (r := some 26) dX6_walkTakes_13 fl_X6_19 (by decide) rfl ko1 ro1_trial ?_
      refine aw_aload_n (pc := 16) dX6_walkTakes_16 rfl ?_
      refine aw_getr (pc := 17) (r := some 2) dX6_walkTakes_17 fl_X6_10 (by decide) rfl ko1 ro1_state ?_
      refine aw_invV (pc := 20) (md' := m_X2_copyFrom) (ci := 2) (as := [(.inr (some 2))]) dX6_walkTakes_20 mo_X2_copyFrom im_X2_copyFrom se_X2_copyFrom ml_X6_43 rfl ko1_trial rfl hd (Nat.le_of_ble_eq_true rfl) (Nat.le_of_ble_eq_true rfl) (Nat.le_of_ble_eq_true rfl) ?_
      refine am_mono g (fun _ h3 _ ok_h3 g => ?_)
      obtain ⟨rfl, ss_h3, g⟩ := g
      replace hL := QM.ss hL ss_h3
      obtain ⟨ko1, ro1_state, lo1_state, ro1_before, lo1_before, ro1_trial, lo1_trial, ro1_snapshot, lo1_snapshot, ro1_history, lo1_history, ro1_text, lo1_text⟩ := id hL
      obtain ⟨ko1_state, ro1_state_pocket, lo1_state_pocket, ro1_state_told, lo1_state_told, ro1_state_tally, lo1_state_tally, ro1_state_settings, ko1_state_settings⟩ := id lo1_state
      obtain ⟨ko1_state_pocket, ro1_state_pocket_names, ko1_state_pocket_names, ro1_state_pocket_asksToGo, ko1_state_pocket_asksToGo, ro1_state_pocket_tellings, ko1_state_pocket_tellings, ro1_state_pocket_slots, ko1_state_pocket_slots, ro1_state_pocket_awake, ko1_state_pocket_awake, ro1_state_pocket_answering, ko1_state_pocket_answering⟩ := id lo1_state_pocket
      obtain ⟨ko1_state_told, ro1_state_told_row, ko1_state_told_row⟩ := id lo1_state_told
      have ko1_state_tally := id lo1_state_tally
      obtain ⟨ko1_before, ro1_before_pocket, lo1_before_pocket, ro1_before_told, lo1_before_told, ro1_before_tally, lo1_before_tally, ro1_before_settings, ko1_before_settings⟩ := id lo1_before
      obtain ⟨ko1_before_pocket, ro1_before_pocket_names, ko1_before_pocket_names, ro1_before_pocket_asksToGo, ko1_before_pocket_asksToGo, ro1_before_pocket_tellings, ko1_before_pocket_tellings, ro1_before_pocket_slots, ko1_before_pocket_slots, ro1_before_pocket_awake, ko1_before_pocket_awake, ro1_before_pocket_answering, ko1_before_pocket_answering⟩ := id lo1_before_pocket
      obtain ⟨ko1_before_told, ro1_before_told_row, ko1_before_told_row⟩ := id lo1_before_told
      have ko1_before_tally := id lo1_before_tally
      obtain ⟨ko1_trial, ro1_trial_pocket, lo1_trial_pocket, ro1_trial_told, lo1_trial_told, ro1_trial_tally, lo1_trial_tally, ro1_trial_settings, ko1_trial_settings⟩ := id lo1_trial
      obtain ⟨ko1_trial_pocket, ro1_trial_pocket_names, ko1_trial_pocket_names, ro1_trial_pocket_asksToGo, ko1_trial_pocket_asksToGo, ro1_trial_pocket_tellings, ko1_trial_pocket_tellings, ro1_trial_pocket_slots, ko1_trial_pocket_slots, ro1_trial_pocket_awake, ko1_trial_pocket_awake, ro1_trial_pocket_answering, ko1_trial_pocket_answering⟩ := id lo1_trial_pocket
      obtain ⟨ko1_trial_told, ro1_trial_told_row, ko1_trial_told_row⟩ := id lo1_trial_told
      have ko1_trial_tally := id lo1_trial_tally
      obtain ⟨ko1_snapshot, ro1_snapshot_pocket, lo1_snapshot_pocket, ro1_snapshot_told, lo1_snapshot_told, ro1_snapshot_tally, lo1_snapshot_tally, ro1_snapshot_settings, ko1_snapshot_settings⟩ := id lo1_snapshot
      obtain ⟨ko1_snapshot_pocket, ro1_snapshot_pocket_names, ko1_snapshot_pocket_names, ro1_snapshot_pocket_asksToGo, ko1_snapshot_pocket_asksToGo, ro1_snapshot_pocket_tellings, ko1_snapshot_pocket_tellings, ro1_snapshot_pocket_slots, ko1_snapshot_pocket_slots, ro1_snapshot_pocket_awake, ko1_snapshot_pocket_awake, ro1_snapshot_pocket_answering, ko1_snapshot_pocket_answering⟩ := id lo1_snapshot_pocket
      obtain ⟨ko1_snapshot_told, ro1_snapshot_told_row, ko1_snapshot_told_row⟩ := id lo1_snapshot_told
      have ko1_snapshot_tally := id lo1_snapshot_tally
      obtain ⟨ko1_history, ro1_history_rows, ko1_history_rows⟩ := id lo1_history
      obtain ⟨ko1_text, ro1_text_characters, ko1_text_characters, ro1_text_kinds, ko1_text_kinds, ro1_text_numbers, ko1_text_numbers⟩ := id lo1_text
      show AW m_X6_walkTakes d none Q 23 [some (.inr (some 1)), some (.inl x1), some (.inl x2), none] [] h3 (0, 0)
      refine aw_aload_n (pc := 23) dX6_walkTakes_23 rfl ?_
      refine aw_getr (pc := 24) (r := some 26) dX6_walkTakes_24 fl_X6_19 (by decide) rfl ko1 ro1_trial ?_
      refine aw_iload_n (pc := 27) dX6_walkTakes_27 rfl ?_
      refine aw_invV (pc := 28) (md' := m_X2_makeWalk) (ci := 2) (as := [(.inl x1)]) dX6_walkTakes_28 mo_X2_makeWalk im_X2_makeWalk se_X2_makeWalk ml_X6_84 rfl ko1_trial rfl hd (Nat.le_of_ble_eq_true rfl) (Nat.le_of_ble_eq_true rfl) (Nat.le_of_ble_eq_true rfl) ?_
      refine am_mono g (fun _ h4 _ ok_h4 g => ?_)
      obtain ⟨v5, rfl, ss_h4, g⟩ := g
      replace hL := QM.ss hL ss_h4
      obtain ⟨ko1, ro1_state, lo1_state, ro1_before, lo1_before, ro1_trial, lo1_trial, ro1_snapshot, lo1_snapshot, ro1_history, lo1_history, ro1_text, lo1_text⟩ := id hL
      obtain ⟨ko1_state, ro1_state_pocket, lo1_state_pocket, ro1_state_told, lo1_state_told, ro1_state_tally, lo1_state_tally, ro1_state_settings, ko1_state_settings⟩ := id lo1_state
      obtain ⟨ko1_state_pocket, ro1_state_pocket_names, ko1_state_pocket_names, ro1_state_pocket_asksToGo, ko1_state_pocket_asksToGo, ro1_state_pocket_tellings, ko1_state_pocket_tellings, ro1_state_pocket_slots, ko1_state_pocket_slots, ro1_state_pocket_awake, ko1_state_pocket_awake, ro1_state_pocket_answering, ko1_state_pocket_answering⟩ := id lo1_state_pocket
      obtain ⟨ko1_state_told, ro1_state_told_row, ko1_state_told_row⟩ := id lo1_state_told
      have ko1_state_tally := id lo1_state_tally
      obtain ⟨ko1_before, ro1_before_pocket, lo1_before_pocket, ro1_before_told, lo1_before_told, ro1_before_tally, lo1_before_tally, ro1_before_settings, ko1_before_settings⟩ := id lo1_before
      obtain ⟨ko1_before_pocket, ro1_before_pocket_names, ko1_before_pocket_names, ro1_before_pocket_asksToGo, ko1_before_pocket_asksToGo, ro1_before_pocket_tellings, ko1_before_pocket_tellings, ro1_before_pocket_slots, ko1_before_pocket_slots, ro1_before_pocket_awake, ko1_before_pocket_awake, ro1_before_pocket_answering, ko1_before_pocket_answering⟩ := id lo1_before_pocket
      obtain ⟨ko1_before_told, ro1_before_told_row, ko1_before_told_row⟩ := id lo1_before_told
      have ko1_before_tally := id lo1_before_tally
      obtain ⟨ko1_trial, ro1_trial_pocket, lo1_trial_pocket, ro1_trial_told, lo1_trial_told, ro1_trial_tally, lo1_trial_tally, ro1_trial_settings, ko1_trial_settings⟩ := id lo1_trial
      obtain ⟨ko1_trial_pocket, ro1_trial_pocket_names, ko1_trial_pocket_names, ro1_trial_pocket_asksToGo, ko1_trial_pocket_asksToGo, ro1_trial_pocket_tellings, ko1_trial_pocket_tellings, ro1_trial_pocket_slots, ko1_trial_pocket_slots, ro1_trial_pocket_awake, ko1_trial_pocket_awake, ro1_trial_pocket_answering, ko1_trial_pocket_answering⟩ := id lo1_trial_pocket
      obtain ⟨ko1_trial_told, ro1_trial_told_row, ko1_trial_told_row⟩ := id lo1_trial_told
      have ko1_trial_tally := id lo1_trial_tally
      obtain ⟨ko1_snapshot, ro1_snapshot_pocket, lo1_snapshot_pocket, ro1_snapshot_told, lo1_snapshot_told, ro1_snapshot_tally, lo1_snapshot_tally, ro1_snapshot_settings, ko1_snapshot_settings⟩ := id lo1_snapshot
      obtain ⟨ko1_snapshot_pocket, ro1_snapshot_pocket_names, ko1_snapshot_pocket_names, ro1_snapshot_pocket_asksToGo, ko1_snapshot_pocket_asksToGo, ro1_snapshot_pocket_tellings, ko1_snapshot_pocket_tellings, ro1_snapshot_pocket_slots, ko1_snapshot_pocket_slots, ro1_snapshot_pocket_awake, ko1_snapshot_pocket_awake, ro1_snapshot_pocket_answering, ko1_snapshot_pocket_answering⟩ := id lo1_snapshot_pocket
      obtain ⟨ko1_snapshot_told, ro1_snapshot_told_row, ko1_snapshot_told_row⟩ := id lo1_snapshot_told
      have ko1_snapshot_tally := id lo1_snapshot_tally
      obtain ⟨ko1_history, ro1_history_rows, ko1_history_rows⟩ := id lo1_history
      obtain ⟨ko1_text, ro1_text_characters, ko1_text_characters, ro1_text_kinds, ko1_text_kinds, ro1_text_numbers, ko1_text_numbers⟩ := id lo1_text
      show AW m_X6_walkTakes d none Q 31 [some (.inr (some 1)), some (.inl x1), some (.inl x2), none] [(.inl v5)] h4 (0, 0)
      refine ax_istore_n (pc := 31) (ls' := [some (.inr (some 1)), some (.inl x1), some (.inl x2), some (.inl v5)]) dX6_walkTakes_31 (Nat.le_of_ble_eq_true rfl) rfl ?_
      refine aw_iload_n (pc := 32) dX6_walkTakes_32 rfl ?_
      by_cases c6 : x2 < 0 ∨ 3 < x2
      · replace g := g.1 (by omega)
        refine aw_tblOut (pc := 33) (tgt := 132) dX6_walkTakes_33 c6 (by decide) ?_
        refine aw_aload_n (pc := 132) dX6_walkTakes_132 rfl ?_
        refine aw_getr (pc := 133) (r := some 26) dX6_walkTakes_133 fl_X6_19 (by decide) rfl ko1 ro1_trial ?_
        refine ax_geti (pc := 136) (v := hi h4 26 5) dX6_walkTakes_136 fl_X6_200 (by decide) rfl ko1_trial rfl ?_
        exact ax_ireturn (pc := 139) dX6_walkTakes_139 rfl g (by decide) (by decide)
      · replace g := g.2
        by_cases c7 : x2 = 0
        · replace g := g.1 c7
          refine aw_tblIn (pc := 33) (tgt := 64) (off := 31) dX6_walkTakes_33 (by omega) (by omega) (by rw [c7]; rfl) (by decide) ?_
          refine aw_aload_n (pc := 64) dX6_walkTakes_64 rfl ?_
          refine aw_getr (pc := 65) (r := some 26) dX6_walkTakes_65 fl_X6_19 (by decide) rfl ko1 ro1_trial ?_
          refine aw_getr (pc := 68) (r := some 36) dX6_walkTakes_68 fl_X6_179 (by decide) rfl ko1_trial ro1_trial_tally ?_
          refine ax_geti (pc := 71) (v := hi h4 36 0) dX6_walkTakes_71 fl_X6_191 (by decide) rfl ko1_trial_tally rfl ?_
          refine aw_aload_n (pc := 74) dX6_walkTakes_74 rfl ?_
          refine aw_getr (pc := 75) (r := some 2) dX6_walkTakes_75 fl_X6_10 (by decide) rfl ko1 ro1_state ?_
          refine aw_getr (pc := 78) (r := some 12) dX6_walkTakes_78 fl_X6_179 (by decide) rfl ko1_state ro1_state_tally ?_
          refine ax_geti (pc := 81) (v := hi h4 12 0) dX6_walkTakes_81 fl_X6_191 (by decide) rfl ko1_state_tally rfl ?_
          refine aw_isub_w (pc := 84) dX6_walkTakes_84 ?_
          exact ax_ireturn (pc := 85) dX6_walkTakes_85 rfl g (by decide) (by decide)
        replace g := g.2
        by_cases c8 : x2 = 1
        · replace g := g.1 c8
          refine aw_tblIn (pc := 33) (tgt := 86) (off := 53) dX6_walkTakes_33 (by omega) (by omega) (by rw [c8]; rfl) (by decide) ?_
          refine aw_aload_n (pc := 86) dX6_walkTakes_86 rfl ?_
          refine aw_getr (pc := 87) (r := some 26) dX6_walkTakes_87 fl_X6_19 (by decide) rfl ko1 ro1_trial ?_
          refine aw_getr (pc := 90) (r := some 36) dX6_walkTakes_90 fl_X6_179 (by decide) rfl ko1_trial ro1_trial_tally ?_
          refine ax_geti (pc := 93) (v := hi h4 36 5) dX6_walkTakes_93 fl_X6_194 (by decide) rfl ko1_trial_tally rfl ?_
          refine aw_aload_n (pc := 96) dX6_walkTakes_96 rfl ?_
          refine aw_getr (pc := 97) (r := some 2) dX6_walkTakes_97 fl_X6_10 (by decide) rfl ko1 ro1_state ?_
          refine aw_getr (pc := 100) (r := some 12) dX6_walkTakes_100 fl_X6_179 (by decide) rfl ko1_state ro1_state_tally ?_
          refine ax_geti (pc := 103) (v := hi h4 12 5) dX6_walkTakes_103 fl_X6_194 (by decide) rfl ko1_state_tally rfl ?_
          refine aw_isub_w (pc := 106) dX6_walkTakes_106 ?_
          exact ax_ireturn (pc := 107) dX6_walkTakes_107 rfl g (by decide) (by decide)
        replace g := g.2
        by_cases c9 : x2 = 2
        · replace g := g.1 c9
          refine aw_tblIn (pc := 33) (tgt := 108) (off := 75) dX6_walkTakes_33 (by omega) (by omega) (by rw [c9]; rfl) (by decide) ?_
          refine aw_iload_n (pc := 108) dX6_walkTakes_108 rfl ?_
          exact ax_ireturn (pc := 109) dX6_walkTakes_109 rfl g (by decide) (by decide)
        replace g := g.2
        have c10 : x2 = 3 := by omega
        replace g := g c10
        refine aw_tblIn (pc := 33) (tgt := 110) (off := 77) dX6_walkTakes_33 (by omega) (by omega) (by rw [c10]; rfl) (by decide) ?_
        refine aw_aload_n (pc := 110) dX6_walkTakes_110 rfl ?_
        refine aw_getr (pc := 111) (r := some 26) dX6_walkTakes_111 fl_X6_19 (by decide) rfl ko1 ro1_trial ?_
        refine aw_getr (pc := 114) (r := some 36) dX6_walkTakes_114 fl_X6_179 (by decide) rfl ko1_trial ro1_trial_tally ?_
        refine ax_geti (pc := 117) (v := hi h4 36 4) dX6_walkTakes_117 fl_X6_197 (by decide) rfl ko1_trial_tally rfl ?_
        refine aw_aload_n (pc := 120) dX6_walkTakes_120 rfl ?_
        refine aw_getr (pc := 121) (r := some 2) dX6_walkTakes_121 fl_X6_10 (by decide) rfl ko1 ro1_state ?_
        refine aw_getr (pc := 124) (r := some 12) dX6_walkTakes_124 fl_X6_179 (by decide) rfl ko1_state ro1_state_tally ?_
        refine ax_geti (pc := 127) (v := hi h4 12 4) dX6_walkTakes_127 fl_X6_197 (by decide) rfl ko1_state_tally rfl ?_
        refine aw_isub_w (pc := 130) dX6_walkTakes_130 ?_
        exact ax_ireturn (pc := 131) dX6_walkTakes_131 rfl g (by decide) (by decide)
    · replace g := g.2 c2
      refine aw_bipush (pc := 9) dX6_walkTakes_9 ?_
      exact ax_ireturn (pc := 11) dX6_walkTakes_11 rfl g (by decide) (by decide)
set_option maxRecDepth 100000 in
set_option maxHeartbeats 4000000 in
theorem vc_X6_roundsTake {d : Nat} {Q : Option Int → AH → Prop} {h : AH} {x1 x2 : Int} (hd : 1 ≤ d) (hL : QM h)
  (g :
    AM (d - 1) m_X6_isFrameSize [(.inl x1)] h (fun r h1 => 
      ∃ v2, r = some v2 ∧ SS h h1 ∧
      ((v2 = 0 → (
        Q (some (-2)) h1
      )) ∧
      (¬ (v2 = 0) → (
        ((x2 < 0 → (
          Q (some (-2)) h1
        )) ∧
        (¬ (x2 < 0) → (
          ((x2 ≤ 4 → (
            AM (d - 1) m_X2_copyFrom [(.inr (some 26)), (.inr (some 2))] h1 (fun r h6 => 
              r = none ∧ SS h1 h6 ∧
              AM (d - 1) m_X2_makeRounds [(.inr (some 26)), (.inl x1)] h6 (fun r h7 => 
                ∃ v8, r = some v8 ∧ SS h6 h7 ∧
                (((x2 < 0 ∨ 3 < x2) → (
                  Q (some (w ((hi h7 36 1) - (hi h7 12 1)))) h7
                )) ∧
                (((x2 = 0) → (
                  Q (some v8) h7
                )) ∧
                (((x2 = 1) → (
                  Q (some (w ((hi h7 36 5) - (hi h7 12 5)))) h7
                )) ∧
                (((x2 = 2) → (
                  Q (some (w ((hi h7 36 3) - (hi h7 12 3)))) h7
                )) ∧
                (((x2 = 3) → (
                  Q (some (w ((hi h7 36 4) - (hi h7 12 4)))) h7
                )))))))))
          )) ∧
          (¬ (x2 ≤ 4) → (
            Q (some (-2)) h1
          )))
        )))
      ))))) :
  AM d m_X6_roundsTake [(.inr (some 1)), (.inl x1), (.inl x2)] h Q := by
  refine am_body mo_X6_roundsTake (Nat.le_of_ble_eq_true rfl) ?_
  show AW m_X6_roundsTake d none Q 0 [some (.inr (some 1)), some (.inl x1), some (.inl x2), none] [] h (0, 0)
  obtain ⟨ko1, ro1_state, lo1_state, ro1_before, lo1_before, ro1_trial, lo1_trial, ro1_snapshot, lo1_snapshot, ro1_history, lo1_history, ro1_text, lo1_text⟩ := id hL
  obtain ⟨ko1_state, ro1_state_pocket, lo1_state_pocket, ro1_state_told, lo1_state_told, ro1_state_tally, lo1_state_tally, ro1_state_settings, ko1_state_settings⟩ := id lo1_state
  obtain ⟨ko1_state_pocket, ro1_state_pocket_names, ko1_state_pocket_names, ro1_state_pocket_asksToGo, ko1_state_pocket_asksToGo, ro1_state_pocket_tellings, ko1_state_pocket_tellings, ro1_state_pocket_slots, ko1_state_pocket_slots, ro1_state_pocket_awake, ko1_state_pocket_awake, ro1_state_pocket_answering, ko1_state_pocket_answering⟩ := id lo1_state_pocket
  obtain ⟨ko1_state_told, ro1_state_told_row, ko1_state_told_row⟩ := id lo1_state_told
  have ko1_state_tally := id lo1_state_tally
  obtain ⟨ko1_before, ro1_before_pocket, lo1_before_pocket, ro1_before_told, lo1_before_told, ro1_before_tally, lo1_before_tally, ro1_before_settings, ko1_before_settings⟩ := id lo1_before
  obtain ⟨ko1_before_pocket, ro1_before_pocket_names, ko1_before_pocket_names, ro1_before_pocket_asksToGo, ko1_before_pocket_asksToGo, ro1_before_pocket_tellings, ko1_before_pocket_tellings, ro1_before_pocket_slots, ko1_before_pocket_slots, ro1_before_pocket_awake, ko1_before_pocket_awake, ro1_before_pocket_answering, ko1_before_pocket_answering⟩ := id lo1_before_pocket
  obtain ⟨ko1_before_told, ro1_before_told_row, ko1_before_told_row⟩ := id lo1_before_told
  have ko1_before_tally := id lo1_before_tally
  obtain ⟨ko1_trial, ro1_trial_pocket, lo1_trial_pocket, ro1_trial_told, lo1_trial_told, ro1_trial_tally, lo1_trial_tally, ro1_trial_settings, ko1_trial_settings⟩ := id lo1_trial
  obtain ⟨ko1_trial_pocket, ro1_trial_pocket_names, ko1_trial_pocket_names, ro1_trial_pocket_asksToGo, ko1_trial_pocket_asksToGo, ro1_trial_pocket_tellings, ko1_trial_pocket_tellings, ro1_trial_pocket_slots, ko1_trial_pocket_slots, ro1_trial_pocket_awake, ko1_trial_pocket_awake, ro1_trial_pocket_answering, ko1_trial_pocket_answering⟩ := id lo1_trial_pocket
  obtain ⟨ko1_trial_told, ro1_trial_told_row, ko1_trial_told_row⟩ := id lo1_trial_told
  have ko1_trial_tally := id lo1_trial_tally
  obtain ⟨ko1_snapshot, ro1_snapshot_pocket, lo1_snapshot_pocket, ro1_snapshot_told, lo1_snapshot_told, ro1_snapshot_tally, lo1_snapshot_tally, ro1_snapshot_settings, ko1_snapshot_settings⟩ := id lo1_snapshot
  obtain ⟨ko1_snapshot_pocket, ro1_snapshot_pocket_names, ko1_snapshot_pocket_names, ro1_snapshot_pocket_asksToGo, ko1_snapshot_pocket_asksToGo, ro1_snapshot_pocket_tellings, ko1_snapshot_pocket_tellings, ro1_snapshot_pocket_slots, ko1_snapshot_pocket_slots, ro1_snapshot_pocket_awake, ko1_snapshot_pocket_awake, ro1_snapshot_pocket_answering, ko1_snapshot_pocket_answering⟩ := id lo1_snapshot_pocket
  obtain ⟨ko1_snapshot_told, ro1_snapshot_told_row, ko1_snapshot_told_row⟩ := id lo1_snapshot_told
  have ko1_snapshot_tally := id lo1_snapshot_tally
  obtain ⟨ko1_history, ro1_history_rows, ko1_history_rows⟩ := id lo1_history
  obtain ⟨ko1_text, ro1_text_characters, ko1_text_characters, ro1_text_kinds, ko1_text_kinds, ro1_text_numbers, ko1_text_numbers⟩ := id lo1_text
  refine aw_iload_n (pc := 0) dX6_roundsTake_0 rfl ?_
  refine aw_invS (pc := 1) (md' := m_X6_isFrameSize) (as := [(.inl x1)]) dX6_roundsTake_1 mo_X6_isFrameSize sm_X6_isFrameSize ml_X6_203 rfl rfl hd (Nat.le_of_ble_eq_true rfl) (Nat.le_of_ble_eq_true rfl) (Nat.le_of_ble_eq_true rfl) ?_
  refine am_mono g (fun _ h1 _ ok_h1 g => ?_)
  obtain ⟨v2, rfl, ss_h1, g⟩ := g
  replace hL := QM.ss hL ss_h1
  obtain ⟨ko1, ro1_state, lo1_state, ro1_before, lo1_before, ro1_trial, lo1_trial, ro1_snapshot, lo1_snapshot, ro1_history, lo1_history, ro1_text, lo1_text⟩ := id hL
  obtain ⟨ko1_state, ro1_state_pocket, lo1_state_pocket, ro1_state_told, lo1_state_told, ro1_state_tally, lo1_state_tally, ro1_state_settings, ko1_state_settings⟩ := id lo1_state
  obtain ⟨ko1_state_pocket, ro1_state_pocket_names, ko1_state_pocket_names, ro1_state_pocket_asksToGo, ko1_state_pocket_asksToGo, ro1_state_pocket_tellings, ko1_state_pocket_tellings, ro1_state_pocket_slots, ko1_state_pocket_slots, ro1_state_pocket_awake, ko1_state_pocket_awake, ro1_state_pocket_answering, ko1_state_pocket_answering⟩ := id lo1_state_pocket
  obtain ⟨ko1_state_told, ro1_state_told_row, ko1_state_told_row⟩ := id lo1_state_told
  have ko1_state_tally := id lo1_state_tally
  obtain ⟨ko1_before, ro1_before_pocket, lo1_before_pocket, ro1_before_told, lo1_before_told, ro1_before_tally, lo1_before_tally, ro1_before_settings, ko1_before_settings⟩ := id lo1_before
  obtain ⟨ko1_before_pocket, ro1_before_pocket_names, ko1_before_pocket_names, ro1_before_pocket_asksToGo, ko1_before_pocket_asksToGo, ro1_before_pocket_tellings, ko1_before_pocket_tellings, ro1_before_pocket_slots, ko1_before_pocket_slots, ro1_before_pocket_awake, ko1_before_pocket_awake, ro1_before_pocket_answering, ko1_before_pocket_answering⟩ := id lo1_before_pocket
  obtain ⟨ko1_before_told, ro1_before_told_row, ko1_before_told_row⟩ := id lo1_before_told
  have ko1_before_tally := id lo1_before_tally
  obtain ⟨ko1_trial, ro1_trial_pocket, lo1_trial_pocket, ro1_trial_told, lo1_trial_told, ro1_trial_tally, lo1_trial_tally, ro1_trial_settings, ko1_trial_settings⟩ := id lo1_trial
  obtain ⟨ko1_trial_pocket, ro1_trial_pocket_names, ko1_trial_pocket_names, ro1_trial_pocket_asksToGo, ko1_trial_pocket_asksToGo, ro1_trial_pocket_tellings, ko1_trial_pocket_tellings, ro1_trial_pocket_slots, ko1_trial_pocket_slots, ro1_trial_pocket_awake, ko1_trial_pocket_awake, ro1_trial_pocket_answering, ko1_trial_pocket_answering⟩ := id lo1_trial_pocket
  obtain ⟨ko1_trial_told, ro1_trial_told_row, ko1_trial_told_row⟩ := id lo1_trial_told
  have ko1_trial_tally := id lo1_trial_tally
  obtain ⟨ko1_snapshot, ro1_snapshot_pocket, lo1_snapshot_pocket, ro1_snapshot_told, lo1_snapshot_told, ro1_snapshot_tally, lo1_snapshot_tally, ro1_snapshot_settings, ko1_snapshot_settings⟩ := id lo1_snapshot
  obtain ⟨ko1_snapshot_pocket, ro1_snapshot_pocket_names, ko1_snapshot_pocket_names, ro1_snapshot_pocket_asksToGo, ko1_snapshot_pocket_asksToGo, ro1_snapshot_pocket_tellings, ko1_snapshot_pocket_tellings, ro1_snapshot_pocket_slots, ko1_snapshot_pocket_slots, ro1_snapshot_pocket_awake, ko1_snapshot_pocket_awake, ro1_snapshot_pocket_answering, ko1_snapshot_pocket_answering⟩ := id lo1_snapshot_pocket
  obtain ⟨ko1_snapshot_told, ro1_snapshot_told_row, ko1_snapshot_told_row⟩ := id lo1_snapshot_told
  have ko1_snapshot_tally := id lo1_snapshot_tally
  obtain ⟨ko1_history, ro1_history_rows, ko1_history_rows⟩ := id lo1_history
  obtain ⟨ko1_text, ro1_text_characters, ko1_text_characters, ro1_text_kinds, ko1_text_kinds, ro1_text_numbers, ko1_text_numbers⟩ := id lo1_text
  show AW m_X6_roundsTake d none Q 4 [some (.inr (some 1)), some (.inl x1), some (.inl x2), none] [(.inl v2)] h1 (0, 0)
  refine aw_if_eq (pc := 4) (tgt := 16) dX6_roundsTake_4 (by decide) (fun c3 => ?_) (fun c3 => ?_)
  · replace g := g.1 c3
    refine aw_bipush (pc := 16) dX6_roundsTake_16 ?_
    exact ax_ireturn (pc := 18) dX6_roundsTake_18 rfl g (by decide) (by decide)
  · replace g := g.2 c3
    refine aw_iload_n (pc := 7) dX6_roundsTake_7 rfl ?_
    refine aw_if_lt (pc := 8) (tgt := 16) dX6_roundsTake_8 (by decide) (fun c4 => ?_) (fun c4 => ?_)
    · replace g := g.1 c4
      refine aw_bipush (pc := 16) dX6_roundsTake_16 ?_
      exact ax_ireturn (pc := 18) dX6_roundsTake_18 rfl g (by decide) (by decide)
    · replace g := g.2 c4
      refine aw_iload_n (pc := 11) dX6_roundsTake_11 rfl ?_
      refine aw_iconst (pc := 12) dX6_roundsTake_12 ?_
      refine aw_icmp_le (pc := 13) (tgt := 19) dX6_roundsTake_13 (by decide) (fun c5 => ?_) (fun c5 => ?_)
      · replace g := g.1 c5
        refine aw_aload_n (pc := 19) dX6_roundsTake_19 rfl ?_
        refine aw_getr (pc := 20) (r := some 26) dX6_roundsTake_20 fl_X6_19 (by decide) rfl ko1 ro1_trial ?_
        refine aw_aload_n (pc := 23) dX6_roundsTake_23 rfl ?_
        refine aw_getr (pc := 24) (r := some 2) dX6_roundsTake_24 fl_X6_10 (by decide) rfl ko1 ro1_state ?_
        refine aw_invV (pc := 27) (md' := m_X2_copyFrom) (ci := 2) (as := [(.inr (some 2))]) dX6_roundsTake_27 mo_X2_copyFrom im_X2_copyFrom se_X2_copyFrom ml_X6_43 rfl ko1_trial rfl hd (Nat.le_of_ble_eq_true rfl) (Nat.le_of_ble_eq_true rfl) (Nat.le_of_ble_eq_true rfl) ?_
        refine am_mono g (fun _ h6 _ ok_h6 g => ?_)
        obtain ⟨rfl, ss_h6, g⟩ := g
        replace hL := QM.ss hL ss_h6
        obtain ⟨ko1, ro1_state, lo1_state, ro1_before, lo1_before, ro1_trial, lo1_trial, ro1_snapshot, lo1_snapshot, ro1_history, lo1_history, ro1_text, lo1_text⟩ := id hL
        obtain ⟨ko1_state, ro1_state_pocket, lo1_state_pocket, ro1_state_told, lo1_state_told, ro1_state_tally, lo1_state_tally, ro1_state_settings, ko1_state_settings⟩ := id lo1_state
        obtain ⟨ko1_state_pocket, ro1_state_pocket_names, ko1_state_pocket_names, ro1_state_pocket_asksToGo, ko1_state_pocket_asksToGo, ro1_state_pocket_tellings, ko1_state_pocket_tellings, ro1_state_pocket_slots, ko1_state_pocket_slots, ro1_state_pocket_awake, ko1_state_pocket_awake, ro1_state_pocket_answering, ko1_state_pocket_answering⟩ := id lo1_state_pocket
        obtain ⟨ko1_state_told, ro1_state_told_row, ko1_state_told_row⟩ := id lo1_state_told
        have ko1_state_tally := id lo1_state_tally
        obtain ⟨ko1_before, ro1_before_pocket, lo1_before_pocket, ro1_before_told, lo1_before_told, ro1_before_tally, lo1_before_tally, ro1_before_settings, ko1_before_settings⟩ := id lo1_before
        obtain ⟨ko1_before_pocket, ro1_before_pocket_names, ko1_before_pocket_names, ro1_before_pocket_asksToGo, ko1_before_pocket_asksToGo, ro1_before_pocket_tellings, ko1_before_pocket_tellings, ro1_before_pocket_slots, ko1_before_pocket_slots, ro1_before_pocket_awake, ko1_before_pocket_awake, ro1_before_pocket_answering, ko1_before_pocket_answering⟩ := id lo1_before_pocket
        obtain ⟨ko1_before_told, ro1_before_told_row, ko1_before_told_row⟩ := id lo1_before_told
        have ko1_before_tally := id lo1_before_tally
        obtain ⟨ko1_trial, ro1_trial_pocket, lo1_trial_pocket, ro1_trial_told, lo1_trial_told, ro1_trial_tally, lo1_trial_tally, ro1_trial_settings, ko1_trial_settings⟩ := id lo1_trial
        obtain ⟨ko1_trial_pocket, ro1_trial_pocket_names, ko1_trial_pocket_names, ro1_trial_pocket_asksToGo, ko1_trial_pocket_asksToGo, ro1_trial_pocket_tellings, ko1_trial_pocket_tellings, ro1_trial_pocket_slots, ko1_trial_pocket_slots, ro1_trial_pocket_awake, ko1_trial_pocket_awake, ro1_trial_pocket_answering, ko1_trial_pocket_answering⟩ := id lo1_trial_pocket
        obtain ⟨ko1_trial_told, ro1_trial_told_row, ko1_trial_told_row⟩ := id lo1_trial_told
        have ko1_trial_tally := id lo1_trial_tally
        obtain ⟨ko1_snapshot, ro1_snapshot_pocket, lo1_snapshot_pocket, ro1_snapshot_told, lo1_snapshot_told, ro1_snapshot_tally, lo1_snapshot_tally, ro1_snapshot_settings, ko1_snapshot_settings⟩ := id lo1_snapshot
        obtain ⟨ko1_snapshot_pocket, ro1_snapshot_pocket_names, ko1_snapshot_pocket_names, ro1_snapshot_pocket_asksToGo, ko1_snapshot_pocket_asksToGo, ro1_snapshot_pocket_tellings, ko1_snapshot_pocket_tellings, ro1_snapshot_pocket_slots, ko1_snapshot_pocket_slots, ro1_snapshot_pocket_awake, ko1_snapshot_pocket_awake, ro1_snapshot_pocket_answering, ko1_snapshot_pocket_answering⟩ := id lo1_snapshot_pocket
        obtain ⟨ko1_snapshot_told, ro1_snapshot_told_row, ko1_snapshot_told_row⟩ := id lo1_snapshot_told
        have ko1_snapshot_tally := id lo1_snapshot_tally
        obtain ⟨ko1_history, ro1_history_rows, ko1_history_rows⟩ := id lo1_history
        obtain ⟨ko1_text, ro1_text_characters, ko1_text_characters, ro1_text_kinds, ko1_text_kinds, ro1_text_numbers, ko1_text_numbers⟩ := id lo1_text
        show AW m_X6_roundsTake d none Q 30 [some (.inr (some 1)), some (.inl x1), some (.inl x2), none] [] h6 (0, 0)
        refine aw_aload_n (pc := 30) dX6_roundsTake_30 rfl ?_
        refine aw_getr (pc := 31) (r := some 26) dX6_roundsTake_31 fl_X6_19 (by decide) rfl ko1 ro1_trial ?_
        refine aw_iload_n (pc := 34) dX6_roundsTake_34 rfl ?_
        refine aw_invV (pc := 35) (md' := m_X2_makeRounds) (ci := 2) (as := [(.inl x1)]) dX6_roundsTake_35 mo_X2_makeRounds im_X2_makeRounds se_X2_makeRounds ml_X6_91 rfl ko1_trial rfl hd (Nat.le_of_ble_eq_true rfl) (Nat.le_of_ble_eq_true rfl) (Nat.le_of_ble_eq_true rfl) ?_
        refine am_mono g (fun _ h7 _ ok_h7 g => ?_)
        obtain ⟨v8, rfl, ss_h7, g⟩ := g
        replace hL := QM.ss hL ss_h7
        obtain ⟨ko1, ro1_state, lo1_state, ro1_before, lo1_before, ro1_trial, lo1_trial, ro1_snapshot, lo1_snapshot, ro1_history, lo1_history, ro1_text, lo1_text⟩ := id hL
        obtain ⟨ko1_state, ro1_state_pocket, lo1_state_pocket, ro1_state_told, lo1_state_told, ro1_state_tally, lo1_state_tally, ro1_state_settings, ko1_state_settings⟩ := id lo1_state
        obtain ⟨ko1_state_pocket, ro1_state_pocket_names, ko1_state_pocket_names, ro1_state_pocket_asksToGo, ko1_state_pocket_asksToGo, ro1_state_pocket_tellings, ko1_state_pocket_tellings, ro1_state_pocket_slots, ko1_state_pocket_slots, ro1_state_pocket_awake, ko1_state_pocket_awake, ro1_state_pocket_answering, ko1_state_pocket_answering⟩ := id lo1_state_pocket
        obtain ⟨ko1_state_told, ro1_state_told_row, ko1_state_told_row⟩ := id lo1_state_told
        have ko1_state_tally := id lo1_state_tally
        obtain ⟨ko1_before, ro1_before_pocket, lo1_before_pocket, ro1_before_told, lo1_before_told, ro1_before_tally, lo1_before_tally, ro1_before_settings, ko1_before_settings⟩ := id lo1_before
        obtain ⟨ko1_before_pocket, ro1_before_pocket_names, ko1_before_pocket_names, ro1_before_pocket_asksToGo, ko1_before_pocket_asksToGo, ro1_before_pocket_tellings, ko1_before_pocket_tellings, ro1_before_pocket_slots, ko1_before_pocket_slots, ro1_before_pocket_awake, ko1_before_pocket_awake, ro1_before_pocket_answering, ko1_before_pocket_answering⟩ := id lo1_before_pocket
        obtain ⟨ko1_before_told, ro1_before_told_row, ko1_before_told_row⟩ := id lo1_before_told
        have ko1_before_tally := id lo1_before_tally
        obtain ⟨ko1_trial, ro1_trial_pocket, lo1_trial_pocket, ro1_trial_told, lo1_trial_told, ro1_trial_tally, lo1_trial_tally, ro1_trial_settings, ko1_trial_settings⟩ := id lo1_trial
        obtain ⟨ko1_trial_pocket, ro1_trial_pocket_names, ko1_trial_pocket_names, ro1_trial_pocket_asksToGo, ko1_trial_pocket_asksToGo, ro1_trial_pocket_tellings, ko1_trial_pocket_tellings, ro1_trial_pocket_slots, ko1_trial_pocket_slots, ro1_trial_pocket_awake, ko1_trial_pocket_awake, ro1_trial_pocket_answering, ko1_trial_pocket_answering⟩ := id lo1_trial_pocket
        obtain ⟨ko1_trial_told, ro1_trial_told_row, ko1_trial_told_row⟩ := id lo1_trial_told
        have ko1_trial_tally := id lo1_trial_tally
        obtain ⟨ko1_snapshot, ro1_snapshot_pocket, lo1_snapshot_pocket, ro1_snapshot_told, lo1_snapshot_told, ro1_snapshot_tally, lo1_snapshot_tally, ro1_snapshot_settings, ko1_snapshot_settings⟩ := id lo1_snapshot
        obtain ⟨ko1_snapshot_pocket, ro1_snapshot_pocket_names, ko1_snapshot_pocket_names, ro1_snapshot_pocket_asksToGo, ko1_snapshot_pocket_asksToGo, ro1_snapshot_pocket_tellings, ko1_snapshot_pocket_tellings, ro1_snapshot_pocket_slots, ko1_snapshot_pocket_slots, ro1_snapshot_pocket_awake, ko1_snapshot_pocket_awake, ro1_snapshot_pocket_answering, ko1_snapshot_pocket_answering⟩ := id lo1_snapshot_pocket
        obtain ⟨ko1_snapshot_told, ro1_snapshot_told_row, ko1_snapshot_told_row⟩ := id lo1_snapshot_told
        have ko1_snapshot_tally := id lo1_snapshot_tally
        obtain ⟨ko1_history, ro1_history_rows, ko1_history_rows⟩ := id lo1_history
        obtain ⟨ko1_text, ro1_text_characters, ko1_text_characters, ro1_text_kinds, ko1_text_kinds, ro1_text_numbers, ko1_text_numbers⟩ := id lo1_text
        show AW m_X6_roundsTake d none Q 38 [some (.inr (some 1)), some (.inl x1), some (.inl x2), none] [(.inl v8)] h7 (0, 0)
        refine ax_istore_n (pc := 38) (ls' := [some (.inr (some 1)), some (.inl x1), some (.inl x2), some (.inl v8)]) dX6_roundsTake_38 (Nat.le_of_ble_eq_true rfl) rfl ?_
        refine aw_iload_n (pc := 39) dX6_roundsTake_39 rfl ?_
        by_cases c9 : x2 < 0 ∨ 3 < x2
        · replace g := g.1 (by omega)
          refine aw_tblOut (pc := 40) (tgt := 140) dX6_roundsTake_40 c9 (by decide) ?_
          refine aw_aload_n (pc := 140) dX6_roundsTake_140 rfl ?_
          refine aw_getr (pc := 141) (r := some 26) dX6_roundsTake_141 fl_X6_19 (by decide) rfl ko1 ro1_trial ?_
          refine aw_getr (pc := 144) (r := some 36) dX6_roundsTake_144 fl_X6_179 (by decide) rfl ko1_trial ro1_trial_tally ?_
          refine ax_geti (pc := 147) (v := hi h7 36 1) dX6_roundsTake_147 fl_X6_208 (by decide) rfl ko1_trial_tally rfl ?_
          refine aw_aload_n (pc := 150) dX6_roundsTake_150 rfl ?_
          refine aw_getr (pc := 151) (r := some 2) dX6_roundsTake_151 fl_X6_10 (by decide) rfl ko1 ro1_state ?_
          refine aw_getr (pc := 154) (r := some 12) dX6_roundsTake_154 fl_X6_179 (by decide) rfl ko1_state ro1_state_tally ?_
          refine ax_geti (pc := 157) (v := hi h7 12 1) dX6_roundsTake_157 fl_X6_208 (by decide) rfl ko1_state_tally rfl ?_
          refine aw_isub_w (pc := 160) dX6_roundsTake_160 ?_
          exact ax_ireturn (pc := 161) dX6_roundsTake_161 rfl g (by decide) (by decide)
        · replace g := g.2
          by_cases c10 : x2 = 0
          · replace g := g.1 c10
            refine aw_tblIn (pc := 40) (tgt := 72) (off := 32) dX6_roundsTake_40 (by omega) (by omega) (by rw [c10]; rfl) (by decide) ?_
            refine aw_iload_n (pc := 72) dX6_roundsTake_72 rfl ?_
            exact ax_ireturn (pc := 73) dX6_roundsTake_73 rfl g (by decide) (by decide)
          replace g := g.2
          by_cases c11 : x2 = 1
          · replace g := g.1 c11
            refine aw_tblIn (pc := 40) (tgt := 74) (off := 34) dX6_roundsTake_40 (by omega) (by omega) (by rw [c11]; rfl) (by decide) ?_
            refine aw_aload_n (pc := 74) dX6_roundsTake_74 rfl ?_
            refine aw_getr (pc := 75) (r := some 26) dX6_roundsTake_75 fl_X6_19 (by decide) rfl ko1 ro1_trial ?_
            refine aw_getr (pc := 78) (r := some 36) dX6_roundsTake_78 fl_X6_179 (by decide) rfl ko1_trial ro1_trial_tally ?_
            refine ax_geti (pc := 81) (v := hi h7 36 5) dX6_roundsTake_81 fl_X6_194 (by decide) rfl ko1_trial_tally rfl ?_
            refine aw_aload_n (pc := 84) dX6_roundsTake_84 rfl ?_
            refine aw_getr (pc := 85) (r := some 2) dX6_roundsTake_85 fl_X6_10 (by decide) rfl ko1 ro1_state ?_
            refine aw_getr (pc := 88) (r := some 12) dX6_roundsTake_88 fl_X6_179 (by decide) rfl ko1_state ro1_state_tally ?_
            refine ax_geti (pc := 91) (v := hi h7 12 5) dX6_roundsTake_91 fl_X6_194 (by decide) rfl ko1_state_tally rfl ?_
            refine aw_isub_w (pc := 94) dX6_roundsTake_94 ?_
            exact ax_ireturn (pc := 95) dX6_roundsTake_95 rfl g (by decide) (by decide)
          replace g := g.2
          by_cases c12 : x2 = 2
          · replace g := g.1 c12
            refine aw_tblIn (pc := 40) (tgt := 96) (off := 56) dX6_roundsTake_40 (by omega) (by omega) (by rw [c12]; rfl) (by decide) ?_
            refine aw_aload_n (pc := 96) dX6_roundsTake_96 rfl ?_
            refine aw_getr (pc := 97) (r := some 26) dX6_roundsTake_97 fl_X6_19 (by decide) rfl ko1 ro1_trial ?_
            refine aw_getr (pc := 100) (r := some 36) dX6_roundsTake_100 fl_X6_179 (by decide) rfl ko1_trial ro1_trial_tally ?_
            refine ax_geti (pc := 103) (v := hi h7 36 3) dX6_roundsTake_103 fl_X6_206 (by decide) rfl ko1_trial_tally rfl ?_
            refine aw_aload_n (pc := 106) dX6_roundsTake_106 rfl ?_
            refine aw_getr (pc := 107) (r := some 2) dX6_roundsTake_107 fl_X6_10 (by decide) rfl ko1 ro1_state ?_
            refine aw_getr (pc := 110) (r := some 12) dX6_roundsTake_110 fl_X6_179 (by decide) rfl ko1_state ro1_state_tally ?_
            refine ax_geti (pc := 113) (v := hi h7 12 3) dX6_roundsTake_113 fl_X6_206 (by decide) rfl ko1_state_tally rfl ?_
            refine aw_isub_w (pc := 116) dX6_roundsTake_116 ?_
            exact ax_ireturn (pc := 117) dX6_roundsTake_117 rfl g (by decide) (by decide)
          replace g := g.2
          have c13 : x2 = 3 := by omega
          replace g := g c13
          refine aw_tblIn (pc := 40) (tgt := 118) (off := 78) dX6_roundsTake_40 (by omega) (by omega) (by rw [c13]; rfl) (by decide) ?_
          refine aw_aload_n (pc := 118) dX6_roundsTake_118 rfl ?_
          refine aw_getr (pc := 119) (r := some 26) dX6_roundsTake_119 fl_X6_19 (by decide) rfl ko1 ro1_trial ?_
          refine aw_getr (pc := 122) (r := some 36) dX6_roundsTake_122 fl_X6_179 (by decide) rfl ko1_trial ro1_trial_tally ?_
          refine ax_geti (pc := 125) (v := hi h7 36 4) dX6_roundsTake_125 fl_X6_197 (by decide) rfl ko1_trial_tally rfl ?_
          refine aw_aload_n (pc := 128) dX6_roundsTake_128 rfl ?_
          refine aw_getr (pc := 129) (r := some 2) dX6_roundsTake_129 fl_X6_10 (by decide) rfl ko1 ro1_state ?_
          refine aw_getr (pc := 132) (r := some 12) dX6_roundsTake_132 fl_X6_179 (by decide) rfl ko1_state ro1_state_tally ?_
          refine ax_geti (pc := 135) (v := hi h7 12 4) dX6_roundsTake_135 fl_X6_197 (by decide) rfl ko1_state_tally rfl ?_
          refine aw_isub_w (pc := 138) dX6_roundsTake_138 ?_
          exact ax_ireturn (pc := 139) dX6_roundsTake_139 rfl g (by decide) (by decide)
      · replace g := g.2 c5
        refine aw_bipush (pc := 16) dX6_roundsTake_16 ?_
        exact ax_ireturn (pc := 18) dX6_roundsTake_18 rfl g (by decide) (by decide)
set_option maxRecDepth 100000 in
set_option maxHeartbeats 4000000 in
theorem vc_X6_thickest {d : Nat} {Q : Option Int → AH → Prop} {h : AH} {x1 : Int} (hd : 1 ≤ d) (hL : QM h)
  (g :
    AM (d - 1) m_X6_isBeginning [(.inl x1), (.inl 0)] h (fun r h1 => 
      ∃ v2, r = some v2 ∧ SS h h1 ∧
      ((¬ v2 = 0 → (
        AW m_X6_thickest d none Q 19 [some (.inr (some 1)), some (.inl x1), some (.inl (-5)), some (.inl 0), some (.inl 0), none] [] h1 (0, 0)
      )) ∧
      (¬ (¬ v2 = 0) → (
        Q (some (-2)) h1
      ))))) :
  AM d m_X6_thickest [(.inr (some 1)), (.inl x1)] h Q := by
  refine am_body mo_X6_thickest (Nat.le_of_ble_eq_true rfl) ?_
  show AW m_X6_thickest d none Q 0 [some (.inr (some 1)), some (.inl x1), none, none, none, none] [] h (0, 0)
  obtain ⟨ko1, ro1_state, lo1_state, ro1_before, lo1_before, ro1_trial, lo1_trial, ro1_snapshot, lo1_snapshot, ro1_history, lo1_history, ro1_text, lo1_text⟩ := id hL
  obtain ⟨ko1_state, ro1_state_pocket, lo1_state_pocket, ro1_state_told, lo1_state_told, ro1_state_tally, lo1_state_tally, ro1_state_settings, ko1_state_settings⟩ := id lo1_state
  obtain ⟨ko1_state_pocket, ro1_state_pocket_names, ko1_state_pocket_names, ro1_state_pocket_asksToGo, ko1_state_pocket_asksToGo, ro1_state_pocket_tellings, ko1_state_pocket_tellings, ro1_state_pocket_slots, ko1_state_pocket_slots, ro1_state_pocket_awake, ko1_state_pocket_awake, ro1_state_pocket_answering, ko1_state_pocket_answering⟩ := id lo1_state_pocket
  obtain ⟨ko1_state_told, ro1_state_told_row, ko1_state_told_row⟩ := id lo1_state_told
  have ko1_state_tally := id lo1_state_tally
  obtain ⟨ko1_before, ro1_before_pocket, lo1_before_pocket, ro1_before_told, lo1_before_told, ro1_before_tally, lo1_before_tally, ro1_before_settings, ko1_before_settings⟩ := id lo1_before
  obtain ⟨ko1_before_pocket, ro1_before_pocket_names, ko1_before_pocket_names, ro1_before_pocket_asksToGo, ko1_before_pocket_asksToGo, ro1_before_pocket_tellings, ko1_before_pocket_tellings, ro1_before_pocket_slots, ko1_before_pocket_slots, ro1_before_pocket_awake, ko1_before_pocket_awake, ro1_before_pocket_answering, ko1_before_pocket_answering⟩ := id lo1_before_pocket
  obtain ⟨ko1_before_told, ro1_before_told_row, ko1_before_told_row⟩ := id lo1_before_told
  have ko1_before_tally := id lo1_before_tally
  obtain ⟨ko1_trial, ro1_trial_pocket, lo1_trial_pocket, ro1_trial_told, lo1_trial_told, ro1_trial_tally, lo1_trial_tally, ro1_trial_settings, ko1_trial_settings⟩ := id lo1_trial
  obtain ⟨ko1_trial_pocket, ro1_trial_pocket_names, ko1_trial_pocket_names, ro1_trial_pocket_asksToGo, ko1_trial_pocket_asksToGo, ro1_trial_pocket_tellings, ko1_trial_pocket_tellings, ro1_trial_pocket_slots, ko1_trial_pocket_slots, ro1_trial_pocket_awake, ko1_trial_pocket_awake, ro1_trial_pocket_answering, ko1_trial_pocket_answering⟩ := id lo1_trial_pocket
  obtain ⟨ko1_trial_told, ro1_trial_told_row, ko1_trial_told_row⟩ := id lo1_trial_told
  have ko1_trial_tally := id lo1_trial_tally
  obtain ⟨ko1_snapshot, ro1_snapshot_pocket, lo1_snapshot_pocket, ro1_snapshot_told, lo1_snapshot_told, ro1_snapshot_tally, lo1_snapshot_tally, ro1_snapshot_settings, ko1_snapshot_settings⟩ := id lo1_snapshot
  obtain ⟨ko1_snapshot_pocket, ro1_snapshot_pocket_names, ko1_snapshot_pocket_names, ro1_snapshot_pocket_asksToGo, ko1_snapshot_pocket_asksToGo, ro1_snapshot_pocket_tellings, ko1_snapshot_pocket_tellings, ro1_snapshot_pocket_slots, ko1_snapshot_pocket_slots, ro1_snapshot_pocket_awake, ko1_snapshot_pocket_awake, ro1_snapshot_pocket_answering, ko1_snapshot_pocket_answering⟩ := id lo1_snapshot_pocket
  obtain ⟨ko1_snapshot_told, ro1_snapshot_told_row, ko1_snapshot_told_row⟩ := id lo1_snapshot_told
  have ko1_snapshot_tally := id lo1_snapshot_tally
  obtain ⟨ko1_history, ro1_history_rows, ko1_history_rows⟩ := id lo1_history
  obtain ⟨ko1_text, ro1_text_characters, ko1_text_characters, ro1_text_kinds, ko1_text_kinds, ro1_text_numbers, ko1_text_numbers⟩ := id lo1_text
  refine aw_iload_n (pc := 0) dX6_thickest_0 rfl ?_
  refine aw_iconst (pc := 1) dX6_thickest_1 ?_
  refine aw_invS (pc := 2) (md' := m_X6_isBeginning) (as := [(.inl x1), (.inl 0)]) dX6_thickest_2 mo_X6_isBeginning sm_X6_isBeginning ml_X6_77 rfl rfl hd (Nat.le_of_ble_eq_true rfl) (Nat.le_of_ble_eq_true rfl) (Nat.le_of_ble_eq_true rfl) ?_
  refine am_mono g (fun _ h1 _ ok_h1 g => ?_)
  obtain ⟨v2, rfl, ss_h1, g⟩ := g
  replace hL := QM.ss hL ss_h1
  obtain ⟨ko1, ro1_state, lo1_state, ro1_before, lo1_before, ro1_trial, lo1_trial, ro1_snapshot, lo1_snapshot, ro1_history, lo1_history, ro1_text, lo1_text⟩ := id hL
  obtain ⟨ko1_state, ro1_state_pocket, lo1_state_pocket, ro1_state_told, lo1_state_told, ro1_state_tally, lo1_state_tally, ro1_state_settings, ko1_state_settings⟩ := id lo1_state
  obtain ⟨ko1_state_pocket, ro1_state_pocket_names, ko1_state_pocket_names, ro1_state_pocket_asksToGo, ko1_state_pocket_asksToGo, ro1_state_pocket_tellings, ko1_state_pocket_tellings, ro1_state_pocket_slots, ko1_state_pocket_slots, ro1_state_pocket_awake, ko1_state_pocket_awake, ro1_state_pocket_answering, ko1_state_pocket_answering⟩ := id lo1_state_pocket
  obtain ⟨ko1_state_told, ro1_state_told_row, ko1_state_told_row⟩ := id lo1_state_told
  have ko1_state_tally := id lo1_state_tally
  obtain ⟨ko1_before, ro1_before_pocket, lo1_before_pocket, ro1_before_told, lo1_before_told, ro1_before_tally, lo1_before_tally, ro1_before_settings, ko1_before_settings⟩ := id lo1_before
  obtain ⟨ko1_before_pocket, ro1_before_pocket_names, ko1_before_pocket_names, ro1_before_pocket_asksToGo, ko1_before_pocket_asksToGo, ro1_before_pocket_tellings, ko1_before_pocket_tellings, ro1_before_pocket_slots, ko1_before_pocket_slots, ro1_before_pocket_awake, ko1_before_pocket_awake, ro1_before_pocket_answering, ko1_before_pocket_answering⟩ := id lo1_before_pocket
  obtain ⟨ko1_before_told, ro1_before_told_row, ko1_before_told_row⟩ := id lo1_before_told
  have ko1_before_tally := id lo1_before_tally
  obtain ⟨ko1_trial, ro1_trial_pocket, lo1_trial_pocket, ro1_trial_told, lo1_trial_told, ro1_trial_tally, lo1_trial_tally, ro1_trial_settings, ko1_trial_settings⟩ := id lo1_trial
  obtain ⟨ko1_trial_pocket, ro1_trial_pocket_names, ko1_trial_pocket_names, ro1_trial_pocket_asksToGo, ko1_trial_pocket_asksToGo, ro1_trial_pocket_tellings, ko1_trial_pocket_tellings, ro1_trial_pocket_slots, ko1_trial_pocket_slots, ro1_trial_pocket_awake, ko1_trial_pocket_awake, ro1_trial_pocket_answering, ko1_trial_pocket_answering⟩ := id lo1_trial_pocket
  obtain ⟨ko1_trial_told, ro1_trial_told_row, ko1_trial_told_row⟩ := id lo1_trial_told
  have ko1_trial_tally := id lo1_trial_tally
  obtain ⟨ko1_snapshot, ro1_snapshot_pocket, lo1_snapshot_pocket, ro1_snapshot_told, lo1_snapshot_told, ro1_snapshot_tally, lo1_snapshot_tally, ro1_snapshot_settings, ko1_snapshot_settings⟩ := id lo1_snapshot
  obtain ⟨ko1_snapshot_pocket, ro1_snapshot_pocket_names, ko1_snapshot_pocket_names, ro1_snapshot_pocket_asksToGo, ko1_snapshot_pocket_asksToGo, ro1_snapshot_pocket_tellings, ko1_snapshot_pocket_tellings, ro1_snapshot_pocket_slots, ko1_snapshot_pocket_slots, ro1_snapshot_pocket_awake, ko1_snapshot_pocket_awake, ro1_snapshot_pocket_answering, ko1_snapshot_pocket_answering⟩ := id lo1_snapshot_pocket
  obtain ⟨ko1_snapshot_told, ro1_snapshot_told_row, ko1_snapshot_told_row⟩ := id lo1_snapshot_told
  have ko1_snapshot_tally := id lo1_snapshot_tally
  obtain ⟨ko1_history, ro1_history_rows, ko1_history_rows⟩ := id lo1_history
  obtain ⟨ko1_text, ro1_text_characters, ko1_text_characters, ro1_text_kinds, ko1_text_kinds, ro1_text_numbers, ko1_text_numbers⟩ := id lo1_text
  show AW m_X6_thickest d none Q 5 [some (.inr (some 1)), some (.inl x1), none, none, none, none] [(.inl v2)] h1 (0, 0)
  refine aw_if_ne (pc := 5) (tgt := 11) dX6_thickest_5 (by decide) (fun c3 => ?_) (fun c3 => ?_)
  · replace g := g.1 c3
    refine aw_bipush (pc := 11) dX6_thickest_11 ?_
    refine ax_istore_n (pc := 13) (ls' := [some (.inr (some 1)), some (.inl x1), some (.inl (-5)), none, none, none]) dX6_thickest_13 (Nat.le_of_ble_eq_true rfl) rfl ?_
    refine aw_iconst (pc := 14) dX6_thickest_14 ?_
    refine ax_istore_n (pc := 15) (ls' := [some (.inr (some 1)), some (.inl x1), some (.inl (-5)), some (.inl 0), none, none]) dX6_thickest_15 (Nat.le_of_ble_eq_true rfl) rfl ?_
    refine aw_iconst (pc := 16) dX6_thickest_16 ?_
    refine ax_istore (pc := 17) (ls' := [some (.inr (some 1)), some (.inl x1), some (.inl (-5)), some (.inl 0), some (.inl 0), none]) dX6_thickest_17 (Nat.le_of_ble_eq_true rfl) rfl ?_
    exact g
  · replace g := g.2 c3
    refine aw_bipush (pc := 8) dX6_thickest_8 ?_
    exact ax_ireturn (pc := 10) dX6_thickest_10 rfl g (by decide) (by decide)
set_option maxRecDepth 100000 in
set_option maxHeartbeats 4000000 in
theorem vc_X6_thickest_19 {d : Nat} {Q : Option Int → AH → Prop} {h : AH} {x1 x2 x3 x4 : Int} (hd : 1 ≤ d) (hL : QM h)
  (g :
    ((sl 1 x1 ≤ x4 → (
      Q (some x2) h
    )) ∧
    (¬ (sl 1 x1 ≤ x4) → (
      AM (d - 1) m_X1_awakeWith [(.inr (some 3)), (.inl x1), (.inl x4)] h (fun r h5 => 
        ∃ v6, r = some v6 ∧ SS h h5 ∧
        ((v6 ≤ x3 → (
          (rg (x4 + 1)) ∧
          AW m_X6_thickest d none Q 19 [some (.inr (some 1)), some (.inl x1), some (.inl x2), some (.inl x3), some (.inl (x4 + 1)), none] [] h5 (0, 0)
        )) ∧
        (¬ (v6 ≤ x3) → (
          (rg (x4 + 1)) ∧
          AW m_X6_thickest d none Q 19 [some (.inr (some 1)), some (.inl x1), some (.inl x4), some (.inl v6), some (.inl (x4 + 1)), none] [] h5 (0, 0)
        ))))
    )))) :
  AW m_X6_thickest d none Q 19 [some (.inr (some 1)), some (.inl x1), some (.inl x2), some (.inl x3), some (.inl x4), none] [] h (0, 0) := by
  obtain ⟨ko1, ro1_state, lo1_state, ro1_before, lo1_before, ro1_trial, lo1_trial, ro1_snapshot, lo1_snapshot, ro1_history, lo1_history, ro1_text, lo1_text⟩ := id hL
  obtain ⟨ko1_state, ro1_state_pocket, lo1_state_pocket, ro1_state_told, lo1_state_told, ro1_state_tally, lo1_state_tally, ro1_state_settings, ko1_state_settings⟩ := id lo1_state
  obtain ⟨ko1_state_pocket, ro1_state_pocket_names, ko1_state_pocket_names, ro1_state_pocket_asksToGo, ko1_state_pocket_asksToGo, ro1_state_pocket_tellings, ko1_state_pocket_tellings, ro1_state_pocket_slots, ko1_state_pocket_slots, ro1_state_pocket_awake, ko1_state_pocket_awake, ro1_state_pocket_answering, ko1_state_pocket_answering⟩ := id lo1_state_pocket
  obtain ⟨ko1_state_told, ro1_state_told_row, ko1_state_told_row⟩ := id lo1_state_told
  have ko1_state_tally := id lo1_state_tally
  obtain ⟨ko1_before, ro1_before_pocket, lo1_before_pocket, ro1_before_told, lo1_before_told, ro1_before_tally, lo1_before_tally, ro1_before_settings, ko1_before_settings⟩ := id lo1_before
  obtain ⟨ko1_before_pocket, ro1_before_pocket_names, ko1_before_pocket_names, ro1_before_pocket_asksToGo, ko1_before_pocket_asksToGo, ro1_before_pocket_tellings, ko1_before_pocket_tellings, ro1_before_pocket_slots, ko1_before_pocket_slots, ro1_before_pocket_awake, ko1_before_pocket_awake, ro1_before_pocket_answering, ko1_before_pocket_answering⟩ := id lo1_before_pocket
  obtain ⟨ko1_before_told, ro1_before_told_row, ko1_before_told_row⟩ := id lo1_before_told
  have ko1_before_tally := id lo1_before_tally
  obtain ⟨ko1_trial, ro1_trial_pocket, lo1_trial_pocket, ro1_trial_told, lo1_trial_told, ro1_trial_tally, lo1_trial_tally, ro1_trial_settings, ko1_trial_settings⟩ := id lo1_trial
  obtain ⟨ko1_trial_pocket, ro1_trial_pocket_names, ko1_trial_pocket_names, ro1_trial_pocket_asksToGo, ko1_trial_pocket_asksToGo, ro1_trial_pocket_tellings, ko1_trial_pocket_tellings, ro1_trial_pocket_slots, ko1_trial_pocket_slots, ro1_trial_pocket_awake, ko1_trial_pocket_awake, ro1_trial_pocket_answering, ko1_trial_pocket_answering⟩ := id lo1_trial_pocket
  obtain ⟨ko1_trial_told, ro1_trial_told_row, ko1_trial_told_row⟩ := id lo1_trial_told
  have ko1_trial_tally := id lo1_trial_tally
  obtain ⟨ko1_snapshot, ro1_snapshot_pocket, lo1_snapshot_pocket, ro1_snapshot_told, lo1_snapshot_told, ro1_snapshot_tally, lo1_snapshot_tally, ro1_snapshot_settings, ko1_snapshot_settings⟩ := id lo1_snapshot
  obtain ⟨ko1_snapshot_pocket, ro1_snapshot_pocket_names, ko1_snapshot_pocket_names, ro1_snapshot_pocket_asksToGo, ko1_snapshot_pocket_asksToGo, ro1_snapshot_pocket_tellings, ko1_snapshot_pocket_tellings, ro1_snapshot_pocket_slots, ko1_snapshot_pocket_slots, ro1_snapshot_pocket_awake, ko1_snapshot_pocket_awake, ro1_snapshot_pocket_answering, ko1_snapshot_pocket_answering⟩ := id lo1_snapshot_pocket
  obtain ⟨ko1_snapshot_told, ro1_snapshot_told_row, ko1_snapshot_told_row⟩ := id lo1_snapshot_told
  have ko1_snapshot_tally := id lo1_snapshot_tally
  obtain ⟨ko1_history, ro1_history_rows, ko1_history_rows⟩ := id lo1_history
  obtain ⟨ko1_text, ro1_text_characters, ko1_text_characters, ro1_text_kinds, ko1_text_kinds, ro1_text_numbers, ko1_text_numbers⟩ := id lo1_text
  refine aw_iload (pc := 19) dX6_thickest_19 rfl ?_
  refine aw_iconst (pc := 21) dX6_thickest_21 ?_
  refine aw_iload_n (pc := 22) dX6_thickest_22 rfl ?_
  refine aw_ishl (pc := 23) dX6_thickest_23 ?_
  refine aw_icmp_ge (pc := 24) (tgt := 60) dX6_thickest_24 (by decide) (fun c4 => ?_) (fun c4 => ?_)
  · replace g := g.1 c4
    refine aw_iload_n (pc := 60) dX6_thickest_60 rfl ?_
    exact ax_ireturn (pc := 61) dX6_thickest_61 rfl g (by decide) (by decide)
  · replace g := g.2 c4
    refine aw_aload_n (pc := 27) dX6_thickest_27 rfl ?_
    refine aw_getr (pc := 28) (r := some 2) dX6_thickest_28 fl_X6_10 (by decide) rfl ko1 ro1_state ?_
    refine aw_getr (pc := 31) (r := some 3) dX6_thickest_31 fl_X6_122 (by decide) rfl ko1_state ro1_state_pocket ?_
    refine aw_iload_n (pc := 34) dX6_thickest_34 rfl ?_
    refine aw_iload (pc := 35) dX6_thickest_35 rfl ?_
    refine aw_invV (pc := 37) (md' := m_X1_awakeWith) (ci := 1) (as := [(.inl x1), (.inl x4)]) dX6_thickest_37 mo_X1_awakeWith im_X1_awakeWith se_X1_awakeWith ml_X6_188 rfl ko1_state_pocket rfl hd (Nat.le_of_ble_eq_true rfl) (Nat.le_of_ble_eq_true rfl) (Nat.le_of_ble_eq_true rfl) ?_
    refine am_mono g (fun _ h5 _ ok_h5 g => ?_)
    obtain ⟨v6, rfl, ss_h5, g⟩ := g
    replace hL := QM.ss hL ss_h5
    obtain ⟨ko1, ro1_state, lo1_state, ro1_before, lo1_before, ro1_trial, lo1_trial, ro1_snapshot, lo1_snapshot, ro1_history, lo1_history, ro1_text, lo1_text⟩ := id hL
    obtain ⟨ko1_state, ro1_state_pocket, lo1_state_pocket, ro1_state_told, lo1_state_told, ro1_state_tally, lo1_state_tally, ro1_state_settings, ko1_state_settings⟩ := id lo1_state
    obtain ⟨ko1_state_pocket, ro1_state_pocket_names, ko1_state_pocket_names, ro1_state_pocket_asksToGo, ko1_state_pocket_asksToGo, ro1_state_pocket_tellings, ko1_state_pocket_tellings, ro1_state_pocket_slots, ko1_state_pocket_slots, ro1_state_pocket_awake, ko1_state_pocket_awake, ro1_state_pocket_answering, ko1_state_pocket_answering⟩ := id lo1_state_pocket
    obtain ⟨ko1_state_told, ro1_state_told_row, ko1_state_told_row⟩ := id lo1_state_told
    have ko1_state_tally := id lo1_state_tally
    obtain ⟨ko1_before, ro1_before_pocket, lo1_before_pocket, ro1_before_told, lo1_before_told, ro1_before_tally, lo1_before_tally, ro1_before_settings, ko1_before_settings⟩ := id lo1_before
    obtain ⟨ko1_before_pocket, ro1_before_pocket_names, ko1_before_pocket_names, ro1_before_pocket_asksToGo, ko1_before_pocket_asksToGo, ro1_before_pocket_tellings, ko1_before_pocket_tellings, ro1_before_pocket_slots, ko1_before_pocket_slots, ro1_before_pocket_awake, ko1_before_pocket_awake, ro1_before_pocket_answering, ko1_before_pocket_answering⟩ := id lo1_before_pocket
    obtain ⟨ko1_before_told, ro1_before_told_row, ko1_before_told_row⟩ := id lo1_before_told
    have ko1_before_tally := id lo1_before_tally
    obtain ⟨ko1_trial, ro1_trial_pocket, lo1_trial_pocket, ro1_trial_told, lo1_trial_told, ro1_trial_tally, lo1_trial_tally, ro1_trial_settings, ko1_trial_settings⟩ := id lo1_trial
    obtain ⟨ko1_trial_pocket, ro1_trial_pocket_names, ko1_trial_pocket_names, ro1_trial_pocket_asksToGo, ko1_trial_pocket_asksToGo, ro1_trial_pocket_tellings, ko1_trial_pocket_tellings, ro1_trial_pocket_slots, ko1_trial_pocket_slots, ro1_trial_pocket_awake, ko1_trial_pocket_awake, ro1_trial_pocket_answering, ko1_trial_pocket_answering⟩ := id lo1_trial_pocket
    obtain ⟨ko1_trial_told, ro1_trial_told_row, ko1_trial_told_row⟩ := id lo1_trial_told
    have ko1_trial_tally := id lo1_trial_tally
    obtain ⟨ko1_snapshot, ro1_snapshot_pocket, lo1_snapshot_pocket, ro1_snapshot_told, lo1_snapshot_told, ro1_snapshot_tally, lo1_snapshot_tally, ro1_snapshot_settings, ko1_snapshot_settings⟩ := id lo1_snapshot
    obtain ⟨ko1_snapshot_pocket, ro1_snapshot_pocket_names, ko1_snapshot_pocket_names, ro1_snapshot_pocket_asksToGo, ko1_snapshot_pocket_asksToGo, ro1_snapshot_pocket_tellings, ko1_snapshot_pocket_tellings, ro1_snapshot_pocket_slots, ko1_snapshot_pocket_slots, ro1_snapshot_pocket_awake, ko1_snapshot_pocket_awake, ro1_snapshot_pocket_answering, ko1_snapshot_pocket_answering⟩ := id lo1_snapshot_pocket
    obtain ⟨ko1_snapshot_told, ro1_snapshot_told_row, ko1_snapshot_told_row⟩ := id lo1_snapshot_told
    have ko1_snapshot_tally := id lo1_snapshot_tally
    obtain ⟨ko1_history, ro1_history_rows, ko1_history_rows⟩ := id lo1_history
    obtain ⟨ko1_text, ro1_text_characters, ko1_text_characters, ro1_text_kinds, ko1_text_kinds, ro1_text_numbers, ko1_text_numbers⟩ := id lo1_text
    show AW m_X6_thickest d none Q 40 [some (.inr (some 1)), some (.inl x1), some (.inl x2), some (.inl x3), some (.inl x4), none] [(.inl v6)] h5 (0, 0)
    refine ax_istore (pc := 40) (ls' := [some (.inr (some 1)), some (.inl x1), some (.inl x2), some (.inl x3), some (.inl x4), some (.inl v6)]) dX6_thickest_40 (Nat.le_of_ble_eq_true rfl) rfl ?_
    refine aw_iload (pc := 42) dX6_thickest_42 rfl ?_
    refine aw_iload_n (pc := 44) dX6_thickest_44 rfl ?_
    refine aw_icmp_le (pc := 45) (tgt := 54) dX6_thickest_45 (by decide) (fun c7 => ?_) (fun c7 => ?_)
    · replace g := g.1 c7
      obtain ⟨s8, g⟩ := g
      refine ax_iinc (pc := 54) (v' := x4 + 1) (ls' := [some (.inr (some 1)), some (.inl x1), some (.inl x2), some (.inl x3), some (.inl (x4 + 1)), some (.inl v6)]) dX6_thickest_54 rfl s8 rfl rfl ?_
      refine aw_goto (pc := 57) (tgt := 19) dX6_thickest_57 (by decide) ?_
      exact aw_fewer (show subl [some (.inr (some 1)), some (.inl x1), some (.inl x2), some (.inl x3), some (.inl (x4 + 1)), none] [some (.inr (some 1)), some (.inl x1), some (.inl x2), some (.inl x3), some (.inl (x4 + 1)), some (.inl v6)] from (And.intro rfl (And.intro rfl (And.intro rfl (And.intro rfl (And.intro rfl trivial)))))) g
    · replace g := g.2 c7
      refine aw_iload (pc := 48) dX6_thickest_48 rfl ?_
      refine ax_istore_n (pc := 50) (ls' := [some (.inr (some 1)), some (.inl x1), some (.inl x4), some (.inl x3), some (.inl x4), some (.inl v6)]) dX6_thickest_50 (Nat.le_of_ble_eq_true rfl) rfl ?_
      refine aw_iload (pc := 51) dX6_thickest_51 rfl ?_
      refine ax_istore_n (pc := 53) (ls' := [some (.inr (some 1)), some (.inl x1), some (.inl x4), some (.inl v6), some (.inl x4), some (.inl v6)]) dX6_thickest_53 (Nat.le_of_ble_eq_true rfl) rfl ?_
      obtain ⟨s9, g⟩ := g
      refine ax_iinc (pc := 54) (v' := x4 + 1) (ls' := [some (.inr (some 1)), some (.inl x1), some (.inl x4), some (.inl v6), some (.inl (x4 + 1)), some (.inl v6)]) dX6_thickest_54 rfl s9 rfl rfl ?_
      refine aw_goto (pc := 57) (tgt := 19) dX6_thickest_57 (by decide) ?_
      exact aw_fewer (show subl [some (.inr (some 1)), some (.inl x1), some (.inl x4), some (.inl v6), some (.inl (x4 + 1)), none] [some (.inr (some 1)), some (.inl x1), some (.inl x4), some (.inl v6), some (.inl (x4 + 1)), some (.inl v6)] from (And.intro rfl (And.intro rfl (And.intro rfl (And.intro rfl (And.intro rfl trivial)))))) g
set_option maxRecDepth 100000 in
set_option maxHeartbeats 4000000 in
theorem vc_X6_recorded {d : Nat} {Q : Option Int → AH → Prop} {h : AH} {x1 : Int} (hd : 1 ≤ d) (hL : QM h)
  (g :
    ((x1 < 0 → (
      Q (some x1) h
    )) ∧
    (¬ (x1 < 0) → (
      AM (d - 1) m_X0_add [(.inr (some 50)), (.inr (some 14))] h (fun r h2 => 
        r = none ∧ SW h h2 ∧
        Q (some x1) h2)
    )))) :
  AM d m_X6_recorded [(.inr (some 1)), (.inl x1)] h Q := by
  refine am_body mo_X6_recorded (Nat.le_of_ble_eq_true rfl) ?_
  show AW m_X6_recorded d none Q 0 [some (.inr (some 1)), some (.inl x1)] [] h (0, 0)
  obtain ⟨ko1, ro1_state, lo1_state, ro1_before, lo1_before, ro1_trial, lo1_trial, ro1_snapshot, lo1_snapshot, ro1_history, lo1_history, ro1_text, lo1_text⟩ := id hL
  obtain ⟨ko1_state, ro1_state_pocket, lo1_state_pocket, ro1_state_told, lo1_state_told, ro1_state_tally, lo1_state_tally, ro1_state_settings, ko1_state_settings⟩ := id lo1_state
  obtain ⟨ko1_state_pocket, ro1_state_pocket_names, ko1_state_pocket_names, ro1_state_pocket_asksToGo, ko1_state_pocket_asksToGo, ro1_state_pocket_tellings, ko1_state_pocket_tellings, ro1_state_pocket_slots, ko1_state_pocket_slots, ro1_state_pocket_awake, ko1_state_pocket_awake, ro1_state_pocket_answering, ko1_state_pocket_answering⟩ := id lo1_state_pocket
  obtain ⟨ko1_state_told, ro1_state_told_row, ko1_state_told_row⟩ := id lo1_state_told
  have ko1_state_tally := id lo1_state_tally
  obtain ⟨ko1_before, ro1_before_pocket, lo1_before_pocket, ro1_before_told, lo1_before_told, ro1_before_tally, lo1_before_tally, ro1_before_settings, ko1_before_settings⟩ := id lo1_before
  obtain ⟨ko1_before_pocket, ro1_before_pocket_names, ko1_before_pocket_names, ro1_before_pocket_asksToGo, ko1_before_pocket_asksToGo, ro1_before_pocket_tellings, ko1_before_pocket_tellings, ro1_before_pocket_slots, ko1_before_pocket_slots, ro1_before_pocket_awake, ko1_before_pocket_awake, ro1_before_pocket_answering, ko1_before_pocket_answering⟩ := id lo1_before_pocket
  obtain ⟨ko1_before_told, ro1_before_told_row, ko1_before_told_row⟩ := id lo1_before_told
  have ko1_before_tally := id lo1_before_tally
  obtain ⟨ko1_trial, ro1_trial_pocket, lo1_trial_pocket, ro1_trial_told, lo1_trial_told, ro1_trial_tally, lo1_trial_tally, ro1_trial_settings, ko1_trial_settings⟩ := id lo1_trial
  obtain ⟨ko1_trial_pocket, ro1_trial_pocket_names, ko1_trial_pocket_names, ro1_trial_pocket_asksToGo, ko1_trial_pocket_asksToGo, ro1_trial_pocket_tellings, ko1_trial_pocket_tellings, ro1_trial_pocket_slots, ko1_trial_pocket_slots, ro1_trial_pocket_awake, ko1_trial_pocket_awake, ro1_trial_pocket_answering, ko1_trial_pocket_answering⟩ := id lo1_trial_pocket
  obtain ⟨ko1_trial_told, ro1_trial_told_row, ko1_trial_told_row⟩ := id lo1_trial_told
  have ko1_trial_tally := id lo1_trial_tally
  obtain ⟨ko1_snapshot, ro1_snapshot_pocket, lo1_snapshot_pocket, ro1_snapshot_told, lo1_snapshot_told, ro1_snapshot_tally, lo1_snapshot_tally, ro1_snapshot_settings, ko1_snapshot_settings⟩ := id lo1_snapshot
  obtain ⟨ko1_snapshot_pocket, ro1_snapshot_pocket_names, ko1_snapshot_pocket_names, ro1_snapshot_pocket_asksToGo, ko1_snapshot_pocket_asksToGo, ro1_snapshot_pocket_tellings, ko1_snapshot_pocket_tellings, ro1_snapshot_pocket_slots, ko1_snapshot_pocket_slots, ro1_snapshot_pocket_awake, ko1_snapshot_pocket_awake, ro1_snapshot_pocket_answering, ko1_snapshot_pocket_answering⟩ := id lo1_snapshot_pocket
  obtain ⟨ko1_snapshot_told, ro1_snapshot_told_row, ko1_snapshot_told_row⟩ := id lo1_snapshot_told
  have ko1_snapshot_tally := id lo1_snapshot_tally
  obtain ⟨ko1_history, ro1_history_rows, ko1_history_rows⟩ := id lo1_history
  obtain ⟨ko1_text, ro1_text_characters, ko1_text_characters, ro1_text_kinds, ko1_text_kinds, ro1_text_numbers, ko1_text_numbers⟩ := id lo1_text
  refine aw_iload_n (pc := 0) dX6_recorded_0 rfl ?_
  refine aw_if_lt (pc := 1) (tgt := 15) dX6_recorded_1 (by decide) (fun c1 => ?_) (fun c1 => ?_)
  · replace g := g.1 c1
    refine aw_iload_n (pc := 15) dX6_recorded_15 rfl ?_
    exact ax_ireturn (pc := 16) dX6_recorded_16 rfl g (by decide) (by decide)
  · replace g := g.2 c1
    refine aw_aload_n (pc := 4) dX6_recorded_4 rfl ?_
    refine aw_getr (pc := 5) (r := some 50) dX6_recorded_5 fl_X6_32 (by decide) rfl ko1 ro1_history ?_
    refine aw_aload_n (pc := 8) dX6_recorded_8 rfl ?_
    refine aw_getr (pc := 9) (r := some 14) dX6_recorded_9 fl_X6_16 (by decide) rfl ko1 ro1_before ?_
    refine aw_invV (pc := 12) (md' := m_X0_add) (ci := 0) (as := [(.inr (some 14))]) dX6_recorded_12 mo_X0_add im_X0_add se_X0_add ml_X6_211 rfl ko1_history rfl hd (Nat.le_of_ble_eq_true rfl) (Nat.le_of_ble_eq_true rfl) (Nat.le_of_ble_eq_true rfl) ?_
    refine am_mono g (fun _ h2 _ ok_h2 g => ?_)
    obtain ⟨rfl, ss_h2, g⟩ := g
    replace hL := QM.sw hL ss_h2
    obtain ⟨ko1, ro1_state, lo1_state, ro1_before, lo1_before, ro1_trial, lo1_trial, ro1_snapshot, lo1_snapshot, ro1_history, lo1_history, ro1_text, lo1_text⟩ := id hL
    obtain ⟨ko1_state, ro1_state_pocket, lo1_state_pocket, ro1_state_told, lo1_state_told, ro1_state_tally, lo1_state_tally, ro1_state_settings, ko1_state_settings⟩ := id lo1_state
    obtain ⟨ko1_state_pocket, ro1_state_pocket_names, ko1_state_pocket_names, ro1_state_pocket_asksToGo, ko1_state_pocket_asksToGo, ro1_state_pocket_tellings, ko1_state_pocket_tellings, ro1_state_pocket_slots, ko1_state_pocket_slots, ro1_state_pocket_awake, ko1_state_pocket_awake, ro1_state_pocket_answering, ko1_state_pocket_answering⟩ := id lo1_state_pocket
    obtain ⟨ko1_state_told, ro1_state_told_row, ko1_state_told_row⟩ := id lo1_state_told
    have ko1_state_tally := id lo1_state_tally
    obtain ⟨ko1_before, ro1_before_pocket, lo1_before_pocket, ro1_before_told, lo1_before_told, ro1_before_tally, lo1_before_tally, ro1_before_settings, ko1_before_settings⟩ := id lo1_before
    obtain ⟨ko1_before_pocket, ro1_before_pocket_names, ko1_before_pocket_names, ro1_before_pocket_asksToGo, ko1_before_pocket_asksToGo, ro1_before_pocket_tellings, ko1_before_pocket_tellings, ro1_before_pocket_slots, ko1_before_pocket_slots, ro1_before_pocket_awake, ko1_before_pocket_awake, ro1_before_pocket_answering, ko1_before_pocket_answering⟩ := id lo1_before_pocket
    obtain ⟨ko1_before_told, ro1_before_told_row, ko1_before_told_row⟩ := id lo1_before_told
    have ko1_before_tally := id lo1_before_tally
    obtain ⟨ko1_trial, ro1_trial_pocket, lo1_trial_pocket, ro1_trial_told, lo1_trial_told, ro1_trial_tally, lo1_trial_tally, ro1_trial_settings, ko1_trial_settings⟩ := id lo1_trial
    obtain ⟨ko1_trial_pocket, ro1_trial_pocket_names, ko1_trial_pocket_names, ro1_trial_pocket_asksToGo, ko1_trial_pocket_asksToGo, ro1_trial_pocket_tellings, ko1_trial_pocket_tellings, ro1_trial_pocket_slots, ko1_trial_pocket_slots, ro1_trial_pocket_awake, ko1_trial_pocket_awake, ro1_trial_pocket_answering, ko1_trial_pocket_answering⟩ := id lo1_trial_pocket
    obtain ⟨ko1_trial_told, ro1_trial_told_row, ko1_trial_told_row⟩ := id lo1_trial_told
    have ko1_trial_tally := id lo1_trial_tally
    obtain ⟨ko1_snapshot, ro1_snapshot_pocket, lo1_snapshot_pocket, ro1_snapshot_told, lo1_snapshot_told, ro1_snapshot_tally, lo1_snapshot_tally, ro1_snapshot_settings, ko1_snapshot_settings⟩ := id lo1_snapshot
    obtain ⟨ko1_snapshot_pocket, ro1_snapshot_pocket_names, ko1_snapshot_pocket_names, ro1_snapshot_pocket_asksToGo, ko1_snapshot_pocket_asksToGo, ro1_snapshot_pocket_tellings, ko1_snapshot_pocket_tellings, ro1_snapshot_pocket_slots, ko1_snapshot_pocket_slots, ro1_snapshot_pocket_awake, ko1_snapshot_pocket_awake, ro1_snapshot_pocket_answering, ko1_snapshot_pocket_answering⟩ := id lo1_snapshot_pocket
    obtain ⟨ko1_snapshot_told, ro1_snapshot_told_row, ko1_snapshot_told_row⟩ := id lo1_snapshot_told
    have ko1_snapshot_tally := id lo1_snapshot_tally
    obtain ⟨ko1_history, ro1_history_rows, ko1_history_rows⟩ := id lo1_history
    obtain ⟨ko1_text, ro1_text_characters, ko1_text_characters, ro1_text_kinds, ko1_text_kinds, ro1_text_numbers, ko1_text_numbers⟩ := id lo1_text
    show AW m_X6_recorded d none Q 15 [some (.inr (some 1)), some (.inl x1)] [] h2 (0, 0)
    refine aw_iload_n (pc := 15) dX6_recorded_15 rfl ?_
    exact ax_ireturn (pc := 16) dX6_recorded_16 rfl g (by decide) (by decide)
set_option maxRecDepth 100000 in
set_option maxHeartbeats 4000000 in
theorem vc_X6_isBeginning {d : Nat} {Q : Option Int → AH → Prop} {h : AH} {x0 x1 : Int} 
  (g :
    ((x0 < 0 → (
      Q (some 0) h
    )) ∧
    (¬ (x0 < 0) → (
      ((8 < x0 → (
        Q (some 0) h
      )) ∧
      (¬ (8 < x0) → (
        ((x1 < 0 → (
          Q (some 0) h
        )) ∧
        (¬ (x1 < 0) → (
          ((sl 1 x0 ≤ x1 → (
            Q (some 0) h
          )) ∧
          (¬ (sl 1 x0 ≤ x1) → (
            Q (some 1) h
          )))
        )))
      )))
    )))) :
  AM d m_X6_isBeginning [(.inl x0), (.inl x1)] h Q := by
  refine am_body mo_X6_isBeginning (Nat.le_of_ble_eq_true rfl) ?_
  show AW m_X6_isBeginning d none Q 0 [some (.inl x0), some (.inl x1)] [] h (0, 0)
  refine aw_iload_n (pc := 0) dX6_isBeginning_0 rfl ?_
  refine aw_if_lt (pc := 1) (tgt := 25) dX6_isBeginning_1 (by decide) (fun c1 => ?_) (fun c1 => ?_)
  · replace g := g.1 c1
    refine aw_iconst (pc := 25) dX6_isBeginning_25 ?_
    exact aw_ireturn (pc := 26) dX6_isBeginning_26 (by simp [okr]) g (by decide) (by decide)
  · replace g := g.2 c1
    refine aw_iload_n (pc := 4) dX6_isBeginning_4 rfl ?_
    refine aw_bipush (pc := 5) dX6_isBeginning_5 ?_
    refine aw_icmp_gt (pc := 7) (tgt := 25) dX6_isBeginning_7 (by decide) (fun c2 => ?_) (fun c2 => ?_)
    · replace g := g.1 c2
      refine aw_iconst (pc := 25) dX6_isBeginning_25 ?_
      exact aw_ireturn (pc := 26) dX6_isBeginning_26 (by simp [okr]) g (by decide) (by decide)
    · replace g := g.2 c2
      refine aw_iload_n (pc := 10) dX6_isBeginning_10 rfl ?_
      refine aw_if_lt (pc := 11) (tgt := 25) dX6_isBeginning_11 (by decide) (fun c3 => ?_) (fun c3 => ?_)
      · replace g := g.1 c3
        refine aw_iconst (pc := 25) dX6_isBeginning_25 ?_
        exact aw_ireturn (pc := 26) dX6_isBeginning_26 (by simp [okr]) g (by decide) (by decide)
      · replace g := g.2 c3
        refine aw_iload_n (pc := 14) dX6_isBeginning_14 rfl ?_
        refine aw_iconst (pc := 15) dX6_isBeginning_15 ?_
        refine aw_iload_n (pc := 16) dX6_isBeginning_16 rfl ?_
        refine aw_ishl (pc := 17) dX6_isBeginning_17 ?_
        refine aw_icmp_ge (pc := 18) (tgt := 25) dX6_isBeginning_18 (by decide) (fun c4 => ?_) (fun c4 => ?_)
        · replace g := g.1 c4
          refine aw_iconst (pc := 25) dX6_isBeginning_25 ?_
          exact aw_ireturn (pc := 26) dX6_isBeginning_26 (by simp [okr]) g (by decide) (by decide)
        · replace g := g.2 c4
          refine aw_iconst (pc := 21) dX6_isBeginning_21 ?_
          refine aw_goto (pc := 22) (tgt := 26) dX6_isBeginning_22 (by decide) ?_
          exact aw_ireturn (pc := 26) dX6_isBeginning_26 (by simp [okr]) g (by decide) (by decide)
set_option maxRecDepth 100000 in
set_option maxHeartbeats 4000000 in
theorem vc_X6_isFrameSize {d : Nat} {Q : Option Int → AH → Prop} {h : AH} {x0 : Int} 
  (g :
    ((x0 < 1 → (
      Q (some 0) h
    )) ∧
    (¬ (x0 < 1) → (
      ((64 < x0 → (
        Q (some 0) h
      )) ∧
      (¬ (64 < x0) → (
        Q (some 1) h
      )))
    )))) :
  AM d m_X6_isFrameSize [(.inl x0)] h Q := by
  refine am_body mo_X6_isFrameSize (Nat.le_of_ble_eq_true rfl) ?_
  show AW m_X6_isFrameSize d none Q 0 [some (.inl x0)] [] h (0, 0)
  refine aw_iload_n (pc := 0) dX6_isFrameSize_0 rfl ?_
  refine aw_iconst (pc := 1) dX6_isFrameSize_1 ?_
  refine aw_icmp_lt (pc := 2) (tgt := 15) dX6_isFrameSize_2 (by decide) (fun c1 => ?_) (fun c1 => ?_)
  · replace g := g.1 c1
    refine aw_iconst (pc := 15) dX6_isFrameSize_15 ?_
    exact aw_ireturn (pc := 16) dX6_isFrameSize_16 (by simp [okr]) g (by decide) (by decide)
  · replace g := g.2 c1
    refine aw_iload_n (pc := 5) dX6_isFrameSize_5 rfl ?_
    refine aw_bipush (pc := 6) dX6_isFrameSize_6 ?_
    refine aw_icmp_gt (pc := 8) (tgt := 15) dX6_isFrameSize_8 (by decide) (fun c2 => ?_) (fun c2 => ?_)
    · replace g := g.1 c2
      refine aw_iconst (pc := 15) dX6_isFrameSize_15 ?_
      exact aw_ireturn (pc := 16) dX6_isFrameSize_16 (by simp [okr]) g (by decide) (by decide)
    · replace g := g.2 c2
      refine aw_iconst (pc := 11) dX6_isFrameSize_11 ?_
      refine aw_goto (pc := 12) (tgt := 16) dX6_isFrameSize_12 (by decide) ?_
      exact aw_ireturn (pc := 16) dX6_isFrameSize_16 (by simp [okr]) g (by decide) (by decide)
set_option maxRecDepth 100000 in
set_option maxHeartbeats 4000000 in
theorem vc_X6_firstBits {d : Nat} {Q : Option Int → AH → Prop} {h : AH} {x0 x1 : Int} 
  (g :
    ((x1 < 0 → (
      Q (some 0) h
    )) ∧
    (¬ (x1 < 0) → (
      ((8 < x1 → (
        Q (some 0) h
      )) ∧
      (¬ (8 < x1) → (
        (rg (8 - x1)) ∧
        Q (some (sr x0 (8 - x1))) h
      )))
    )))) :
  AM d m_X6_firstBits [(.inl x0), (.inl x1)] h Q := by
  refine am_body mo_X6_firstBits (Nat.le_of_ble_eq_true rfl) ?_
  show AW m_X6_firstBits d none Q 0 [some (.inl x0), some (.inl x1)] [] h (0, 0)
  refine aw_iload_n (pc := 0) dX6_firstBits_0 rfl ?_
  refine aw_if_lt (pc := 1) (tgt := 19) dX6_firstBits_1 (by decide) (fun c1 => ?_) (fun c1 => ?_)
  · replace g := g.1 c1
    refine aw_iconst (pc := 19) dX6_firstBits_19 ?_
    exact ax_ireturn (pc := 20) dX6_firstBits_20 rfl g (by decide) (by decide)
  · replace g := g.2 c1
    refine aw_iload_n (pc := 4) dX6_firstBits_4 rfl ?_
    refine aw_bipush (pc := 5) dX6_firstBits_5 ?_
    refine aw_icmp_gt (pc := 7) (tgt := 19) dX6_firstBits_7 (by decide) (fun c2 => ?_) (fun c2 => ?_)
    · replace g := g.1 c2
      refine aw_iconst (pc := 19) dX6_firstBits_19 ?_
      exact ax_ireturn (pc := 20) dX6_firstBits_20 rfl g (by decide) (by decide)
    · replace g := g.2 c2
      refine aw_iload_n (pc := 10) dX6_firstBits_10 rfl ?_
      refine aw_bipush (pc := 11) dX6_firstBits_11 ?_
      refine aw_iload_n (pc := 13) dX6_firstBits_13 rfl ?_
      obtain ⟨s3, g⟩ := g
      refine ax_isub (pc := 14) (v := 8 - x1) dX6_firstBits_14 s3 rfl ?_
      refine aw_ishr (pc := 15) dX6_firstBits_15 ?_
      refine aw_goto (pc := 16) (tgt := 20) dX6_firstBits_16 (by decide) ?_
      exact ax_ireturn (pc := 20) dX6_firstBits_20 rfl g (by decide) (by decide)
set_option maxRecDepth 100000 in
set_option maxHeartbeats 4000000 in
theorem vc_X6_firstOne {d : Nat} {Q : Option Int → AH → Prop} {h : AH} {x0 : Int} 
  (g :
    AW m_X6_firstOne d none Q 2 [some (.inl x0), some (.inl 0)] [] h (0, 0)) :
  AM d m_X6_firstOne [(.inl x0)] h Q := by
  refine am_body mo_X6_firstOne (Nat.le_of_ble_eq_true rfl) ?_
  show AW m_X6_firstOne d none Q 0 [some (.inl x0), none] [] h (0, 0)
  refine aw_iconst (pc := 0) dX6_firstOne_0 ?_
  refine ax_istore_n (pc := 1) (ls' := [some (.inl x0), some (.inl 0)]) dX6_firstOne_1 (Nat.le_of_ble_eq_true rfl) rfl ?_
  exact g
set_option maxRecDepth 100000 in
set_option maxHeartbeats 4000000 in
theorem vc_X6_firstOne_2 {d : Nat} {Q : Option Int → AH → Prop} {h : AH} {x0 x1 : Int} 
  (g :
    ((8 ≤ x1 → (
      Q (some x1) h
    )) ∧
    (¬ (8 ≤ x1) → (
      (rg (7 - x1)) ∧
      ((¬ sr x0 (7 - x1) = 0 → (
        Q (some x1) h
      )) ∧
      (¬ (¬ sr x0 (7 - x1) = 0) → (
        (rg (x1 + 1)) ∧
        AW m_X6_firstOne d none Q 2 [some (.inl x0), some (.inl (x1 + 1))] [] h (0, 0)
      )))
    )))) :
  AW m_X6_firstOne d none Q 2 [some (.inl x0), some (.inl x1)] [] h (0, 0) := by
  refine aw_iload_n (pc := 2) dX6_firstOne_2 rfl ?_
  refine aw_bipush (pc := 3) dX6_firstOne_3 ?_
  refine aw_icmp_ge (pc := 5) (tgt := 23) dX6_firstOne_5 (by decide) (fun c1 => ?_) (fun c1 => ?_)
  · replace g := g.1 c1
    refine aw_iload_n (pc := 23) dX6_firstOne_23 rfl ?_
    exact ax_ireturn (pc := 24) dX6_firstOne_24 rfl g (by decide) (by decide)
  · replace g := g.2 c1
    refine aw_iload_n (pc := 8) dX6_firstOne_8 rfl ?_
    refine aw_bipush (pc := 9) dX6_firstOne_9 ?_
    refine aw_iload_n (pc := 11) dX6_firstOne_11 rfl ?_
    obtain ⟨s2, g⟩ := g
    refine ax_isub (pc := 12) (v := 7 - x1) dX6_firstOne_12 s2 rfl ?_
    refine aw_ishr (pc := 13) dX6_firstOne_13 ?_
    refine aw_if_ne (pc := 14) (tgt := 23) dX6_firstOne_14 (by decide) (fun c3 => ?_) (fun c3 => ?_)
    · replace g := g.1 c3
      refine aw_iload_n (pc := 23) dX6_firstOne_23 rfl ?_
      exact ax_ireturn (pc := 24) dX6_firstOne_24 rfl g (by decide) (by decide)
    · replace g := g.2 c3
      obtain ⟨s4, g⟩ := g
      refine ax_iinc (pc := 17) (v' := x1 + 1) (ls' := [some (.inl x0), some (.inl (x1 + 1))]) dX6_firstOne_17 rfl s4 rfl rfl ?_
      refine aw_goto (pc := 20) (tgt := 2) dX6_firstOne_20 (by decide) ?_
      exact g
