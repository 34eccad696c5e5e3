/-! the law's act -/
section LACT
variable {d : Nat} {g : Gs} {T : Int}
theorem walk_op {x : Int} (a : IV T g.1) (hT : T ≤ 1800000000) : OP T g.1 (walkO x g.1) := by
  have h := walk_cases (x := x) a hT
  exact ⟨by omega, fun q => absurd q (by omega), fun _ => h.2.2⟩
theorem frame_op {x : Int} (a : IV T g.1) (hT : T ≤ 1800000000) (hx : 1 ≤ x ∧ x ≤ 64) : OP T g.1 (frameO x g.1) := by
  have h := frame_cases (x := x) a hT hx
  exact ⟨by omega, fun q => absurd q (by omega), fun _ => h.2.2⟩
theorem rounds_op {x : Int} (a : IV T g.1) (hT : T ≤ 1800000000) (hx : 1 ≤ x ∧ x ≤ 64) : OP T g.1 (roundsO x g.1) := by
  have h := rounds_cases (x := x) a hT hx
  exact ⟨by omega, fun q => absurd q (by omega), fun _ => h.2.2⟩
theorem isB_sr {x m : Int} (hx : 0 ≤ x ∧ x ≤ 255) (hm : 0 ≤ m ∧ m ≤ 8) : isB m (sr x (8 - m)) := by
  obtain ⟨t, rfl⟩ : ∃ t : Nat, m = (t : Int) := ⟨m.toNat, by omega⟩
  have h := stem_in (x := x) (t := t) hx (by omega)
  exact ⟨by omega, by omega, h.1, by rw [Int.toNat_natCast]; exact h.2⟩
theorem la_ask {m b : Int} {v : Int} {g' : Gs} (a : IV T g.1) (hT : T ≤ 1800000000) (hB : isB m b) (z : PO (askG m b g) v g') : PA T g v g' := by
  rw [askG_e hB] at z
  exact ⟨_, ask_op a hT hB.1 hB.2.1, z.1, z.2⟩
theorem l_act {x : Int} (hd : 21 ≤ d) (a : IV T g.1) (hT : T ≤ 1800000000) (hx : 0 ≤ x ∧ x < 2147483648) : LM d m_L_act [.inr (some 1), .inl x] g (PA T g) := by
  refine lm_body mo_L_act (Nat.le_of_ble_eq_true rfl) (by intro q; cases q) ?_
  show LW m_L_act d none _ 0 [some (.inr (some 1)), some (.inl x), none, none, none, none, none, none] [] g (0, 0)
  have h20 := a.1.1
  refine lc_act (by omega) ?_
  refine ⟨by omega, ?_⟩
  refine ⟨fun c2 => ?_, fun c2 => ?_⟩
  · refine ⟨fun c3 => ?_, fun c3 => ?_⟩
    · refine ⟨fun c4 => ?_, fun c4 => ?_⟩
      · refine ⟨fun c5 => ?_, fun c5 => ?_⟩
        · refine ⟨fun c6 => ?_, fun c6 => ?_⟩
          · refine ⟨fun c7 => ?_, fun c7 => ?_⟩
            · refine ⟨by omega, ?_⟩
              refine ⟨fun c9 => ?_, fun c9 => ?_⟩
              · intro v10 r_v10 e_v10
                refine ⟨by omega, ?_⟩
                intro v12 g13 r_v12 e_v12 f_v12
                subst f_v12
                have k_v12 := shuf_fact (x := (x / 16)) a (by omega)
                refine ⟨fun c16 => ?_, fun c16 => ?_⟩
                · refine ⟨fun c17 => ?_, fun c17 => ?_⟩
                  · exfalso; omega
                  · intro v18 r_v18 e_v18
                    refine ⟨fun c19 => ?_, fun c19 => ?_⟩
                    · exfalso; omega
                    · first
                      | exact z_v12
                      | exact ⟨_, put_op a (by omega), z_v12.1, z_v12.2⟩
                      | exact la_ask a hT (isB_sr (by omega) (by omega)) z_v12
                      | exact ⟨_, shuf_op a (by omega), e_v12, rfl⟩
                      | exact ⟨_, forg_op a, e_v12, rfl⟩
                      | exact ⟨_, walk_op a hT, e_v12, rfl⟩
                      | exact ⟨_, frame_op a hT (by omega), e_v12, rfl⟩
                      | exact ⟨_, rounds_op a hT (by omega), e_v12, rfl⟩
                      | exact ⟨_, set_op a (by omega) (by omega), e_v12, rfl⟩
                · refine ⟨fun c20 => ?_, fun c20 => ?_⟩
                  · exfalso; omega
                  · intro v21 r_v21 e_v21
                    refine ⟨fun c22 => ?_, fun c22 => ?_⟩
                    · exfalso; omega
                    · first
                      | exact z_v12
                      | exact ⟨_, put_op a (by omega), z_v12.1, z_v12.2⟩
                      | exact la_ask a hT (isB_sr (by omega) (by omega)) z_v12
                      | exact ⟨_, shuf_op a (by omega), e_v12, rfl⟩
                      | exact ⟨_, forg_op a, e_v12, rfl⟩
                      | exact ⟨_, walk_op a hT, e_v12, rfl⟩
                      | exact ⟨_, frame_op a hT (by omega), e_v12, rfl⟩
                      | exact ⟨_, rounds_op a hT (by omega), e_v12, rfl⟩
                      | exact ⟨_, set_op a (by omega) (by omega), e_v12, rfl⟩
              · intro v23 r_v23 e_v23
                intro v25 g26 r_v25 e_v25 f_v25
                subst f_v25
                have k_v25 := forg_fact a
                refine ⟨fun c28 => ?_, fun c28 => ?_⟩
                · refine ⟨fun c29 => ?_, fun c29 => ?_⟩
                  · exfalso; omega
                  · intro v30 r_v30 e_v30
                    refine ⟨fun c31 => ?_, fun c31 => ?_⟩
                    · exfalso; omega
                    · first
                      | exact z_v25
                      | exact ⟨_, put_op a (by omega), z_v25.1, z_v25.2⟩
                      | exact la_ask a hT (isB_sr (by omega) (by omega)) z_v25
                      | exact ⟨_, shuf_op a (by omega), e_v25, rfl⟩
                      | exact ⟨_, forg_op a, e_v25, rfl⟩
                      | exact ⟨_, walk_op a hT, e_v25, rfl⟩
                      | exact ⟨_, frame_op a hT (by omega), e_v25, rfl⟩
                      | exact ⟨_, rounds_op a hT (by omega), e_v25, rfl⟩
                      | exact ⟨_, set_op a (by omega) (by omega), e_v25, rfl⟩
                · refine ⟨fun c32 => ?_, fun c32 => ?_⟩
                  · exfalso; omega
                  · intro v33 r_v33 e_v33
                    refine ⟨fun c34 => ?_, fun c34 => ?_⟩
                    · exfalso; omega
                    · first
                      | exact z_v25
                      | exact ⟨_, put_op a (by omega), z_v25.1, z_v25.2⟩
                      | exact la_ask a hT (isB_sr (by omega) (by omega)) z_v25
                      | exact ⟨_, shuf_op a (by omega), e_v25, rfl⟩
                      | exact ⟨_, forg_op a, e_v25, rfl⟩
                      | exact ⟨_, walk_op a hT, e_v25, rfl⟩
                      | exact ⟨_, frame_op a hT (by omega), e_v25, rfl⟩
                      | exact ⟨_, rounds_op a hT (by omega), e_v25, rfl⟩
                      | exact ⟨_, set_op a (by omega) (by omega), e_v25, rfl⟩
            · refine ⟨by omega, ?_⟩
              refine ⟨by unfold rg; omega, ?_⟩
              intro v37 r_v37 e_v37
              refine ⟨by unfold rg; omega, ?_⟩
              refine ⟨by omega, ?_⟩
              refine ⟨by omega, ?_⟩
              intro v41 g42 r_v41 e_v41 f_v41
              subst f_v41
              have m0_v41 := Int.emod_nonneg (((x / 16) / 2)) (show (2 + ((x / 16) % 2)) ≠ 0 by omega)
              have m1_v41 := Int.emod_lt_of_pos (((x / 16) / 2)) (show 0 < (2 + ((x / 16) % 2)) by omega)
              have k_v41 := set_fact (k := ((x / 16) % 2)) (v := (((x / 16) / 2) % (2 + ((x / 16) % 2)))) a (by omega) (by omega)
              refine ⟨fun c43 => ?_, fun c43 => ?_⟩
              · refine ⟨fun c44 => ?_, fun c44 => ?_⟩
                · exfalso; omega
                · intro v45 r_v45 e_v45
                  refine ⟨fun c46 => ?_, fun c46 => ?_⟩
                  · exfalso; omega
                  · first
                    | exact z_v41
                    | exact ⟨_, put_op a (by omega), z_v41.1, z_v41.2⟩
                    | exact la_ask a hT (isB_sr (by omega) (by omega)) z_v41
                    | exact ⟨_, shuf_op a (by omega), e_v41, rfl⟩
                    | exact ⟨_, forg_op a, e_v41, rfl⟩
                    | exact ⟨_, walk_op a hT, e_v41, rfl⟩
                    | exact ⟨_, frame_op a hT (by omega), e_v41, rfl⟩
                    | exact ⟨_, rounds_op a hT (by omega), e_v41, rfl⟩
                    | exact ⟨_, set_op a (by omega) (by omega), e_v41, rfl⟩
              · refine ⟨fun c47 => ?_, fun c47 => ?_⟩
                · exfalso; omega
                · intro v48 r_v48 e_v48
                  refine ⟨fun c49 => ?_, fun c49 => ?_⟩
                  · exfalso; omega
                  · first
                    | exact z_v41
                    | exact ⟨_, put_op a (by omega), z_v41.1, z_v41.2⟩
                    | exact la_ask a hT (isB_sr (by omega) (by omega)) z_v41
                    | exact ⟨_, shuf_op a (by omega), e_v41, rfl⟩
                    | exact ⟨_, forg_op a, e_v41, rfl⟩
                    | exact ⟨_, walk_op a hT, e_v41, rfl⟩
                    | exact ⟨_, frame_op a hT (by omega), e_v41, rfl⟩
                    | exact ⟨_, rounds_op a hT (by omega), e_v41, rfl⟩
                    | exact ⟨_, set_op a (by omega) (by omega), e_v41, rfl⟩
          · intro v50 r_v50 e_v50
            refine ⟨by omega, ?_⟩
            refine ⟨fun c52 => ?_, fun c52 => ?_⟩
            · refine ⟨by omega, ?_⟩
              refine ⟨by unfold rg; omega, ?_⟩
              intro v55 g56 r_v55 e_v55 f_v55
              subst f_v55
              have k_v55 := frame_fact (x := (1 + (((x / 16) / 2) % 64))) a hT (by omega)
              refine ⟨fun c57 => ?_, fun c57 => ?_⟩
              · exfalso; omega
              · intro v58 r_v58 e_v58
                refine ⟨by unfold rg; omega, ?_⟩
                refine ⟨fun c61 => ?_, fun c61 => ?_⟩
                · exfalso; omega
                · first
                  | exact z_v55
                  | exact ⟨_, put_op a (by omega), z_v55.1, z_v55.2⟩
                  | exact la_ask a hT (isB_sr (by omega) (by omega)) z_v55
                  | exact ⟨_, shuf_op a (by omega), e_v55, rfl⟩
                  | exact ⟨_, forg_op a, e_v55, rfl⟩
                  | exact ⟨_, walk_op a hT, e_v55, rfl⟩
                  | exact ⟨_, frame_op a hT (by omega), e_v55, rfl⟩
                  | exact ⟨_, rounds_op a hT (by omega), e_v55, rfl⟩
                  | exact ⟨_, set_op a (by omega) (by omega), e_v55, rfl⟩
            · refine ⟨by omega, ?_⟩
              refine ⟨by unfold rg; omega, ?_⟩
              intro v64 g65 r_v64 e_v64 f_v64
              subst f_v64
              have k_v64 := rounds_fact (x := (1 + (((x / 16) / 2) % 64))) a hT (by omega)
              refine ⟨fun c66 => ?_, fun c66 => ?_⟩
              · exfalso; omega
              · intro v67 r_v67 e_v67
                refine ⟨by unfold rg; omega, ?_⟩
                refine ⟨fun c70 => ?_, fun c70 => ?_⟩
                · exfalso; omega
                · first
                  | exact z_v64
                  | exact ⟨_, put_op a (by omega), z_v64.1, z_v64.2⟩
                  | exact la_ask a hT (isB_sr (by omega) (by omega)) z_v64
                  | exact ⟨_, shuf_op a (by omega), e_v64, rfl⟩
                  | exact ⟨_, forg_op a, e_v64, rfl⟩
                  | exact ⟨_, walk_op a hT, e_v64, rfl⟩
                  | exact ⟨_, frame_op a hT (by omega), e_v64, rfl⟩
                  | exact ⟨_, rounds_op a hT (by omega), e_v64, rfl⟩
                  | exact ⟨_, set_op a (by omega) (by omega), e_v64, rfl⟩
        · intro v71 r_v71 e_v71
          refine ⟨by omega, ?_⟩
          refine ⟨fun c73 => ?_, fun c73 => ?_⟩
          · intro v74 g75 r_v74 e_v74 f_v74
            subst f_v74
            have k_v74 := walk_fact (x := 0) a hT
            refine ⟨fun c76 => ?_, fun c76 => ?_⟩
            · exfalso; omega
            · intro v77 r_v77 e_v77
              refine ⟨by unfold rg; omega, ?_⟩
              refine ⟨fun c79 => ?_, fun c79 => ?_⟩
              · exfalso; omega
              · first
                | exact z_v74
                | exact ⟨_, put_op a (by omega), z_v74.1, z_v74.2⟩
                | exact la_ask a hT (isB_sr (by omega) (by omega)) z_v74
                | exact ⟨_, shuf_op a (by omega), e_v74, rfl⟩
                | exact ⟨_, forg_op a, e_v74, rfl⟩
                | exact ⟨_, walk_op a hT, e_v74, rfl⟩
                | exact ⟨_, frame_op a hT (by omega), e_v74, rfl⟩
                | exact ⟨_, rounds_op a hT (by omega), e_v74, rfl⟩
                | exact ⟨_, set_op a (by omega) (by omega), e_v74, rfl⟩
          · intro v80 g81 r_v80 e_v80 f_v80
            subst f_v80
            have k_v80 := walk_fact (x := 1) a hT
            refine ⟨fun c82 => ?_, fun c82 => ?_⟩
            · exfalso; omega
            · intro v83 r_v83 e_v83
              refine ⟨by unfold rg; omega, ?_⟩
              refine ⟨fun c85 => ?_, fun c85 => ?_⟩
              · exfalso; omega
              · first
                | exact z_v80
                | exact ⟨_, put_op a (by omega), z_v80.1, z_v80.2⟩
                | exact la_ask a hT (isB_sr (by omega) (by omega)) z_v80
                | exact ⟨_, shuf_op a (by omega), e_v80, rfl⟩
                | exact ⟨_, forg_op a, e_v80, rfl⟩
                | exact ⟨_, walk_op a hT, e_v80, rfl⟩
                | exact ⟨_, frame_op a hT (by omega), e_v80, rfl⟩
                | exact ⟨_, rounds_op a hT (by omega), e_v80, rfl⟩
                | exact ⟨_, set_op a (by omega) (by omega), e_v80, rfl⟩
      · refine ⟨by omega, ?_⟩
        intro v87 r_v87 e_v87
        replace e_v87 := e_v87.trans tot_0
        refine ⟨fun c88 => ?_, fun c88 => ?_⟩
        · refine ⟨by omega, ?_⟩
          refine ⟨by unfold rg; omega, ?_⟩
          refine lm_mono (l_ask (by omega) a hT (isB_sr (by omega) (by omega))) (fun v91 g92 z_v91 => ?_)
          first
          | exact z_v91
          | exact ⟨_, put_op a (by omega), z_v91.1, z_v91.2⟩
          | exact la_ask a hT (isB_sr (by omega) (by omega)) z_v91
          | exact ⟨_, shuf_op a (by omega), e_v91, rfl⟩
          | exact ⟨_, forg_op a, e_v91, rfl⟩
          | exact ⟨_, walk_op a hT, e_v91, rfl⟩
          | exact ⟨_, frame_op a hT (by omega), e_v91, rfl⟩
          | exact ⟨_, rounds_op a hT (by omega), e_v91, rfl⟩
          | exact ⟨_, set_op a (by omega) (by omega), e_v91, rfl⟩
        · refine ⟨fun c93 => ?_, fun c93 => ?_⟩
          · refine ⟨by omega, ?_⟩
            refine ⟨by unfold rg; omega, ?_⟩
            refine lm_mono (l_ask (by omega) a hT (isB_sr (by omega) (by omega))) (fun v96 g97 z_v96 => ?_)
            first
            | exact z_v96
            | exact ⟨_, put_op a (by omega), z_v96.1, z_v96.2⟩
            | exact la_ask a hT (isB_sr (by omega) (by omega)) z_v96
            | exact ⟨_, shuf_op a (by omega), e_v96, rfl⟩
            | exact ⟨_, forg_op a, e_v96, rfl⟩
            | exact ⟨_, walk_op a hT, e_v96, rfl⟩
            | exact ⟨_, frame_op a hT (by omega), e_v96, rfl⟩
            | exact ⟨_, rounds_op a hT (by omega), e_v96, rfl⟩
            | exact ⟨_, set_op a (by omega) (by omega), e_v96, rfl⟩
          · intro v98 r_v98 e_v98
            replace e_v98 := e_v98.trans tot_0
            refine ⟨by omega, ?_⟩
            refine ⟨by omega, ?_⟩
            intro v101 r_v101 e_v101
            have m0_v101 := Int.emod_nonneg ((x / 16) / 9) (show v98 ≠ 0 by omega)
            have m1_v101 := Int.emod_lt_of_pos ((x / 16) / 9) (show 0 < v98 by omega)
            obtain ⟨c_v101, -, n_v101, lo_v101, up_v101⟩ := card_in a.1 (i := (((x / 16) / 9) % v98)) m0_v101 (by omega)
            refine ⟨by unfold rg; omega, ?_⟩
            refine lm_mono (l_ask (by omega) a hT (isB_sr (by omega) (by omega))) (fun v103 g104 z_v103 => ?_)
            first
            | exact z_v103
            | exact ⟨_, put_op a (by omega), z_v103.1, z_v103.2⟩
            | exact la_ask a hT (isB_sr (by omega) (by omega)) z_v103
            | exact ⟨_, shuf_op a (by omega), e_v103, rfl⟩
            | exact ⟨_, forg_op a, e_v103, rfl⟩
            | exact ⟨_, walk_op a hT, e_v103, rfl⟩
            | exact ⟨_, frame_op a hT (by omega), e_v103, rfl⟩
            | exact ⟨_, rounds_op a hT (by omega), e_v103, rfl⟩
            | exact ⟨_, set_op a (by omega) (by omega), e_v103, rfl⟩
    · refine ⟨by unfold rg; omega, ?_⟩
      refine lm_mono (l_change (by omega) a (by omega) (by omega)) (fun v106 g107 z_v106 => ?_)
      first
      | exact z_v106
      | exact ⟨_, put_op a (by omega), z_v106.1, z_v106.2⟩
      | exact la_ask a hT (isB_sr (by omega) (by omega)) z_v106
      | exact ⟨_, shuf_op a (by omega), e_v106, rfl⟩
      | exact ⟨_, forg_op a, e_v106, rfl⟩
      | exact ⟨_, walk_op a hT, e_v106, rfl⟩
      | exact ⟨_, frame_op a hT (by omega), e_v106, rfl⟩
      | exact ⟨_, rounds_op a hT (by omega), e_v106, rfl⟩
      | exact ⟨_, set_op a (by omega) (by omega), e_v106, rfl⟩
  · refine ⟨by omega, ?_⟩
    refine ⟨fun c109 => ?_, fun c109 => ?_⟩
    · refine ⟨by omega, ?_⟩
      refine lm_mono (l_put (x := (((x / 16) / 3) % 256)) (by omega) a (by omega)) (fun v111 g112 z_v111 => ?_)
      first
      | exact z_v111
      | exact ⟨_, put_op a (by omega), z_v111.1, z_v111.2⟩
      | exact la_ask a hT (isB_sr (by omega) (by omega)) z_v111
      | exact ⟨_, shuf_op a (by omega), e_v111, rfl⟩
      | exact ⟨_, forg_op a, e_v111, rfl⟩
      | exact ⟨_, walk_op a hT, e_v111, rfl⟩
      | exact ⟨_, frame_op a hT (by omega), e_v111, rfl⟩
      | exact ⟨_, rounds_op a hT (by omega), e_v111, rfl⟩
      | exact ⟨_, set_op a (by omega) (by omega), e_v111, rfl⟩
    · refine ⟨by omega, ?_⟩
      refine ⟨by unfold rg; omega, ?_⟩
      refine lm_mono (l_put (x := ((((x / 16) / 3) % 16) * 8)) (by omega) a (by omega)) (fun v115 g116 z_v115 => ?_)
      first
      | exact z_v115
      | exact ⟨_, put_op a (by omega), z_v115.1, z_v115.2⟩
      | exact la_ask a hT (isB_sr (by omega) (by omega)) z_v115
      | exact ⟨_, shuf_op a (by omega), e_v115, rfl⟩
      | exact ⟨_, forg_op a, e_v115, rfl⟩
      | exact ⟨_, walk_op a hT, e_v115, rfl⟩
      | exact ⟨_, frame_op a hT (by omega), e_v115, rfl⟩
      | exact ⟨_, rounds_op a hT (by omega), e_v115, rfl⟩
      | exact ⟨_, set_op a (by omega) (by omega), e_v115, rfl⟩
end LACT
