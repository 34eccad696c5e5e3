/-! the law's refusesAny: calls that are refused or bring nothing -/
section RFS
variable {d : Nat} {g : Gs} {T x y k v m b : Int}
theorem ix_far (hw : WL g.1.1) (h : x < 0 ∨ 255 < x) : ix g.1.1 x = none := ix_none.mpr (fun c hc q => by
  have := nm_of hw hc
  omega)
theorem of_far (hw : WL g.1.1) (h : x < 0 ∨ 255 < x) : ofO x k g.1.1 = -1 := of_none (ix_far hw h) k
/-- there is none, or it is a card's name -/
def TH (g : Gs) (x : Int) : Prop := x < 0 ∨ ∃ c ∈ g.1.1, c.1 = x
theorem there_f (a : IV T g.1) : TH g (cardO 0 g.1.1) := by
  by_cases q : (g.1.1.length : Int) ≤ 0
  · refine Or.inl ?_
    unfold cardO
    rw [if_neg (by decide), if_pos q]
    decide
  · obtain ⟨c, hc, e, -⟩ := card_in a.1 (i := 0) (by omega) (by omega)
    exact Or.inr ⟨c, List.mem_of_getElem? hc, e.symm⟩
theorem TH.ix (hw : WL g.1.1) (h : TH g x) (h0 : ¬ x < 0) : ∃ c ∈ g.1.1, c.1 = x ∧ ∃ i, ix g.1.1 x = some i ∧ cat g.1.1 i = c := by
  rcases h with q | ⟨c, hc, rfl⟩
  · exact absurd q h0
  · obtain ⟨i, hi⟩ := List.getElem?_of_mem hc
    exact ⟨c, hc, rfl, i, (ix_some hw).mpr ⟨c, hi, rfl⟩, cat_eq hi⟩
theorem rf_put_far (h : x < 0 ∨ 255 < x) : recG (putO x g.1) g = (-2, g) := by rw [put_no h]; exact recG_no (by decide)
theorem rf_put_there (a : IV T g.1) (h : TH g x) (h0 : ¬ x < 0) : recG (putO x g.1) g = (-4, g) := by
  obtain ⟨c, hc, rfl, i, hi, -⟩ := h.ix a.1 h0
  have hn := nm_of a.1 hc
  have e : putO c.1 g.1 = (-4, g.1) := by unfold putO; rw [if_neg (by omega), hi]
  rw [e]
  exact recG_no (by decide)
theorem rf_take_far (a : IV T g.1) (h : x < 0 ∨ 255 < x) : recG (takeO x g.1) g = (-1, g) := by
  have e : takeO x g.1 = (-1, g.1) := by unfold takeO; rw [ix_far a.1 h]
  rw [e]
  exact recG_no (by decide)
theorem rf_sleep_far (a : IV T g.1) (h : x < 0 ∨ 255 < x) : recG (sleepO x g.1) g = (-1, g) := by
  have e : sleepO x g.1 = (-1, g.1) := by unfold sleepO; rw [ix_far a.1 h]
  rw [e]
  exact recG_no (by decide)
theorem rf_sleep_there (a : IV T g.1) (h : TH g x) (h0 : ¬ x < 0) (h1 : ofO x 0 g.1.1 ≠ 1) : recG (sleepO x g.1) g = (-5, g) := by
  obtain ⟨c, hc, rfl, i, hi, hcat⟩ := h.ix a.1 h0
  have ho := (of_mem a.1 hc).1
  have ha := (a.1.2.1 c hc).2.1
  have e : sleepO c.1 g.1 = (-5, g.1) := by unfold sleepO; rw [hi]; simp only; rw [hcat, if_pos (by omega)]
  rw [e]
  exact recG_no (by decide)
theorem rf_wake (a : IV T g.1) (h : (g.1.1.length : Int) ≤ nAw g.1.1) : recG (wakeO g.1) g = (-5, g) := by
  have hn := nAw_le g.1.1
  have e : wakeO g.1 = (-5, g.1) := by unfold wakeO; rw [if_pos (by omega)]
  rw [e]
  exact recG_no (by decide)
theorem rf_leave_far (a : IV T g.1) (h : x < 0 ∨ 255 < x) : recG (leaveO x y g.1) g = (-1, g) := by
  have e : leaveO x y g.1 = (-1, g.1) := by unfold leaveO; rw [ix_far a.1 h]
  rw [e]
  exact recG_no (by decide)
theorem rf_leave_oor (a : IV T g.1) (h : TH g x) (h0 : ¬ x < 0) (h1 : y < 0 ∨ 200 < y) : recG (leaveO x y g.1) g = (-2, g) := by
  obtain ⟨c, hc, rfl, i, hi, hcat⟩ := h.ix a.1 h0
  have e : leaveO c.1 y g.1 = (-2, g.1) := by unfold leaveO; rw [hi]; simp only; rw [if_pos h1]
  rw [e]
  exact recG_no (by decide)
theorem rf_leave_same (a : IV T g.1) (h : TH g x) (h0 : ¬ x < 0) (h1 : y = ofO x 1 g.1.1) : recG (leaveO x y g.1) g = (-5, g) := by
  obtain ⟨c, hc, rfl, i, hi, hcat⟩ := h.ix a.1 h0
  have ho := (of_mem a.1 hc).2.1
  have ha := (a.1.2.1 c hc).2.2
  have e : leaveO c.1 y g.1 = (-5, g.1) := by unfold leaveO; rw [hi]; simp only; rw [hcat, if_neg (by omega), if_pos (by omega)]
  rw [e]
  exact recG_no (by decide)
theorem rf_set_k (h : k < 0 ∨ 1 < k) : recG (setO k v g.1) g = (-1, g) := by
  have e : setO k v g.1 = (-1, g.1) := by unfold setO; rw [if_pos h]
  rw [e]
  exact recG_no (by decide)
theorem rf_set_v (hk : ¬ (k < 0 ∨ 1 < k)) (h : v < 0 ∨ 1 + k < v) : recG (setO k v g.1) g = (-2, g) := by
  have e : setO k v g.1 = (-2, g.1) := by unfold setO; rw [if_neg hk, if_pos h]
  rw [e]
  exact recG_no (by decide)
theorem rf_set_same (a : IV T g.1) (hk : k = 0 ∨ k = 1) (h : v = totO (11 + k) g) : recG (setO k v g.1) g = (-5, g) := by
  have e0 : totO (11 + k) g = g.1.2.2 (2 + k) := by
    rcases hk with rfl | rfl
    · exact tot_11
    · exact tot_12
  rw [e0] at h
  obtain ⟨w1, w2, -⟩ := a.2.1
  have hv : ¬ (v < 0 ∨ 1 + k < v) := by
    rcases hk with rfl | rfl
    · have h' : v = g.1.2.2 2 := h
      omega
    · have h' : v = g.1.2.2 3 := h
      omega
  have e : setO k v g.1 = (-5, g.1) := by unfold setO; rw [if_neg (by omega), if_neg hv, if_pos h.symm]
  rw [e]
  exact recG_no (by decide)
theorem rf_shuf_neg (h : x < 0) : recG (shufO x g.1) g = (-2, g) := by
  have e : shufO x g.1 = (-2, g.1) := by unfold shufO; rw [if_pos h]
  rw [e]
  exact recG_no (by decide)
theorem rf_shuf_same (a : IV T g.1) (h : x = g.1.2.2 4) : recG (shufO x g.1) g = (-5, g) := by
  have w3 := a.2.1.2.2.1
  have e : shufO x g.1 = (-5, g.1) := by unfold shufO; rw [if_neg (by omega), if_pos h.symm]
  rw [e]
  exact recG_no (by decide)
theorem rf_forg (h : (g.1.2.1.length : Int) ≤ 0) : recG (forgO g.1) g = (-5, g) := by
  have e : forgO g.1 = (-5, g.1) := by unfold forgO; rw [if_pos (by omega)]
  rw [e]
  exact recG_no (by decide)
theorem rf_ask (h : ¬ isB m b) : askG m b g = (-2, g) := by unfold askG; rw [if_neg h]
theorem rf_frame (h : ¬ (1 ≤ x ∧ x ≤ 64)) : recG (frameO x g.1) g = (-2, g) := by
  have e : frameO x g.1 = (-2, g.1) := by unfold frameO; rw [if_neg h]
  rw [e]
  exact recG_no (by decide)
theorem rf_rounds (h : ¬ (1 ≤ x ∧ x ≤ 64)) : recG (roundsO x g.1) g = (-2, g) := by
  have e : roundsO x g.1 = (-2, g.1) := by unfold roundsO; rw [if_neg h]
  rw [e]
  exact recG_no (by decide)
theorem rf_clear (h : g.2.2.2 = []) : clearG g = (0, g) := by
  obtain ⟨s, L, q, tx⟩ := g
  have h' : tx = [] := h
  subst h'
  rfl
theorem rf_perf (h : g.2.2.2 = []) : perfG g = (-100, g) := by
  unfold perfG
  rw [h]
  have e : (allP [] 31 0 []).1 = 0 := by decide
  rw [e, if_neg (by decide)]
  rfl
theorem no_len (h : m < 0 ∨ 8 < m) : ¬ isB m b := fun q => by
  have h1 := q.1
  have h2 := q.2.1
  omega
theorem no_neg (h : b < 0) : ¬ isB m b := fun q => by
  have h1 := q.2.2.1
  omega
theorem no_sl (h : 0 ≤ m ∧ m < 9) : ¬ isB m (sl 1 m) := fun q => by
  obtain ⟨n, rfl⟩ : ∃ n : Nat, m = (n : Int) := ⟨m.toNat, by omega⟩
  have h2 := q.2.2.2
  rw [sl_1 n (by omega), Int.toNat_natCast] at h2
  omega
theorem card_neg (h : x < 0) : cardO x g.1.1 = -2 := by unfold cardO; rw [if_pos h]
theorem card_len (h : x = (g.1.1.length : Int)) : cardO x g.1.1 = -5 := by unfold cardO; rw [if_neg (by omega), if_pos (by omega)]
theorem of_oor (a : IV T g.1) (h : TH g x) (h0 : ¬ x < 0) (h1 : k < 0 ∨ 3 < k) : ofO x k g.1.1 = -2 := by
  obtain ⟨c, hc, rfl, i, hi, hcat⟩ := h.ix a.1 h0
  unfold ofO
  rw [hi]
  simp only
  rw [if_neg (by omega), if_neg (by omega), if_neg (by omega), if_neg (by omega)]
theorem told_neg (h : x < 0) : toldO x g.1.2.1 = -2 := by unfold toldO; rw [if_pos h]
theorem told_len (h : x = (g.1.2.1.length : Int)) : toldO x g.1.2.1 = -5 := by unfold toldO; rw [if_neg (by omega), if_pos (by omega)]
theorem count_no (h : ¬ isB m b) : countO m b g.1.1 = -2 := by unfold countO; rw [if_neg h]
theorem walkT_no (h : k < 0 ∨ 4 < k) : walkTO x k g.1 = -2 := by unfold walkTO; rw [if_pos h]
theorem roundsT_no (h : ¬ (1 ≤ x ∧ x ≤ 64) ∨ k < 0 ∨ 4 < k) : roundsTO x k g.1 = -2 := by unfold roundsTO; rw [if_pos h]
theorem thick_no (h : m < 0 ∨ 8 < m) : thickO m g.1.1 = -2 := by unfold thickO; rw [if_neg (no_len h)]
theorem tot_oor (h : x < 0 ∨ 16 < x) : totO x g = -2 := by
  unfold totO
  rw [if_neg (by omega), if_neg (by omega), if_neg (by omega), if_neg (by omega), if_neg (by omega), if_neg (by omega), if_neg (by omega), if_neg (by omega), if_neg (by omega), if_neg (by omega), if_neg (by omega)]
theorem l_ra706 {far rank there is : Int} (hd : 20 ≤ d) (a : IV T g.1) (ht : g.2.2.2 = []) (hx : 0 ≤ x ∧ x < 2147483648) (hf : far < 0 ∨ 255 < far) (hr : rank < 0 ∧ -2147483648 ≤ rank) (hth : TH g there) (his : is = 1) : LW m_L_refusesAny d none (P1 g) 706 [some (.inr (some 1)), some (.inl x), some (.inl far), some (.inl rank), some (.inl there), some (.inl is)] [] g (0, 0) := by
  have h20 := a.1.1
  refine lc_refusesAny_706 hd ?_
  intro v1 g2 r_v1 e_v1 f_v1
  rw [rf_clear ht] at e_v1 f_v1
  replace e_v1 : v1 = 0 := e_v1
  replace f_v1 : g2 = g := f_v1
  subst f_v1
  refine ⟨fun c3 => ?_, fun c3 => ?_⟩
  · exfalso; omega
  · intro v4 g5 r_v4 e_v4 f_v4
    rw [rf_perf ht] at e_v4 f_v4
    replace e_v4 : v4 = -100 := e_v4
    replace f_v4 : g5 = g2 := f_v4
    subst f_v4
    refine ⟨fun c6 => ?_, fun c6 => ?_⟩
    · exfalso; omega
    · exact ⟨rfl, rfl⟩
theorem l_ra544 {far rank there is : Int} (hd : 20 ≤ d) (a : IV T g.1) (ht : g.2.2.2 = []) (hx : 0 ≤ x ∧ x < 2147483648) (hf : far < 0 ∨ 255 < far) (hr : rank < 0 ∧ -2147483648 ≤ rank) (hth : TH g there) (his : is = 1) : LW m_L_refusesAny d none (P1 g) 544 [some (.inr (some 1)), some (.inl x), some (.inl far), some (.inl rank), some (.inl there), some (.inl is)] [] g (0, 0) := by
  have h20 := a.1.1
  refine lc_refusesAny_544 hd ?_
  refine ⟨by omega, ?_⟩
  refine ⟨fun c2 => ?_, fun c2 => ?_⟩
  · intro v3 r_v3 e_v3
    rw [count_no (no_len (by omega))] at e_v3
    refine ⟨fun c4 => ?_, fun c4 => ?_⟩
    · exfalso; omega
    · intro v5 r_v5 e_v5
      rw [count_no (no_sl (by omega))] at e_v5
      refine ⟨fun c6 => ?_, fun c6 => ?_⟩
      · exfalso; omega
      · intro v7 r_v7 e_v7
        rw [count_no (no_neg (by omega))] at e_v7
        refine ⟨fun c8 => ?_, fun c8 => ?_⟩
        · exfalso; omega
        · refine ⟨fun c10 => ?_, fun c10 => ?_⟩
          · intro v11 r_v11 e_v11
            rw [walkT_no (by omega)] at e_v11
            refine ⟨fun c12 => ?_, fun c12 => ?_⟩
            · exfalso; omega
            · intro v14 r_v14 e_v14
              rw [roundsT_no (by omega)] at e_v14
              refine ⟨fun c15 => ?_, fun c15 => ?_⟩
              · exfalso; omega
              · intro v17 r_v17 e_v17
                rw [roundsT_no (by omega)] at e_v17
                refine ⟨fun c18 => ?_, fun c18 => ?_⟩
                · exfalso; omega
                · intro v20 r_v20 e_v20
                  rw [thick_no (by omega)] at e_v20
                  refine ⟨fun c21 => ?_, fun c21 => ?_⟩
                  · exfalso; omega
                  · exact l_ra706 hd a ht hx hf hr hth rfl
          · intro v23 r_v23 e_v23
            rw [walkT_no (by omega)] at e_v23
            refine ⟨fun c24 => ?_, fun c24 => ?_⟩
            · exfalso; omega
            · intro v26 r_v26 e_v26
              rw [roundsT_no (by omega)] at e_v26
              refine ⟨fun c27 => ?_, fun c27 => ?_⟩
              · exfalso; omega
              · intro v29 r_v29 e_v29
                rw [roundsT_no (by omega)] at e_v29
                refine ⟨fun c30 => ?_, fun c30 => ?_⟩
                · exfalso; omega
                · intro v32 r_v32 e_v32
                  rw [thick_no (by omega)] at e_v32
                  refine ⟨fun c33 => ?_, fun c33 => ?_⟩
                  · exfalso; omega
                  · exact l_ra706 hd a ht hx hf hr hth rfl
  · intro v35 r_v35 e_v35
    rw [count_no (no_len (by omega))] at e_v35
    refine ⟨fun c36 => ?_, fun c36 => ?_⟩
    · exfalso; omega
    · intro v37 r_v37 e_v37
      rw [count_no (no_sl (by omega))] at e_v37
      refine ⟨fun c38 => ?_, fun c38 => ?_⟩
      · exfalso; omega
      · intro v39 r_v39 e_v39
        rw [count_no (no_neg (by omega))] at e_v39
        refine ⟨fun c40 => ?_, fun c40 => ?_⟩
        · exfalso; omega
        · refine ⟨fun c42 => ?_, fun c42 => ?_⟩
          · intro v43 r_v43 e_v43
            rw [walkT_no (by omega)] at e_v43
            refine ⟨fun c44 => ?_, fun c44 => ?_⟩
            · exfalso; omega
            · intro v46 r_v46 e_v46
              rw [roundsT_no (by omega)] at e_v46
              refine ⟨fun c47 => ?_, fun c47 => ?_⟩
              · exfalso; omega
              · intro v49 r_v49 e_v49
                rw [roundsT_no (by omega)] at e_v49
                refine ⟨fun c50 => ?_, fun c50 => ?_⟩
                · exfalso; omega
                · intro v52 r_v52 e_v52
                  rw [thick_no (by omega)] at e_v52
                  refine ⟨fun c53 => ?_, fun c53 => ?_⟩
                  · exfalso; omega
                  · exact l_ra706 hd a ht hx hf hr hth rfl
          · intro v55 r_v55 e_v55
            rw [walkT_no (by omega)] at e_v55
            refine ⟨fun c56 => ?_, fun c56 => ?_⟩
            · exfalso; omega
            · intro v58 r_v58 e_v58
              rw [roundsT_no (by omega)] at e_v58
              refine ⟨fun c59 => ?_, fun c59 => ?_⟩
              · exfalso; omega
              · intro v61 r_v61 e_v61
                rw [roundsT_no (by omega)] at e_v61
                refine ⟨fun c62 => ?_, fun c62 => ?_⟩
                · exfalso; omega
                · intro v64 r_v64 e_v64
                  rw [thick_no (by omega)] at e_v64
                  refine ⟨fun c65 => ?_, fun c65 => ?_⟩
                  · exfalso; omega
                  · exact l_ra706 hd a ht hx hf hr hth rfl
theorem l_ra328 {far rank there is : Int} (hd : 20 ≤ d) (a : IV T g.1) (ht : g.2.2.2 = []) (hx : 0 ≤ x ∧ x < 2147483648) (hf : far < 0 ∨ 255 < far) (hr : rank < 0 ∧ -2147483648 ≤ rank) (hth : TH g there) (his : is = 1) : LW m_L_refusesAny d none (P1 g) 328 [some (.inr (some 1)), some (.inl x), some (.inl far), some (.inl rank), some (.inl there), some (.inl is)] [] g (0, 0) := by
  have h20 := a.1.1
  refine lc_refusesAny_328 hd ?_
  refine ⟨by omega, ?_⟩
  refine ⟨fun c2 => ?_, fun c2 => ?_⟩
  · intro v3 g4 r_v3 e_v3 f_v3
    rw [rf_ask (no_len (by omega))] at e_v3 f_v3
    replace e_v3 : v3 = -2 := e_v3
    replace f_v3 : g4 = g := f_v3
    subst f_v3
    refine ⟨fun c5 => ?_, fun c5 => ?_⟩
    · exfalso; omega
    · intro v6 g7 r_v6 e_v6 f_v6
      rw [rf_ask (no_sl (by omega))] at e_v6 f_v6
      replace e_v6 : v6 = -2 := e_v6
      replace f_v6 : g7 = g4 := f_v6
      subst f_v6
      refine ⟨fun c8 => ?_, fun c8 => ?_⟩
      · exfalso; omega
      · intro v9 g10 r_v9 e_v9 f_v9
        rw [rf_ask (no_neg (by omega))] at e_v9 f_v9
        replace e_v9 : v9 = -2 := e_v9
        replace f_v9 : g10 = g7 := f_v9
        subst f_v9
        refine ⟨fun c11 => ?_, fun c11 => ?_⟩
        · exfalso; omega
        · intro v13 g14 r_v13 e_v13 f_v13
          rw [rf_frame (by omega)] at e_v13 f_v13
          replace e_v13 : v13 = -2 := e_v13
          replace f_v13 : g14 = g10 := f_v13
          subst f_v13
          refine ⟨fun c15 => ?_, fun c15 => ?_⟩
          · exfalso; omega
          · intro v17 g18 r_v17 e_v17 f_v17
            rw [rf_rounds (by omega)] at e_v17 f_v17
            replace e_v17 : v17 = -2 := e_v17
            replace f_v17 : g18 = g14 := f_v17
            subst f_v17
            refine ⟨fun c19 => ?_, fun c19 => ?_⟩
            · exfalso; omega
            · intro v20 r_v20 e_v20
              rw [card_neg (by omega)] at e_v20
              refine ⟨fun c21 => ?_, fun c21 => ?_⟩
              · exfalso; omega
              · intro v22 r_v22 e_v22
                replace e_v22 := e_v22.trans tot_0
                intro v23 r_v23 e_v23
                rw [card_len e_v22] at e_v23
                refine ⟨fun c24 => ?_, fun c24 => ?_⟩
                · exfalso; omega
                · intro v25 r_v25 e_v25
                  rw [of_far a.1 (by omega)] at e_v25
                  refine ⟨fun c26 => ?_, fun c26 => ?_⟩
                  · exfalso; omega
                  · refine ⟨fun c27 => ?_, fun c27 => ?_⟩
                    · intro v28 r_v28 e_v28
                      rw [told_neg (by omega)] at e_v28
                      refine ⟨fun c29 => ?_, fun c29 => ?_⟩
                      · exfalso; omega
                      · intro v30 r_v30 e_v30
                        replace e_v30 := e_v30.trans tot_3
                        intro v31 r_v31 e_v31
                        rw [told_len e_v30] at e_v31
                        refine ⟨fun c32 => ?_, fun c32 => ?_⟩
                        · exfalso; omega
                        · intro v34 r_v34 e_v34
                          rw [tot_oor (by omega)] at e_v34
                          refine ⟨fun c35 => ?_, fun c35 => ?_⟩
                          · exfalso; omega
                          · exact l_ra544 hd a ht hx hf hr hth rfl
                    · intro v38 r_v38 e_v38
                      rw [of_oor a hth (by omega) (by omega)] at e_v38
                      refine ⟨fun c39 => ?_, fun c39 => ?_⟩
                      · exfalso; omega
                      · intro v40 r_v40 e_v40
                        rw [told_neg (by omega)] at e_v40
                        refine ⟨fun c41 => ?_, fun c41 => ?_⟩
                        · exfalso; omega
                        · intro v42 r_v42 e_v42
                          replace e_v42 := e_v42.trans tot_3
                          intro v43 r_v43 e_v43
                          rw [told_len e_v42] at e_v43
                          refine ⟨fun c44 => ?_, fun c44 => ?_⟩
                          · exfalso; omega
                          · intro v46 r_v46 e_v46
                            rw [tot_oor (by omega)] at e_v46
                            refine ⟨fun c47 => ?_, fun c47 => ?_⟩
                            · exfalso; omega
                            · exact l_ra544 hd a ht hx hf hr hth rfl
  · intro v49 g50 r_v49 e_v49 f_v49
    rw [rf_ask (no_len (by omega))] at e_v49 f_v49
    replace e_v49 : v49 = -2 := e_v49
    replace f_v49 : g50 = g := f_v49
    subst f_v49
    refine ⟨fun c51 => ?_, fun c51 => ?_⟩
    · exfalso; omega
    · intro v52 g53 r_v52 e_v52 f_v52
      rw [rf_ask (no_sl (by omega))] at e_v52 f_v52
      replace e_v52 : v52 = -2 := e_v52
      replace f_v52 : g53 = g50 := f_v52
      subst f_v52
      refine ⟨fun c54 => ?_, fun c54 => ?_⟩
      · exfalso; omega
      · intro v55 g56 r_v55 e_v55 f_v55
        rw [rf_ask (no_neg (by omega))] at e_v55 f_v55
        replace e_v55 : v55 = -2 := e_v55
        replace f_v55 : g56 = g53 := f_v55
        subst f_v55
        refine ⟨fun c57 => ?_, fun c57 => ?_⟩
        · exfalso; omega
        · intro v59 g60 r_v59 e_v59 f_v59
          rw [rf_frame (by omega)] at e_v59 f_v59
          replace e_v59 : v59 = -2 := e_v59
          replace f_v59 : g60 = g56 := f_v59
          subst f_v59
          refine ⟨fun c61 => ?_, fun c61 => ?_⟩
          · exfalso; omega
          · intro v63 g64 r_v63 e_v63 f_v63
            rw [rf_rounds (by omega)] at e_v63 f_v63
            replace e_v63 : v63 = -2 := e_v63
            replace f_v63 : g64 = g60 := f_v63
            subst f_v63
            refine ⟨fun c65 => ?_, fun c65 => ?_⟩
            · exfalso; omega
            · intro v66 r_v66 e_v66
              rw [card_neg (by omega)] at e_v66
              refine ⟨fun c67 => ?_, fun c67 => ?_⟩
              · exfalso; omega
              · intro v68 r_v68 e_v68
                replace e_v68 := e_v68.trans tot_0
                intro v69 r_v69 e_v69
                rw [card_len e_v68] at e_v69
                refine ⟨fun c70 => ?_, fun c70 => ?_⟩
                · exfalso; omega
                · intro v71 r_v71 e_v71
                  rw [of_far a.1 (by omega)] at e_v71
                  refine ⟨fun c72 => ?_, fun c72 => ?_⟩
                  · exfalso; omega
                  · refine ⟨fun c73 => ?_, fun c73 => ?_⟩
                    · intro v74 r_v74 e_v74
                      rw [told_neg (by omega)] at e_v74
                      refine ⟨fun c75 => ?_, fun c75 => ?_⟩
                      · exfalso; omega
                      · intro v76 r_v76 e_v76
                        replace e_v76 := e_v76.trans tot_3
                        intro v77 r_v77 e_v77
                        rw [told_len e_v76] at e_v77
                        refine ⟨fun c78 => ?_, fun c78 => ?_⟩
                        · exfalso; omega
                        · intro v80 r_v80 e_v80
                          rw [tot_oor (by omega)] at e_v80
                          refine ⟨fun c81 => ?_, fun c81 => ?_⟩
                          · exfalso; omega
                          · exact l_ra544 hd a ht hx hf hr hth rfl
                    · intro v84 r_v84 e_v84
                      rw [of_oor a hth (by omega) (by omega)] at e_v84
                      refine ⟨fun c85 => ?_, fun c85 => ?_⟩
                      · exfalso; omega
                      · intro v86 r_v86 e_v86
                        rw [told_neg (by omega)] at e_v86
                        refine ⟨fun c87 => ?_, fun c87 => ?_⟩
                        · exfalso; omega
                        · intro v88 r_v88 e_v88
                          replace e_v88 := e_v88.trans tot_3
                          intro v89 r_v89 e_v89
                          rw [told_len e_v88] at e_v89
                          refine ⟨fun c90 => ?_, fun c90 => ?_⟩
                          · exfalso; omega
                          · intro v92 r_v92 e_v92
                            rw [tot_oor (by omega)] at e_v92
                            refine ⟨fun c93 => ?_, fun c93 => ?_⟩
                            · exfalso; omega
                            · exact l_ra544 hd a ht hx hf hr hth rfl
theorem l_ra131 {far rank there : Int} (hd : 20 ≤ d) (a : IV T g.1) (ht : g.2.2.2 = []) (hx : 0 ≤ x ∧ x < 2147483648) (hf : far < 0 ∨ 255 < far) (hr : rank < 0 ∧ -2147483648 ≤ rank) (hth : TH g there) : LW m_L_refusesAny d none (P1 g) 131 [some (.inr (some 1)), some (.inl x), some (.inl far), some (.inl rank), some (.inl there), none] [] g (0, 0) := by
  have h20 := a.1.1
  refine lc_refusesAny_131 hd ?_
  intro v1 g2 r_v1 e_v1 f_v1
  rw [rf_leave_far a (by omega)] at e_v1 f_v1
  replace e_v1 : v1 = -1 := e_v1
  replace f_v1 : g2 = g := f_v1
  subst f_v1
  refine ⟨fun c3 => ?_, fun c3 => ?_⟩
  · exfalso; omega
  · refine ⟨fun c4 => ?_, fun c4 => ?_⟩
    · refine ⟨by omega, ?_⟩
      refine ⟨fun c6 => ?_, fun c6 => ?_⟩
      · intro v7 g8 r_v7 e_v7 f_v7
        rw [rf_set_k (by omega)] at e_v7 f_v7
        replace e_v7 : v7 = -1 := e_v7
        replace f_v7 : g8 = g2 := f_v7
        subst f_v7
        refine ⟨fun c9 => ?_, fun c9 => ?_⟩
        · exfalso; omega
        · intro v11 g12 r_v11 e_v11 f_v11
          rw [rf_set_v (by omega) (by omega)] at e_v11 f_v11
          replace e_v11 : v11 = -2 := e_v11
          replace f_v11 : g12 = g8 := f_v11
          subst f_v11
          refine ⟨fun c13 => ?_, fun c13 => ?_⟩
          · exfalso; omega
          · intro v15 g16 r_v15 e_v15 f_v15
            rw [rf_set_v (by omega) (by omega)] at e_v15 f_v15
            replace e_v15 : v15 = -2 := e_v15
            replace f_v15 : g16 = g12 := f_v15
            subst f_v15
            refine ⟨fun c17 => ?_, fun c17 => ?_⟩
            · exfalso; omega
            · refine ⟨by unfold rg; omega, ?_⟩
              intro v19 r_v19 e_v19
              intro v20 g21 r_v20 e_v20 f_v20
              rw [rf_set_same a (by omega) e_v19] at e_v20 f_v20
              replace e_v20 : v20 = -5 := e_v20
              replace f_v20 : g21 = g16 := f_v20
              subst f_v20
              refine ⟨fun c22 => ?_, fun c22 => ?_⟩
              · exfalso; omega
              · refine ⟨by omega, ?_⟩
                intro v23 g24 r_v23 e_v23 f_v23
                rw [rf_shuf_neg (by omega)] at e_v23 f_v23
                replace e_v23 : v23 = -2 := e_v23
                replace f_v23 : g24 = g21 := f_v23
                subst f_v23
                refine ⟨fun c26 => ?_, fun c26 => ?_⟩
                · exfalso; omega
                · intro v27 r_v27 e_v27
                  replace e_v27 := e_v27.trans tot_13
                  refine ⟨by omega, ?_⟩
                  intro v28 g29 r_v28 e_v28 f_v28
                  rw [rf_shuf_same a e_v27] at e_v28 f_v28
                  replace e_v28 : v28 = -5 := e_v28
                  replace f_v28 : g29 = g24 := f_v28
                  subst f_v28
                  refine ⟨fun c31 => ?_, fun c31 => ?_⟩
                  · exfalso; omega
                  · intro v32 r_v32 e_v32
                    replace e_v32 := e_v32.trans tot_3
                    refine ⟨fun c33 => ?_, fun c33 => ?_⟩
                    · exact l_ra328 hd a ht hx hf hr hth rfl
                    · intro v35 g36 r_v35 e_v35 f_v35
                      rw [rf_forg (by omega)] at e_v35 f_v35
                      replace e_v35 : v35 = -5 := e_v35
                      replace f_v35 : g36 = g29 := f_v35
                      subst f_v35
                      refine ⟨fun c37 => ?_, fun c37 => ?_⟩
                      · exfalso; omega
                      · exact l_ra328 hd a ht hx hf hr hth rfl
      · intro v39 g40 r_v39 e_v39 f_v39
        rw [rf_set_k (by omega)] at e_v39 f_v39
        replace e_v39 : v39 = -1 := e_v39
        replace f_v39 : g40 = g2 := f_v39
        subst f_v39
        refine ⟨fun c41 => ?_, fun c41 => ?_⟩
        · exfalso; omega
        · intro v43 g44 r_v43 e_v43 f_v43
          rw [rf_set_v (by omega) (by omega)] at e_v43 f_v43
          replace e_v43 : v43 = -2 := e_v43
          replace f_v43 : g44 = g40 := f_v43
          subst f_v43
          refine ⟨fun c45 => ?_, fun c45 => ?_⟩
          · exfalso; omega
          · intro v47 g48 r_v47 e_v47 f_v47
            rw [rf_set_v (by omega) (by omega)] at e_v47 f_v47
            replace e_v47 : v47 = -2 := e_v47
            replace f_v47 : g48 = g44 := f_v47
            subst f_v47
            refine ⟨fun c49 => ?_, fun c49 => ?_⟩
            · exfalso; omega
            · refine ⟨by unfold rg; omega, ?_⟩
              intro v51 r_v51 e_v51
              intro v52 g53 r_v52 e_v52 f_v52
              rw [rf_set_same a (by omega) e_v51] at e_v52 f_v52
              replace e_v52 : v52 = -5 := e_v52
              replace f_v52 : g53 = g48 := f_v52
              subst f_v52
              refine ⟨fun c54 => ?_, fun c54 => ?_⟩
              · exfalso; omega
              · refine ⟨by omega, ?_⟩
                intro v55 g56 r_v55 e_v55 f_v55
                rw [rf_shuf_neg (by omega)] at e_v55 f_v55
                replace e_v55 : v55 = -2 := e_v55
                replace f_v55 : g56 = g53 := f_v55
                subst f_v55
                refine ⟨fun c58 => ?_, fun c58 => ?_⟩
                · exfalso; omega
                · intro v59 r_v59 e_v59
                  replace e_v59 := e_v59.trans tot_13
                  refine ⟨by omega, ?_⟩
                  intro v60 g61 r_v60 e_v60 f_v60
                  rw [rf_shuf_same a e_v59] at e_v60 f_v60
                  replace e_v60 : v60 = -5 := e_v60
                  replace f_v60 : g61 = g56 := f_v60
                  subst f_v60
                  refine ⟨fun c63 => ?_, fun c63 => ?_⟩
                  · exfalso; omega
                  · intro v64 r_v64 e_v64
                    replace e_v64 := e_v64.trans tot_3
                    refine ⟨fun c65 => ?_, fun c65 => ?_⟩
                    · exact l_ra328 hd a ht hx hf hr hth rfl
                    · intro v67 g68 r_v67 e_v67 f_v67
                      rw [rf_forg (by omega)] at e_v67 f_v67
                      replace e_v67 : v67 = -5 := e_v67
                      replace f_v67 : g68 = g61 := f_v67
                      subst f_v67
                      refine ⟨fun c69 => ?_, fun c69 => ?_⟩
                      · exfalso; omega
                      · exact l_ra328 hd a ht hx hf hr hth rfl
    · refine ⟨by omega, ?_⟩
      refine ⟨fun c72 => ?_, fun c72 => ?_⟩
      · intro v73 g74 r_v73 e_v73 f_v73
        rw [rf_leave_oor a hth (by omega) (by omega)] at e_v73 f_v73
        replace e_v73 : v73 = -2 := e_v73
        replace f_v73 : g74 = g2 := f_v73
        subst f_v73
        refine ⟨fun c75 => ?_, fun c75 => ?_⟩
        · exfalso; omega
        · intro v76 r_v76 e_v76
          intro v77 g78 r_v77 e_v77 f_v77
          rw [rf_leave_same a hth (by omega) e_v76] at e_v77 f_v77
          replace e_v77 : v77 = -5 := e_v77
          replace f_v77 : g78 = g74 := f_v77
          subst f_v77
          refine ⟨fun c79 => ?_, fun c79 => ?_⟩
          · exfalso; omega
          · intro v81 g82 r_v81 e_v81 f_v81
            rw [rf_set_k (by omega)] at e_v81 f_v81
            replace e_v81 : v81 = -1 := e_v81
            replace f_v81 : g82 = g78 := f_v81
            subst f_v81
            refine ⟨fun c83 => ?_, fun c83 => ?_⟩
            · exfalso; omega
            · intro v85 g86 r_v85 e_v85 f_v85
              rw [rf_set_v (by omega) (by omega)] at e_v85 f_v85
              replace e_v85 : v85 = -2 := e_v85
              replace f_v85 : g86 = g82 := f_v85
              subst f_v85
              refine ⟨fun c87 => ?_, fun c87 => ?_⟩
              · exfalso; omega
              · intro v89 g90 r_v89 e_v89 f_v89
                rw [rf_set_v (by omega) (by omega)] at e_v89 f_v89
                replace e_v89 : v89 = -2 := e_v89
                replace f_v89 : g90 = g86 := f_v89
                subst f_v89
                refine ⟨fun c91 => ?_, fun c91 => ?_⟩
                · exfalso; omega
                · refine ⟨by unfold rg; omega, ?_⟩
                  intro v93 r_v93 e_v93
                  intro v94 g95 r_v94 e_v94 f_v94
                  rw [rf_set_same a (by omega) e_v93] at e_v94 f_v94
                  replace e_v94 : v94 = -5 := e_v94
                  replace f_v94 : g95 = g90 := f_v94
                  subst f_v94
                  refine ⟨fun c96 => ?_, fun c96 => ?_⟩
                  · exfalso; omega
                  · refine ⟨by omega, ?_⟩
                    intro v97 g98 r_v97 e_v97 f_v97
                    rw [rf_shuf_neg (by omega)] at e_v97 f_v97
                    replace e_v97 : v97 = -2 := e_v97
                    replace f_v97 : g98 = g95 := f_v97
                    subst f_v97
                    refine ⟨fun c100 => ?_, fun c100 => ?_⟩
                    · exfalso; omega
                    · intro v101 r_v101 e_v101
                      replace e_v101 := e_v101.trans tot_13
                      refine ⟨by omega, ?_⟩
                      intro v102 g103 r_v102 e_v102 f_v102
                      rw [rf_shuf_same a e_v101] at e_v102 f_v102
                      replace e_v102 : v102 = -5 := e_v102
                      replace f_v102 : g103 = g98 := f_v102
                      subst f_v102
                      refine ⟨fun c105 => ?_, fun c105 => ?_⟩
                      · exfalso; omega
                      · intro v106 r_v106 e_v106
                        replace e_v106 := e_v106.trans tot_3
                        refine ⟨fun c107 => ?_, fun c107 => ?_⟩
                        · exact l_ra328 hd a ht hx hf hr hth rfl
                        · intro v109 g110 r_v109 e_v109 f_v109
                          rw [rf_forg (by omega)] at e_v109 f_v109
                          replace e_v109 : v109 = -5 := e_v109
                          replace f_v109 : g110 = g103 := f_v109
                          subst f_v109
                          refine ⟨fun c111 => ?_, fun c111 => ?_⟩
                          · exfalso; omega
                          · exact l_ra328 hd a ht hx hf hr hth rfl
      · intro v113 g114 r_v113 e_v113 f_v113
        rw [rf_leave_oor a hth (by omega) (by omega)] at e_v113 f_v113
        replace e_v113 : v113 = -2 := e_v113
        replace f_v113 : g114 = g2 := f_v113
        subst f_v113
        refine ⟨fun c115 => ?_, fun c115 => ?_⟩
        · exfalso; omega
        · intro v116 r_v116 e_v116
          intro v117 g118 r_v117 e_v117 f_v117
          rw [rf_leave_same a hth (by omega) e_v116] at e_v117 f_v117
          replace e_v117 : v117 = -5 := e_v117
          replace f_v117 : g118 = g114 := f_v117
          subst f_v117
          refine ⟨fun c119 => ?_, fun c119 => ?_⟩
          · exfalso; omega
          · intro v121 g122 r_v121 e_v121 f_v121
            rw [rf_set_k (by omega)] at e_v121 f_v121
            replace e_v121 : v121 = -1 := e_v121
            replace f_v121 : g122 = g118 := f_v121
            subst f_v121
            refine ⟨fun c123 => ?_, fun c123 => ?_⟩
            · exfalso; omega
            · intro v125 g126 r_v125 e_v125 f_v125
              rw [rf_set_v (by omega) (by omega)] at e_v125 f_v125
              replace e_v125 : v125 = -2 := e_v125
              replace f_v125 : g126 = g122 := f_v125
              subst f_v125
              refine ⟨fun c127 => ?_, fun c127 => ?_⟩
              · exfalso; omega
              · intro v129 g130 r_v129 e_v129 f_v129
                rw [rf_set_v (by omega) (by omega)] at e_v129 f_v129
                replace e_v129 : v129 = -2 := e_v129
                replace f_v129 : g130 = g126 := f_v129
                subst f_v129
                refine ⟨fun c131 => ?_, fun c131 => ?_⟩
                · exfalso; omega
                · refine ⟨by unfold rg; omega, ?_⟩
                  intro v133 r_v133 e_v133
                  intro v134 g135 r_v134 e_v134 f_v134
                  rw [rf_set_same a (by omega) e_v133] at e_v134 f_v134
                  replace e_v134 : v134 = -5 := e_v134
                  replace f_v134 : g135 = g130 := f_v134
                  subst f_v134
                  refine ⟨fun c136 => ?_, fun c136 => ?_⟩
                  · exfalso; omega
                  · refine ⟨by omega, ?_⟩
                    intro v137 g138 r_v137 e_v137 f_v137
                    rw [rf_shuf_neg (by omega)] at e_v137 f_v137
                    replace e_v137 : v137 = -2 := e_v137
                    replace f_v137 : g138 = g135 := f_v137
                    subst f_v137
                    refine ⟨fun c140 => ?_, fun c140 => ?_⟩
                    · exfalso; omega
                    · intro v141 r_v141 e_v141
                      replace e_v141 := e_v141.trans tot_13
                      refine ⟨by omega, ?_⟩
                      intro v142 g143 r_v142 e_v142 f_v142
                      rw [rf_shuf_same a e_v141] at e_v142 f_v142
                      replace e_v142 : v142 = -5 := e_v142
                      replace f_v142 : g143 = g138 := f_v142
                      subst f_v142
                      refine ⟨fun c145 => ?_, fun c145 => ?_⟩
                      · exfalso; omega
                      · intro v146 r_v146 e_v146
                        replace e_v146 := e_v146.trans tot_3
                        refine ⟨fun c147 => ?_, fun c147 => ?_⟩
                        · exact l_ra328 hd a ht hx hf hr hth rfl
                        · intro v149 g150 r_v149 e_v149 f_v149
                          rw [rf_forg (by omega)] at e_v149 f_v149
                          replace e_v149 : v149 = -5 := e_v149
                          replace f_v149 : g150 = g143 := f_v149
                          subst f_v149
                          refine ⟨fun c151 => ?_, fun c151 => ?_⟩
                          · exfalso; omega
                          · exact l_ra328 hd a ht hx hf hr hth rfl
theorem l_ra109 {far rank there : Int} (hd : 20 ≤ d) (a : IV T g.1) (ht : g.2.2.2 = []) (hx : 0 ≤ x ∧ x < 2147483648) (hf : far < 0 ∨ 255 < far) (hr : rank < 0 ∧ -2147483648 ≤ rank) (hth : TH g there) : LW m_L_refusesAny d none (P1 g) 109 [some (.inr (some 1)), some (.inl x), some (.inl far), some (.inl rank), some (.inl there), none] [] g (0, 0) := by
  have h20 := a.1.1
  refine lc_refusesAny_109 hd ?_
  intro v1 r_v1 e_v1
  replace e_v1 := e_v1.trans tot_1
  intro v2 r_v2 e_v2
  replace e_v2 := e_v2.trans tot_0
  refine ⟨fun c3 => ?_, fun c3 => ?_⟩
  · exact l_ra131 hd a ht hx hf hr hth
  · intro v4 g5 r_v4 e_v4 f_v4
    rw [rf_wake a (by omega)] at e_v4 f_v4
    replace e_v4 : v4 = -5 := e_v4
    replace f_v4 : g5 = g := f_v4
    subst f_v4
    refine ⟨fun c6 => ?_, fun c6 => ?_⟩
    · exfalso; omega
    · exact l_ra131 hd a ht hx hf hr hth
theorem l_refusesAny (hd : 20 ≤ d) (a : IV T g.1) (ht : g.2.2.2 = []) (hx : 0 ≤ x ∧ x < 2147483648) : LM d m_L_refusesAny [.inr (some 1), .inl x] g (P1 g) := by
  refine lm_body mo_L_refusesAny (Nat.le_of_ble_eq_true rfl) (by intro q; cases q) ?_
  show LW m_L_refusesAny d none _ 0 [some (.inr (some 1)), some (.inl x), none, none, none, none] [] g (0, 0)
  have h20 := a.1.1
  refine lc_refusesAny hd ?_
  refine ⟨by omega, ?_⟩
  refine ⟨fun c2 => ?_, fun c2 => ?_⟩
  · refine ⟨by unfold rg; omega, ?_⟩
    refine ⟨by unfold rg; omega, ?_⟩
    intro v5 r_v5 e_v5
    have hth : TH g v5 := by rw [e_v5]; exact there_f a
    intro v6 g7 r_v6 e_v6 f_v6
    rw [rf_put_far (by omega)] at e_v6 f_v6
    replace e_v6 : v6 = -2 := e_v6
    replace f_v6 : g7 = g := f_v6
    subst f_v6
    refine ⟨fun c8 => ?_, fun c8 => ?_⟩
    · exfalso; omega
    · refine ⟨fun c9 => ?_, fun c9 => ?_⟩
      · intro v10 g11 r_v10 e_v10 f_v10
        rw [rf_take_far a (by omega)] at e_v10 f_v10
        replace e_v10 : v10 = -1 := e_v10
        replace f_v10 : g11 = g7 := f_v10
        subst f_v10
        refine ⟨fun c12 => ?_, fun c12 => ?_⟩
        · exfalso; omega
        · intro v13 g14 r_v13 e_v13 f_v13
          rw [rf_sleep_far a (by omega)] at e_v13 f_v13
          replace e_v13 : v13 = -1 := e_v13
          replace f_v13 : g14 = g11 := f_v13
          subst f_v13
          refine ⟨fun c15 => ?_, fun c15 => ?_⟩
          · exfalso; omega
          · exact l_ra109 hd a ht hx (by omega) (by omega) hth
      · intro v17 g18 r_v17 e_v17 f_v17
        rw [rf_put_there a hth (by omega)] at e_v17 f_v17
        replace e_v17 : v17 = -4 := e_v17
        replace f_v17 : g18 = g7 := f_v17
        subst f_v17
        refine ⟨fun c19 => ?_, fun c19 => ?_⟩
        · exfalso; omega
        · intro v20 g21 r_v20 e_v20 f_v20
          rw [rf_take_far a (by omega)] at e_v20 f_v20
          replace e_v20 : v20 = -1 := e_v20
          replace f_v20 : g21 = g18 := f_v20
          subst f_v20
          refine ⟨fun c22 => ?_, fun c22 => ?_⟩
          · exfalso; omega
          · intro v23 g24 r_v23 e_v23 f_v23
            rw [rf_sleep_far a (by omega)] at e_v23 f_v23
            replace e_v23 : v23 = -1 := e_v23
            replace f_v23 : g24 = g21 := f_v23
            subst f_v23
            refine ⟨fun c25 => ?_, fun c25 => ?_⟩
            · exfalso; omega
            · intro v27 r_v27 e_v27
              refine ⟨fun c28 => ?_, fun c28 => ?_⟩
              · exact l_ra109 hd a ht hx (by omega) (by omega) hth
              · intro v29 g30 r_v29 e_v29 f_v29
                rw [rf_sleep_there a hth (by omega) (by omega)] at e_v29 f_v29
                replace e_v29 : v29 = -5 := e_v29
                replace f_v29 : g30 = g24 := f_v29
                subst f_v29
                refine ⟨fun c31 => ?_, fun c31 => ?_⟩
                · exfalso; omega
                · exact l_ra109 hd a ht hx (by omega) (by omega) hth
  · refine ⟨by unfold rg; omega, ?_⟩
    intro v33 r_v33 e_v33
    have hth : TH g v33 := by rw [e_v33]; exact there_f a
    intro v34 g35 r_v34 e_v34 f_v34
    rw [rf_put_far (by omega)] at e_v34 f_v34
    replace e_v34 : v34 = -2 := e_v34
    replace f_v34 : g35 = g := f_v34
    subst f_v34
    refine ⟨fun c36 => ?_, fun c36 => ?_⟩
    · exfalso; omega
    · refine ⟨fun c37 => ?_, fun c37 => ?_⟩
      · intro v38 g39 r_v38 e_v38 f_v38
        rw [rf_take_far a (by omega)] at e_v38 f_v38
        replace e_v38 : v38 = -1 := e_v38
        replace f_v38 : g39 = g35 := f_v38
        subst f_v38
        refine ⟨fun c40 => ?_, fun c40 => ?_⟩
        · exfalso; omega
        · intro v41 g42 r_v41 e_v41 f_v41
          rw [rf_sleep_far a (by omega)] at e_v41 f_v41
          replace e_v41 : v41 = -1 := e_v41
          replace f_v41 : g42 = g39 := f_v41
          subst f_v41
          refine ⟨fun c43 => ?_, fun c43 => ?_⟩
          · exfalso; omega
          · exact l_ra109 hd a ht hx (by omega) (by omega) hth
      · intro v45 g46 r_v45 e_v45 f_v45
        rw [rf_put_there a hth (by omega)] at e_v45 f_v45
        replace e_v45 : v45 = -4 := e_v45
        replace f_v45 : g46 = g35 := f_v45
        subst f_v45
        refine ⟨fun c47 => ?_, fun c47 => ?_⟩
        · exfalso; omega
        · intro v48 g49 r_v48 e_v48 f_v48
          rw [rf_take_far a (by omega)] at e_v48 f_v48
          replace e_v48 : v48 = -1 := e_v48
          replace f_v48 : g49 = g46 := f_v48
          subst f_v48
          refine ⟨fun c50 => ?_, fun c50 => ?_⟩
          · exfalso; omega
          · intro v51 g52 r_v51 e_v51 f_v51
            rw [rf_sleep_far a (by omega)] at e_v51 f_v51
            replace e_v51 : v51 = -1 := e_v51
            replace f_v51 : g52 = g49 := f_v51
            subst f_v51
            refine ⟨fun c53 => ?_, fun c53 => ?_⟩
            · exfalso; omega
            · intro v55 r_v55 e_v55
              refine ⟨fun c56 => ?_, fun c56 => ?_⟩
              · exact l_ra109 hd a ht hx (by omega) (by omega) hth
              · intro v57 g58 r_v57 e_v57 f_v57
                rw [rf_sleep_there a hth (by omega) (by omega)] at e_v57 f_v57
                replace e_v57 : v57 = -5 := e_v57
                replace f_v57 : g58 = g52 := f_v57
                subst f_v57
                refine ⟨fun c59 => ?_, fun c59 => ?_⟩
                · exfalso; omega
                · exact l_ra109 hd a ht hx (by omega) (by omega) hth
end RFS
