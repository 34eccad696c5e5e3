/-! the law's isWhole: sums, beginnings, shares -/
section ISW
variable {d : Nat} {g : Gs} {T : Int} {l : List Cd}
theorem len_add {p q r : Cd → Bool} : ∀ {l : List Cd}, (∀ c ∈ l, p c = (q c || r c) ∧ (q c && r c) = false) → (l.filter p).length = (l.filter q).length + (l.filter r).length
  | [], _ => rfl
  | c :: t, h => by
    have ih := len_add (fun e he => h e (List.mem_cons_of_mem _ he))
    obtain ⟨h1, h2⟩ := h c List.mem_cons_self
    rw [List.filter_cons, List.filter_cons, List.filter_cons, h1]
    cases hq : q c <;> cases hr : r c <;> simp_all <;> omega
theorem sr_8 {x : Int} (hx : 0 ≤ x ∧ x ≤ 255) : sr x (8 - 0) = 0 := by
  have h := sr_n hx (t := 0) (by omega)
  have e2 : (8 : Int) - ((0 : Nat) : Int) = 8 - 0 := rfl
  rw [e2] at h
  rw [h]
  have e : x.toNat / 2 ^ (8 - 0) = 0 := Nat.div_eq_of_lt (by show x.toNat < 256; omega)
  rw [e]
  rfl
theorem cnt_00 (hw : WL l) : countO 0 0 l = (nAw l : Int) := by
  have hB : isB 0 0 := ⟨by decide, by decide, by decide, by decide⟩
  rw [cnt_eq hB]
  unfold nAw
  congr 2
  refine List.filter_congr (fun c hc => ?_)
  have h := sr_8 (nm_of hw hc)
  unfold pa
  rw [h]
  simp
theorem cnt_88 (hw : WL l) {c : Cd} (hc : c ∈ l) : countO 8 c.1 l = c.2.1 := by
  have hn := nm_of hw hc
  have hB : isB 8 c.1 := ⟨by decide, by decide, hn.1, by show c.1 < 256; omega⟩
  rw [cnt_eq hB]
  have hle := all8 (b := c.1) hw
  have ha := (hw.2.1 c hc).2.1
  by_cases q : c.2.1 = 1
  · have hm : c ∈ l.filter (pa 8 c.1) := List.mem_filter.mpr ⟨hc, pa_iff.mpr ⟨q, sr_0 hn⟩⟩
    have := List.length_pos_of_mem hm
    omega
  · have e : l.filter (pa 8 c.1) = [] := by
      rw [List.filter_eq_nil_iff]
      intro e he q2
      have h2 := pa_iff.mp q2
      rw [sr_0 (nm_of hw he)] at h2
      obtain ⟨i, hi⟩ := List.getElem?_of_mem hc
      obtain ⟨j, hj⟩ := List.getElem?_of_mem he
      have := hw.inj hi hj h2.2.symm
      subst this
      rw [hi] at hj
      cases hj
      exact q h2.1
    rw [e]
    show (0 : Int) = c.2.1
    omega
theorem isB_4 {k : Int} (h : 0 ≤ k ∧ k < 16) : isB 4 k := ⟨by decide, by decide, h.1, by show k < 16; exact h.2⟩
theorem cnt_45 (hw : WL l) {k : Int} (h : 0 ≤ k ∧ k < 16) : countO 4 k l = countO 5 (2 * k) l + countO 5 (2 * k + 1) l := by
  have h2 := isB_2 (t := 4) (low := k) (by omega) ⟨h.1, by show k < 16; exact h.2⟩
  have e5 : ((4 : Nat) : Int) + 1 = 5 := rfl
  rw [e5] at h2
  rw [cnt_eq (isB_4 h), cnt_eq h2.1, cnt_eq h2.2]
  have := len_add (l := l) (p := pa 4 k) (q := pa 5 (2 * k)) (r := pa 5 (2 * k + 1)) (fun c hc => by
    have ht := pa_two (t := 4) (by omega) (low := k) (nm_of hw hc)
    rw [e5, show ((4 : Nat) : Int) = 4 from rfl] at ht
    refine ⟨?_, ?_⟩
    · cases h1 : pa 4 k c <;> cases h3 : pa 5 (2 * k) c <;> cases h4 : pa 5 (2 * k + 1) c <;> simp_all
    · cases h3 : pa 5 (2 * k) c <;> cases h4 : pa 5 (2 * k + 1) c <;> simp
      have g3 := (pa_iff.mp h3).2
      have g4 := (pa_iff.mp h4).2
      omega)
  omega
noncomputable def cLt (l : List Cd) (k : Int) : Int := ((l.filter (fun c => decide (c.2.1 = 1) && decide (sr c.1 (8 - 4) < k))).length : Int)
theorem sr_4 {x : Int} (hx : 0 ≤ x ∧ x ≤ 255) : 0 ≤ sr x (8 - 4) ∧ sr x (8 - 4) < 16 := by
  have h := stem_in (x := x) (t := 4) hx (by omega)
  exact h
theorem cLt_0 (hw : WL l) : cLt l 0 = 0 := by
  unfold cLt
  have e : l.filter (fun c => decide (c.2.1 = 1) && decide (sr c.1 (8 - 4) < 0)) = [] := by
    rw [List.filter_eq_nil_iff]
    intro c hc q
    have h := sr_4 (nm_of hw hc)
    simp only [Bool.and_eq_true, decide_eq_true_eq] at q
    have q2 := q.2
    omega
  rw [e]
  rfl
theorem cLt_16 (hw : WL l) : cLt l 16 = (nAw l : Int) := by
  unfold cLt nAw
  congr 2
  refine List.filter_congr (fun c hc => ?_)
  have h := sr_4 (nm_of hw hc)
  rw [decide_eq_true h.2, Bool.and_true]
theorem cLt_s (hw : WL l) {k : Int} (h : 0 ≤ k ∧ k < 16) : cLt l (k + 1) = cLt l k + countO 4 k l := by
  rw [cnt_eq (isB_4 h)]
  unfold cLt
  have := len_add (l := l) (p := fun c => decide (c.2.1 = 1) && decide (sr c.1 (8 - 4) < k + 1)) (q := fun c => decide (c.2.1 = 1) && decide (sr c.1 (8 - 4) < k)) (r := pa 4 k) (fun c hc => by
    unfold pa
    by_cases q0 : c.2.1 = 1
    · rcases Int.lt_trichotomy (sr c.1 (8 - 4)) k with q | q | q
      · have h1 : sr c.1 (8 - 4) < k + 1 := by omega
        have h2 : ¬ sr c.1 (8 - 4) = k := by omega
        rw [decide_eq_true h1, decide_eq_true q, decide_eq_false h2, decide_eq_true q0]
        exact ⟨rfl, rfl⟩
      · have h1 : sr c.1 (8 - 4) < k + 1 := by omega
        have h2 : ¬ sr c.1 (8 - 4) < k := by omega
        rw [decide_eq_true h1, decide_eq_false h2, decide_eq_true q, decide_eq_true q0]
        exact ⟨rfl, rfl⟩
      · have h1 : ¬ sr c.1 (8 - 4) < k + 1 := by omega
        have h2 : ¬ sr c.1 (8 - 4) < k := by omega
        have h3 : ¬ sr c.1 (8 - 4) = k := by omega
        rw [decide_eq_false h1, decide_eq_false h2, decide_eq_false h3]
        simp
    · rw [decide_eq_false q0]
      simp)
  omega
theorem cnt_in {m b : Int} (h : isB m b) : 0 ≤ countO m b l ∧ countO m b l ≤ l.length := by
  rw [cnt_eq h]
  have := List.length_filter_le (pa m b) l
  omega
theorem cLt_in {k : Int} : 0 ≤ cLt l k ∧ cLt l k ≤ l.length := by
  unfold cLt
  have := List.length_filter_le (fun c : Cd => decide (c.2.1 = 1) && decide (sr c.1 (8 - 4) < k)) l
  omega
/-- the thickest so far -/
def JJ (l : List Cd) (n : Nat) (k t s : Int) : Prop := k + (n : Int) = 16 ∧ 0 ≤ k ∧ (0 ≤ t ∧ t < 16) ∧ ∃ b c, thickO 4 l = thL l 4 n b c k ∧ (k = 0 ∧ c = 0 ∧ b = -5 ∧ t = 0 ∧ s = 0 ∨ c = countO 4 t l ∧ (c = 0 ∧ b = -5 ∧ s = 0 ∨ 0 < c ∧ b = t ∧ 0 < s))
theorem JJ.start : JJ l 16 0 0 0 := by
  refine ⟨by decide, by decide, ⟨by decide, by decide⟩, -5, 0, ?_, Or.inl ⟨rfl, rfl, rfl, rfl, rfl⟩⟩
  unfold thickO
  rw [if_pos ⟨by decide, by decide, by decide, by decide⟩]
  rfl
theorem thL_s {len : Int} {n : Nat} {b c x : Int} (h : isB len x) : thL l len (n + 1) b c x = if countO len x l ≤ c then thL l len n b c (x + 1) else thL l len n x (countO len x l) (x + 1) := by
  rw [cnt_eq h]
  rfl
theorem JJ.stay {n : Nat} {k t s : Int} (h : JJ l (n + 1) k t s) (hc : countO 4 k l ≤ countO 4 t l) : JJ l n (k + 1) t (s + countO 4 k l) := by
  obtain ⟨h1, h2, h3, b, c, h4, h5⟩ := h
  have hk : 0 ≤ k ∧ k < 16 := by omega
  have hn := cnt_in (l := l) (isB_4 hk)
  rw [thL_s (isB_4 hk)] at h4
  by_cases q : countO 4 k l ≤ c
  · rw [if_pos q] at h4
    refine ⟨by omega, by omega, h3, b, c, h4, Or.inr ?_⟩
    rcases h5 with ⟨rfl, rfl, rfl, rfl, rfl⟩ | ⟨rfl, h5⟩
    · exact ⟨by omega, Or.inl ⟨rfl, rfl, by omega⟩⟩
    · exact ⟨rfl, by omega⟩
  · rw [if_neg q] at h4
    rcases h5 with ⟨rfl, rfl, rfl, rfl, rfl⟩ | ⟨rfl, h5⟩
    · exact ⟨by omega, by omega, h3, 0, countO 4 0 l, h4, Or.inr ⟨rfl, by omega⟩⟩
    · exact absurd hc q
theorem JJ.go {n : Nat} {k t s : Int} (h : JJ l (n + 1) k t s) (hc : countO 4 t l < countO 4 k l) : JJ l n (k + 1) k (s + countO 4 k l) := by
  obtain ⟨h1, h2, h3, b, c, h4, h5⟩ := h
  have hk : 0 ≤ k ∧ k < 16 := by omega
  have hn := cnt_in (l := l) (isB_4 hk)
  rw [thL_s (isB_4 hk)] at h4
  rcases h5 with ⟨rfl, rfl, rfl, rfl, rfl⟩ | ⟨rfl, h5⟩
  · omega
  · rw [if_neg (by omega)] at h4
    exact ⟨by omega, by omega, hk, k, countO 4 k l, h4, Or.inr ⟨rfl, by omega⟩⟩
theorem JJ.fin {k t s : Int} (h : JJ l 0 k t s) : (s = 0 ∧ thickO 4 l = -5) ∨ (0 < s ∧ thickO 4 l = t) := by
  obtain ⟨h1, h2, h3, b, c, h4, h5⟩ := h
  have h4' : thickO 4 l = b := h4
  rw [h4']
  omega
/-- what a card shares with the others -/
theorem shb_f {x : Int} (hx : 0 ≤ x ∧ x ≤ 255) : ∀ (A : List Cd) (m : Int), (∀ e ∈ A, 0 ≤ e.1 ∧ e.1 ≤ 255) → (m = -5 ∨ 0 ≤ m ∧ m ≤ 7) →
    (m = -5 ∧ A.foldl (fun m c => if c.1 = x then m else if m < fo (xr c.1 x) then fo (xr c.1 x) else m) m = -5 ∧ ∀ e ∈ A, e.1 = x) ∨ (0 ≤ A.foldl (fun m c => if c.1 = x then m else if m < fo (xr c.1 x) then fo (xr c.1 x) else m) m ∧ A.foldl (fun m c => if c.1 = x then m else if m < fo (xr c.1 x) then fo (xr c.1 x) else m) m ≤ 7 ∧ (m = -5 → ∃ e ∈ A, e.1 ≠ x))
  | [], m, _, hm => by
    rcases hm with rfl | hm
    · exact Or.inl ⟨rfl, rfl, fun e he => by cases he⟩
    · exact Or.inr ⟨hm.1, hm.2, fun q => by omega⟩
  | c :: t, m, hA, hm => by
    have hc := hA c List.mem_cons_self
    have ht : ∀ e ∈ t, 0 ≤ e.1 ∧ e.1 ≤ 255 := fun e he => hA e (List.mem_cons_of_mem _ he)
    rw [List.foldl_cons]
    by_cases q : c.1 = x
    · rw [if_pos q]
      rcases shb_f hx t m ht hm with ⟨h1, h2, h3⟩ | ⟨h1, h2, h3⟩
      · exact Or.inl ⟨h1, h2, fun e he => (List.mem_cons.mp he).elim (fun z => by rw [z]; exact q) (h3 e)⟩
      · exact Or.inr ⟨h1, h2, fun z => by
          obtain ⟨e, he, hne⟩ := h3 z
          exact ⟨e, List.mem_cons_of_mem _ he, hne⟩⟩
    · rw [if_neg q]
      have hx0 := xr_in hc hx
      have hne : xr c.1 x ≠ 0 := fun z => q ((xr_0 hc hx).mp z)
      have h7 := fo_7 (x := xr c.1 x) (by omega)
      have h0 := (fo_in (xr c.1 x)).1
      have hm2 : 0 ≤ (if m < fo (xr c.1 x) then fo (xr c.1 x) else m) ∧ (if m < fo (xr c.1 x) then fo (xr c.1 x) else m) ≤ 7 := by
        split <;> omega
      rcases shb_f hx t _ ht (Or.inr hm2) with ⟨h1, -, -⟩ | ⟨h1, h2, -⟩
      · omega
      · exact Or.inr ⟨h1, h2, fun _ => ⟨c, List.mem_cons_self, q⟩⟩
theorem shb_in (hw : WL l) {c : Cd} (hc : c ∈ l) : (shb c.1 l = -5 ∧ (l.length : Int) = 1) ∨ (0 ≤ shb c.1 l ∧ shb c.1 l < 8 ∧ (l.length : Int) ≠ 1) := by
  have hx := nm_of hw hc
  rcases shb_f hx l (-5) (fun e he => nm_of hw he) (Or.inl rfl) with ⟨-, h2, h3⟩ | ⟨h1, h2, h3⟩
  · refine Or.inl ⟨h2, ?_⟩
    have hp := hw.2.2
    match l, hc, hp, h3 with
    | [a], _, _, _ => rfl
    | a :: b :: t, _, hp, h3 =>
      have q := (List.pairwise_cons.mp hp).1 b List.mem_cons_self
      have q1 := h3 a List.mem_cons_self
      have q2 := h3 b (List.mem_cons_of_mem _ List.mem_cons_self)
      omega
  · refine Or.inr ⟨h1, by show shb c.1 l < 8; exact Int.lt_of_le_of_lt h2 (by decide), fun q => ?_⟩
    obtain ⟨e, he, hne⟩ := h3 rfl
    match l, hc, he, q with
    | [a], hc, he, _ =>
      have q1 := List.mem_singleton.mp hc
      have q2 := List.mem_singleton.mp he
      rw [q1, q2] at hne
      exact hne rfl
    | a :: b :: t, _, _, q => simp at q; omega
theorem nAw_tk {i : Nat} {c : Cd} (hw : WL l) (hc : l[i]? = some c) : (nAw (l.take (i + 1)) : Int) = (nAw (l.take i) : Int) + c.2.1 := by
  have ha := (hw.w1 hc).2.1
  unfold nAw
  rw [filter_tk hc, List.length_append]
  rcases ha with q | q
  · rw [if_neg (by simp [q]), q]; simp
  · rw [if_pos (by simp [q]), q]; simp
theorem nLv_tk {i : Nat} {c : Cd} (hc : l[i]? = some c) : (nLv (l.take (i + 1)) : Int) = (nLv (l.take i) : Int) + (if 0 < c.2.2.1 then 1 else 0) := by
  unfold nLv
  rw [filter_tk hc, List.length_append]
  by_cases q : 0 < c.2.2.1
  · simp [q]
  · simp [q]
abbrev P1 (g : Gs) : Int → Gs → Prop := fun v g' => v = 1 ∧ g' = g
theorem l_iw285 {s t is k : Int} (hd : 20 ≤ d) (a : IV T g.1) (hT : T ≤ 300000000) (his : is = 1) (hs : s = (nAw g.1.1 : Int)) (ht : (s = 0 ∧ thickO 4 g.1.1 = -5) ∨ (0 < s ∧ thickO 4 g.1.1 = t)) : LW m_L_isWhole d none (P1 g) 285 [some (.inr (some 1)), some (.inl (nAw g.1.1 : Int)), some (.inl (nLv g.1.1 : Int)), some (.inl s), some (.inl t), some (.inl is), some (.inl k), none, none] [] g (0, 0) := by
  have h20 := a.1.1
  have h200 := a.2.2.1
  obtain ⟨p5, p6, p7, p8, p9, p11⟩ := a.2.2.2.1
  have qe := a.2.2.2.2.1
  have q8 := a.2.2.2.2.2.1
  have q10 := a.2.2.2.2.2.2.1
  have qT := a.2.2.2.2.2.2.2.1
  have hnA := nAw_le g.1.1
  have h00 := cnt_00 a.1
  refine lc_isWhole_285 hd ?_
  refine ⟨fun c1 => ?_, fun c1 => ?_⟩
  · exfalso; omega
  · intro v2 r_v2 e_v2
    replace e_v2 := e_v2.trans tot_1
    refine ⟨fun c3 => ?_, fun c3 => ?_⟩
    · exfalso; omega
    · intro v4 r_v4 e_v4
      replace e_v4 := e_v4.trans tot_2
      refine ⟨fun c5 => ?_, fun c5 => ?_⟩
      · exfalso; omega
      · refine ⟨fun c6 => ?_, fun c6 => ?_⟩
        · exfalso; omega
        · intro v7 r_v7 e_v7
          refine ⟨fun c8 => ?_, fun c8 => ?_⟩
          · exfalso; omega
          · intro v9 r_v9 e_v9
            refine ⟨fun c10 => ?_, fun c10 => ?_⟩
            · refine ⟨fun c11 => ?_, fun c11 => ?_⟩
              · exfalso; omega
              · intro v12 r_v12 e_v12
                replace e_v12 := e_v12.trans tot_0
                refine ⟨fun c13 => ?_, fun c13 => ?_⟩
                · exfalso; omega
                · intro v14 r_v14 e_v14
                  replace e_v14 := e_v14.trans tot_3
                  refine ⟨fun c15 => ?_, fun c15 => ?_⟩
                  · exfalso; omega
                  · intro v16 r_v16 e_v16
                    replace e_v16 := e_v16.trans tot_4
                    intro v17 r_v17 e_v17
                    replace e_v17 := e_v17.trans tot_5
                    refine ⟨by unfold rg; omega, ?_⟩
                    intro v19 r_v19 e_v19
                    replace e_v19 := e_v19.trans tot_6
                    intro v20 r_v20 e_v20
                    replace e_v20 := e_v20.trans tot_7
                    refine ⟨by unfold rg; omega, ?_⟩
                    intro v22 r_v22 e_v22
                    replace e_v22 := e_v22.trans tot_8
                    refine ⟨by unfold rg; omega, ?_⟩
                    refine ⟨fun c24 => ?_, fun c24 => ?_⟩
                    · exfalso; omega
                    · intro v25 r_v25 e_v25
                      replace e_v25 := e_v25.trans tot_3
                      intro v26 r_v26 e_v26
                      replace e_v26 := e_v26.trans tot_7
                      refine ⟨fun c27 => ?_, fun c27 => ?_⟩
                      · exfalso; omega
                      · intro v28 r_v28 e_v28
                        replace e_v28 := e_v28.trans tot_9
                        intro v29 r_v29 e_v29
                        replace e_v29 := e_v29.trans tot_4
                        refine ⟨by unfold rg; omega, ?_⟩
                        intro v31 r_v31 e_v31
                        replace e_v31 := e_v31.trans tot_5
                        refine ⟨by unfold rg; omega, ?_⟩
                        intro v33 r_v33 e_v33
                        replace e_v33 := e_v33.trans tot_10
                        refine ⟨by unfold rg; omega, ?_⟩
                        refine ⟨by unfold rg; omega, ?_⟩
                        refine ⟨fun c36 => ?_, fun c36 => ?_⟩
                        · exfalso; omega
                        · exact ⟨rfl, rfl⟩
            · refine ⟨fun c37 => ?_, fun c37 => ?_⟩
              · exfalso; omega
              · intro v38 r_v38 e_v38
                replace e_v38 := e_v38.trans tot_0
                refine ⟨fun c39 => ?_, fun c39 => ?_⟩
                · exfalso; omega
                · intro v40 r_v40 e_v40
                  replace e_v40 := e_v40.trans tot_3
                  refine ⟨fun c41 => ?_, fun c41 => ?_⟩
                  · exfalso; omega
                  · intro v42 r_v42 e_v42
                    replace e_v42 := e_v42.trans tot_4
                    intro v43 r_v43 e_v43
                    replace e_v43 := e_v43.trans tot_5
                    refine ⟨by unfold rg; omega, ?_⟩
                    intro v45 r_v45 e_v45
                    replace e_v45 := e_v45.trans tot_6
                    intro v46 r_v46 e_v46
                    replace e_v46 := e_v46.trans tot_7
                    refine ⟨by unfold rg; omega, ?_⟩
                    intro v48 r_v48 e_v48
                    replace e_v48 := e_v48.trans tot_8
                    refine ⟨by unfold rg; omega, ?_⟩
                    refine ⟨fun c50 => ?_, fun c50 => ?_⟩
                    · exfalso; omega
                    · intro v51 r_v51 e_v51
                      replace e_v51 := e_v51.trans tot_3
                      intro v52 r_v52 e_v52
                      replace e_v52 := e_v52.trans tot_7
                      refine ⟨fun c53 => ?_, fun c53 => ?_⟩
                      · exfalso; omega
                      · intro v54 r_v54 e_v54
                        replace e_v54 := e_v54.trans tot_9
                        intro v55 r_v55 e_v55
                        replace e_v55 := e_v55.trans tot_4
                        refine ⟨by unfold rg; omega, ?_⟩
                        intro v57 r_v57 e_v57
                        replace e_v57 := e_v57.trans tot_5
                        refine ⟨by unfold rg; omega, ?_⟩
                        intro v59 r_v59 e_v59
                        replace e_v59 := e_v59.trans tot_10
                        refine ⟨by unfold rg; omega, ?_⟩
                        refine ⟨by unfold rg; omega, ?_⟩
                        refine ⟨fun c62 => ?_, fun c62 => ?_⟩
                        · exfalso; omega
                        · exact ⟨rfl, rfl⟩
theorem l_iw199 (hd : 20 ≤ d) (a : IV T g.1) (hT : T ≤ 300000000) : ∀ (n : Nat) (k t s is : Int), is = 1 → JJ g.1.1 n k t s → s = cLt g.1.1 k → LW m_L_isWhole d none (P1 g) 199 [some (.inr (some 1)), some (.inl (nAw g.1.1 : Int)), some (.inl (nLv g.1.1 : Int)), some (.inl s), some (.inl t), some (.inl is), some (.inl k), none, none] [] g (0, 0) := by
  have h20 := a.1.1
  have h200 := a.2.2.1
  obtain ⟨p5, p6, p7, p8, p9, p11⟩ := a.2.2.2.1
  have qe := a.2.2.2.2.1
  have q8 := a.2.2.2.2.2.1
  have q10 := a.2.2.2.2.2.2.1
  have qT := a.2.2.2.2.2.2.2.1
  have hnA := nAw_le g.1.1
  intro n
  induction n with
  | zero =>
    intro k t s is his hj hs
    have hk : k = 16 := by have := hj.1; omega
    have hs2 : s = (nAw g.1.1 : Int) := by rw [hs, hk, cLt_16 a.1]
    refine lc_isWhole_199 hd ?_
    refine ⟨fun c1 => ?_, fun c1 => ?_⟩
    · exact l_iw285 hd a hT his hs2 hj.fin
    · refine ⟨fun c2 => ?_, fun c2 => ?_⟩
      · exact l_iw285 hd a hT his hs2 hj.fin
      · intro v3 r_v3 e_v3
        refine ⟨by unfold rg; omega, ?_⟩
        intro v5 r_v5 e_v5
        refine ⟨fun c6 => ?_, fun c6 => ?_⟩
        · refine ⟨by unfold rg; omega, ?_⟩
          intro v8 r_v8 e_v8
          refine ⟨by unfold rg; omega, ?_⟩
          intro v10 r_v10 e_v10
          refine ⟨by unfold rg; omega, ?_⟩
          refine ⟨fun c12 => ?_, fun c12 => ?_⟩
          · exfalso; omega
          · refine ⟨by unfold rg; omega, ?_⟩
            exfalso; omega
        · refine ⟨by unfold rg; omega, ?_⟩
          intro v15 r_v15 e_v15
          refine ⟨by unfold rg; omega, ?_⟩
          intro v17 r_v17 e_v17
          refine ⟨by unfold rg; omega, ?_⟩
          refine ⟨fun c19 => ?_, fun c19 => ?_⟩
          · exfalso; omega
          · refine ⟨by unfold rg; omega, ?_⟩
            exfalso; omega
  | succ n ih =>
    intro k t s is his hj hs
    have hk : 0 ≤ k ∧ k < 16 := by have h1 := hj.1; have h2 := hj.2.1; omega
    have hk4 := cnt_in (l := g.1.1) (isB_4 hk)
    have ht4 := cnt_in (l := g.1.1) (isB_4 hj.2.2.1)
    have h45 := cnt_45 a.1 hk
    have hst := cLt_s a.1 hk
    have hci := cLt_in (l := g.1.1) (k := k)
    refine lc_isWhole_199 hd ?_
    refine ⟨fun c1 => ?_, fun c1 => ?_⟩
    · exfalso; omega
    · refine ⟨fun c2 => ?_, fun c2 => ?_⟩
      · exfalso; omega
      · intro v3 r_v3 e_v3
        subst e_v3
        refine ⟨by unfold rg; omega, ?_⟩
        intro v5 r_v5 e_v5
        subst e_v5
        refine ⟨fun c6 => ?_, fun c6 => ?_⟩
        · refine ⟨by unfold rg; omega, ?_⟩
          intro v8 r_v8 e_v8
          refine ⟨by unfold rg; omega, ?_⟩
          intro v10 r_v10 e_v10
          refine ⟨by unfold rg; omega, ?_⟩
          refine ⟨fun c12 => ?_, fun c12 => ?_⟩
          · exfalso; omega
          · refine ⟨by unfold rg; omega, ?_⟩
            exact ih (k + 1) _ _ _ rfl (hj.stay (by omega)) (by rw [hst, hs])
        · refine ⟨by unfold rg; omega, ?_⟩
          intro v15 r_v15 e_v15
          refine ⟨by unfold rg; omega, ?_⟩
          intro v17 r_v17 e_v17
          refine ⟨by unfold rg; omega, ?_⟩
          refine ⟨fun c19 => ?_, fun c19 => ?_⟩
          · exfalso; omega
          · refine ⟨by unfold rg; omega, ?_⟩
            exact ih (k + 1) _ _ _ rfl (hj.go (by omega)) (by rw [hst, hs])
theorem l_iw15 (hd : 20 ≤ d) (a : IV T g.1) (hT : T ≤ 300000000) : ∀ (n k : Nat) (is : Int), is = 1 → k + n = g.1.1.length → LW m_L_isWhole d none (P1 g) 15 [some (.inr (some 1)), some (.inl (nAw (g.1.1.take k) : Int)), some (.inl (nLv (g.1.1.take k) : Int)), some (.inl 0), some (.inl 0), some (.inl is), some (.inl (k : Int)), none, none] [] g (0, 0) := by
  have h20 := a.1.1
  have h200 := a.2.2.1
  obtain ⟨p5, p6, p7, p8, p9, p11⟩ := a.2.2.2.1
  have qe := a.2.2.2.2.1
  have q8 := a.2.2.2.2.2.1
  have q10 := a.2.2.2.2.2.2.1
  have qT := a.2.2.2.2.2.2.2.1
  have hnA := nAw_le g.1.1
  intro n
  induction n with
  | zero =>
    intro k is his hk
    have hk2 : k = g.1.1.length := by omega
    rw [hk2, List.take_of_length_le (Nat.le_refl _)]
    refine lc_isWhole_15 hd ?_
    intro v1 r_v1 e_v1
    replace e_v1 := e_v1.trans tot_0
    refine ⟨fun c2 => ?_, fun c2 => ?_⟩
    · exact l_iw199 hd a hT 16 0 0 0 is his JJ.start (cLt_0 a.1).symm
    · refine ⟨fun c3 => ?_, fun c3 => ?_⟩
      · exact l_iw199 hd a hT 16 0 0 0 is his JJ.start (cLt_0 a.1).symm
      · intro v4 r_v4 e_v4
        intro v5 r_v5 e_v5
        intro v6 r_v6 e_v6
        refine ⟨by unfold rg; omega, ?_⟩
        intro v8 r_v8 e_v8
        refine ⟨fun c9 => ?_, fun c9 => ?_⟩
        · refine ⟨by unfold rg; omega, ?_⟩
          refine ⟨fun c11 => ?_, fun c11 => ?_⟩
          · exfalso; omega
          · refine ⟨fun c12 => ?_, fun c12 => ?_⟩
            · exfalso; omega
            · refine ⟨fun c13 => ?_, fun c13 => ?_⟩
              · intro v14 r_v14 e_v14
                intro v15 r_v15 e_v15
                refine ⟨fun c16 => ?_, fun c16 => ?_⟩
                · exfalso; omega
                · intro v17 r_v17 e_v17
                  refine ⟨fun c18 => ?_, fun c18 => ?_⟩
                  · exfalso; omega
                  · intro v19 r_v19 e_v19
                    refine ⟨fun c20 => ?_, fun c20 => ?_⟩
                    · exfalso; omega
                    · refine ⟨fun c21 => ?_, fun c21 => ?_⟩
                      · intro v22 r_v22 e_v22
                        replace e_v22 := e_v22.trans tot_0
                        refine ⟨fun c23 => ?_, fun c23 => ?_⟩
                        · refine ⟨fun c25 => ?_, fun c25 => ?_⟩
                          · exfalso; omega
                          · refine ⟨by unfold rg; omega, ?_⟩
                            exfalso; omega
                        · exfalso; omega
                      · intro v28 r_v28 e_v28
                        replace e_v28 := e_v28.trans tot_0
                        refine ⟨fun c29 => ?_, fun c29 => ?_⟩
                        · exfalso; omega
                        · refine ⟨by unfold rg; omega, ?_⟩
                          exfalso; omega
              · refine ⟨by unfold rg; omega, ?_⟩
                intro v35 r_v35 e_v35
                refine ⟨fun c36 => ?_, fun c36 => ?_⟩
                · exfalso; omega
                · intro v37 r_v37 e_v37
                  intro v38 r_v38 e_v38
                  refine ⟨fun c39 => ?_, fun c39 => ?_⟩
                  · exfalso; omega
                  · intro v40 r_v40 e_v40
                    refine ⟨fun c41 => ?_, fun c41 => ?_⟩
                    · exfalso; omega
                    · intro v42 r_v42 e_v42
                      refine ⟨fun c43 => ?_, fun c43 => ?_⟩
                      · exfalso; omega
                      · refine ⟨fun c44 => ?_, fun c44 => ?_⟩
                        · intro v45 r_v45 e_v45
                          replace e_v45 := e_v45.trans tot_0
                          refine ⟨fun c46 => ?_, fun c46 => ?_⟩
                          · refine ⟨fun c48 => ?_, fun c48 => ?_⟩
                            · exfalso; omega
                            · refine ⟨by unfold rg; omega, ?_⟩
                              exfalso; omega
                          · exfalso; omega
                        · intro v51 r_v51 e_v51
                          replace e_v51 := e_v51.trans tot_0
                          refine ⟨fun c52 => ?_, fun c52 => ?_⟩
                          · exfalso; omega
                          · refine ⟨by unfold rg; omega, ?_⟩
                            exfalso; omega
        · refine ⟨by unfold rg; omega, ?_⟩
          refine ⟨fun c58 => ?_, fun c58 => ?_⟩
          · exfalso; omega
          · refine ⟨fun c59 => ?_, fun c59 => ?_⟩
            · exfalso; omega
            · refine ⟨fun c60 => ?_, fun c60 => ?_⟩
              · intro v61 r_v61 e_v61
                intro v62 r_v62 e_v62
                refine ⟨fun c63 => ?_, fun c63 => ?_⟩
                · exfalso; omega
                · intro v64 r_v64 e_v64
                  refine ⟨fun c65 => ?_, fun c65 => ?_⟩
                  · exfalso; omega
                  · intro v66 r_v66 e_v66
                    refine ⟨fun c67 => ?_, fun c67 => ?_⟩
                    · exfalso; omega
                    · refine ⟨fun c68 => ?_, fun c68 => ?_⟩
                      · intro v69 r_v69 e_v69
                        replace e_v69 := e_v69.trans tot_0
                        refine ⟨fun c70 => ?_, fun c70 => ?_⟩
                        · refine ⟨fun c72 => ?_, fun c72 => ?_⟩
                          · exfalso; omega
                          · refine ⟨by unfold rg; omega, ?_⟩
                            exfalso; omega
                        · exfalso; omega
                      · intro v75 r_v75 e_v75
                        replace e_v75 := e_v75.trans tot_0
                        refine ⟨fun c76 => ?_, fun c76 => ?_⟩
                        · exfalso; omega
                        · refine ⟨by unfold rg; omega, ?_⟩
                          exfalso; omega
              · refine ⟨by unfold rg; omega, ?_⟩
                intro v82 r_v82 e_v82
                refine ⟨fun c83 => ?_, fun c83 => ?_⟩
                · exfalso; omega
                · intro v84 r_v84 e_v84
                  intro v85 r_v85 e_v85
                  refine ⟨fun c86 => ?_, fun c86 => ?_⟩
                  · exfalso; omega
                  · intro v87 r_v87 e_v87
                    refine ⟨fun c88 => ?_, fun c88 => ?_⟩
                    · exfalso; omega
                    · intro v89 r_v89 e_v89
                      refine ⟨fun c90 => ?_, fun c90 => ?_⟩
                      · exfalso; omega
                      · refine ⟨fun c91 => ?_, fun c91 => ?_⟩
                        · intro v92 r_v92 e_v92
                          replace e_v92 := e_v92.trans tot_0
                          refine ⟨fun c93 => ?_, fun c93 => ?_⟩
                          · refine ⟨fun c95 => ?_, fun c95 => ?_⟩
                            · exfalso; omega
                            · refine ⟨by unfold rg; omega, ?_⟩
                              exfalso; omega
                          · exfalso; omega
                        · intro v98 r_v98 e_v98
                          replace e_v98 := e_v98.trans tot_0
                          refine ⟨fun c99 => ?_, fun c99 => ?_⟩
                          · exfalso; omega
                          · refine ⟨by unfold rg; omega, ?_⟩
                            exfalso; omega
  | succ n ih =>
    intro k is his hk
    obtain ⟨c, hc⟩ := get_ex (l := g.1.1) (i := k) (by omega)
    have hcm := List.mem_of_getElem? hc
    have hcd : cardO (k : Int) g.1.1 = c.1 := by
      unfold cardO
      rw [if_neg (by omega), if_neg (by omega), Int.toNat_natCast, cat_eq hc]
    have hof := of_mem a.1 hcm
    have hwc : (0 ≤ c.1 ∧ c.1 ≤ 255) ∧ (c.2.1 = 0 ∨ c.2.1 = 1) ∧ 0 ≤ c.2.2.1 ∧ c.2.2.1 ≤ 200 := a.1.w1 hc
    have htl := a.2.2.2.2.2.2.2.2 c hcm
    have hsh := shb_in a.1 hcm
    have h88 := cnt_88 a.1 hcm
    have hpr : 1 ≤ k → cardO ((k : Int) - 1) g.1.1 < c.1 := fun q => by
      obtain ⟨c', hc'⟩ := get_ex (l := g.1.1) (i := k - 1) (by omega)
      have e : cardO ((k : Int) - 1) g.1.1 = c'.1 := by
        unfold cardO
        rw [if_neg (by omega), if_neg (by omega), show ((k : Int) - 1).toNat = k - 1 by omega, cat_eq hc']
      rw [e]
      have hp := List.pairwise_iff_getElem.mp a.1.2.2
      obtain ⟨b1, b2⟩ := List.getElem?_eq_some_iff.mp hc'
      obtain ⟨b3, b4⟩ := List.getElem?_eq_some_iff.mp hc
      have := hp (k - 1) k b1 b3 (by omega)
      rw [b2, b4] at this
      exact this
    have hna := nAw_tk a.1 hc
    have hlv := nLv_tk hc
    have ha1 := nAw_le (g.1.1.take k)
    have hl1 : nLv (g.1.1.take k) ≤ (g.1.1.take k).length := List.length_filter_le ..
    have hlk : (g.1.1.take k).length ≤ 20 := by rw [List.length_take]; omega
    have ih2 := ih (k + 1) 1 rfl (by omega)
    rw [Int.natCast_add, hna, hlv] at ih2
    refine lc_isWhole_15 hd ?_
    intro v1 r_v1 e_v1
    replace e_v1 := e_v1.trans tot_0
    refine ⟨fun c2 => ?_, fun c2 => ?_⟩
    · exfalso; omega
    · refine ⟨fun c3 => ?_, fun c3 => ?_⟩
      · exfalso; omega
      · intro v4 r_v4 e_v4
        rw [hcd] at e_v4
        subst e_v4
        intro v5 r_v5 e_v5
        rw [hof.2.2.2] at e_v5
        subst e_v5
        intro v6 r_v6 e_v6
        rw [hof.1] at e_v6
        subst e_v6
        refine ⟨by unfold rg; omega, ?_⟩
        intro v8 r_v8 e_v8
        rw [hof.2.1] at e_v8
        subst e_v8
        refine ⟨fun c9 => ?_, fun c9 => ?_⟩
        · refine ⟨by unfold rg; omega, ?_⟩
          refine ⟨fun c11 => ?_, fun c11 => ?_⟩
          · exfalso; omega
          · refine ⟨fun c12 => ?_, fun c12 => ?_⟩
            · exfalso; omega
            · refine ⟨fun c13 => ?_, fun c13 => ?_⟩
              · intro v14 r_v14 e_v14
                rw [h88] at e_v14
                intro v15 r_v15 e_v15
                rw [hof.1] at e_v15
                subst e_v15
                refine ⟨fun c16 => ?_, fun c16 => ?_⟩
                · exfalso; omega
                · intro v17 r_v17 e_v17
                  rw [hof.2.1] at e_v17
                  subst e_v17
                  refine ⟨fun c18 => ?_, fun c18 => ?_⟩
                  · exfalso; omega
                  · intro v19 r_v19 e_v19
                    rw [hof.2.2.1] at e_v19
                    subst e_v19
                    refine ⟨fun c20 => ?_, fun c20 => ?_⟩
                    · exfalso; omega
                    · refine ⟨fun c21 => ?_, fun c21 => ?_⟩
                      · intro v22 r_v22 e_v22
                        replace e_v22 := e_v22.trans tot_0
                        refine ⟨fun c23 => ?_, fun c23 => ?_⟩
                        · refine ⟨fun c25 => ?_, fun c25 => ?_⟩
                          · exfalso; omega
                          · refine ⟨by unfold rg; omega, ?_⟩
                            rw [if_neg (by omega)] at ih2
                            exact ih2
                        · exfalso; omega
                      · intro v28 r_v28 e_v28
                        replace e_v28 := e_v28.trans tot_0
                        refine ⟨fun c29 => ?_, fun c29 => ?_⟩
                        · exfalso; omega
                        · refine ⟨by unfold rg; omega, ?_⟩
                          rw [if_neg (by omega)] at ih2
                          exact ih2
              · refine ⟨by unfold rg; omega, ?_⟩
                intro v35 r_v35 e_v35
                have hp_v35 := hpr (by omega)
                refine ⟨fun c36 => ?_, fun c36 => ?_⟩
                · exfalso; omega
                · intro v37 r_v37 e_v37
                  rw [h88] at e_v37
                  intro v38 r_v38 e_v38
                  rw [hof.1] at e_v38
                  subst e_v38
                  refine ⟨fun c39 => ?_, fun c39 => ?_⟩
                  · exfalso; omega
                  · intro v40 r_v40 e_v40
                    rw [hof.2.1] at e_v40
                    subst e_v40
                    refine ⟨fun c41 => ?_, fun c41 => ?_⟩
                    · exfalso; omega
                    · intro v42 r_v42 e_v42
                      rw [hof.2.2.1] at e_v42
                      subst e_v42
                      refine ⟨fun c43 => ?_, fun c43 => ?_⟩
                      · exfalso; omega
                      · refine ⟨fun c44 => ?_, fun c44 => ?_⟩
                        · intro v45 r_v45 e_v45
                          replace e_v45 := e_v45.trans tot_0
                          refine ⟨fun c46 => ?_, fun c46 => ?_⟩
                          · refine ⟨fun c48 => ?_, fun c48 => ?_⟩
                            · exfalso; omega
                            · refine ⟨by unfold rg; omega, ?_⟩
                              rw [if_neg (by omega)] at ih2
                              exact ih2
                          · exfalso; omega
                        · intro v51 r_v51 e_v51
                          replace e_v51 := e_v51.trans tot_0
                          refine ⟨fun c52 => ?_, fun c52 => ?_⟩
                          · exfalso; omega
                          · refine ⟨by unfold rg; omega, ?_⟩
                            rw [if_neg (by omega)] at ih2
                            exact ih2
        · refine ⟨by unfold rg; omega, ?_⟩
          refine ⟨fun c58 => ?_, fun c58 => ?_⟩
          · exfalso; omega
          · refine ⟨fun c59 => ?_, fun c59 => ?_⟩
            · exfalso; omega
            · refine ⟨fun c60 => ?_, fun c60 => ?_⟩
              · intro v61 r_v61 e_v61
                rw [h88] at e_v61
                intro v62 r_v62 e_v62
                rw [hof.1] at e_v62
                subst e_v62
                refine ⟨fun c63 => ?_, fun c63 => ?_⟩
                · exfalso; omega
                · intro v64 r_v64 e_v64
                  rw [hof.2.1] at e_v64
                  subst e_v64
                  refine ⟨fun c65 => ?_, fun c65 => ?_⟩
                  · exfalso; omega
                  · intro v66 r_v66 e_v66
                    rw [hof.2.2.1] at e_v66
                    subst e_v66
                    refine ⟨fun c67 => ?_, fun c67 => ?_⟩
                    · exfalso; omega
                    · refine ⟨fun c68 => ?_, fun c68 => ?_⟩
                      · intro v69 r_v69 e_v69
                        replace e_v69 := e_v69.trans tot_0
                        refine ⟨fun c70 => ?_, fun c70 => ?_⟩
                        · refine ⟨fun c72 => ?_, fun c72 => ?_⟩
                          · exfalso; omega
                          · refine ⟨by unfold rg; omega, ?_⟩
                            rw [if_pos (by omega)] at ih2
                            exact ih2
                        · exfalso; omega
                      · intro v75 r_v75 e_v75
                        replace e_v75 := e_v75.trans tot_0
                        refine ⟨fun c76 => ?_, fun c76 => ?_⟩
                        · exfalso; omega
                        · refine ⟨by unfold rg; omega, ?_⟩
                          rw [if_pos (by omega)] at ih2
                          exact ih2
              · refine ⟨by unfold rg; omega, ?_⟩
                intro v82 r_v82 e_v82
                have hp_v82 := hpr (by omega)
                refine ⟨fun c83 => ?_, fun c83 => ?_⟩
                · exfalso; omega
                · intro v84 r_v84 e_v84
                  rw [h88] at e_v84
                  intro v85 r_v85 e_v85
                  rw [hof.1] at e_v85
                  subst e_v85
                  refine ⟨fun c86 => ?_, fun c86 => ?_⟩
                  · exfalso; omega
                  · intro v87 r_v87 e_v87
                    rw [hof.2.1] at e_v87
                    subst e_v87
                    refine ⟨fun c88 => ?_, fun c88 => ?_⟩
                    · exfalso; omega
                    · intro v89 r_v89 e_v89
                      rw [hof.2.2.1] at e_v89
                      subst e_v89
                      refine ⟨fun c90 => ?_, fun c90 => ?_⟩
                      · exfalso; omega
                      · refine ⟨fun c91 => ?_, fun c91 => ?_⟩
                        · intro v92 r_v92 e_v92
                          replace e_v92 := e_v92.trans tot_0
                          refine ⟨fun c93 => ?_, fun c93 => ?_⟩
                          · refine ⟨fun c95 => ?_, fun c95 => ?_⟩
                            · exfalso; omega
                            · refine ⟨by unfold rg; omega, ?_⟩
                              rw [if_pos (by omega)] at ih2
                              exact ih2
                          · exfalso; omega
                        · intro v98 r_v98 e_v98
                          replace e_v98 := e_v98.trans tot_0
                          refine ⟨fun c99 => ?_, fun c99 => ?_⟩
                          · exfalso; omega
                          · refine ⟨by unfold rg; omega, ?_⟩
                            rw [if_pos (by omega)] at ih2
                            exact ih2
theorem l_isWhole (hd : 20 ≤ d) (a : IV T g.1) (hT : T ≤ 300000000) : LM d m_L_isWhole [.inr (some 1)] g (P1 g) := by
  refine lm_body mo_L_isWhole (Nat.le_of_ble_eq_true rfl) (by intro q; cases q) ?_
  show LW m_L_isWhole d none _ 0 [some (.inr (some 1)), none, none, none, none, none, none, none, none] [] g (0, 0)
  exact lc_isWhole hd (l_iw15 hd a hT g.1.1.length 0 1 rfl (by omega))
end ISW
