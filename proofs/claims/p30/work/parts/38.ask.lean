noncomputable def lgS (s : Ms) : Ms := (lg s.1, s.2.1, su s.2.2 12 (w (s.2.2 12 + ((s.1.length : Int) - (lg s.1).length))))
def stt (r len : Int) : Int := if r = 300 then (4 + len) + 2 else (4 + len) + (if 1 < 8 - len then 8 - len else 1)
noncomputable def askR (len bits : Int) (s : Ms) : Int := hearR (pa len bits) s.1
/-- counted: at k one more, the time t more -/
noncomputable def cntD (k t : Int) (s : Ms) : Ms := (s.1, s.2.1, su (su s.2.2 k (w (s.2.2 k + 1))) 10 (w (s.2.2 10 + t)))
noncomputable def askS (len bits : Int) (s : Ms) : Ms := lgS (cntD 5 (stt (askR len bits s) len) (hearS (pa len bits) s))
section AS
variable {d b : Nat} {h : AH} {s : Ms}
/-- the asks and the time are counted (k: 0 asks, 1 slots) -/
theorem ES_cnt {k t : Int} (hk : k = 0 ∨ k = 1) (a : ES h b s) : ES (up (up h (b + 10) k (w (hi h (b + 10) k + 1))) (b + 10) 5 (w (hi h (b + 10) 5 + t))) b (cntD (k + 5) t s) := by
  obtain ⟨aP, aT, aY, a2, a3, a4, aW⟩ := a
  obtain ⟨l, tl, sc⟩ := s
  have o3 : ∀ j, j ≠ b + 10 → hi (up (up h (b + 10) k (w (hi h (b + 10) k + 1))) (b + 10) 5 (w (hi h (b + 10) 5 + t))) j = hi h j := fun j h1 => (up_ne h1).trans (up_ne h1)
  obtain ⟨y0, y1, y2, y3, y4, y5, y6, y7⟩ := aY
  refine ⟨aP.same (fun j h1 h2 => o3 j (by omega)), aT.same (fun j h1 h2 => o3 j (by omega)), ?_, ?_, ?_, ?_, (aW.su (by omega)).su (by omega)⟩
  · unfold YK
    rcases hk with rfl | rfl
    · simp [hi_up, cntD, su, y0, y1, y2, y3, y4, y5, y6, y7]
    · simp [hi_up, cntD, su, y0, y1, y2, y3, y4, y5, y6, y7]
  · rw [o3 (b + 11) (by omega)]
    simp only [cntD]
    rw [su_ne (by omega), su_ne (by omega)]
    exact a2
  · rw [o3 (b + 11) (by omega)]
    simp only [cntD]
    rw [su_ne (by omega), su_ne (by omega)]
    exact a3
  · rw [o3 b (by omega)]
    simp only [cntD]
    rw [su_ne (by omega), su_ne (by omega)]
    exact a4
theorem ES_lg {h1 : AH} (a : ES h b s) (x : FX h h1 (inP (b + 1))) (p1 : PK h1 (b + 1) (lg s.1)) : ES (up h1 (b + 10) 7 (w (s.2.2 12 + ((s.1.length : Int) - (lg s.1).length)))) b (lgS s) := by
  obtain ⟨aP, aT, aY, a2, a3, a4, aW⟩ := a
  obtain ⟨l, tl, sc⟩ := s
  have o : ∀ j, ¬ inP (b + 1) j → hi h1 j = hi h j := x
  have o3 : ∀ (v : Int) (j : Nat), ¬ inP (b + 1) j → j ≠ b + 10 → hi (up h1 (b + 10) 7 v) j = hi h j := fun v j h1 h2 => (up_ne h2).trans (x j h1)
  obtain ⟨y0, y1, y2, y3, y4, y5, y6, y7⟩ := aY
  refine ⟨p1.same (fun j h1 h2 => up_ne (by omega)), aT.same (fun j h1 h2 => o3 _ j (fun z => by have := z.2; omega) (by omega)), ?_, ?_, ?_, ?_, aW.su (by decide)⟩
  · have e := o (b + 10) (fun z => by have := z.2; omega)
    unfold YK
    simp [hi_up, e, lgS, su, y0, y1, y2, y3, y4, y5, y6, y7]
  · rw [o3 _ (b + 11) (fun z => by have := z.2; omega) (by omega)]
    simp only [lgS]
    rw [su_ne (by omega)]
    exact a2
  · rw [o3 _ (b + 11) (fun z => by have := z.2; omega) (by omega)]
    simp only [lgS]
    rw [su_ne (by omega)]
    exact a3
  · rw [o3 _ b (fun z => by have := z.1; omega) (by omega)]
    simp only [lgS]
    rw [su_ne (by omega)]
    exact a4
theorem inP_S {j : Nat} (h : inP (b + 1) j) : inS b j := ⟨by have := h.1; omega, by have := h.2; omega⟩
theorem hearR_300 {f : Cd → Bool} {l : List Cd} (hw : WL l) : hearR f l = 300 ↔ l.filter f = [] := by
  unfold hearR
  cases he : l.filter f with
  | nil => simp
  | cons c t =>
    have hc : c ∈ l := (List.mem_filter.mp (he ▸ List.mem_cons_self)).1
    have hn := nm_of hw hc
    cases t with
    | nil => simp only [reduceCtorEq, iff_false]; omega
    | cons e t =>
      have := fo_in (dfs f c.1 l)
      simp only [reduceCtorEq, iff_false]
      omega
theorem c_askFor {len bits : Int} (hd : 3 ≤ d) (hL : QS h b) (a : ES h b s) (h0 : 0 ≤ len) (h8 : len ≤ 8) :
    AM d m_X2_askFor [.inr (some b), .inl len, .inl bits] h (fun r h' => r = some (askR len bits s) ∧ SS h h' ∧ FX h h' (inS b) ∧ ES h' b (askS len bits s) ∧ hi h' b 5 = hi h b 5 ∧ (∀ c t, s.1.filter (pa len bits) = c :: t → 400 ≤ askR len bits s → hi h' b 6 = c.1)) := by
  refine vc_X2_askFor (by omega) hL (am_mono (c_letAnswer (by omega) hL.2.2.1 a.1 h0 h8) (fun r h1 _ _ q => ?_))
  obtain ⟨rfl, s1, x1, m1⟩ := q
  have a1 : ES h1 b s := by
    obtain ⟨aP, aT, aY, a2, a3, a4, aW⟩ := a
    exact ⟨aP.fx (x1.wk (fun j q => Or.inr q)), aT.same (fun j g1 g2 => x1 j (by omega)), aY.same (x1 _ (by omega)), by rw [x1 _ (by omega)]; exact a2, by rw [x1 _ (by omega)]; exact a3, by rw [x1 _ (by omega)]; exact a4, aW⟩
  refine ⟨rfl, s1, am_mono (c_hear (by omega) (hL.ss s1) a1 m1) (fun r h2 _ _ q => ?_)⟩
  obtain ⟨rfl, s2, x2, a2, -, e5, e6⟩ := q
  refine ⟨_, rfl, s2, ⟨by omega, by omega⟩, ?_⟩
  have tail : ∀ (t : Int) (h3 : AH), t = stt (askR len bits s) len → SS (up (up h2 (b + 10) 0 (w (hi h2 (b + 10) 0 + 1))) (b + 10) 5 (w (hi h2 (b + 10) 5 + t))) h3 → FX (up (up h2 (b + 10) 0 (w (hi h2 (b + 10) 0 + 1))) (b + 10) 5 (w (hi h2 (b + 10) 5 + t))) h3 (inP (b + 1)) → PK h3 (b + 1) (lg (hearS (pa len bits) s).1) →
      some (hearR (pa len bits) s.1) = some (askR len bits s) ∧ SS h (up h3 (b + 10) 7 (w (hi h2 (b + 10) 7 + (((hearS (pa len bits) s).1.length : Int) - (lg (hearS (pa len bits) s).1).length)))) ∧ FX h (up h3 (b + 10) 7 (w (hi h2 (b + 10) 7 + (((hearS (pa len bits) s).1.length : Int) - (lg (hearS (pa len bits) s).1).length)))) (inS b) ∧ ES (up h3 (b + 10) 7 (w (hi h2 (b + 10) 7 + (((hearS (pa len bits) s).1.length : Int) - (lg (hearS (pa len bits) s).1).length)))) b (askS len bits s) ∧ hi (up h3 (b + 10) 7 (w (hi h2 (b + 10) 7 + (((hearS (pa len bits) s).1.length : Int) - (lg (hearS (pa len bits) s).1).length)))) b 5 = hi h b 5 ∧ (∀ c t, s.1.filter (pa len bits) = c :: t → 400 ≤ askR len bits s → hi (up h3 (b + 10) 7 (w (hi h2 (b + 10) 7 + (((hearS (pa len bits) s).1.length : Int) - (lg (hearS (pa len bits) s).1).length)))) b 6 = c.1) := by
    intro t h3 ht s3 x3 p3
    have e7 : hi h2 (b + 10) 7 = (hearS (pa len bits) s).2.2 12 := a2.2.2.1.2.2.2.2.2.2.2
    have a3 := ES_lg (ES_cnt (k := 0) (t := t) (Or.inl rfl) a2) x3 p3
    have ec : (cntD (0 + 5) t (hearS (pa len bits) s)).2.2 12 = hi h2 (b + 10) 7 := by
      rw [e7]
      simp only [cntD]
      rw [su_ne (by decide), su_ne (by decide)]
    rw [ec] at a3
    refine ⟨rfl, ((s1.tr s2).tr (SS.rf.up.up.tr s3)).up, fun j hj => ?_, ?_, ?_, fun c t' hct hcl => ?_⟩
    · rw [up_ne (fun z => hj ⟨by omega, by omega⟩), x3 j (fun z => hj (inP_S z)), up_ne (fun z => hj ⟨by omega, by omega⟩), up_ne (fun z => hj ⟨by omega, by omega⟩), x2 j hj, x1 j (fun z => hj ⟨by omega, by omega⟩)]
    · unfold askS
      rw [← ht]
      exact a3
    · rw [up_ne (by omega), x3 b (fun z => by have := z.1; omega), up_ne (by omega), up_ne (by omega), e5, x1 b (by omega)]
    · rw [up_ne (by omega), x3 b (fun z => by have := z.1; omega), up_ne (by omega), up_ne (by omega)]
      exact e6 c t' hct hcl
  refine ⟨fun c => ⟨⟨by omega, by omega⟩, ⟨by split <;> omega, by split <;> omega⟩, ?_⟩, fun c => ⟨⟨by omega, by omega⟩, ?_⟩⟩
  · have ht : (4 + len) + (if 1 < 8 - len then 8 - len else 1) = stt (askR len bits s) len := by unfold stt askR; rw [if_neg c]
    have a3 := ES_cnt (k := 0) (t := (4 + len) + (if 1 < 8 - len then 8 - len else 1)) (Or.inl rfl) a2
    obtain ⟨sl, hsl⟩ := SL_ex (h := _) (p := b + 1) a3.1.2.2
    refine am_mono (c_passAsk (by omega) (((hL.ss s1).ss s2).ss SS.rf.up.up).2.2.1 a3.1 hsl) (fun r h3 _ _ q => ?_)
    obtain ⟨rfl, s3, x3, p3, -⟩ := q
    exact ⟨_, rfl, s3, tail _ h3 ht s3 x3 p3⟩
  · have ht : (4 + len) + 2 = stt (askR len bits s) len := by unfold stt askR; rw [if_pos (Classical.byContradiction c)]
    have a3 := ES_cnt (k := 0) (t := (4 + len) + 2) (Or.inl rfl) a2
    obtain ⟨sl, hsl⟩ := SL_ex (h := _) (p := b + 1) a3.1.2.2
    refine am_mono (c_passAsk (by omega) (((hL.ss s1).ss s2).ss SS.rf.up.up).2.2.1 a3.1 hsl) (fun r h3 _ _ q => ?_)
    obtain ⟨rfl, s3, x3, p3, -⟩ := q
    exact ⟨_, rfl, s3, tail _ h3 ht s3 x3 p3⟩
end AS
