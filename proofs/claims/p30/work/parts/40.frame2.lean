section FR2
variable {d b : Nat} {h : AH} {s : Ms}
theorem ES_SL_lg {h1 : AH} {v : Int} {sl : Int → Int} {l : List Cd} (a : SL h1 (b + 1) l sl) : SL (up h1 (b + 10) 7 v) (b + 1) l sl := a.same (up_ne (by omega))
theorem c_makeFrame {m : Nat} (hd : 4 ≤ d) (hL : QS h b) (a : ES h b s) (hm1 : 1 ≤ m) (hm2 : m ≤ 64) : AM d m_X2_makeFrame [.inr (some b), .inl (m : Int)] h (fun r h' => r = some (frR m s) ∧ SS h h' ∧ FX h h' (inS b) ∧ ES h' b (frS m s)) := by
  refine vc_X2_makeFrame (by omega) hL (am_mono c_isFrameSize (fun r h' _ _ q => ?_))
  obtain ⟨rfl, rfl⟩ := q
  rw [if_pos (by omega)]
  refine ⟨_, rfl, SS.rf, fun _ => ?_, fun c => by omega⟩
  obtain ⟨aP, aT, aY, a2, a3, a4, aW⟩ := a
  have y6 : hi h' (b + 10) 6 = s.2.2 11 := aY.2.2.2.2.2.2.1
  have y5 : hi h' (b + 10) 5 = s.2.2 10 := aY.2.2.2.2.2.1
  have y3 : hi h' (b + 10) 3 = s.2.2 8 := aY.2.2.2.1
  rw [y6, y5, y3]
  have o1 : ∀ j, j ≠ b + 10 → hi (up (up h' (b + 10) 6 (w (s.2.2 11 + 1))) (b + 10) 5 (w (s.2.2 10 + 4))) j = hi h' j := fun j hj => (up_ne hj).trans (up_ne hj)
  have P1 : PK (up (up h' (b + 10) 6 (w (s.2.2 11 + 1))) (b + 10) 5 (w (s.2.2 10 + 4))) (b + 1) s.1 := aP.same (fun j h1 h2 => o1 j (by omega))
  have e4 : hi (up (up h' (b + 10) 6 (w (s.2.2 11 + 1))) (b + 10) 5 (w (s.2.2 10 + 4))) b 4 = s.2.2 4 := by rw [o1 b (by omega)]; exact a4
  refine am_mono (c_drawSlots (by omega) (hL.ss SS.rf.up.up) P1 (by omega)) (fun r h2 _ _ q => ?_)
  obtain ⟨rfl, s2, o2, ob2, x4, sl2⟩ := q
  rw [e4] at x4 sl2
  have s02 : SS h' h2 := SS.tr SS.rf.up.up s2
  have a0 : ES h2 b (frB m s) := by
    have hx : 0 ≤ (drs m s.1 (s.2.2 4)).2 ∧ (drs m s.1 (s.2.2 4)).2 < 2147483648 := by
      have : ∀ (l : List Cd) (acc : List (Int × Int) × Int), 0 ≤ acc.2 ∧ acc.2 < 2147483648 → 0 ≤ (l.foldl (dst m) acc).2 ∧ (l.foldl (dst m) acc).2 < 2147483648 := by
        intro l
        induction l with
        | nil => intro acc ha; exact ha
        | cons c t ih =>
          intro acc ha
          refine ih (dst m acc c) ?_
          unfold dst
          split
          · exact nx_in _
          · exact ha
      exact this s.1 ([], s.2.2 4) aW.2.2
    obtain ⟨y0, y1, y2, y3', y4, y5', y6', y7⟩ := aY
    refine ⟨⟨by rw [o2 _ (by omega) (by omega)]; exact P1.1, P1.2.1.cong (fun i _ => ⟨by rw [o2 _ (by omega) (by omega)], by rw [o2 _ (by omega) (by omega)], by rw [o2 _ (by omega) (by omega)], by rw [o2 _ (by omega) (by omega)]⟩), P1.2.2⟩, aT.same (fun j h1 h2 => (o2 j (by omega) (by omega)).trans (o1 j (by omega))), ?_, ?_, ?_, ?_, ?_⟩
    · have e := o2 (b + 10) (by omega) (by omega)
      unfold YK
      rw [e]
      simp [hi_up, frB, su, y0, y1, y2, y3', y4, y7]
    · rw [o2 _ (by omega) (by omega), o1 _ (by omega)]
      simp only [frB]
      rw [su_ne (by decide), su_ne (by decide), su_ne (by decide)]
      exact a2
    · rw [o2 _ (by omega) (by omega), o1 _ (by omega)]
      simp only [frB]
      rw [su_ne (by decide), su_ne (by decide), su_ne (by decide)]
      exact a3
    · rw [x4]
      simp only [frB]
      rw [su_at]
    · simp only [frB]
      refine ⟨?_, ?_, ?_, ?_⟩
      · rw [su_ne (by decide), su_ne (by decide), su_ne (by decide)]; exact aW.1
      · rw [su_ne (by decide), su_ne (by decide), su_ne (by decide)]; exact aW.2.1
      · rw [su_at]; exact hx.1
      · rw [su_at]; exact hx.2
  have f0 : FX h' h2 (inS b) := fun j hj => (o2 j (fun z => hj ⟨by omega, by omega⟩) (fun z => hj ⟨by omega, by omega⟩)).trans (o1 j (fun z => hj ⟨by omega, by omega⟩))
  refine ⟨rfl, s2, ?_⟩
  have hfr : frS m s = slotsS (slF (drs m s.1 (s.2.2 4)).1) m (frB m s) := rfl
  generalize slF (drs m s.1 (s.2.2 4)).1 = sl at hfr sl2
  have loop : ∀ (n k : Nat) (h1 : AH), k + n = m → SS h' h1 → FX h' h1 (inS b) → ES h1 b (slotsS sl k (frB m s)) → SL h1 (b + 1) (slotsS sl k (frB m s)).1 sl →
      AW m_X2_makeFrame d none (fun r h1 => r = some (frR m s) ∧ SS h' h1 ∧ FX h' h1 (inS b) ∧ ES h1 b (frS m s)) 51 [some (.inr (some b)), some (.inl (m : Int)), some (.inl (s.2.2 8)), some (.inl (k : Int)), none] [] h1 (0, 0) := by
    intro n
    induction n with
    | zero =>
      intro k h1 hk s1 f1 a1 _
      have : k = m := by omega
      subst this
      refine vc_X2_makeFrame_51 (by omega) (hL.ss s1) ⟨fun c => ⟨?_, s1, f1, ?_⟩, fun c => by omega⟩
      · unfold frR
        rw [hfr, ← a1.2.2.1.2.2.2.1]
      · rw [hfr]
        exact a1
    | succ n ih =>
      intro k h1 hk s1 f1 a1 l1
      have e1 : slotsS sl (k + 1) (frB m s) = slotS sl k (slotsS sl k (frB m s)) := rfl
      have ih' := ih (k + 1)
      rw [e1] at ih'
      generalize slotsS sl k (frB m s) = u at a1 l1 ih'
      refine vc_X2_makeFrame_51 (by omega) (hL.ss s1) ⟨fun c => by omega, fun c => am_mono (c_letAnswerIn (hL.ss s1).2.2.1 a1.1 l1) (fun r h2 _ _ q => ?_)⟩
      obtain ⟨rfl, s2, x2, m2⟩ := q
      have a2 : ES h2 b u := by
        obtain ⟨bP, bT, bY, b2, b3, b4, bW⟩ := a1
        exact ⟨bP.fx (x2.wk (fun j q => Or.inr q)), bT.same (fun j g1 g2 => x2 j (by omega)), bY.same (x2 _ (by omega)), by rw [x2 _ (by omega)]; exact b2, by rw [x2 _ (by omega)]; exact b3, by rw [x2 _ (by omega)]; exact b4, bW⟩
      have l2 : SL h2 (b + 1) u.1 sl := l1.same (x2 _ (by omega))
      refine ⟨rfl, s2, am_mono (c_hear (by omega) ((hL.ss s1).ss s2) a2 m2) (fun r h3 _ _ q => ?_)⟩
      obtain ⟨rfl, s3, x3, a3, l3, -, -⟩ := q
      have l3 := l3 sl l2
      refine ⟨_, rfl, s3, ?_⟩
      have L3 := ((hL.ss s1).ss s2).ss s3
      have e7 : hi h3 (b + 10) 7 = (hearS (fun c => decide (sl c.1 = (k : Int))) u).2.2 12 := a3.2.2.1.2.2.2.2.2.2.2
      have tail : ∀ (t : Int), t = (if hearR (fun c => decide (sl c.1 = (k : Int))) u.1 = 300 then 1 else 9) → AM (d - 1) m_X1_passAsk [.inr (some (b + 1))] (up (up h3 (b + 10) 1 (w (hi h3 (b + 10) 1 + 1))) (b + 10) 5 (w (hi h3 (b + 10) 5 + t))) (fun r h10 =>
          ∃ v11, r = some v11 ∧ SS (up (up h3 (b + 10) 1 (w (hi h3 (b + 10) 1 + 1))) (b + 10) 5 (w (hi h3 (b + 10) 5 + t))) h10 ∧ rg ((k : Int) + 1) ∧
          AW m_X2_makeFrame d none (fun r h1 => r = some (frR m s) ∧ SS h' h1 ∧ FX h' h1 (inS b) ∧ ES h1 b (frS m s)) 51 [some (.inr (some b)), some (.inl (m : Int)), some (.inl (s.2.2 8)), some (.inl ((k : Int) + 1)), none] [] (up h10 (b + 10) 7 (w (hi h3 (b + 10) 7 + v11))) (0, 0)) := by
        intro t ht
        have a4 := ES_cnt (k := 1) (t := t) (Or.inr rfl) a3
        have l4 : SL (up (up h3 (b + 10) 1 (w (hi h3 (b + 10) 1 + 1))) (b + 10) 5 (w (hi h3 (b + 10) 5 + t))) (b + 1) (hearS (fun c => decide (sl c.1 = (k : Int))) u).1 sl := l3.same ((up_ne (by omega)).trans (up_ne (by omega)))
        refine am_mono (c_passAsk (by omega) (L3.ss SS.rf.up.up).2.2.1 a4.1 l4) (fun r h5 _ _ q => ?_)
        obtain ⟨rfl, s5, x5, p5, l5⟩ := q
        refine ⟨_, rfl, s5, ⟨by omega, by omega⟩, ?_⟩
        have a5 := ES_lg a4 x5 p5
        have ec : (cntD (1 + 5) t (hearS (fun c => decide (sl c.1 = (k : Int))) u)).2.2 12 = hi h3 (b + 10) 7 := by
          rw [e7]
          simp only [cntD]
          rw [su_ne (by decide), su_ne (by decide)]
        rw [ec] at a5
        refine ih' _ (by omega) ((s1.tr s2).tr (s3.tr (SS.rf.up.up.tr s5))).up (fun j hj => ?_) ?_ ?_
        · rw [up_ne (fun z => hj ⟨by omega, by omega⟩), x5 j (fun z => hj (inP_S z)), up_ne (fun z => hj ⟨by omega, by omega⟩), up_ne (fun z => hj ⟨by omega, by omega⟩), x3 j hj, x2 j (fun z => hj ⟨by omega, by omega⟩), f1 j hj]
        · unfold slotS
          rw [← ht]
          exact a5
        · unfold slotS
          rw [← ht]
          exact l5.same (up_ne (by omega))
      refine ⟨fun c3 => tail 9 (by rw [if_neg c3]), fun c3 => tail 1 (by rw [if_pos (Classical.byContradiction c3)])⟩
  exact loop m 0 h2 (by omega) s02 f0 a0 sl2
end FR2
