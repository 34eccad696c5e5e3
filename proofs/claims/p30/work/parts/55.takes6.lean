/-! the object: totals, what a walk and rounds would take -/
noncomputable def walkTO (x k : Int) (s : Ms) : Int := if k < 0 ∨ 4 < k then -2 else if k = 0 then w ((wkS x s).2.2.2 5 - s.2.2 5) else if k = 1 then w ((wkS x s).2.2.2 10 - s.2.2 10) else if k = 2 then w ((wkS x s).2.2.2 8 - s.2.2 8) else if k = 3 then w ((wkS x s).2.2.2 9 - s.2.2 9) else (wkS x s).1
noncomputable def roundsTO (x k : Int) (s : Ms) : Int := if ¬ (1 ≤ x ∧ x ≤ 64) ∨ k < 0 ∨ 4 < k then -2 else if k = 0 then (roundsO x s).1 else if k = 1 then w ((roundsO x s).2.2.2 10 - s.2.2 10) else if k = 2 then w ((roundsO x s).2.2.2 8 - s.2.2 8) else if k = 3 then w ((roundsO x s).2.2.2 9 - s.2.2 9) else w ((roundsO x s).2.2.2 6 - s.2.2 6)
section TAKE6
variable {d : Nat} {h : AH} {g : Gs}
theorem k_total {x : Int} (hd : 4 ≤ d) (hL : L6 h) (a : G6 h g) : AM d m_X6_total [.inr (some 1), .inl x] h (R6 h (totO x g, g)) := by
  have hp := hL.q2.2.2.1
  refine vc_X6_total (by omega) hL.1 ⟨fun c => ?_, fun c => ?_, fun c => ?_, fun c => ?_, fun c => ?_, fun c => ?_, fun c => ?_, fun c => ?_, fun c => ?_, fun c => ?_⟩
  · refine am_mono (c_numberOf (x := x) hL.q2.2.2.2.2.2.2.1 a.1.2.2.1) (fun r h2 _ _ z => ?_)
    obtain ⟨rfl, rfl⟩ := z
    have e : totO x g = (if 4 ≤ x ∧ x ≤ 10 then g.1.2.2 (x + 1) else if x = 14 then g.1.2.2 12 else -2) := by
      unfold totO
      rw [if_neg (by omega), if_neg (by omega), if_neg (by omega), if_neg (by omega), if_neg (by omega), if_neg (by omega), if_neg (by omega), if_neg (by omega), if_neg (by omega)]
    rw [e]
    exact ⟨_, rfl, SS.rf, R6.st a⟩
  all_goals subst c
  · refine am_mono (c_cards hp) (fun r h2 _ _ z => ?_)
    obtain ⟨rfl, rfl⟩ := z
    exact ⟨_, rfl, SS.rf, congrArg some a.1.1.1, SS.rf.w, FX.rf, a⟩
  · refine am_mono (c_awakeCards (by omega) hp a.1.1) (fun r h2 _ _ z => ?_)
    obtain ⟨rfl, rfl⟩ := z
    exact ⟨_, rfl, SS.rf, R6.st a⟩
  · refine am_mono (c_leavingCards hp a.1.1) (fun r h2 _ _ z => ?_)
    obtain ⟨rfl, rfl⟩ := z
    exact ⟨_, rfl, SS.rf, R6.st a⟩
  · refine am_mono (c_names hL.q2.2.2.2.2.1 a.1.2.1) (fun r h2 _ _ z => ?_)
    obtain ⟨rfl, rfl⟩ := z
    exact ⟨_, rfl, SS.rf, R6.st a⟩
  · refine am_mono (c_valueOf (x := 0) hL.q2 a.1) (fun r h2 _ _ z => ?_)
    obtain ⟨rfl, rfl⟩ := z
    exact ⟨_, rfl, SS.rf, R6.st a⟩
  · refine am_mono (c_valueOf (x := 1) hL.q2 a.1) (fun r h2 _ _ z => ?_)
    obtain ⟨rfl, rfl⟩ := z
    exact ⟨_, rfl, SS.rf, R6.st a⟩
  · exact ⟨congrArg some a.1.2.2.2.2.2.1, SS.rf.w, FX.rf, a⟩
  · exact vc_X0_states hL.2.1 ⟨_, rfl, SS.rf, congrArg some a.2.1.1, SS.rf.w, FX.rf, a⟩
  · exact vc_X4_length hL.qx ⟨_, rfl, SS.rf, congrArg some a.2.2.2.1, SS.rf.w, FX.rf, a⟩
/-- the trial: copied from the state -/
theorem c_trial (hd : 2 ≤ d) (hL : L6 h) (a : G6 h g) : AM d m_X2_copyFrom [.inr (some 26), .inr (some 2)] h (fun r h' => r = none ∧ SS h h' ∧ FX h h' (inS 26) ∧ ES h' 26 g.1) := c_copyState (by omega) hL.q26 hL.q2 (by omega) a.1
theorem G6.trial {h' : AH} (a : G6 h g) (s : SS h h') (f : FX h h' (inS 26)) : G6 h' g := a.move s (fun j hj => f j (fun z => by have := z.1; have := z.2; omega)) (a.1.same (fun j g1 g2 => f j (fun z => by have := z.1; omega)))
theorem k_walkTakes {x k : Int} (hd : 16 ≤ d) (hL : L6 h) (a : G6 h g) : AM d m_X6_walkTakes [.inr (some 1), .inl x, .inl k] h (R6 h (walkTO x k g.1, g)) := by
  refine vc_X6_walkTakes (by omega) hL.1 ⟨fun c => ?_, fun c => ⟨fun c2 => am_mono (c_trial (by omega) hL a) (fun r h3 _ _ z => ?_), fun c2 => ?_⟩⟩
  · unfold walkTO
    rw [if_pos (by omega)]
    exact R6.st a
  · obtain ⟨rfl, s3, f3, e3⟩ := z
    refine ⟨rfl, s3, am_mono (c_makeWalk (skips := x) (by omega) (hL.q26.ss s3) e3) (fun r h4 _ _ z => ?_)⟩
    obtain ⟨rfl, s4, f4, e4, m4⟩ := z
    have a4 : G6 h4 g := (a.trial s3 f3).trial s4 f4
    have fin : ∀ v, v = walkTO x k g.1 → R6 h (walkTO x k g.1, g) (some v) h4 := fun v e => ⟨congrArg some e, (s3.tr s4).w, (f3.tr f4).wk (fun j z => inS_C z (by omega) (by omega)), a4⟩
    have y4 := e4.2.2.1
    have y2 := a4.1.2.2.1
    refine ⟨_, rfl, s4, fun c3 => fin _ ?_, fun c3 => fin _ ?_, fun c3 => fin _ ?_, fun c3 => fin _ ?_, fun c3 => fin _ ?_⟩
    · unfold walkTO
      rw [if_neg (by omega), if_neg (by omega), if_neg (by omega), if_neg (by omega), if_neg (by omega)]
      exact m4
    · unfold walkTO
      rw [if_neg (by omega), if_pos c3, ← y4.1, ← y2.1]
    · unfold walkTO
      rw [if_neg (by omega), if_neg (by omega), if_pos c3, ← y4.2.2.2.2.2.1, ← y2.2.2.2.2.2.1]
    · unfold walkTO
      rw [if_neg (by omega), if_neg (by omega), if_neg (by omega), if_pos c3]
    · unfold walkTO
      rw [if_neg (by omega), if_neg (by omega), if_neg (by omega), if_neg (by omega), if_pos c3, ← y4.2.2.2.2.1, ← y2.2.2.2.2.1]
  · unfold walkTO
    rw [if_pos (by omega)]
    exact R6.st a
end TAKE6
