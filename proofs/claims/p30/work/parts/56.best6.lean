/-! the object: what rounds would take, the best frame -/
noncomputable def bestL (s : Ms) : Nat → Int → Int → Int → Int → Int
  | 0, b, _, _, _ => b
  | k + 1, b, v, t, m => if b = 0 ∨ v < (frameO m s).1 ∨ ((frameO m s).1 = v ∧ w ((frameO m s).2.2.2 10 - s.2.2 10) < t) then bestL s k m (frameO m s).1 (w ((frameO m s).2.2.2 10 - s.2.2 10)) (m + 1) else bestL s k b v t (m + 1)
section BEST6
variable {d : Nat} {h : AH} {g : Gs}
theorem k_roundsTake {x k : Int} (hd : 7 ≤ d) (hL : L6 h) (a : G6 h g) : AM d m_X6_roundsTake [.inr (some 1), .inl x, .inl k] h (R6 h (roundsTO x k g.1, g)) := by
  refine vc_X6_roundsTake (by omega) hL.1 (am_mono c_isFrameSize (fun r h1 _ _ z => ?_))
  obtain ⟨rfl, rfl⟩ := z
  by_cases c0 : 1 ≤ x ∧ x ≤ 64
  · rw [if_pos c0]
    refine ⟨_, rfl, SS.rf, fun c => absurd c (by decide), fun _ => ⟨fun c => ?_, fun c => ⟨fun c2 => am_mono (c_trial (by omega) hL a) (fun r h3 _ _ z => ?_), fun c2 => ?_⟩⟩⟩
    · unfold roundsTO
      rw [if_pos (by omega)]
      exact R6.st a
    · obtain ⟨rfl, s3, f3, e3⟩ := z
      refine ⟨rfl, s3, am_mono (c_roundsX (x := x) (by omega) (hL.q26.ss s3) e3) (fun r h4 _ _ z => ?_)⟩
      obtain ⟨rfl, s4, f4, e4⟩ := z
      have a4 : G6 h4 g := (a.trial s3 f3).trial s4 f4
      have fin : ∀ v, v = roundsTO x k g.1 → R6 h1 (roundsTO x k g.1, g) (some v) h4 := fun v e => ⟨congrArg some e, (s3.tr s4).w, (f3.tr f4).wk (fun j z => inS_C z (by omega) (by omega)), a4⟩
      have y4 := e4.2.2.1
      have y2 := a4.1.2.2.1
      refine ⟨_, rfl, s4, fun c3 => fin _ ?_, fun c3 => fin _ ?_, fun c3 => fin _ ?_, fun c3 => fin _ ?_, fun c3 => fin _ ?_⟩
      · unfold roundsTO
        rw [if_neg (by omega), if_neg (by omega), if_neg (by omega), if_neg (by omega), if_neg (by omega), ← y4.2.1, ← y2.2.1]
      · unfold roundsTO
        rw [if_neg (by omega), if_pos c3]
      · unfold roundsTO
        rw [if_neg (by omega), if_neg (by omega), if_pos c3, ← y4.2.2.2.2.2.1, ← y2.2.2.2.2.2.1]
      · unfold roundsTO
        rw [if_neg (by omega), if_neg (by omega), if_neg (by omega), if_pos c3, ← y4.2.2.2.1, ← y2.2.2.2.1]
      · unfold roundsTO
        rw [if_neg (by omega), if_neg (by omega), if_neg (by omega), if_neg (by omega), if_pos c3, ← y4.2.2.2.2.1, ← y2.2.2.2.2.1]
    · unfold roundsTO
      rw [if_pos (by omega)]
      exact R6.st a
  · rw [if_neg c0]
    refine ⟨_, rfl, SS.rf, fun _ => ?_, fun c => absurd rfl c⟩
    unfold roundsTO
    rw [if_pos (Or.inl c0)]
    exact R6.st a
end BEST6
