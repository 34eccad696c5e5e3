/-! the object: what rounds would take, the best frame -/
noncomputable def bestL (s : Ms) : Nat → Int → Int → Int → Int → Int
  | 0, b, _, _, _ => b
  | k + 1, b, v, t, m => if b = 0 ∨ v < (frameO m s).1 ∨ ((frameO m s).1 = v ∧ w ((frameO m s).2.2.2 10 - s.2.2 10) < t) then bestL s k m (frameO m s).1 (w ((frameO m s).2.2.2 10 - s.2.2 10)) (m + 1) else bestL s k b v t (m + 1)
section BEST6
variable {d : Nat} {h : AH} {g : Gs}
theorem k_roundsTake {x k : Int} (hd : 7 ≤ d) (hL : L6 h) (a : G6 h g) : AM d m_X6_roundsTake [.inr (some 1), .inl x, .inl k] h (R6 h (roundsTO x k g.1, g)) := by
  refine vc_X6_roundsTake (by omega) hL.1 (am_mono c_isFrameSize (fun r h1 _ _ z => ?_))
  obtain ⟨rfl, rfl⟩ := z
  by_cases c0 : 1 ≤ x ∧ x ≤ 64
  · rw [if_pos c0]
    refine ⟨_, rfl, SS.rf, fun c => absurd c (by decide), fun _ => ⟨fun c => ?_, fun c => ⟨fun c2 => am_mono (c_trial (by omega) hL a) (fun r h3 _ _ z => ?_), fun c2 => ?_⟩⟩⟩
    · unfold roundsTO
      rw [if_pos (by omega)]
      exact R6.st a
    · obtain ⟨rfl, s3, f3, e3⟩ := z
      refine ⟨rfl, s3, am_mono (c_roundsX (x := x) (by omega) (hL.q26.ss s3) e3) (fun r h4 _ _ z => ?_)⟩
      obtain ⟨rfl, s4, f4, e4⟩ := z
      have a4 : G6 h4 g := (a.trial s3 f3).trial s4 f4
      have fin : ∀ v, v = roundsTO x k g.1 → R6 h1 (roundsTO x k g.1, g) (some v) h4 := fun v e => ⟨congrArg some e, (s3.tr s4).w, (f3.tr f4).wk (fun j z => inS_C z (by omega) (by omega)), a4⟩
      have y4 := e4.2.2.1
      have y2 := a4.1.2.2.1
      refine ⟨_, rfl, s4, fun c3 => fin _ ?_, fun c3 => fin _ ?_, fun c3 => fin _ ?_, fun c3 => fin _ ?_, fun c3 => fin _ ?_⟩
      · unfold roundsTO
        rw [if_neg (by omega), if_neg (by omega), if_neg (by omega), if_neg (by omega), if_neg (by omega), ← y4.2.1, ← y2.2.1]
      · unfold roundsTO
        rw [if_neg (by omega), if_pos c3]
      · unfold roundsTO
        rw [if_neg (by omega), if_neg (by omega), if_pos c3, ← y4.2.2.2.2.2.1, ← y2.2.2.2.2.2.1]
      · unfold roundsTO
        rw [if_neg (by omega), if_neg (by omega), if_neg (by omega), if_pos c3, ← y4.2.2.2.1, ← y2.2.2.2.1]
      · unfold roundsTO
        rw [if_neg (by omega), if_neg (by omega), if_neg (by omega), if_neg (by omega), if_pos c3, ← y4.2.2.2.2.1, ← y2.2.2.2.2.1]
    · unfold roundsTO
      rw [if_pos (by omega)]
      exact R6.st a
  · rw [if_neg c0]
    refine ⟨_, rfl, SS.rf, fun _ => ?_, fun c => absurd rfl c⟩
    unfold roundsTO
    rw [if_pos (Or.inl c0)]
    exact R6.st a
theorem c_bestL (hd : 7 ≤ d) : ∀ (k : Nat) (b v t m : Int) (h : AH) (Q : Option Int → AH → Prop), (k : Int) = 65 - m → 1 ≤ m → L6 h → G6 h g →
    (∀ h', SS h h' → FX h h' (inS 26) → Q (some (bestL g.1 k b v t m)) h') →
    AW m_X6_bestFrame d none Q 9 [some (.inr (some 1)), some (.inl b), some (.inl v), some (.inl t), some (.inl m), none, none] [] h (0, 0) := by
  intro k
  induction k with
  | zero =>
    intro b v t m h Q hk hm hL a q
    exact vc_X6_bestFrame_9 (by omega) hL.1 ⟨fun c => q h SS.rf FX.rf, fun c => by omega⟩
  | succ k ih =>
    intro b v t m h Q hk hm hL a q
    refine vc_X6_bestFrame_9 (by omega) hL.1 ⟨fun c => by omega, fun c => am_mono (c_trial (by omega) hL a) (fun r h3 _ _ z => ?_)⟩
    obtain ⟨rfl, s3, f3, e3⟩ := z
    refine ⟨rfl, s3, am_mono (c_frameX (x := m) (by omega) (hL.q26.ss s3) e3) (fun r h4 _ _ z => ?_)⟩
    obtain ⟨rfl, s4, f4, e4⟩ := z
    have a4 : G6 h4 g := (a.trial s3 f3).trial s4 f4
    have hL4 := (hL.ss s3).ss s4
    have y4 : hi h4 36 5 = (frameO m g.1).2.2.2 10 := e4.2.2.1.2.2.2.2.2.1
    have y2 : hi h4 12 5 = g.1.2.2 10 := a4.1.2.2.1.2.2.2.2.2.1
    rw [y4, y2]
    simp only [bestL] at q
    have rm : rg (m + 1) := by unfold rg; omega
    have up1 : (b = 0 ∨ v < (frameO m g.1).1 ∨ ((frameO m g.1).1 = v ∧ w ((frameO m g.1).2.2.2 10 - g.1.2.2 10) < t)) → AW m_X6_bestFrame d none Q 9 [some (.inr (some 1)), some (.inl m), some (.inl (frameO m g.1).1), some (.inl (w ((frameO m g.1).2.2.2 10 - g.1.2.2 10))), some (.inl (m + 1)), none, none] [] h4 (0, 0) := fun cc => by
      rw [if_pos cc] at q
      exact ih _ _ _ (m + 1) h4 Q (by omega) (by omega) hL4 a4 (fun h' s' f' => q h' ((s3.tr s4).tr s') ((f3.tr f4).tr f'))
    have kp : ¬ (b = 0 ∨ v < (frameO m g.1).1 ∨ ((frameO m g.1).1 = v ∧ w ((frameO m g.1).2.2.2 10 - g.1.2.2 10) < t)) → AW m_X6_bestFrame d none Q 9 [some (.inr (some 1)), some (.inl b), some (.inl v), some (.inl t), some (.inl (m + 1)), none, none] [] h4 (0, 0) := fun cc => by
      rw [if_neg cc] at q
      exact ih _ _ _ (m + 1) h4 Q (by omega) (by omega) hL4 a4 (fun h' s' f' => q h' ((s3.tr s4).tr s') ((f3.tr f4).tr f'))
    exact ⟨_, rfl, s4, fun c1 => ⟨rm, up1 (Or.inl c1)⟩, fun c1 => ⟨fun c2 => ⟨rm, up1 (Or.inr (Or.inl c2))⟩, fun c2 => ⟨fun c3 => ⟨rm, kp (fun z => z.elim c1 (fun z => z.elim c2 (fun z => c3 z.1)))⟩, fun c3 => ⟨fun c4 => ⟨rm, kp (fun z => z.elim c1 (fun z => z.elim c2 (fun z => by have := z.2; omega)))⟩, fun c4 => ⟨rm, up1 (Or.inr (Or.inr ⟨Classical.byContradiction c3, by omega⟩))⟩⟩⟩⟩⟩
theorem k_bestFrame (hd : 7 ≤ d) (hL : L6 h) (a : G6 h g) : AM d m_X6_bestFrame [.inr (some 1)] h (fun r h' => r = some (bestL g.1 64 0 0 0 1) ∧ SS h h' ∧ FX h h' (inS 26)) :=
  vc_X6_bestFrame (by omega) hL.1 (c_bestL (g := g) hd 64 0 0 0 1 h _ (by omega) (by omega) hL a (fun h' s f => ⟨rfl, s, f⟩))
end BEST6
