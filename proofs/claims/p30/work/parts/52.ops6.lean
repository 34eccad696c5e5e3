/-! frames and rounds of any size; ask; text; undo, keep, restore -/
noncomputable def frameO (x : Int) (s : Ms) : Int × Ms := if 1 ≤ x ∧ x ≤ 64 then (frR x.toNat s, frS x.toNat s) else (-2, s)
noncomputable def roundsO (x : Int) (s : Ms) : Int × Ms := if 1 ≤ x ∧ x ≤ 64 then rdS x 40 x.toNat 0 s else (-2, s)
abbrev isB (len bits : Int) : Prop := 0 ≤ len ∧ len ≤ 8 ∧ 0 ≤ bits ∧ bits < 2 ^ len.toNat
section OPS6
variable {d b : Nat} {h : AH} {g : Gs} {s : Ms}
theorem c_frameX {x : Int} (hd : 4 ≤ d) (hL : QS h b) (a : ES h b s) : AM d m_X2_makeFrame [.inr (some b), .inl x] h (fun r h' => r = some (frameO x s).1 ∧ SS h h' ∧ FX h h' (inS b) ∧ ES h' b (frameO x s).2) := by
  by_cases c : 1 ≤ x ∧ x ≤ 64
  · obtain ⟨m, rfl⟩ := Int.eq_ofNat_of_zero_le (a := x) (by omega)
    unfold frameO
    rw [if_pos c]
    exact c_makeFrame hd hL a (by omega) (by omega)
  · unfold frameO
    rw [if_neg c]
    refine vc_X2_makeFrame (by omega) hL (am_mono c_isFrameSize (fun r h1 _ _ z => ?_))
    obtain ⟨rfl, rfl⟩ := z
    rw [if_neg c]
    exact ⟨_, rfl, SS.rf, fun c2 => absurd rfl c2, fun _ => ⟨rfl, SS.rf, FX.rf, a⟩⟩
theorem c_roundsX {x : Int} (hd : 5 ≤ d) (hL : QS h b) (a : ES h b s) : AM d m_X2_makeRounds [.inr (some b), .inl x] h (fun r h' => r = some (roundsO x s).1 ∧ SS h h' ∧ FX h h' (inS b) ∧ ES h' b (roundsO x s).2) := by
  by_cases c : 1 ≤ x ∧ x ≤ 64
  · obtain ⟨m, rfl⟩ := Int.eq_ofNat_of_zero_le (a := x) (by omega)
    unfold roundsO
    rw [if_pos c]
    exact c_makeRounds hd hL a (by omega) (by omega)
  · unfold roundsO
    rw [if_neg c]
    refine vc_X2_makeRounds (by omega) hL (am_mono c_isFrameSize (fun r h1 _ _ z => ?_))
    obtain ⟨rfl, rfl⟩ := z
    rw [if_neg c]
    exact ⟨_, rfl, SS.rf, fun c2 => absurd rfl c2, fun _ => ⟨rfl, SS.rf, FX.rf, a⟩⟩
theorem k_frame {x : Int} (hd : 6 ≤ d) (hL : L6 h) (a : G6 h g) : AM d m_X6_frame [.inr (some 1), .inl x] h (R6 h (recG (frameO x g.1) g)) :=
  vc_X6_frame (by omega) hL.1 (chg (by omega) hL a (fun h1 q e => c_frameX (by omega) q e))
theorem k_rounds {x : Int} (hd : 6 ≤ d) (hL : L6 h) (a : G6 h g) : AM d m_X6_rounds [.inr (some 1), .inl x] h (R6 h (recG (roundsO x g.1) g)) :=
  vc_X6_rounds (by omega) hL.1 (chg (by omega) hL a (fun h1 q e => c_roundsX (by omega) q e))
noncomputable def askG (len bits : Int) (g : Gs) : Int × Gs := if isB len bits then recG (askR len bits g.1, askS len bits g.1) g else (-2, g)
theorem k_ask {len bits : Int} (hd : 6 ≤ d) (hL : L6 h) (a : G6 h g) : AM d m_X6_ask [.inr (some 1), .inl len, .inl bits] h (R6 h (askG len bits g)) := by
  refine vc_X6_ask (by omega) hL.1 (am_mono c_isBeginning (fun r h1 _ _ z => ?_))
  obtain ⟨rfl, rfl⟩ := z
  by_cases c : isB len bits
  · unfold askG
    rw [if_pos c]
    have c' := c
    unfold isB at c'
    rw [if_pos c']
    exact ⟨_, rfl, SS.rf, fun _ => chg (by omega) hL a (fun h1 q e => am_mono (c_askFor (len := len) (bits := bits) (by omega) q e c'.1 c'.2.1) (fun r h' _ _ z => ⟨z.1, z.2.1, z.2.2.1, z.2.2.2.1⟩)), fun c2 => absurd (by decide) c2⟩
  · unfold askG
    rw [if_neg c]
    have c' := c
    unfold isB at c'
    rw [if_neg c']
    exact ⟨_, rfl, SS.rf, fun c2 => absurd rfl c2, fun _ => ⟨rfl, SS.rf.w, FX.rf, a⟩⟩
theorem inX_C {j : Nat} (h : inX 100 j) : inC j := ⟨by have := h.1; omega, by have := h.2; omega⟩
theorem G6.text {h' : AH} {tx : List Int} (a : G6 h g) (s : SS h h') (f : FX h h' (inX 100)) (t : TXK h' 100 tx) : G6 h' (g.1, g.2.1, g.2.2.1, tx) := by
  have f' : ∀ j, j < 100 → hi h' j = hi h j := fun j hj => f j (fun z => by have := z.1; omega)
  exact ⟨a.1.same (fun j g1 g2 => f' j (by omega)), a.2.1.same s (fun j g1 g2 => f' j (by omega)), a.2.2.1.same (f' 1 (by omega)) (fun j g1 g2 => f' j (by omega)), t⟩
def typeG (x : Int) (g : Gs) : Int × Gs := ((typeO x g.2.2.2).1, g.1, g.2.1, g.2.2.1, (typeO x g.2.2.2).2)
def clearG (g : Gs) : Int × Gs := ((g.2.2.2.length : Int), g.1, g.2.1, g.2.2.1, [])
theorem k_clearText (hd : 2 ≤ d) (hL : L6 h) (a : G6 h g) : AM d m_X6_clearText [.inr (some 1)] h (R6 h (clearG g)) := by
  refine vc_X6_clearText (by omega) hL.1 (am_mono (c_empty hL.qx a.2.2.2) (fun r h1 _ _ z => ?_))
  obtain ⟨rfl, s1, f1, t1⟩ := z
  exact ⟨_, rfl, s1, rfl, s1.w, f1.wk (fun j => inX_C), a.text s1 f1 t1⟩
def undoG (g : Gs) : Int × Gs := ((undoO g.2.1 g.1).1, (undoO g.2.1 g.1).2.1, (undoO g.2.1 g.1).2.2, g.2.2)
theorem k_undo (hd : 4 ≤ d) (hL : L6 h) (a : G6 h g) : AM d m_X6_undo [.inr (some 1)] h (R6 h (undoG g)) := by
  refine vc_X6_undo (by omega) hL.1 (am_mono (c_backTo (by omega) hL.2 hL.q2 a.2.1 a.1) (fun r h1 _ _ z => ?_))
  obtain ⟨rfl, s1, f1, e1, k1⟩ := z
  have f' : ∀ j, ¬ j = 50 → ¬ (2 ≤ j ∧ j < 14) → hi h1 j = hi h j := fun j g1 g2 => f1 j (fun z => by
    rcases z with z | z
    · exact g1 z
    · exact g2 ⟨z.1, by have := z.2; omega⟩)
  exact ⟨_, rfl, s1, rfl, s1.w, f1.wk (fun j z => by
    rcases z with z | z
    · exact ⟨by omega, by omega⟩
    · exact inS_C z (by omega) (by omega)), e1, k1, a.2.2.1.same (f' 1 (by omega) (by omega)) (fun j g1 g2 => f' j (by omega) (by omega)), a.2.2.2.same (f' 100 (by omega) (by omega)) (f' (100 + 1) (by omega) (by omega))⟩
def keepG (g : Gs) : Int × Gs := ((g.1.1.length : Int), g.1, g.2.1, some g.1, g.2.2.2)
theorem k_keep (hd : 4 ≤ d) (hL : L6 h) (a : G6 h g) : AM d m_X6_keep [.inr (some 1)] h (R6 h (keepG g)) := by
  refine vc_X6_keep (by omega) hL.1 (am_mono (c_copyState (by omega) hL.q38 hL.q2 (by omega) a.1) (fun r h1 _ _ z => ?_))
  obtain ⟨rfl, s1, f1, e38⟩ := z
  have f' : ∀ j, ¬ (38 ≤ j ∧ j < 50) → ¬ j = 1 → hi (up h1 1 4 1) j = hi h j := fun j g1 g2 => by
    rw [up_ne g2, f1 j (fun z => g1 ⟨z.1, by have := z.2; omega⟩)]
  have e2 : ES (up h1 1 4 1) 2 g.1 := a.1.same (fun j g1 g2 => f' j (by omega) (by omega))
  refine ⟨rfl, s1, am_mono (c_cards (hL.q2.ss (s1.tr SS.rf.up)).2.2.1) (fun r h2 _ _ z => ?_)⟩
  obtain ⟨rfl, rfl⟩ := z
  refine ⟨_, rfl, SS.rf, congrArg some e2.1.1, (s1.tr SS.rf.up).w, fun j hj => ?_, e2, a.2.1.same (s1.tr SS.rf.up) (fun j g1 g2 => f' j (by omega) (by omega)), ⟨fun z => (by cases z), fun v z => ?_⟩, a.2.2.2.same (f' 100 (by omega) (by omega)) (f' (100 + 1) (by omega) (by omega))⟩
  · exact f' j (fun z => hj ⟨by omega, by omega⟩) (fun z => hj ⟨by omega, by omega⟩)
  · cases z
    exact ⟨by rw [hi_up, if_pos ⟨rfl, rfl⟩], e38.same (fun j g1 g2 => up_ne (by omega))⟩
noncomputable def restG (g : Gs) : Int × Gs := match g.2.2.1 with
  | none => (-5, g)
  | some v => ((v.1.length : Int), v, push g.1 g.2.1, g.2.2)
theorem k_restore (hd : 5 ≤ d) (hL : L6 h) (a : G6 h g) : AM d m_X6_restore [.inr (some 1)] h (R6 h (restG g)) := by
  cases hs : g.2.2.1 with
  | none =>
    have e : restG g = (-5, g) := by unfold restG; rw [hs]
    rw [e]
    have e4 := a.2.2.1.1 hs
    exact vc_X6_restore (by omega) hL.1 ⟨fun c => absurd e4 c, fun _ => ⟨rfl, SS.rf.w, FX.rf, a⟩⟩
  | some v =>
    have e : restG g = ((v.1.length : Int), v, push g.1 g.2.1, g.2.2) := by unfold restG; rw [hs]
    rw [e]
    have e4 := a.2.2.1.2 v hs
    refine vc_X6_restore (by omega) hL.1 ⟨fun _ => am_mono (c_copyState (by omega) hL.q14 hL.q2 (by omega) a.1) (fun r h1 _ _ z => ?_), fun c => absurd (by rw [e4.1]; decide) c⟩
    obtain ⟨rfl, s1, f1, e14⟩ := z
    have e38 : ES h1 38 v := e4.2.same (fun j g1 g2 => f1 j (fun z => by have := z.2; omega))
    refine ⟨rfl, s1, am_mono (c_copyState (by omega) (hL.q2.ss s1) (hL.q38.ss s1) (by omega) e38) (fun r h2 _ _ z => ?_)⟩
    obtain ⟨rfl, s2, f2, e2⟩ := z
    have f12 : ∀ j, 38 ≤ j ∨ j = 1 → hi h2 j = hi h j := fun j hj => by
      rw [f2 j (fun z => by have := z.1; have := z.2; omega), f1 j (fun z => by have := z.1; have := z.2; omega)]
    have a2 : G6 h2 (v, g.2) := a.move (s1.tr s2) f12 e2
    have e14' : ES h2 14 g.1 := e14.same (fun j g1 g2 => f2 j (fun z => by have := z.2; omega))
    have hL2 := (hL.ss s1).ss s2
    refine ⟨rfl, s2, am_mono (c_cards hL2.q2.2.2.1) (fun r h3 _ _ z => ?_)⟩
    obtain ⟨rfl, rfl⟩ := z
    have ec : hi h3 (2 + 1) 6 = (v.1.length : Int) := e2.1.1
    refine ⟨_, rfl, SS.rf, am_mono (c_recorded (by omega) hL2 a2 (fun _ => e14')) (fun r h4 _ _ z => ?_)⟩
    obtain ⟨rfl, s4, f4, a4⟩ := z
    have ec2 : ¬ hi h3 (2 + 1) 6 < 0 := by rw [ec]; omega
    rw [if_neg ec2] at a4
    refine ⟨_, rfl, s4, congrArg some ec, (s1.tr s2).w.tr s4, fun j hj => ?_, a4⟩
    rw [f4 j hj, f2 j (fun z => hj (inS_C z (by omega) (by omega))), f1 j (fun z => hj (inS_C z (by omega) (by omega)))]
end OPS6
