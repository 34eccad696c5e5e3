/-! the object: its orders -/
section CHG
variable {d : Nat} {h : AH} {g : Gs}
/-- copied to 'before', carried out, recorded -/
theorem chg {mop : MD} {as : List AV} {o : Int × Ms} (hd : 5 ≤ d) (hL : L6 h) (a : G6 h g)
    (hP : ∀ h1, QS h1 2 → ES h1 2 g.1 → AM (d - 1) mop as h1 (fun r h' => r = some o.1 ∧ SS h1 h' ∧ FX h1 h' (inS 2) ∧ ES h' 2 o.2)) :
    AM (d - 1) m_X2_copyFrom [.inr (some 14), .inr (some 2)] h (fun r h1 => r = none ∧ SS h h1 ∧ AM (d - 1) mop as h1 (fun r h2 => ∃ v3, r = some v3 ∧ SS h1 h2 ∧
      AM (d - 1) m_X6_recorded [.inr (some 1), .inl v3] h2 (fun r h4 => ∃ v5, r = some v5 ∧ SW h2 h4 ∧ R6 h (recG o g) (some v5) h4))) := by
  refine am_mono (c_copyState (by omega) hL.q14 hL.q2 (by omega) a.1) (fun r h1 _ _ z => ?_)
  obtain ⟨rfl, s1, f1, e14⟩ := z
  have e2 : ES h1 2 g.1 := a.1.same (fun j g1 g2 => f1 j (fun z => by have := z.1; omega))
  refine ⟨rfl, s1, am_mono (hP h1 (hL.q2.ss s1) e2) (fun r h2 _ _ z => ?_)⟩
  obtain ⟨rfl, s2, f2, e2'⟩ := z
  have f12 : ∀ j, 38 ≤ j ∨ j = 1 → hi h2 j = hi h j := fun j hj => by
    rw [f2 j (fun z => by have := z.1; have := z.2; omega), f1 j (fun z => by have := z.1; have := z.2; omega)]
  have a2 : G6 h2 (o.2, g.2) := a.move (s1.tr s2) f12 e2'
  have e14' : ES h2 14 g.1 := e14.same (fun j g1 g2 => f2 j (fun z => by have := z.2; omega))
  refine ⟨_, rfl, s2, am_mono (c_recorded (by omega) ((hL.ss s1).ss s2) a2 (fun _ => e14')) (fun r h4 _ _ z => ?_)⟩
  obtain ⟨rfl, s4, f4, a4⟩ := z
  refine ⟨_, rfl, s4, rfl, (s1.tr s2).w.tr s4, fun j hj => ?_, a4⟩
  rw [f4 j hj, f2 j (fun z => hj (inS_C z (by omega) (by omega))), f1 j (fun z => hj (inS_C z (by omega) (by omega)))]
theorem k_put {x : Int} (hd : 6 ≤ d) (hL : L6 h) (a : G6 h g) : AM d m_X6_put [.inr (some 1), .inl x] h (R6 h (recG (putO x g.1) g)) :=
  vc_X6_put (by omega) hL.1 (chg (by omega) hL a (fun h1 q e => c_putCard (by omega) q e))
theorem k_take {x : Int} (hd : 6 ≤ d) (hL : L6 h) (a : G6 h g) : AM d m_X6_take [.inr (some 1), .inl x] h (R6 h (recG (takeO x g.1) g)) :=
  vc_X6_take (by omega) hL.1 (chg (by omega) hL a (fun h1 q e => c_takeCard (by omega) q e))
theorem k_sleep {x : Int} (hd : 6 ≤ d) (hL : L6 h) (a : G6 h g) : AM d m_X6_sleep [.inr (some 1), .inl x] h (R6 h (recG (sleepO x g.1) g)) :=
  vc_X6_sleep (by omega) hL.1 (chg (by omega) hL a (fun h1 q e => c_sleepCard (by omega) q e))
theorem k_wakeAll (hd : 6 ≤ d) (hL : L6 h) (a : G6 h g) : AM d m_X6_wakeAll [.inr (some 1)] h (R6 h (recG (wakeO g.1) g)) :=
  vc_X6_wakeAll (by omega) hL.1 (chg (by omega) hL a (fun h1 q e => c_wakeCards (by omega) q e))
theorem k_leave {x y : Int} (hd : 6 ≤ d) (hL : L6 h) (a : G6 h g) : AM d m_X6_leave [.inr (some 1), .inl x, .inl y] h (R6 h (recG (leaveO x y g.1) g)) :=
  vc_X6_leave (by omega) hL.1 (chg (by omega) hL a (fun h1 q e => c_leaveBehind (by omega) q e))
theorem k_set {k v : Int} (hd : 6 ≤ d) (hL : L6 h) (a : G6 h g) : AM d m_X6_set [.inr (some 1), .inl k, .inl v] h (R6 h (recG (setO k v g.1) g)) :=
  vc_X6_set (by omega) hL.1 (chg (by omega) hL a (fun h1 q e => c_setTo q e))
theorem k_shuffle {x : Int} (hd : 6 ≤ d) (hL : L6 h) (a : G6 h g) (hx : x < 2147483648) : AM d m_X6_shuffle [.inr (some 1), .inl x] h (R6 h (recG (shufO x g.1) g)) :=
  vc_X6_shuffle (by omega) hL.1 (chg (by omega) hL a (fun h1 q e => c_shuffleTo q e hx))
theorem k_forget (hd : 6 ≤ d) (hL : L6 h) (a : G6 h g) : AM d m_X6_forget [.inr (some 1)] h (R6 h (recG (forgO g.1) g)) :=
  vc_X6_forget (by omega) hL.1 (chg (by omega) hL a (fun h1 q e => c_forgetTold (by omega) q e))
noncomputable def walkO (skips : Int) (s : Ms) : Int × Ms := (w ((wkS skips s).2.2.2 8 - s.2.2 8), (wkS skips s).2)
theorem k_walk {x : Int} (hd : 15 ≤ d) (hL : L6 h) (a : G6 h g) : AM d m_X6_walk [.inr (some 1), .inl x] h (R6 h (recG (walkO x g.1) g)) :=
  vc_X6_walk (by omega) hL.1 (chg (by omega) hL a (fun h1 q e => am_mono (c_makeWalk (by omega) q e) (fun r h' _ _ z => ⟨z.1, z.2.1, z.2.2.1, z.2.2.2.1⟩)))
end CHG
