/-! the orders: what they answer, the state behind them -/
def cat (l : List Cd) (i : Nat) : Cd := l.getD i (0, 0, 0, 0)
theorem cat_eq {l : List Cd} {i : Nat} {c : Cd} (h : l[i]? = some c) : cat l i = c := by
  unfold cat
  rw [List.getD_eq_getElem?_getD, h]
  rfl
def putO (x : Int) (s : Ms) : Int × Ms := if x < 0 ∨ 255 < x then (-2, s) else match ix s.1 x with
  | some _ => (-4, s)
  | none => if 20 ≤ s.1.length then (-3, s) else ((s.1.length : Int) + 1, (ins x s.1, s.2))
def takeO (x : Int) (s : Ms) : Int × Ms := match ix s.1 x with
  | none => (-1, s)
  | some i => ((s.1.length : Int) - 1, (s.1.eraseIdx i, s.2))
def slp (l : List Cd) (i : Nat) : List Cd := l.set i ((cat l i).1, 0, (cat l i).2.2)
def sleepO (x : Int) (s : Ms) : Int × Ms := match ix s.1 x with
  | none => (-1, s)
  | some i => if (cat s.1 i).2.1 = 0 then (-5, s) else ((nAw (slp s.1 i) : Int), (slp s.1 i, s.2))
def wakeO (s : Ms) : Int × Ms := if (s.1.length : Int) - nAw s.1 = 0 then (-5, s) else ((s.1.length : Int) - nAw s.1, (s.1.map wake, s.2))
def leaveO (x a : Int) (s : Ms) : Int × Ms := match ix s.1 x with
  | none => (-1, s)
  | some i => if a < 0 ∨ 200 < a then (-2, s) else if (cat s.1 i).2.2.1 = a then (-5, s) else ((cat s.1 i).2.2.1, (s.1.set i ((cat s.1 i).1, (cat s.1 i).2.1, a, (cat s.1 i).2.2.2), s.2))
def setO (k v : Int) (s : Ms) : Int × Ms := if k < 0 ∨ 1 < k then (-1, s) else if v < 0 ∨ 1 + k < v then (-2, s) else if s.2.2 (2 + k) = v then (-5, s) else (s.2.2 (2 + k), (s.1, s.2.1, su s.2.2 (2 + k) v))
def shufO (x : Int) (s : Ms) : Int × Ms := if x < 0 then (-2, s) else if s.2.2 4 = x then (-5, s) else (s.2.2 4, (s.1, s.2.1, su s.2.2 4 x))
def forgO (s : Ms) : Int × Ms := if s.2.1.length = 0 then (-5, s) else ((s.2.1.length : Int), (s.1, [], s.2.2))
section OPS
variable {d b : Nat} {h : AH} {s : Ms}
theorem ES_P {h' : AH} {l : List Cd} (a : ES h b s) (x : FX h h' (inP (b + 1))) (p1 : PK h' (b + 1) l) : ES h' b (l, s.2) := by
  obtain ⟨aP, aT, aY, a2, a3, a4, aW⟩ := a
  exact ⟨p1, aT.same (fun j h1 h2 => x j (fun z => by have := z.2; omega)), aY.same (x _ (fun z => by have := z.2; omega)), by rw [x _ (fun z => by have := z.2; omega)]; exact a2, by rw [x _ (fun z => by have := z.2; omega)]; exact a3, by rw [x _ (fun z => by have := z.1; omega)]; exact a4, aW⟩
theorem ES_T {h' : AH} {tl : List Int} (a : ES h b s) (x : FX h h' (inT (b + 8))) (p1 : TK h' (b + 8) tl) : ES h' b (s.1, tl, s.2.2) := by
  obtain ⟨aP, aT, aY, a2, a3, a4, aW⟩ := a
  exact ⟨aP.same (fun j h1 h2 => x j (fun z => by have := z.1; omega)), p1, aY.same (x _ (fun z => by have := z.2; omega)), by rw [x _ (fun z => by have := z.2; omega)]; exact a2, by rw [x _ (fun z => by have := z.2; omega)]; exact a3, by rw [x _ (fun z => by have := z.1; omega)]; exact a4, aW⟩
theorem inT_S {j : Nat} (h : inT (b + 8) j) : inS b j := ⟨by have := h.1; omega, by have := h.2; omega⟩
theorem c_putCard {x : Int} (hd : 2 ≤ d) (hL : QS h b) (a : ES h b s) : AM d m_X2_putCard [.inr (some b), .inl x] h (fun r h' => r = some (putO x s).1 ∧ SS h h' ∧ FX h h' (inS b) ∧ ES h' b (putO x s).2) := by
  have aP := a.1
  refine vc_X2_putCard (by omega) hL ⟨fun c => ?_, fun c => ⟨fun c2 => am_mono (c_placeOf hL.2.2.1 aP) (fun r h' _ _ q => ?_), fun c2 => ?_⟩⟩
  · have e : putO x s = (-2, s) := by unfold putO; rw [if_pos (by omega)]
    rw [e]
    exact ⟨rfl, SS.rf, FX.rf, a⟩
  · obtain ⟨rfl, rfl⟩ := q
    refine ⟨_, rfl, SS.rf, fun c3 => ?_, fun c3 => ?_⟩
    · cases hi' : ix s.1 x with
      | some i =>
        rw [hi'] at c3
        have c3' : (i : Int) = -1 := c3
        omega
      | none =>
        refine am_mono (c_cards hL.2.2.1) (fun r h'' _ _ q => ?_)
        obtain ⟨rfl, rfl⟩ := q
        refine ⟨_, rfl, SS.rf, fun c4 => ?_, fun c4 => ?_⟩
        · rw [aP.1] at c4
          have e : putO x s = ((s.1.length : Int) + 1, (ins x s.1, s.2)) := by unfold putO; rw [if_neg (by omega), hi']; simp only; rw [if_neg (by omega)]
          rw [e]
          refine am_mono (c_insert (by omega) hL.2.2.1 aP (by omega) ⟨by omega, c2⟩ hi') (fun r h1 _ _ q => ?_)
          obtain ⟨rfl, s1, x1, p1⟩ := q
          refine ⟨rfl, s1, am_mono (c_cards (hL.2.2.1.ss s1)) (fun r h2 _ _ q => ?_)⟩
          obtain ⟨rfl, rfl⟩ := q
          refine ⟨_, rfl, SS.rf, ?_, s1, x1.wk (fun j q => inP_S q), ES_P a x1 p1⟩
          rw [p1.1, ins_len]
          rfl
        · rw [aP.1] at c4
          have e : putO x s = (-3, s) := by unfold putO; rw [if_neg (by omega), hi']; simp only; rw [if_pos (by omega)]
          rw [e]
          exact ⟨rfl, SS.rf, FX.rf, a⟩
    · cases hi' : ix s.1 x with
      | none => rw [hi'] at c3; exact absurd rfl c3
      | some i =>
        have e : putO x s = (-4, s) := by unfold putO; rw [if_neg (by omega), hi']
        rw [e]
        exact ⟨rfl, SS.rf, FX.rf, a⟩
  · have e : putO x s = (-2, s) := by unfold putO; rw [if_pos (by omega)]
    rw [e]
    exact ⟨rfl, SS.rf, FX.rf, a⟩
theorem c_takeCard {x : Int} (hd : 2 ≤ d) (hL : QS h b) (a : ES h b s) : AM d m_X2_takeCard [.inr (some b), .inl x] h (fun r h' => r = some (takeO x s).1 ∧ SS h h' ∧ FX h h' (inS b) ∧ ES h' b (takeO x s).2) := by
  have aP := a.1
  refine vc_X2_takeCard (by omega) hL (am_mono (c_placeOf hL.2.2.1 aP) (fun r h' _ _ q => ?_))
  obtain ⟨rfl, rfl⟩ := q
  refine ⟨_, rfl, SS.rf, fun c3 => ?_, fun c3 => ?_⟩
  · cases hi' : ix s.1 x with
    | none => rw [hi'] at c3; exact absurd rfl c3
    | some i =>
      obtain ⟨c, hc, -⟩ := (ix_some aP.2.2).mp hi'
      have e : takeO x s = ((s.1.length : Int) - 1, (s.1.eraseIdx i, s.2)) := by unfold takeO; rw [hi']
      rw [e]
      refine am_mono (c_removeAt (by omega) hL.2.2.1 aP hc) (fun r h1 _ _ q => ?_)
      obtain ⟨rfl, s1, x1, p1⟩ := q
      refine ⟨rfl, s1, am_mono (c_cards (hL.2.2.1.ss s1)) (fun r h2 _ _ q => ?_)⟩
      obtain ⟨rfl, rfl⟩ := q
      refine ⟨_, rfl, SS.rf, ?_, s1, x1.wk (fun j q => inP_S q), ES_P a x1 p1⟩
      have := lt_len hc
      rw [p1.1, List.length_eraseIdx_of_lt this]
      congr 1
      show ((s.1.length - 1 : Nat) : Int) = (s.1.length : Int) - 1
      omega
  · cases hi' : ix s.1 x with
    | some i =>
      rw [hi'] at c3
      have c3' : ¬ ¬ (i : Int) = -1 := c3
      omega
    | none =>
      have e : takeO x s = (-1, s) := by unfold takeO; rw [hi']
      rw [e]
      exact ⟨rfl, SS.rf, FX.rf, a⟩
theorem c_sleepCard {x : Int} (hd : 3 ≤ d) (hL : QS h b) (a : ES h b s) : AM d m_X2_sleepCard [.inr (some b), .inl x] h (fun r h' => r = some (sleepO x s).1 ∧ SS h h' ∧ FX h h' (inS b) ∧ ES h' b (sleepO x s).2) := by
  have aP := a.1
  refine vc_X2_sleepCard (by omega) hL (am_mono (c_placeOf hL.2.2.1 aP) (fun r h' _ _ q => ?_))
  obtain ⟨rfl, rfl⟩ := q
  refine ⟨_, rfl, SS.rf, fun c3 => ?_, fun c3 => ?_⟩
  · cases hi' : ix s.1 x with
    | none => rw [hi'] at c3; exact absurd rfl c3
    | some i =>
      obtain ⟨c, hc, -⟩ := (ix_some aP.2.2).mp hi'
      have hcat := cat_eq hc
      refine am_mono (c_isAwake (by omega) hL.2.2.1 aP hc) (fun r h1 _ _ q => ?_)
      obtain ⟨rfl, rfl⟩ := q
      refine ⟨_, rfl, SS.rf, fun c4 => ?_, fun c4 => ?_⟩
      · have e : sleepO x s = ((nAw (slp s.1 i) : Int), (slp s.1 i, s.2)) := by unfold sleepO; rw [hi']; simp only; rw [hcat, if_neg c4]
        rw [e]
        refine am_mono (c_sleepAt (by omega) hL.2.2.1 aP hc) (fun r h2 _ _ q => ?_)
        obtain ⟨rfl, rfl⟩ := q
        have p2 : PK (up h1 (b + 1 + 5) i 0) (b + 1) (slp s.1 i) := by
          unfold slp
          rw [hcat]
          have hA := aP.2.1 i c hc
          have hwc := aP.2.2.w1 hc
          refine ⟨by rw [hi_up, if_neg (by omega), List.length_set]; exact aP.1, set_CP aP.2.1 (lt_len hc) ⟨?_, ?_, ?_, ?_⟩ (fun k e hk he' => ⟨?_, ?_, ?_, ?_⟩), aP.2.2.set hc rfl ⟨hwc.1, Or.inl rfl, hwc.2.2⟩⟩
          · rw [hi_up, if_neg (by omega)]; exact hA.1
          · rw [hi_up, if_pos ⟨rfl, rfl⟩]
          · rw [hi_up, if_neg (by omega)]; exact hA.2.2.1
          · rw [hi_up, if_neg (by omega)]; exact hA.2.2.2
          · rw [hi_up, if_neg (by omega)]; exact he'.1
          · rw [hi_up, if_neg (by omega)]; exact he'.2.1
          · rw [hi_up, if_neg (by omega)]; exact he'.2.2.1
          · rw [hi_up, if_neg (by omega)]; exact he'.2.2.2
        have x2 : FX h1 (up h1 (b + 1 + 5) i 0) (inP (b + 1)) := FX.rf.up ⟨by omega, by omega⟩
        refine ⟨rfl, SS.rf.up, am_mono (c_awakeCards (by omega) (hL.2.2.1.ss SS.rf.up) p2) (fun r h3 _ _ q => ?_)⟩
        obtain ⟨rfl, rfl⟩ := q
        exact ⟨_, rfl, SS.rf, rfl, SS.rf.up, x2.wk (fun j q => inP_S q), ES_P a x2 p2⟩
      · have e : sleepO x s = (-5, s) := by unfold sleepO; rw [hi']; simp only; rw [hcat, if_pos (Classical.byContradiction c4)]
        rw [e]
        exact ⟨rfl, SS.rf, FX.rf, a⟩
  · cases hi' : ix s.1 x with
    | some i =>
      rw [hi'] at c3
      have c3' : ¬ ¬ (i : Int) = -1 := c3
      omega
    | none =>
      have e : sleepO x s = (-1, s) := by unfold sleepO; rw [hi']
      rw [e]
      exact ⟨rfl, SS.rf, FX.rf, a⟩
theorem c_wakeCards (hd : 3 ≤ d) (hL : QS h b) (a : ES h b s) : AM d m_X2_wakeCards [.inr (some b)] h (fun r h' => r = some (wakeO s).1 ∧ SS h h' ∧ FX h h' (inS b) ∧ ES h' b (wakeO s).2) := by
  have aP := a.1
  have h20 := aP.2.2.1
  have hn : nAw s.1 ≤ s.1.length := List.length_filter_le ..
  refine vc_X2_wakeCards (by omega) hL (am_mono (c_cards hL.2.2.1) (fun r h' _ _ q => ?_))
  obtain ⟨rfl, rfl⟩ := q
  refine ⟨_, rfl, SS.rf, am_mono (c_awakeCards (by omega) hL.2.2.1 aP) (fun r h1 _ _ q => ?_)⟩
  obtain ⟨rfl, rfl⟩ := q
  rw [aP.1]
  refine ⟨_, rfl, SS.rf, ⟨by omega, by omega⟩, fun c => ?_, fun c => ?_⟩
  · have e : wakeO s = ((s.1.length : Int) - nAw s.1, (s.1.map wake, s.2)) := by unfold wakeO; rw [if_neg c]
    rw [e]
    refine am_mono (c_wakeEach hL.2.2.1 aP) (fun r h2 _ _ q => ?_)
    obtain ⟨rfl, s1, x1, p1⟩ := q
    exact ⟨rfl, s1, rfl, s1, x1.wk (fun j q => inP_S q), ES_P a x1 p1⟩
  · have e : wakeO s = (-5, s) := by unfold wakeO; rw [if_pos (Classical.byContradiction c)]
    rw [e]
    exact ⟨rfl, SS.rf, FX.rf, a⟩
theorem c_leaveBehind {x y : Int} (hd : 2 ≤ d) (hL : QS h b) (a : ES h b s) : AM d m_X2_leaveBehind [.inr (some b), .inl x, .inl y] h (fun r h' => r = some (leaveO x y s).1 ∧ SS h h' ∧ FX h h' (inS b) ∧ ES h' b (leaveO x y s).2) := by
  have aP := a.1
  refine vc_X2_leaveBehind (by omega) hL (am_mono (c_placeOf hL.2.2.1 aP) (fun r h' _ _ q => ?_))
  obtain ⟨rfl, rfl⟩ := q
  refine ⟨_, rfl, SS.rf, fun c3 => ?_, fun c3 => ?_⟩
  · cases hi' : ix s.1 x with
    | none => rw [hi'] at c3; exact absurd rfl c3
    | some i =>
      obtain ⟨c, hc, -⟩ := (ix_some aP.2.2).mp hi'
      have hcat := cat_eq hc
      have e0 : y < 0 ∨ 200 < y → leaveO x y s = (-2, s) := fun q => by unfold leaveO; rw [hi']; simp only; rw [if_pos q]
      refine ⟨fun c4 => ?_, fun c4 => ⟨fun c5 => ?_, fun c5 => ?_⟩⟩
      · rw [e0 (by omega)]
        exact ⟨rfl, SS.rf, FX.rf, a⟩
      · refine am_mono (c_asksToGo (by omega) hL.2.2.1 aP hc) (fun r h1 _ _ q => ?_)
        obtain ⟨rfl, rfl⟩ := q
        refine ⟨_, rfl, SS.rf, fun c6 => ?_, fun c6 => ?_⟩
        · have e : leaveO x y s = (c.2.2.1, (s.1.set i (c.1, c.2.1, y, c.2.2.2), s.2)) := by unfold leaveO; rw [hi']; simp only; rw [hcat, if_neg (by omega), if_neg c6]
          rw [e]
          refine am_mono (c_leaveAt (by omega) hL.2.2.1 aP hc) (fun r h2 _ _ q => ?_)
          obtain ⟨rfl, rfl⟩ := q
          have p2 : PK (up h1 (b + 1 + 2) i y) (b + 1) (s.1.set i (c.1, c.2.1, y, c.2.2.2)) := by
            have hA := aP.2.1 i c hc
            have hwc := aP.2.2.w1 hc
            refine ⟨by rw [hi_up, if_neg (by omega), List.length_set]; exact aP.1, set_CP aP.2.1 (lt_len hc) ⟨?_, ?_, ?_, ?_⟩ (fun k e hk he' => ⟨?_, ?_, ?_, ?_⟩), aP.2.2.set hc rfl ⟨hwc.1, hwc.2.1, by show 0 ≤ y; omega, c5⟩⟩
            · rw [hi_up, if_neg (by omega)]; exact hA.1
            · rw [hi_up, if_neg (by omega)]; exact hA.2.1
            · rw [hi_up, if_pos ⟨rfl, rfl⟩]
            · rw [hi_up, if_neg (by omega)]; exact hA.2.2.2
            · rw [hi_up, if_neg (by omega)]; exact he'.1
            · rw [hi_up, if_neg (by omega)]; exact he'.2.1
            · rw [hi_up, if_neg (by omega)]; exact he'.2.2.1
            · rw [hi_up, if_neg (by omega)]; exact he'.2.2.2
          have x2 : FX h1 (up h1 (b + 1 + 2) i y) (inP (b + 1)) := FX.rf.up ⟨by omega, by omega⟩
          exact ⟨rfl, SS.rf.up, rfl, SS.rf.up, x2.wk (fun j q => inP_S q), ES_P a x2 p2⟩
        · have e : leaveO x y s = (-5, s) := by unfold leaveO; rw [hi']; simp only; rw [hcat, if_neg (by omega), if_pos (Classical.byContradiction c6)]
          rw [e]
          exact ⟨rfl, SS.rf, FX.rf, a⟩
      · rw [e0 (by omega)]
        exact ⟨rfl, SS.rf, FX.rf, a⟩
  · cases hi' : ix s.1 x with
    | some i =>
      rw [hi'] at c3
      have c3' : ¬ ¬ (i : Int) = -1 := c3
      omega
    | none =>
      have e : leaveO x y s = (-1, s) := by unfold leaveO; rw [hi']
      rw [e]
      exact ⟨rfl, SS.rf, FX.rf, a⟩
theorem c_setTo {k v : Int} (hL : QS h b) (a : ES h b s) : AM d m_X2_setTo [.inr (some b), .inl k, .inl v] h (fun r h' => r = some (setO k v s).1 ∧ SS h h' ∧ FX h h' (inS b) ∧ ES h' b (setO k v s).2) := by
  obtain ⟨aP, aT, aY, a2, a3, a4, aW⟩ := id a
  have e1 : k < 0 ∨ 1 < k → setO k v s = (-1, s) := fun q => by unfold setO; rw [if_pos q]
  have e2 : ¬ (k < 0 ∨ 1 < k) → v < 0 ∨ 1 + k < v → setO k v s = (-2, s) := fun q q2 => by unfold setO; rw [if_neg q, if_pos q2]
  have e3 : ¬ (k < 0 ∨ 1 < k) → ¬ (v < 0 ∨ 1 + k < v) → s.2.2 (2 + k) = v → setO k v s = (-5, s) := fun q q2 q3 => by unfold setO; rw [if_neg q, if_neg q2, if_pos q3]
  have e4 : ¬ (k < 0 ∨ 1 < k) → ¬ (v < 0 ∨ 1 + k < v) → ¬ s.2.2 (2 + k) = v → setO k v s = (s.2.2 (2 + k), (s.1, s.2.1, su s.2.2 (2 + k) v)) := fun q q2 q3 => by unfold setO; rw [if_neg q, if_neg q2, if_neg q3]
  have hk : k = 0 ∨ k = 1 → hi h (b + 11) k = s.2.2 (2 + k) := by
    rintro (rfl | rfl)
    · exact a2
    · exact a3
  have chg : k = 0 ∨ k = 1 → 0 ≤ v ∧ v ≤ 1 + k → ES (up h (b + 11) k v) b (s.1, s.2.1, su s.2.2 (2 + k) v) := by
    intro hk0 hv
    have o : ∀ j, j ≠ b + 11 → hi (up h (b + 11) k v) j = hi h j := fun j hj => up_ne hj
    refine ⟨aP.same (fun j h1 h2 => o j (by omega)), aT.same (fun j h1 h2 => o j (by omega)), ?_, ?_, ?_, ?_, ?_⟩
    · have := aY.same (h' := up h (b + 11) k v) (o _ (by omega))
      unfold YK at this ⊢
      simp only [su]
      rw [if_neg (by omega), if_neg (by omega), if_neg (by omega), if_neg (by omega), if_neg (by omega), if_neg (by omega), if_neg (by omega), if_neg (by omega)]
      exact this
    · rw [hi_up]
      rcases hk0 with rfl | rfl
      · rw [if_pos ⟨rfl, rfl⟩]; rfl
      · rw [if_neg (by omega)]; exact a2
    · rw [hi_up]
      rcases hk0 with rfl | rfl
      · rw [if_neg (by omega)]; exact a3
      · rw [if_pos ⟨rfl, rfl⟩]; rfl
    · rw [o _ (by omega)]
      show _ = su s.2.2 (2 + k) v 4
      rw [su_ne (by omega)]
      exact a4
    · unfold WS
      simp only [su]
      obtain ⟨w1, w2, w3⟩ := aW
      rcases hk0 with rfl | rfl
      · rw [if_pos (by omega), if_neg (by omega), if_neg (by omega)]
        exact ⟨by omega, w2, w3⟩
      · rw [if_neg (by omega), if_pos (by omega), if_neg (by omega)]
        exact ⟨w1, by omega, w3⟩
  have fin : k = 0 ∨ k = 1 → 0 ≤ v ∧ v ≤ 1 + k → (¬ hi h (b + 11) k = v → (some (hi h (b + 11) k) = some (setO k v s).1 ∧ SS h (up h (b + 11) k v) ∧ FX h (up h (b + 11) k v) (inS b) ∧ ES (up h (b + 11) k v) b (setO k v s).2)) ∧ (¬ ¬ hi h (b + 11) k = v → (some (-5) = some (setO k v s).1 ∧ SS h h ∧ FX h h (inS b) ∧ ES h b (setO k v s).2)) := by
    intro hk0 hv
    rw [hk hk0]
    refine ⟨fun c => ?_, fun c => ?_⟩
    · rw [e4 (by omega) (by omega) c]
      exact ⟨rfl, SS.rf.up, FX.rf.up ⟨by omega, by omega⟩, chg hk0 hv⟩
    · rw [e3 (by omega) (by omega) (Classical.byContradiction c)]
      exact ⟨rfl, SS.rf, FX.rf, a⟩
  have n1 : k < 0 ∨ 1 < k → some (-1) = some (setO k v s).1 ∧ SS h h ∧ FX h h (inS b) ∧ ES h b (setO k v s).2 := fun q => by rw [e1 q]; exact ⟨rfl, SS.rf, FX.rf, a⟩
  have n2 : ¬ (k < 0 ∨ 1 < k) → v < 0 ∨ 1 + k < v → some (-2) = some (setO k v s).1 ∧ SS h h ∧ FX h h (inS b) ∧ ES h b (setO k v s).2 := fun q q2 => by rw [e2 q q2]; exact ⟨rfl, SS.rf, FX.rf, a⟩
  exact vc_X2_setTo hL ⟨fun c => n1 (by omega), fun c => ⟨fun c2 => ⟨fun c3 => ⟨fun c4 => n2 (by omega) (by omega), fun c4 => ⟨fun c5 => ⟨by omega, fin (by omega) (by omega)⟩, fun c5 => n2 (by omega) (by omega)⟩⟩, fun c3 => ⟨fun c4 => n2 (by omega) (by omega), fun c4 => ⟨fun c5 => ⟨by omega, fin (by omega) (by omega)⟩, fun c5 => n2 (by omega) (by omega)⟩⟩⟩, fun c2 => n1 (by omega)⟩⟩
theorem c_shuffleTo {x : Int} (hL : QS h b) (a : ES h b s) (hx : x < 2147483648) : AM d m_X2_shuffleTo [.inr (some b), .inl x] h (fun r h' => r = some (shufO x s).1 ∧ SS h h' ∧ FX h h' (inS b) ∧ ES h' b (shufO x s).2) := by
  obtain ⟨aP, aT, aY, a2, a3, a4, aW⟩ := id a
  refine vc_X2_shuffleTo hL ⟨fun c => ⟨fun c2 => ?_, fun c2 => ?_⟩, fun c => ?_⟩
  · rw [a4] at c2
    have e : shufO x s = (s.2.2 4, (s.1, s.2.1, su s.2.2 4 x)) := by unfold shufO; rw [if_neg (by omega), if_neg c2]
    rw [e, a4]
    refine ⟨rfl, SS.rf.up, FX.rf.up ⟨by omega, by omega⟩, aP.same (fun j h1 h2 => up_ne (by omega)), aT.same (fun j h1 h2 => up_ne (by omega)), ?_, ?_, ?_, ?_, ?_⟩
    · have := aY.same (h' := up h b 4 x) (up_ne (by omega))
      unfold YK at this ⊢
      simp only [su]
      rw [if_neg (by omega), if_neg (by omega), if_neg (by omega), if_neg (by omega), if_neg (by omega), if_neg (by omega), if_neg (by omega), if_neg (by omega)]
      exact this
    · rw [up_ne (by omega)]
      show _ = su s.2.2 4 x 2
      rw [su_ne (by decide)]
      exact a2
    · rw [up_ne (by omega)]
      show _ = su s.2.2 4 x 3
      rw [su_ne (by decide)]
      exact a3
    · rw [hi_up, if_pos ⟨rfl, rfl⟩]
      rfl
    · unfold WS
      have e2 : su s.2.2 4 x 2 = s.2.2 2 := rfl
      have e3 : su s.2.2 4 x 3 = s.2.2 3 := rfl
      have e4 : su s.2.2 4 x 4 = x := rfl
      show (su s.2.2 4 x 2 = 0 ∨ su s.2.2 4 x 2 = 1) ∧ (su s.2.2 4 x 3 = 0 ∨ su s.2.2 4 x 3 = 1 ∨ su s.2.2 4 x 3 = 2) ∧ 0 ≤ su s.2.2 4 x 4 ∧ su s.2.2 4 x 4 < 2147483648
      rw [e2, e3, e4]
      exact ⟨aW.1, aW.2.1, c, hx⟩
  · rw [a4] at c2
    have e : shufO x s = (-5, s) := by unfold shufO; rw [if_neg (by omega), if_pos (Classical.byContradiction c2)]
    rw [e]
    exact ⟨rfl, SS.rf, FX.rf, a⟩
  · have e : shufO x s = (-2, s) := by unfold shufO; rw [if_pos (by omega)]
    rw [e]
    exact ⟨rfl, SS.rf, FX.rf, a⟩
theorem c_forgetTold (hd : 1 ≤ d) (hL : QS h b) (a : ES h b s) : AM d m_X2_forgetTold [.inr (some b)] h (fun r h' => r = some (forgO s).1 ∧ SS h h' ∧ FX h h' (inS b) ∧ ES h' b (forgO s).2) := by
  have aT := a.2.1
  refine vc_X2_forgetTold hd hL (am_mono (c_names hL.2.2.2.2.1 aT) (fun r h' _ _ q => ?_))
  obtain ⟨rfl, rfl⟩ := q
  refine ⟨_, rfl, SS.rf, fun c => ?_, fun c => ?_⟩
  · have e : forgO s = ((s.2.1.length : Int), (s.1, [], s.2.2)) := by unfold forgO; rw [if_neg (by omega)]
    rw [e]
    refine am_mono (c_toldEmpty hL.2.2.2.2.1) (fun r h1 _ _ q => ?_)
    obtain ⟨rfl, s1, x1, p1⟩ := q
    exact ⟨rfl, s1, rfl, s1, x1.wk (fun j q => inT_S q), ES_T a x1 p1⟩
  · have e : forgO s = (-5, s) := by unfold forgO; rw [if_pos (by omega)]
    rw [e]
    exact ⟨rfl, SS.rf, FX.rf, a⟩
end OPS
