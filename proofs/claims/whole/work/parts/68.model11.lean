/-! the model: its changes of cards and numbers -/
def whyO (x : Int) (l : List Cd) : Int := if x < 0 ∨ 255 < x then -2 else match ix l x with
  | some _ => -4
  | none => if l.length = 20 then -3 else 0
section MODEL12
variable {d : Nat} {h : AH} {s : Ms} {g : Gs}
theorem EZ.num {k v : Int} (a : EZ h s) (k1 : 2 ≤ k) (k2 : k ≤ 12) (hw : WS (su s.2.2 k v)) : EZ (up h 105 k v) (s.1, s.2.1, su s.2.2 k v) := by
  have h20 := a.wl.1
  have o : ∀ m, m ≠ k → hi (up h 105 k v) 105 m = hi h 105 m := fun m hm => by rw [hi_up, if_neg (fun z => hm z.2)]
  refine ⟨(o 0 (by omega)).trans a.n, (o 1 (by omega)).trans a.tn, fun j j1 j2 => ?_, fun i c hc => ?_, fun i u hu => (o _ (by omega)).trans (a.tl hu), a.wl, a.t200, hw⟩
  · by_cases q : j = k
    · rw [q, hi_up, if_pos ⟨rfl, rfl⟩]
      exact su_at.symm
    · rw [o j q, a.sc j1 j2]
      exact (su_ne q).symm
  · exact (a.cd hc).cong (fun k0 k1 k2 => o _ (by have := lt_len hc; omega))
theorem z_why {x : Int} (hd : 4 ≤ d) (hL : QZ h) (a : EZ h s) : AM d m_X7_whyNotPut [.inr (some 104), .inl x] h (fun r h' => r = some (whyO x s.1) ∧ h' = h) := by
  have a0 := a.n
  refine vc_X7_whyNotPut (by omega) hL (am_mono z_in (fun r h1 _ _ z => ?_))
  obtain ⟨rfl, rfl⟩ := z
  unfold whyO
  by_cases c : 0 ≤ x ∧ x ≤ 255
  · rw [if_pos c, if_neg (show ¬ (x < 0 ∨ 255 < x) by omega)]
    refine ⟨_, rfl, SS.rf, fun _ => am_mono (z_with (by omega) hL a) (fun r h2 _ _ z => ?_), fun c2 => absurd (by decide) c2⟩
    obtain ⟨rfl, rfl⟩ := z
    refine ⟨_, rfl, SS.rf, ?_⟩
    cases hq : ix s.1 x with
    | none => exact ⟨fun _ => ⟨fun c3 => ⟨by rw [if_neg (by omega)], rfl⟩, fun c3 => ⟨by rw [if_pos (by omega)], rfl⟩⟩, fun c3 => absurd rfl c3⟩
    | some i => exact ⟨fun c3 => absurd c3 (show ¬ (i : Int) = -5 by omega), fun _ => ⟨rfl, rfl⟩⟩
  · rw [if_neg c, if_pos (show x < 0 ∨ 255 < x by omega)]
    exact ⟨_, rfl, SS.rf, fun c2 => absurd rfl c2, fun _ => ⟨rfl, rfl⟩⟩
theorem putO_no {x : Int} (hl : s.1.length ≤ 20) (c : whyO x s.1 < 0) : putO x s = (whyO x s.1, s) := by
  unfold whyO at *
  unfold putO
  by_cases q : x < 0 ∨ 255 < x
  · rw [if_pos q, if_pos q]
  · rw [if_neg q] at c ⊢
    rw [if_neg q]
    cases hq : ix s.1 x with
    | some i => rfl
    | none =>
      rw [hq] at c
      by_cases q2 : s.1.length = 20
      · show (if 20 ≤ s.1.length then ((-3 : Int), s) else _) = ((if s.1.length = 20 then (-3 : Int) else 0), s)
        rw [if_pos q2, if_pos (by omega)]
      · have c' : (if s.1.length = 20 then (-3 : Int) else 0) < 0 := c
        rw [if_neg q2] at c'
        omega
theorem putO_go {x : Int} (hl : s.1.length ≤ 20) (c : 0 ≤ whyO x s.1) : (0 ≤ x ∧ x ≤ 255) ∧ ix s.1 x = none ∧ s.1.length < 20 ∧ putO x s = ((s.1.length : Int) + 1, (ins x s.1, s.2)) := by
  unfold whyO at c
  unfold putO
  by_cases q : x < 0 ∨ 255 < x
  · rw [if_pos q] at c
    exact absurd c (by decide)
  · rw [if_neg q] at c
    rw [if_neg q]
    cases hq : ix s.1 x with
    | some i =>
      rw [hq] at c
      exact absurd (show (0 : Int) ≤ -4 from c) (by decide)
    | none =>
      rw [hq] at c
      have c' : 0 ≤ (if s.1.length = 20 then (-3 : Int) else 0) := c
      by_cases q2 : s.1.length = 20
      · rw [if_pos q2] at c'
        exact absurd c' (by decide)
      · refine ⟨by omega, rfl, by omega, ?_⟩
        show (if 20 ≤ s.1.length then ((-3 : Int), s) else ((s.1.length : Int) + 1, (ins x s.1, s.2))) = _
        rw [if_neg (by omega)]
theorem y_put {x : Int} (hd : 5 ≤ d) (hL : QZ h) (a : G7 h g) : AM d m_X7_put [.inr (some 104), .inl x] h (R7 h (recG (putO x g.1) g)) := by
  have hl := a.1.wl.1
  refine vc_X7_put (by omega) hL (am_mono (z_why (by omega) hL a.1) (fun r h1 _ _ z => ?_))
  obtain ⟨rfl, rfl⟩ := z
  refine ⟨_, rfl, SS.rf, fun c => am_mono (z_rec (by omega) hL a) (fun r h2 _ _ z => ?_), fun c => ?_⟩
  · obtain ⟨rfl, t1, f1, a1⟩ := z
    obtain ⟨hx, hn, h20, e⟩ := putO_go hl c
    rw [e]
    refine ⟨rfl, t1, am_mono (z_putNow (by omega) (hL.ss t1) a1.1 hx (ix_none.mp hn) h20) (fun r h3 _ _ z => ?_)⟩
    obtain ⟨rfl, t2, f2, e2⟩ := z
    have ev : hi h3 105 0 = (g.1.1.length : Int) + 1 := by
      have q : hi h3 105 0 = ((ins x g.1.1).length : Int) := e2.n
      rw [q, ins_len]
      rfl
    rw [ev]
    exact ⟨rfl, t2, R7.now t1 f1 a1 t2 (f2.wk (fun _ _ => s5_P)) e2 (by omega)⟩
  · rw [putO_no hl (by omega)]
    exact R7.no a (by omega)
theorem y_take {x : Int} (hd : 4 ≤ d) (hL : QZ h) (a : G7 h g) : AM d m_X7_take [.inr (some 104), .inl x] h (R7 h (recG (takeO x g.1) g)) := by
  refine vc_X7_take (by omega) hL (am_mono (z_with (by omega) hL a.1) (fun r h1 _ _ z => ?_))
  obtain ⟨rfl, rfl⟩ := z
  refine ⟨_, rfl, SS.rf, ?_⟩
  unfold takeO
  cases hq : ix g.1.1 x with
  | none => exact ⟨fun c => absurd rfl c, fun _ => R7.no a (by decide)⟩
  | some i =>
    obtain ⟨c0, hc0, e0⟩ := (ix_some a.1.wl).mp hq
    have hl := lt_len hc0
    refine ⟨fun _ => am_mono (z_rec (by omega) hL a) (fun r h2 _ _ z => ?_), fun c => absurd (show ¬ (i : Int) = -5 by omega) c⟩
    obtain ⟨rfl, t1, f1, a1⟩ := z
    refine ⟨rfl, t1, am_mono (z_take (hL.ss t1) a1.1 hl) (fun r h3 _ _ z => ?_)⟩
    obtain ⟨rfl, t2, f2, e2⟩ := z
    have ev : hi h3 105 0 = (g.1.1.length : Int) - 1 := by
      have q : hi h3 105 0 = ((g.1.1.eraseIdx i).length : Int) := e2.n
      rw [q, List.length_eraseIdx_of_lt hl]
      omega
    rw [ev]
    exact ⟨rfl, t2, R7.now t1 f1 a1 t2 (f2.wk (fun _ _ => s5_P)) e2 (by omega)⟩
theorem y_sleep {x : Int} (hd : 4 ≤ d) (hL : QZ h) (a : G7 h g) : AM d m_X7_sleep [.inr (some 104), .inl x] h (R7 h (recG (sleepO x g.1) g)) := by
  have hl20 := a.1.wl.1
  refine vc_X7_sleep (by omega) hL (am_mono (z_with (by omega) hL a.1) (fun r h1 _ _ z => ?_))
  obtain ⟨rfl, rfl⟩ := z
  refine ⟨_, rfl, SS.rf, ?_⟩
  cases hq : ix g.1.1 x with
  | none =>
    have e : sleepO x g.1 = (-1, g.1) := by
      unfold sleepO
      rw [hq]
    rw [e]
    exact ⟨fun _ => R7.no a (by decide), fun c => absurd rfl c⟩
  | some i =>
    obtain ⟨c0, hc0, e0⟩ := (ix_some a.1.wl).mp hq
    have hl := lt_len hc0
    have c5 := a.1.cd hc0
    have e : sleepO x g.1 = if c0.2.1 = 0 then (-5, g.1) else ((nAw (g.1.1.set i (c0.1, 0, c0.2.2)) : Int), (g.1.1.set i (c0.1, 0, c0.2.2), g.1.2)) := by
      unfold sleepO slp
      rw [hq]
      simp only [cat_eq hc0]
    rw [e]
    refine ⟨fun c => absurd c (show ¬ (i : Int) = -5 by omega), fun _ => am_mono (z_of (x := (i : Int)) (k := 1) hL (by omega) (by omega) (by omega) (by omega)) (fun r h2 _ _ z => ?_)⟩
    obtain ⟨rfl, rfl⟩ := z
    rw [c5.2.1]
    refine ⟨_, rfl, SS.rf, fun c => am_mono (z_rec (by omega) hL a) (fun r h3 _ _ z => ?_), fun c => ?_⟩
    · obtain ⟨rfl, t1, f1, a1⟩ := z
      rw [if_neg c]
      refine ⟨rfl, t1, am_mono (z_lay (x := (i : Int)) (k := 1) (hL.ss t1) (by omega) (by omega) (by omega) (by omega)) (fun r h4 _ _ z => ?_)⟩
      obtain ⟨rfl, rfl⟩ := z
      have e2 : EZ (up h3 105 (13 + 4 * (i : Int) + 1) 0) (g.1.1.set i (c0.1, 0, c0.2.2), g.1.2) := a1.1.lay1 hc0 (Or.inl rfl)
      refine ⟨rfl, SS.rf.up, am_mono (z_awake (by omega) (hL.ss t1.up) e2) (fun r h5 _ _ z => ?_)⟩
      obtain ⟨rfl, rfl⟩ := z
      exact ⟨_, rfl, SS.rf, R7.now t1 f1 a1 SS.rf.up (FM.rf.up (Or.inl rfl)) e2 (Int.natCast_nonneg _)⟩
    · have c' : c0.2.1 = 0 := Classical.byContradiction c
      rw [if_pos c']
      exact R7.no a (by decide)
theorem y_wakeAll (hd : 4 ≤ d) (hL : QZ h) (a : G7 h g) : AM d m_X7_wakeAll [.inr (some 104)] h (R7 h (recG (wakeO g.1) g)) := by
  have hl20 := a.1.wl.1
  have hn : nAw g.1.1 ≤ g.1.1.length := nAw_le
  refine vc_X7_wakeAll (by omega) hL (am_mono (z_awake (by omega) hL a.1) (fun r h1 _ _ z => ?_))
  obtain ⟨rfl, rfl⟩ := z
  have a0 := a.1.n
  rw [a0]
  unfold wakeO
  refine ⟨_, rfl, SS.rf, by unfold rg; omega, fun c => am_mono (z_rec (by omega) hL a) (fun r h3 _ _ z => ?_), fun c => ?_⟩
  · obtain ⟨rfl, t1, f1, a1⟩ := z
    rw [if_neg c]
    refine ⟨rfl, t1, am_mono (z_wakeNow (by omega) (hL.ss t1) a1.1) (fun r h4 _ _ z => ?_)⟩
    obtain ⟨rfl, t2, f2, e2⟩ := z
    exact ⟨rfl, t2, R7.now t1 f1 a1 t2 (f2.wk (fun _ _ => s5_P)) e2 (by omega)⟩
  · rw [if_pos (Classical.byContradiction c)]
    exact R7.no a (by decide)
theorem y_leave {x y : Int} (hd : 4 ≤ d) (hL : QZ h) (a : G7 h g) : AM d m_X7_leave [.inr (some 104), .inl x, .inl y] h (R7 h (recG (leaveO x y g.1) g)) := by
  have hl20 := a.1.wl.1
  refine vc_X7_leave (by omega) hL (am_mono (z_with (by omega) hL a.1) (fun r h1 _ _ z => ?_))
  obtain ⟨rfl, rfl⟩ := z
  refine ⟨_, rfl, SS.rf, ?_⟩
  cases hq : ix g.1.1 x with
  | none =>
    have e : leaveO x y g.1 = (-1, g.1) := by
      unfold leaveO
      rw [hq]
    rw [e]
    exact ⟨fun c => absurd rfl c, fun _ => R7.no a (by decide)⟩
  | some i =>
    obtain ⟨c0, hc0, e0⟩ := (ix_some a.1.wl).mp hq
    have hl := lt_len hc0
    have c5 := a.1.cd hc0
    have wl := (a.1.wl.w1 hc0).2.2
    have e : leaveO x y g.1 = if y < 0 ∨ 200 < y then (-2, g.1) else if c0.2.2.1 = y then (-5, g.1) else (c0.2.2.1, (g.1.1.set i (c0.1, c0.2.1, y, c0.2.2.2), g.1.2)) := by
      unfold leaveO
      rw [hq]
      simp only [cat_eq hc0]
    rw [e]
    refine ⟨fun _ => am_mono z_in (fun r h2 _ _ z => ?_), fun c => absurd (show ¬ (i : Int) = -5 by omega) c⟩
    obtain ⟨rfl, rfl⟩ := z
    by_cases cy : 0 ≤ y ∧ y ≤ 200
    · rw [if_pos cy, if_neg (show ¬ (y < 0 ∨ 200 < y) by omega)]
      refine ⟨_, rfl, SS.rf, fun _ => am_mono (z_of (x := (i : Int)) (k := 2) hL (by omega) (by omega) (by omega) (by omega)) (fun r h3 _ _ z => ?_), fun c => absurd (by decide) c⟩
      obtain ⟨rfl, rfl⟩ := z
      rw [c5.2.2.1]
      refine ⟨_, rfl, SS.rf, fun c => am_mono (z_rec (by omega) hL a) (fun r h4 _ _ z => ?_), fun c => ?_⟩
      · obtain ⟨rfl, t1, f1, a1⟩ := z
        rw [if_neg c]
        refine ⟨rfl, t1, am_mono (z_lay (x := (i : Int)) (k := 2) (hL.ss t1) (by omega) (by omega) (by omega) (by omega)) (fun r h5 _ _ z => ?_)⟩
        obtain ⟨rfl, rfl⟩ := z
        exact ⟨rfl, SS.rf.up, R7.now t1 f1 a1 SS.rf.up (FM.rf.up (Or.inl rfl)) (a1.1.lay2 hc0 cy) wl.1⟩
      · rw [if_pos (Classical.byContradiction c)]
        exact R7.no a (by decide)
    · rw [if_neg cy, if_pos (show y < 0 ∨ 200 < y by omega)]
      exact ⟨_, rfl, SS.rf, fun c => absurd rfl c, fun _ => R7.no a (by decide)⟩
theorem y_set {k v : Int} (hd : 4 ≤ d) (hL : QZ h) (a : G7 h g) : AM d m_X7_set [.inr (some 104), .inl k, .inl v] h (R7 h (recG (setO k v g.1) g)) := by
  have hw := a.1.ws
  refine vc_X7_set (by omega) hL (am_mono z_in (fun r h1 _ _ z => ?_))
  obtain ⟨rfl, rfl⟩ := z
  unfold setO
  by_cases ck : 0 ≤ k ∧ k ≤ 1
  · rw [if_pos ck, if_neg (show ¬ (k < 0 ∨ 1 < k) by omega)]
    refine ⟨_, rfl, SS.rf, fun _ => ⟨by unfold rg; omega, am_mono z_in (fun r h2 _ _ z => ?_)⟩, fun c => absurd (by decide) c⟩
    obtain ⟨rfl, rfl⟩ := z
    by_cases cv : 0 ≤ v ∧ v ≤ 1 + k
    · rw [if_pos cv, if_neg (show ¬ (v < 0 ∨ 1 + k < v) by omega)]
      have es : hi h2 105 (2 + k) = g.1.2.2 (2 + k) := a.1.sc (by omega) (by omega)
      rw [es]
      have w0 : 0 ≤ g.1.2.2 (2 + k) := by
        rcases (show k = 0 ∨ k = 1 by omega) with q | q
        · rw [q]
          have := hw.1
          show 0 ≤ g.1.2.2 2
          omega
        · rw [q]
          have := hw.2.1
          show 0 ≤ g.1.2.2 3
          omega
      have w1 : WS (su g.1.2.2 (2 + k) v) := by
        unfold WS at *
        rcases (show k = 0 ∨ k = 1 by omega) with q | q
        · subst q
          have e1 : su g.1.2.2 (2 + 0) v 2 = v := su_at
          rw [e1, su_ne (by decide), su_ne (by decide)]
          exact ⟨by omega, hw.2⟩
        · subst q
          have e1 : su g.1.2.2 (2 + 1) v 3 = v := su_at
          rw [e1, su_ne (by decide), su_ne (by decide)]
          exact ⟨hw.1, by omega, hw.2.2⟩
      refine ⟨_, rfl, SS.rf, fun _ => ⟨by unfold rg; omega, ⟨by omega, by omega⟩, fun c => am_mono (z_rec (by omega) hL a) (fun r h4 _ _ z => ?_), fun c => ?_⟩, fun c => absurd (by decide) c⟩
      · obtain ⟨rfl, t1, f1, a1⟩ := z
        rw [if_neg c]
        exact ⟨rfl, t1, R7.now t1 f1 a1 SS.rf.up (FM.rf.up (Or.inl rfl)) (a1.1.num (by omega) (by omega) w1) w0⟩
      · rw [if_pos (Classical.byContradiction c)]
        exact R7.no a (by decide)
    · rw [if_neg cv, if_pos (show v < 0 ∨ 1 + k < v by omega)]
      exact ⟨_, rfl, SS.rf, fun c => absurd rfl c, fun _ => R7.no a (by decide)⟩
  · rw [if_neg ck, if_pos (show k < 0 ∨ 1 < k by omega)]
    exact ⟨_, rfl, SS.rf, fun c => absurd rfl c, fun _ => R7.no a (by decide)⟩
theorem y_shuffle {x : Int} (hd : 4 ≤ d) (hL : QZ h) (a : G7 h g) (hx : x < 2147483648) : AM d m_X7_shuffle [.inr (some 104), .inl x] h (R7 h (recG (shufO x g.1) g)) := by
  have hw := a.1.ws
  have es : hi h 105 4 = g.1.2.2 4 := a.1.sc (by omega) (by omega)
  refine vc_X7_shuffle (by omega) hL ?_
  rw [es]
  unfold shufO
  refine ⟨fun c => ⟨fun c2 => am_mono (z_rec (by omega) hL a) (fun r h4 _ _ z => ?_), fun c2 => ?_⟩, fun c => ?_⟩
  · obtain ⟨rfl, t1, f1, a1⟩ := z
    rw [if_neg (show ¬ x < 0 by omega), if_neg c2]
    refine ⟨rfl, t1, R7.now t1 f1 a1 SS.rf.up (FM.rf.up (Or.inl rfl)) (a1.1.num (by omega) (by omega) ?_) hw.2.2.1⟩
    unfold WS at *
    have e1 : su g.1.2.2 4 x 4 = x := su_at
    show (su g.1.2.2 4 x 2 = 0 ∨ su g.1.2.2 4 x 2 = 1) ∧ (su g.1.2.2 4 x 3 = 0 ∨ su g.1.2.2 4 x 3 = 1 ∨ su g.1.2.2 4 x 3 = 2) ∧ 0 ≤ su g.1.2.2 4 x 4 ∧ su g.1.2.2 4 x 4 < 2147483648
    rw [e1, su_ne (by decide), su_ne (by decide)]
    exact ⟨hw.1, hw.2.1, c, hx⟩
  · rw [if_neg (show ¬ x < 0 by omega), if_pos (Classical.byContradiction c2)]
    exact R7.no a (by decide)
  · rw [if_pos (show x < 0 by omega)]
    exact R7.no a (by decide)
theorem EZ.noTold (a : EZ h s) : EZ (up h 105 1 0) (s.1, [], s.2.2) := by
  have h20 := a.wl.1
  have o : ∀ m, m ≠ 1 → hi (up h 105 1 0) 105 m = hi h 105 m := fun m hm => by rw [hi_up, if_neg (fun z => hm z.2)]
  refine ⟨(o 0 (by omega)).trans a.n, by rw [hi_up, if_pos ⟨rfl, rfl⟩]; rfl, fun j j1 j2 => (o j (by omega)).trans (a.sc j1 j2), fun i c hc => (a.cd hc).cong (fun k0 k1 k2 => o _ (by omega)), fun i u hu => (by simp at hu), a.wl, by show 0 ≤ 200; decide, a.ws⟩
theorem y_forget (hd : 4 ≤ d) (hL : QZ h) (a : G7 h g) : AM d m_X7_forget [.inr (some 104)] h (R7 h (recG (forgO g.1) g)) := by
  have es : hi h 105 1 = (g.1.2.1.length : Int) := a.1.tn
  refine vc_X7_forget (by omega) hL ?_
  rw [es]
  unfold forgO
  refine ⟨fun c => am_mono (z_rec (by omega) hL a) (fun r h4 _ _ z => ?_), fun c => ?_⟩
  · obtain ⟨rfl, t1, f1, a1⟩ := z
    rw [if_neg (show ¬ g.1.2.1.length = 0 by omega)]
    exact ⟨rfl, t1, R7.now t1 f1 a1 SS.rf.up (FM.rf.up (Or.inl rfl)) a1.1.noTold (Int.natCast_nonneg _)⟩
  · rw [if_pos (show g.1.2.1.length = 0 by omega)]
    exact R7.no a (by decide)
end MODEL12
