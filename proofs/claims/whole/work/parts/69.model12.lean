/-! the model: cards that go, cards that are told -/
section MODEL13
variable {d : Nat} {h h1 : AH} {s : Ms} {g : Gs}
theorem w_add {a b : Int} : w (w a + b) = w (a + b) := by
  rw [w_eq a, w_eq, w_eq (a + b)]
  omega
theorem app_set {A R : List Cd} {c c' : Cd} {k : Nat} (hk : A.length = k) : (A ++ c :: R).set k c' = A ++ c' :: R := by
  rw [List.set_append_right k c' (by omega), hk, Nat.sub_self]
  rfl
theorem app_er {A R : List Cd} {c : Cd} {k : Nat} (hk : A.length = k) : (A ++ c :: R).eraseIdx k = A ++ R := by
  rw [List.eraseIdx_append_of_length_le (by omega), hk, Nat.sub_self]
  rfl
theorem app_at {A R : List Cd} {c : Cd} {k : Nat} (hk : A.length = k) : (A ++ c :: R)[k]? = some c := by
  rw [List.getElem?_append_right (by omega), hk, Nat.sub_self]
  rfl
theorem z_letGo (hd : 2 ≤ d) (hL : QZ h) (a : EZ h s) : AM d m_X7_letGo [.inr (some 104)] h (fun r h' => r = none ∧ SS h h' ∧ FM h h' s5 ∧ EZ h' (lgS s)) := by
  refine am_ok (fun ho _ => ?_)
  have hl := a.wl.1
  have a0 := a.n
  have lp : ∀ (k : Nat) (R : List Cd) (h1 : AH), k ≤ s.1.length → R = lg (s.1.drop k) → SS h h1 → FM h h1 s5 → EZ h1 (s.1.take k ++ R, s.2.1, su s.2.2 12 (w (s.2.2 12 + ((s.1.length : Int) - k - R.length)))) →
      AW m_X7_letGo d none (fun r h' => r = none ∧ SS h h' ∧ FM h h' s5 ∧ EZ h' (lgS s)) 9 [some (.inr (some 104)), some (.inl ((k : Int) - 1))] [] h1 (0, 0) := by
    intro k
    induction k with
    | zero =>
      intro R h1 hk hR t f e
      refine vc_X7_letGo_9 (by omega) (hL.ss t) ⟨fun _ => ⟨rfl, t, f, ?_⟩, fun c => absurd (by decide) c⟩
      rw [List.drop_zero] at hR
      subst hR
      have e' : EZ h1 (lg s.1, s.2.1, su s.2.2 12 (w (s.2.2 12 + ((s.1.length : Int) - ((0 : Nat) : Int) - (lg s.1).length)))) := e
      have q : (s.1.length : Int) - ((0 : Nat) : Int) - (lg s.1).length = (s.1.length : Int) - (lg s.1).length := by omega
      rw [q] at e'
      exact e'
    | succ k ih =>
      intro R h1 hk hR t f e
      have hlt : k < s.1.length := by omega
      obtain ⟨c0, hc0⟩ := get_ex (l := s.1) (i := k) hlt
      have hdr : s.1.drop k = c0 :: s.1.drop (k + 1) := by
        rw [List.drop_eq_getElem_cons hlt]
        congr 1
        exact Option.some.inj ((List.getElem?_eq_getElem hlt).symm.trans hc0)
      have hA : (s.1.take k).length = k := by rw [List.length_take]; omega
      have ht : s.1.take (k + 1) ++ R = s.1.take k ++ c0 :: R := by rw [tk hc0, List.append_assoc]; rfl
      rw [ht] at e
      have hat : (s.1.take k ++ c0 :: R)[k]? = some c0 := app_at hA
      have c5 := e.cd hat
      have w1 := a.wl.w1 hc0
      have ek : ((k + 1 : Nat) : Int) - 1 = (k : Int) := by omega
      rw [ek]
      have lgc : lg (s.1.drop k) = (match lg1 c0 with | none => R | some y => y :: R) := by
        rw [hdr, hR]
        unfold lg
        rw [List.filterMap_cons]
        cases lg1 c0 <;> rfl
      refine vc_X7_letGo_9 (by omega) (hL.ss t) ⟨fun c => by omega, fun _ => am_mono (z_of (x := (k : Int)) (k := 2) (hL.ss t) (by omega) (by omega) (by omega) (by omega)) (fun r h2 _ _ z => ?_)⟩
      obtain ⟨rfl, rfl⟩ := z
      rw [c5.2.2.1]
      refine ⟨_, rfl, SS.rf, fun c => ⟨by unfold rg; omega, ?_⟩, fun c => ?_⟩
      · have l1 : lg1 c0 = some c0 := by unfold lg1; rw [if_neg (by omega)]
        rw [l1] at lgc
        refine ih (c0 :: R) h2 (by omega) lgc.symm t f ?_
        have q : (s.1.length : Int) - ((k + 1 : Nat) : Int) - R.length = (s.1.length : Int) - (k : Int) - (c0 :: R).length := by rw [List.length_cons]; omega
        rw [q] at e
        exact e
      · refine am_mono (z_of (x := (k : Int)) (k := 2) (hL.ss t) (by omega) (by omega) (by omega) (by omega)) (fun r h3 _ _ z => ?_)
        obtain ⟨rfl, rfl⟩ := z
        rw [c5.2.2.1]
        refine ⟨_, rfl, SS.rf, by unfold rg; have := w1.2.2; omega, am_mono (z_lay (x := (k : Int)) (k := 2) (hL.ss t) (by omega) (by omega) (by omega) (by omega)) (fun r h4 _ _ z => ?_)⟩
        obtain ⟨rfl, rfl⟩ := z
        have e4 : EZ (up h3 105 (13 + 4 * (k : Int) + 2) (c0.2.2.1 - 1)) ((s.1.take k ++ c0 :: R).set k (c0.1, c0.2.1, c0.2.2.1 - 1, c0.2.2.2), s.2.1, su s.2.2 12 (w (s.2.2 12 + ((s.1.length : Int) - ((k + 1 : Nat) : Int) - R.length)))) := e.lay2 hat (by have := w1.2.2; omega)
        rw [app_set hA] at e4
        have hat4 : (s.1.take k ++ (c0.1, c0.2.1, c0.2.2.1 - 1, c0.2.2.2) :: R)[k]? = some (c0.1, c0.2.1, c0.2.2.1 - 1, c0.2.2.2) := app_at hA
        have c54 := e4.cd hat4
        refine ⟨rfl, SS.rf.up, am_mono (z_of (x := (k : Int)) (k := 2) (hL.ss t.up) (by omega) (by omega) (by omega) (by omega)) (fun r h5 _ _ z => ?_)⟩
        obtain ⟨rfl, rfl⟩ := z
        rw [c54.2.2.1]
        refine ⟨_, rfl, SS.rf, fun c2 => ⟨by unfold rg; omega, ?_⟩, fun c2 => ?_⟩
        · have c2' : ¬ c0.2.2.1 - 1 = 0 := c2
          have l1 : lg1 c0 = some (c0.1, c0.2.1, c0.2.2.1 - 1, c0.2.2.2) := by unfold lg1; rw [if_pos (by omega), if_neg (by omega)]
          rw [l1] at lgc
          refine ih _ _ (by omega) lgc.symm t.up (f.up rfl) ?_
          have q : (s.1.length : Int) - ((k + 1 : Nat) : Int) - R.length = (s.1.length : Int) - (k : Int) - ((c0.1, c0.2.1, c0.2.2.1 - 1, c0.2.2.2) :: R).length := by rw [List.length_cons]; omega
          rw [q] at e4
          exact e4
        · have c2' : c0.2.2.1 - 1 = 0 := Classical.byContradiction c2
          have l1 : lg1 c0 = none := by unfold lg1; rw [if_pos (by omega), if_pos (by omega)]
          rw [l1] at lgc
          refine am_mono (z_take (hL.ss t.up) e4 (lt_len hat4)) (fun r h6 _ _ z => ?_)
          obtain ⟨rfl, t6, f6, e6⟩ := z
          rw [app_er hA] at e6
          have s12 : hi h6 105 12 = w (s.2.2 12 + ((s.1.length : Int) - ((k + 1 : Nat) : Int) - R.length)) := (show hi h6 105 12 = su s.2.2 12 (w (s.2.2 12 + ((s.1.length : Int) - ((k + 1 : Nat) : Int) - R.length))) 12 from e6.sc (by omega) (by omega)).trans su_at
          rw [s12, w_add]
          have q : s.2.2 12 + ((s.1.length : Int) - ((k + 1 : Nat) : Int) - R.length) + 1 = s.2.2 12 + ((s.1.length : Int) - (k : Int) - R.length) := by omega
          rw [q]
          refine ⟨rfl, t6, by unfold rg; omega, ih R _ (by omega) lgc.symm (t.up.tr t6).up ((f.up rfl).tr f6 |>.up rfl) ?_⟩
          have e7 := e6.num (k := 12) (v := w (s.2.2 12 + ((s.1.length : Int) - (k : Int) - R.length))) (by omega) (by omega) (e6.ws.su (by omega))
          have ss : su (su s.2.2 12 (w (s.2.2 12 + ((s.1.length : Int) - ((k + 1 : Nat) : Int) - R.length)))) 12 (w (s.2.2 12 + ((s.1.length : Int) - (k : Int) - R.length))) = su s.2.2 12 (w (s.2.2 12 + ((s.1.length : Int) - (k : Int) - R.length))) := by
            funext j
            unfold su
            split <;> rfl
          have e8 : EZ (up h6 105 12 (w (s.2.2 12 + ((s.1.length : Int) - (k : Int) - R.length)))) (s.1.take k ++ R, s.2.1, su (su s.2.2 12 (w (s.2.2 12 + ((s.1.length : Int) - ((k + 1 : Nat) : Int) - R.length)))) 12 (w (s.2.2 12 + ((s.1.length : Int) - (k : Int) - R.length)))) := e7
          rw [ss] at e8
          exact e8
  have r12 : rg (s.2.2 12) := by
    have := ho.1 105 12
    rw [a.sc (by omega) (by omega)] at this
    exact this
  have ez : su s.2.2 12 (w (s.2.2 12 + ((s.1.length : Int) - s.1.length - ([] : List Cd).length))) = s.2.2 := by
    have q : s.2.2 12 + ((s.1.length : Int) - s.1.length - ([] : List Cd).length) = s.2.2 12 := by
      show s.2.2 12 + ((s.1.length : Int) - s.1.length - 0) = s.2.2 12
      omega
    rw [q, w_id r12]
    funext j
    unfold su
    split
    · next z => rw [z]
    · rfl
  have r := lp s.1.length [] h (Nat.le_refl _) (by rw [List.drop_length]; rfl) SS.rf FM.rf (by
    rw [ez, List.take_length, List.append_nil]
    exact a)
  refine vc_X7_letGo (by omega) hL ?_
  rw [a0]
  exact ⟨by unfold rg; omega, r⟩
theorem EZ.tadd {v : Int} (a : EZ h s) (hl : s.2.1.length < 200) : EZ (up (up h 105 (93 + (s.2.1.length : Int)) v) 105 1 ((s.2.1.length : Int) + 1)) (s.1, s.2.1 ++ [v], s.2.2) := by
  have h20 := a.wl.1
  have o : ∀ m, m ≠ 1 → m < 93 → hi (up (up h 105 (93 + (s.2.1.length : Int)) v) 105 1 ((s.2.1.length : Int) + 1)) 105 m = hi h 105 m := fun m hm h9 => by rw [hi_up, if_neg (by omega), hi_up, if_neg (by omega)]
  refine ⟨(o 0 (by omega) (by omega)).trans a.n, ?_, fun j j1 j2 => (o j (by omega) (by omega)).trans (a.sc j1 j2), fun i c hc => (a.cd hc).cong (fun k0 k1 k2 => o _ (by omega) (by have hl2 : i < s.1.length := lt_len hc; omega)), fun i u hu => ?_, a.wl, ?_, a.ws⟩
  · rw [hi_up, if_pos ⟨rfl, rfl⟩]
    show (s.2.1.length : Int) + 1 = ((s.2.1 ++ [v]).length : Int)
    rw [List.length_append]
    rfl
  · have hu' : (s.2.1 ++ [v])[i]? = some u := hu
    rw [hi_up, if_neg (by omega)]
    by_cases q : i < s.2.1.length
    · rw [List.getElem?_append_left q] at hu'
      rw [hi_up, if_neg (by omega)]
      exact a.tl hu'
    · have hi2 := lt_len hu'
      rw [List.length_append] at hi2
      have hi3 : i = s.2.1.length := by
        have : [v].length = 1 := rfl
        omega
      subst hi3
      rw [List.getElem?_append_right (Nat.le_refl _), Nat.sub_self] at hu'
      cases hu'
      rw [hi_up, if_pos ⟨rfl, rfl⟩]
  · show (s.2.1 ++ [v]).length ≤ 200
    rw [List.length_append]
    have : [v].length = 1 := rfl
    omega
theorem z_tellTail {i : Nat} {c0 : Cd} {hq : AH} {tl : List Int} {p : Int} (hd : 2 ≤ d) (hL : QZ hq) (hc0 : s.1[i]? = some c0) (t : SS h hq) (f : FM h hq s5) (a : EZ hq (s.1, tl, s.2.2)) (hl : tl.length < 200) (hp : p = tl.length) :
    AM (d - 1) m_X7_of [(.inr (some 104)), (.inl (i : Int)), (.inl 0)] hq (fun r h3 => 
        ∃ v4, r = some v4 ∧ SS hq h3 ∧
        (0 ≤ 93 + p ∧ 93 + p < 293) ∧
        (rg ((hi (up h3 105 (93 + p) v4) 105 1) + 1)) ∧
        AM (d - 1) m_X7_of [(.inr (some 104)), (.inl (i : Int)), (.inl 3)] (up (up h3 105 (93 + p) v4) 105 1 ((hi (up h3 105 (93 + p) v4) 105 1) + 1)) (fun r h7 => 
          ∃ v8, r = some v8 ∧ SS (up (up h3 105 (93 + p) v4) 105 1 ((hi (up h3 105 (93 + p) v4) 105 1) + 1)) h7 ∧
          AM (d - 1) m_X7_lay [(.inr (some 104)), (.inl (i : Int)), (.inl 3), (.inl (w (v8 + 1)))] h7 (fun r h9 => 
            r = none ∧ SS h7 h9 ∧
            ((¬ hi h9 105 2 = 1 → (
              (none : Option Int) = none ∧ SS h h9 ∧ FM h h9 s5 ∧ EZ h9 (s.1.map (tellC (s.2.2 2) c0.1), tl ++ [c0.1], s.2.2)
            )) ∧
            (¬ (¬ hi h9 105 2 = 1) → (
              AM (d - 1) m_X7_lay [(.inr (some 104)), (.inl (i : Int)), (.inl 1), (.inl 0)] h9 (fun r h11 => 
                r = none ∧ SS h9 h11 ∧
                ((none : Option Int) = none ∧ SS h h11 ∧ FM h h11 s5 ∧ EZ h11 (s.1.map (tellC (s.2.2 2) c0.1), tl ++ [c0.1], s.2.2)))
            )))))) := by
  subst hp
  have h20 := a.wl.1
  have hi20 := lt_len hc0
  have hs20 : s.1.length ≤ 20 := h20
  refine am_mono (z_of (x := (i : Int)) (k := 0) hL (by omega) (by omega) (by omega) (by omega)) (fun r h3 _ _ z => ?_)
  obtain ⟨rfl, rfl⟩ := z
  have hc : (s.1, tl, s.2.2).1[i]? = some c0 := hc0
  rw [(a.cd hc).1]
  have tn : hi h3 105 1 = (tl.length : Int) := a.tn
  have n1 : hi (up h3 105 (93 + (tl.length : Int)) c0.1) 105 1 = (tl.length : Int) := by rw [hi_up, if_neg (by omega)]; exact tn
  have e2 : EZ (up (up h3 105 (93 + (tl.length : Int)) c0.1) 105 1 ((tl.length : Int) + 1)) (s.1, tl ++ [c0.1], s.2.2) := a.tadd (v := c0.1) hl
  refine ⟨_, rfl, SS.rf, ?_⟩
  rw [n1]
  refine ⟨⟨by omega, by omega⟩, by unfold rg; omega, am_mono (z_of (x := (i : Int)) (k := 3) (hL.ss SS.rf.up.up) (by omega) (by omega) (by omega) (by omega)) (fun r h7 _ _ z => ?_)⟩
  obtain ⟨rfl, rfl⟩ := z
  have hc2 : (s.1, tl ++ [c0.1], s.2.2).1[i]? = some c0 := hc0
  rw [(e2.cd hc2).2.2.2]
  refine ⟨_, rfl, SS.rf, am_mono (z_lay (x := (i : Int)) (k := 3) (hL.ss SS.rf.up.up) (by omega) (by omega) (by omega) (by omega)) (fun r h9 _ _ z => ?_)⟩
  obtain ⟨rfl, rfl⟩ := z
  have e3 := e2.lay3 (v := w (c0.2.2.2 + 1)) hc2
  have z2 : hi (up (up (up h3 105 (93 + (tl.length : Int)) c0.1) 105 1 ((tl.length : Int) + 1)) 105 (13 + 4 * (i : Int) + 3) (w (c0.2.2.2 + 1))) 105 2 = s.2.2 2 := e3.sc (by omega) (by omega)
  rw [z2]
  have f3 : FM h (up (up (up h3 105 (93 + (tl.length : Int)) c0.1) 105 1 ((tl.length : Int) + 1)) 105 (13 + 4 * (i : Int) + 3) (w (c0.2.2.2 + 1))) s5 := ((f.up rfl).up rfl).up rfl
  have hm := map_set (l := s.1) a.wl hc0 (s.2.2 2)
  have ws2 := a.ws.1
  refine ⟨rfl, SS.rf.up, fun c => ⟨rfl, t.up.up.up, f3, ?_⟩, fun c => am_mono (z_lay (x := (i : Int)) (k := 1) (hL.ss SS.rf.up.up.up) (by omega) (by omega) (by omega) (by omega)) (fun r h11 _ _ z => ?_)⟩
  · have q0 : s.2.2 2 = 0 := by
      have ws2' : s.2.2 2 = 0 ∨ s.2.2 2 = 1 := ws2
      omega
    rw [q0, if_pos rfl] at hm
    rw [q0, hm]
    exact e3
  · obtain ⟨rfl, rfl⟩ := z
    have q1 : s.2.2 2 = 1 := Classical.byContradiction c
    rw [q1, if_neg (by decide)] at hm
    refine ⟨rfl, SS.rf.up, rfl, t.up.up.up.up, f3.up rfl, ?_⟩
    rw [q1, hm]
    have hc3 : (s.1.set i (c0.1, c0.2.1, c0.2.2.1, w (c0.2.2.2 + 1)))[i]? = some (c0.1, c0.2.1, c0.2.2.1, w (c0.2.2.2 + 1)) := List.getElem?_set_self hi20
    have e4 := e3.lay1 (v := 0) hc3 (Or.inl rfl)
    have ss : (s.1.set i (c0.1, c0.2.1, c0.2.2.1, w (c0.2.2.2 + 1))).set i (c0.1, 0, c0.2.2.1, w (c0.2.2.2 + 1)) = s.1.set i (c0.1, 0, c0.2.2.1, w (c0.2.2.2 + 1)) := List.set_set _
    have e5 : EZ (up (up (up (up h3 105 (93 + (tl.length : Int)) c0.1) 105 1 ((tl.length : Int) + 1)) 105 (13 + 4 * (i : Int) + 3) (w (c0.2.2.2 + 1))) 105 (13 + 4 * (i : Int) + 1) 0) ((s.1.set i (c0.1, c0.2.1, c0.2.2.1, w (c0.2.2.2 + 1))).set i (c0.1, 0, c0.2.2.1, w (c0.2.2.2 + 1)), tl ++ [c0.1], s.2.2) := e4
    rw [ss] at e5
    exact e5
theorem z_tell {i : Nat} {c0 : Cd} (hd : 2 ≤ d) (hL : QZ h) (a : EZ h s) (hc0 : s.1[i]? = some c0) : AM d m_X7_tell [.inr (some 104), .inl (i : Int)] h (fun r h' => r = none ∧ SS h h' ∧ FM h h' s5 ∧ EZ h' (s.1.map (tellC (s.2.2 2) c0.1), tad s.2.1 c0.1, s.2.2)) := by
  have tn := a.tn
  have t200 := a.t200
  have h20 := a.wl.1
  refine vc_X7_tell (by omega) hL ⟨fun c => ⟨by unfold rg; omega, ?_⟩, fun c => ?_⟩
  · have hl : s.2.1.length < 200 := by omega
    have e : tad s.2.1 c0.1 = s.2.1 ++ [c0.1] := by unfold tad; rw [if_neg (by omega)]
    rw [e]
    exact z_tellTail hd hL hc0 SS.rf FM.rf a hl tn
  · have hl : s.2.1.length = 200 := by omega
    have e : tad s.2.1 c0.1 = s.2.1.drop 1 ++ [c0.1] := by unfold tad; rw [if_pos hl]
    rw [e]
    have hdl : (s.2.1.drop 1).length = 199 := by rw [List.length_drop, hl]
    have lp : ∀ (k : Nat) (x2 : Int), (k : Int) = 199 - x2 → 0 ≤ x2 → AW m_X7_tell d none (fun r h' => r = none ∧ SS h h' ∧ FM h h' s5 ∧ EZ h' (s.1.map (tellC (s.2.2 2) c0.1), s.2.1.drop 1 ++ [c0.1], s.2.2)) 14 [some (.inr (some 104)), some (.inl (i : Int)), some (.inl x2)] [] (cpy h 105 105 94 93 x2) (0, 0) := by
      intro k
      induction k with
      | zero =>
        intro x2 hk h2
        have ex : x2 = 199 := by omega
        subst ex
        have z1 : hi (cpy h 105 105 94 93 199) 105 1 = 200 := by rw [hi_cpy, if_neg (by omega), tn, hl]; rfl
        have eq : EZ (up (cpy h 105 105 94 93 199) 105 1 (hi (cpy h 105 105 94 93 199) 105 1 - 1)) (s.1, s.2.1.drop 1, s.2.2) := by
          rw [z1]
          have o : ∀ m, m ≠ 1 → m < 93 → hi (up (cpy h 105 105 94 93 199) 105 1 (200 - 1)) 105 m = hi h 105 m := fun m hm h9 => by rw [hi_up, if_neg (by omega), hi_cpy, if_neg (by omega)]
          refine ⟨(o 0 (by omega) (by omega)).trans a.n, ?_, fun j j1 j2 => (o j (by omega) (by omega)).trans (a.sc j1 j2), fun i c hc => (a.cd hc).cong (fun k0 k1 k2 => o _ (by omega) (by have hl2 : i < s.1.length := lt_len hc; omega)), fun i u hu => ?_, a.wl, ?_, a.ws⟩
          · rw [hi_up, if_pos ⟨rfl, rfl⟩]
            show (200 - 1 : Int) = ((s.2.1.drop 1).length : Int)
            rw [hdl]
            rfl
          · have hu' : (s.2.1.drop 1)[i]? = some u := hu
            have hi2 := lt_len hu'
            rw [List.getElem?_drop] at hu'
            rw [hi_up, if_neg (by omega), hi_cpy, if_pos ⟨rfl, by omega, by omega⟩]
            have := a.tl hu'
            rw [← this]
            congr 1
            omega
          · show (s.2.1.drop 1).length ≤ 200
            omega
        have r := z_tellTail (h := h) (p := hi (cpy h 105 105 94 93 199) 105 1 - 1) hd (hL.ss SS.rf.cpy.up) hc0 SS.rf.cpy.up ((FM.rf.cpy (fun _ => rfl)).up rfl) eq (by omega) (by rw [z1, hdl]; rfl)
        exact vc_X7_tell_14 (by omega) (hL.ss SS.rf.cpy) ⟨fun _ => ⟨by unfold rg; omega, by unfold rg; omega, r⟩, fun c => absurd (by decide) c⟩
      | succ k ih =>
        intro x2 hk h2
        refine vc_X7_tell_14 (by omega) (hL.ss SS.rf.cpy) ⟨fun c => by omega, fun _ => ⟨by unfold rg; omega, by unfold rg; omega, ⟨by omega, by omega⟩, ⟨by omega, by omega⟩, by unfold rg; omega, ?_⟩⟩
        have e1 : 93 + x2 + 1 = 94 + x2 := by omega
        rw [e1, cpy_t (by omega) h2]
        exact ih (x2 + 1) (by omega) (by omega)
    have r := lp 199 0 (by omega) (by omega)
    rw [cpy_0] at r
    exact r
end MODEL13
