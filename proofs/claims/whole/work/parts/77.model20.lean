/-! the model: orders carried out -/
def sX (j : Nat) (m : Int) : Prop := j = 105 ∨ j = 106 ∨ (j = 104 ∧ 8 ≤ m) ∨ 110 ≤ j
def sC (j : Nat) (m : Int) : Prop := j = 105 ∨ (j = 104 ∧ 8 ≤ m ∧ m ≤ 13) ∨ j = 110 ∨ j = 111 ∨ j = 112
theorem sP_X {j : Nat} {m : Int} (q : sP j m) : sX j m := by unfold sP at q; unfold sX; omega
theorem sX_Z {j : Nat} {m : Int} (q : sX j m) : inZ j := by unfold sX at q; show 104 ≤ j; omega
theorem sC_X {j : Nat} {m : Int} (q : sC j m) : sX j m := by unfold sC at q; unfold sX; omega
theorem sW_C {j : Nat} {m : Int} (q : sW j m) : sC j m := by unfold sW at q; unfold sC; omega
theorem sF_C {j : Nat} {m : Int} (q : sF j m) : sC j m := by unfold sF at q; unfold sC; omega
theorem s5_C {j : Nat} {m : Int} (q : s5 j m) : sC j m := Or.inl q
def whyK (k n : Int) (l : List Cd) : Int := if k = 43 then whyO n l else if k = 45 ∨ k = 122 then (match ix l n with | none => -1 | some _ => 0) else 0
theorem set_same {l : List Cd} {i : Nat} {c : Cd} (hc : l[i]? = some c) : l.set i c = l := by
  apply List.ext_getElem?
  intro j
  rw [List.getElem?_set]
  by_cases q : i = j
  · subst q
    rw [if_pos rfl, if_pos (lt_len hc), hc]
  · rw [if_neg q]
theorem wake_same {l : List Cd} (h : nAw l = l.length) : l.map wake = l := by
  have h1 := List.length_filter_eq_length_iff.mp h
  apply List.ext_getElem?
  intro j
  rw [List.getElem?_map]
  cases hj : l[j]? with
  | none => rfl
  | some c =>
    have h2 := h1 c (List.mem_of_getElem? hj)
    rw [decide_eq_true_eq] at h2
    show some (c.1, 1, c.2.2) = some c
    rw [← h2]
/-- what an order answers, by what stands against it -/
theorem carO_ans {k n : Int} {s : Ms} (hl : s.1.length ≤ 20) (hok : okO (k, n)) : (0 ≤ whyK k n s.1 → 0 ≤ (carO k n s).1 ∨ (carO k n s).1 = -5) ∧ (whyK k n s.1 < 0 → (carO k n s).1 = whyK k n s.1 ∧ ¬ (0 ≤ (carO k n s).1 ∨ (carO k n s).1 = -5)) := by
  unfold whyK carO
  by_cases c1 : k = 43
  · rw [if_pos c1, if_pos c1]
    refine ⟨fun c => ?_, fun c => ?_⟩
    · rw [(putO_go hl c).2.2.2]
      exact Or.inl (by show 0 ≤ (s.1.length : Int) + 1; omega)
    · rw [putO_no hl c]
      refine ⟨rfl, ?_⟩
      show ¬ (0 ≤ whyO n s.1 ∨ whyO n s.1 = -5)
      unfold whyO at *
      by_cases q : n < 0 ∨ 255 < n
      · rw [if_pos q]; decide
      · rw [if_neg q]
        cases hix : ix s.1 n with
        | some i => exact (by decide : ¬ ((0 : Int) ≤ -4 ∨ (-4 : Int) = -5))
        | none =>
          by_cases q2 : s.1.length = 20
          · show ¬ (0 ≤ (if s.1.length = 20 then (-3 : Int) else 0) ∨ (if s.1.length = 20 then (-3 : Int) else 0) = -5)
            rw [if_pos q2]
            decide
          · exfalso
            rw [if_neg q, hix] at c
            have c' : (if s.1.length = 20 then (-3 : Int) else 0) < 0 := c
            rw [if_neg q2] at c'
            omega
  · rw [if_neg c1, if_neg c1]
    by_cases c2 : k = 45
    · rw [if_pos (Or.inl c2), if_pos c2]
      unfold takeO
      cases hx : ix s.1 n with
      | none => exact ⟨fun c => absurd c (by decide), fun _ => ⟨rfl, (by decide : ¬ ((0 : Int) ≤ -1 ∨ (-1 : Int) = -5))⟩⟩
      | some i =>
        have h1 : i < s.1.length := (List.findIdx?_eq_some_iff_getElem.mp hx).1
        exact ⟨fun _ => Or.inl (by show 0 ≤ (s.1.length : Int) - 1; omega), fun c => absurd (show (0 : Int) < 0 from c) (by decide)⟩
    · rw [if_neg c2]
      by_cases c3 : k = 122
      · rw [if_pos (Or.inr c3), if_pos c3]
        unfold sleepO
        cases hx : ix s.1 n with
        | none => exact ⟨fun c => absurd c (by decide), fun _ => ⟨rfl, (by decide : ¬ ((0 : Int) ≤ -1 ∨ (-1 : Int) = -5))⟩⟩
        | some i =>
          refine ⟨fun _ => ?_, fun c => absurd (show (0 : Int) < 0 from c) (by decide)⟩
          show 0 ≤ (if (cat s.1 i).2.1 = 0 then ((-5 : Int), s) else ((nAw (slp s.1 i) : Int), (slp s.1 i, s.2))).1 ∨ (if (cat s.1 i).2.1 = 0 then ((-5 : Int), s) else ((nAw (slp s.1 i) : Int), (slp s.1 i, s.2))).1 = -5
          split
          · exact Or.inr rfl
          · exact Or.inl (Int.natCast_nonneg _)
      · rw [if_neg (by omega), if_neg c3]
        refine ⟨fun _ => ?_, fun c => absurd c (by decide)⟩
        by_cases c4 : k = 102
        · rw [if_pos c4]
          have h64 := hok.2.2.1 c4
          unfold frameO
          rw [if_pos h64]
          exact Or.inl (frR_0 (by have := h64.2; omega))
        · rw [if_neg c4]
          by_cases c5 : k = 97
          · rw [if_pos c5]
            unfold wakeO
            have hn : nAw s.1 ≤ s.1.length := nAw_le
            split
            · exact Or.inr rfl
            · exact Or.inl (by show 0 ≤ (s.1.length : Int) - nAw s.1; omega)
          · rw [if_neg c5]
            split
            · exact Or.inl walkO_0
            · exact Or.inl walkO_0
theorem app_len {os : List Od} {o : Option Od} (h : os.length ≤ 30) : (app os o).length ≤ 30 := by
  cases o with
  | none => exact h
  | some o =>
    show (if os.length < 30 then os ++ [o] else os).length ≤ 30
    split
    · rw [List.length_append]
      have : [o].length = 1 := rfl
      omega
    · exact h
theorem allP_len {tx : List Int} : ∀ (k : Nat) (p : Int) (os : List Od), os.length ≤ 30 → (allP tx k p os).2.length ≤ 30 := by
  intro k
  induction k with
  | zero => intro p os h; exact h
  | succ k ih =>
    intro p os h
    simp only [allP]
    split
    · split
      · exact app_len h
      · split
        · exact ih _ _ (app_len h)
        · exact app_len h
    · exact app_len h
section MODEL21
variable {d : Nat} {h : AH} {s : Ms} {g : Gs}
theorem z_whyNot {k n : Int} (hd : 5 ≤ d) (hL : QZ h) (a : EZ h s) : AM d m_X7_whyNot [.inr (some 104), .inl k, .inl n] h (fun r h' => r = some (whyK k n s.1) ∧ h' = h) := by
  have fin : whyK k n s.1 = (match ix s.1 n with | none => -1 | some _ => 0) → AM (d - 1) m_X7_cardWith [(.inr (some 104)), (.inl n)] h (fun r h3 => 
          ∃ v4, r = some v4 ∧ SS h h3 ∧
          ((¬ v4 = -5 → (
            some 0 = some (whyK k n s.1) ∧ h3 = h
          )) ∧
          (¬ (¬ v4 = -5) → (
            some (-1) = some (whyK k n s.1) ∧ h3 = h
          )))) := by
    intro e
    refine am_mono (z_with (by omega) hL a) (fun r h1 _ _ z => ?_)
    obtain ⟨rfl, rfl⟩ := z
    rw [e]
    refine ⟨_, rfl, SS.rf, ?_⟩
    cases hx : ix s.1 n with
    | none => exact ⟨fun c => absurd rfl c, fun _ => ⟨rfl, rfl⟩⟩
    | some i => exact ⟨fun _ => ⟨rfl, rfl⟩, fun c => absurd (show ¬ (i : Int) = -5 by omega) c⟩
  refine vc_X7_whyNot (by omega) hL ⟨fun c => ⟨fun c2 => fin ?_, fun c2 => ⟨fun c3 => ⟨?_, rfl⟩, fun c3 => fin ?_⟩⟩, fun c => am_mono (z_why (by omega) hL a) (fun r h1 _ _ z => ?_)⟩
  · unfold whyK
    rw [if_neg c, if_pos (Or.inl c2)]
  · unfold whyK
    rw [if_neg c, if_neg (by omega)]
  · unfold whyK
    rw [if_neg c, if_pos (Or.inr (Classical.byContradiction c3))]
  · obtain ⟨rfl, rfl⟩ := z
    refine ⟨_, rfl, SS.rf, ?_, rfl⟩
    unfold whyK
    rw [if_pos (Classical.byContradiction c)]
theorem z_carryOut {k n : Int} (hd : 8 ≤ d) (hL : QZ h) (a : EZ h s) (hok : okO (k, n)) (hw : 0 ≤ whyK k n s.1) : AM d m_X7_carryOut [.inr (some 104), .inl k, .inl n] h (fun r h' => r = none ∧ SS h h' ∧ FM h h' sC ∧ EZ h' (carO k n s).2) := by
  have hl := a.wl.1
  refine vc_X7_carryOut (by omega) hL ⟨fun c => ?_, fun c => ?_, fun c => ?_, fun c => ?_, fun c => ?_, fun c => ?_⟩
  · have e : carO k n s = putO n s := by unfold carO; rw [if_pos c]
    have w2 : whyK k n s.1 = whyO n s.1 := by unfold whyK; rw [if_pos c]
    rw [w2] at hw
    obtain ⟨hx, hn, h20, e2⟩ := putO_go hl hw
    rw [e, e2]
    refine am_mono (z_putNow (by omega) hL a hx (ix_none.mp hn) h20) (fun r h1 _ _ z => ?_)
    obtain ⟨rfl, t1, f1, e1⟩ := z
    exact ⟨rfl, t1, rfl, t1, f1.wk (fun _ _ => s5_C), e1⟩
  · have e : carO k n s = takeO n s := by unfold carO; rw [if_neg (by omega), if_pos c]
    have w2 : whyK k n s.1 = (match ix s.1 n with | none => -1 | some _ => 0) := by unfold whyK; rw [if_neg (by omega), if_pos (Or.inl c)]
    rw [w2] at hw
    rw [e]
    refine am_mono (z_with (by omega) hL a) (fun r h1 _ _ z => ?_)
    obtain ⟨rfl, rfl⟩ := z
    refine ⟨_, rfl, SS.rf, ?_⟩
    unfold takeO
    cases hx : ix s.1 n with
    | none => rw [hx] at hw; exact absurd hw (by decide)
    | some i =>
      have h1 : i < s.1.length := (List.findIdx?_eq_some_iff_getElem.mp hx).1
      refine am_mono (z_take hL a h1) (fun r h2 _ _ z => ?_)
      obtain ⟨rfl, t1, f1, e1⟩ := z
      exact ⟨rfl, t1, rfl, t1, f1.wk (fun _ _ => s5_C), e1⟩
  · have e : carO k n s = wakeO s := by unfold carO; rw [if_neg (by omega), if_neg (by omega), if_neg (by omega), if_neg (by omega), if_pos c]
    rw [e]
    refine am_mono (z_wakeNow (by omega) hL a) (fun r h1 _ _ z => ?_)
    obtain ⟨rfl, t1, f1, e1⟩ := z
    refine ⟨rfl, t1, rfl, t1, f1.wk (fun _ _ => s5_C), ?_⟩
    unfold wakeO
    by_cases q : (s.1.length : Int) - nAw s.1 = 0
    · rw [if_pos q]
      rw [wake_same (by omega)] at e1
      exact e1
    · rw [if_neg q]
      exact e1
  · have h64 := hok.2.2.1 c
    have h64' : 1 ≤ n ∧ n ≤ 64 := h64
    have e : carO k n s = (frR n.toNat s, frS n.toNat s) := by
      unfold carO frameO
      rw [if_neg (by omega), if_neg (by omega), if_neg (by omega), if_pos c, if_pos h64']
    rw [e]
    obtain ⟨m, hm⟩ : ∃ m : Nat, n = m := ⟨n.toNat, by omega⟩
    subst hm
    rw [Int.toNat_natCast]
    refine am_mono (z_frameNow (by omega) hL a (by omega) (by omega)) (fun r h1 _ _ z => ?_)
    obtain ⟨rfl, t1, f1, e1⟩ := z
    exact ⟨rfl, t1, rfl, t1, f1.wk (fun _ _ => sF_C), e1⟩
  · have e : carO k n s = sleepO n s := by unfold carO; rw [if_neg (by omega), if_neg (by omega), if_pos c]
    have w2 : whyK k n s.1 = (match ix s.1 n with | none => -1 | some _ => 0) := by unfold whyK; rw [if_neg (by omega), if_pos (Or.inr c)]
    rw [w2] at hw
    rw [e]
    refine am_mono (z_with (by omega) hL a) (fun r h1 _ _ z => ?_)
    obtain ⟨rfl, rfl⟩ := z
    refine ⟨_, rfl, SS.rf, ?_⟩
    cases hx : ix s.1 n with
    | none => rw [hx] at hw; exact absurd hw (by decide)
    | some i =>
      obtain ⟨c0, hc0, e0⟩ := (ix_some a.wl).mp hx
      have h1 := lt_len hc0
      have es : sleepO n s = if c0.2.1 = 0 then (-5, s) else ((nAw (s.1.set i (c0.1, 0, c0.2.2)) : Int), (s.1.set i (c0.1, 0, c0.2.2), s.2)) := by
        unfold sleepO slp
        rw [hx]
        simp only [cat_eq hc0]
      rw [es]
      refine am_mono (z_lay (x := (i : Int)) (k := 1) hL (by omega) (by omega) (by omega) (by omega)) (fun r h2 _ _ z => ?_)
      obtain ⟨rfl, rfl⟩ := z
      have e2 := a.lay1 (v := 0) hc0 (Or.inl rfl)
      refine ⟨rfl, SS.rf.up, rfl, SS.rf.up, FM.rf.up (Or.inl rfl), ?_⟩
      by_cases q : c0.2.1 = 0
      · rw [if_pos q]
        have ec : (c0.1, (0 : Int), c0.2.2) = c0 := by rw [← q]
        rw [ec, set_same hc0] at e2
        exact e2
      · rw [if_neg q]
        exact e2
  · refine ⟨fun c2 => ?_, fun c2 => ?_⟩
    · have e : carO k n s = walkO 0 s := by unfold carO; rw [if_neg (by omega), if_neg (by omega), if_neg (by omega), if_neg (by omega), if_neg (by omega), if_neg c2]
      rw [e]
      refine am_mono (z_walkNow (by omega) hL a) (fun r h1 _ _ z => ?_)
      obtain ⟨rfl, t1, f1, e1, -⟩ := z
      exact ⟨rfl, t1, rfl, t1, f1.wk (fun _ _ => sW_C), e1⟩
    · have e : carO k n s = walkO 1 s := by unfold carO; rw [if_neg (by omega), if_neg (by omega), if_neg (by omega), if_neg (by omega), if_neg (by omega), if_pos (Classical.byContradiction c2)]
      rw [e]
      refine am_mono (z_walkNow (by omega) hL a) (fun r h1 _ _ z => ?_)
      obtain ⟨rfl, t1, f1, e1, -⟩ := z
      exact ⟨rfl, t1, rfl, t1, f1.wk (fun _ _ => sW_C), e1⟩
theorem G7.moveX {h1 : AH} {s' : Ms} (a : G7 h g) (f : FM h h1 sX) (e : EZ h1 s') : G7 h1 (s', g.2) :=
  ⟨e, a.2.1.same (f 104 3 (by unfold sX; omega)) (f.row (fun m => by unfold sX; omega)), a.2.2.1.same (f 104 5 (by unfold sX; omega)) (f.row (fun m => by unfold sX; omega)), a.2.2.2.same (f 104 7 (by unfold sX; omega)) (f.row (fun m => by unfold sX; omega))⟩
theorem OZ.fm {h1 : AH} {os : List Od} {S : Nat → Int → Prop} (a : OZ h os) (f : FM h h1 S) (n : ∀ j m, (j = 113 ∨ j = 114 ∨ (j = 104 ∧ m = 18)) → ¬ S j m) : OZ h1 os :=
  ⟨by rw [f 104 18 (n _ _ (Or.inr (Or.inr ⟨rfl, rfl⟩)))]; exact a.1, fun i o ho => by
    rw [f 113 _ (n _ _ (Or.inl rfl)), f 114 _ (n _ _ (Or.inr (Or.inl rfl)))]
    exact a.2 i o ho⟩
theorem y_perform (hd : 9 ≤ d) (hL : QZ h) (a : G7 h g) : AM d m_X7_perform [.inr (some 104)] h (R7 h (perfG g)) := by
  refine vc_X7_perform (by omega) hL (am_mono (z_readText (by omega) hL a.2.2.2) (fun r h1 hr _ z => ?_))
  obtain ⟨t1, f1, -, z1, z2⟩ := z
  have a1 : G7 h1 (g.1, g.2) := a.move (f1.wk (fun _ _ => sR_P)) (a.1.row (f1.row (fun m => by unfold sR; omega)))
  have f1X : FM h h1 sX := f1.wk (fun _ _ q => sP_X (sR_P q))
  unfold perfG
  by_cases c : (allP g.2.2.2 31 0 []).1 = -1
  · rw [if_pos c]
    obtain ⟨rfl, b1⟩ := z1 c
    have hos := allP_ok (tx := g.2.2.2) 31 0 [] (fun o ho => by cases ho)
    have h30 := allP_len (tx := g.2.2.2) 31 0 [] (by decide)
    generalize (allP g.2.2.2 31 0 []).2 = os at b1 hos h30
    have hL1 := hL.ss t1
    refine ⟨_, rfl, t1, fun _ => am_mono (z_copy hL1.k105 hL1.k106 (by omega) (by omega) (by omega) (by omega) (by omega) (by omega) (by omega)) (fun r h4 _ _ z => ?_), fun c2 => absurd (by decide) c2⟩
    obtain ⟨rfl, rfl⟩ := z
    refine ⟨rfl, SS.rf.cpy, ?_⟩
    have f2 : FM h1 (cpy h1 105 106 0 0 293) sX := FM.rf.cpy (fun m => Or.inr (Or.inl rfl))
    have z6 : ZF (hi (cpy h1 105 106 0 0 293) 106) g.1 := ZF.cong a1.1 (fun m h0 h2 => by
      rw [hi_cpy, if_pos ⟨rfl, by omega, by omega⟩]
      congr 1
      omega)
    have e5 : EZ (cpy h1 105 106 0 0 293) g.1 := a1.1.row (by
      funext m
      rw [hi_cpy, if_neg (by omega)])
    have b2 : OZ (cpy h1 105 106 0 0 293) os := ⟨by rw [hi_cpy, if_neg (by omega)]; exact b1.1, fun i o ho => by
      rw [hi_cpy, if_neg (by omega), hi_cpy, if_neg (by omega)]
      exact b1.2 i o ho⟩
    have lp : ∀ (k i : Nat) (h3 : AH) (s1 : Ms), k + i = os.length → SS h h3 → FM h h3 sX → EZ h3 s1 → ZF (hi h3 106) g.1 → OZ h3 os → os.length ≤ 31 → perfL g.1 (os.drop i) s1 = perfL g.1 os g.1 →
        AW m_X7_perform d none (R7 h (finG (os.length : Int) g (perfL g.1 os g.1))) 30 [some (.inr (some 104)), some (.inl (i : Int)), none] [] h3 (0, 0) := by
      intro k
      induction k with
      | zero =>
        intro i h3 s1 hk t f e z b h31 K
        rw [List.drop_eq_nil_of_le (by omega)] at K
        have K' : (none, s1) = perfL g.1 os g.1 := K
        have b18 := b.1
        have a3 := a.moveX f e
        refine vc_X7_perform_30 (by omega) (hL.ss t) ⟨fun _ => am_mono (z_record (q1 := 106) (by omega) (hL.ss t) (Or.inr rfl) z a3.2.1) (fun r h7 _ _ z7 => ?_), fun c2 => by omega⟩
        obtain ⟨rfl, t7, f7, p7⟩ := z7
        have f7' : FM h3 h7 s7 := fun j m q => f7 j m (fun z => q (Or.inl z)) (fun z => q (Or.inr z))
        rw [← K']
        show none = none ∧ SS h3 h7 ∧ R7 h ((os.length : Int), s1, push g.1 g.2.1, g.2.2) (some (hi h7 104 18)) h7
        have e18 : hi h7 104 18 = (os.length : Int) := (f7' 104 18 (by unfold s7; omega)).trans b18
        rw [e18]
        exact ⟨rfl, t7, rfl, t.tr t7, (f.fx (fun _ _ => sX_Z)).tr (f7'.fx (fun _ _ => s7_Z)), e.row (f7'.row (fun m => by unfold s7; omega)), p7, a3.2.2.1.same (f7' 104 5 (by unfold s7; omega)) (f7'.row (fun m => by unfold s7; omega)), a3.2.2.2.same (f7' 104 7 (by unfold s7; omega)) (f7'.row (fun m => by unfold s7; omega))⟩
      | succ k ih =>
        intro i h3 s1 hk t f e z b h31 K
        have b18 := b.1
        have hl20 := e.wl.1
        obtain ⟨o, ho⟩ := get_ex (l := os) (i := i) (by omega)
        obtain ⟨b3, b4⟩ := b.2 i o ho
        have hdr : os.drop i = o :: os.drop (i + 1) := by
          rw [List.drop_eq_getElem_cons (by omega)]
          congr 1
          exact Option.some.inj ((List.getElem?_eq_getElem (by omega)).symm.trans ho)
        have hok : okO (o.1, o.2) := hos o (List.mem_of_getElem? ho)
        have hans := carO_ans (s := s1) hl20 hok
        rw [hdr] at K
        have K' : (if 0 ≤ (carO o.1 o.2 s1).1 ∨ (carO o.1 o.2 s1).1 = -5 then perfL g.1 (os.drop (i + 1)) (carO o.1 o.2 s1).2 else (some (carO o.1 o.2 s1).1, g.1)) = perfL g.1 os g.1 := K
        refine vc_X7_perform_30 (by omega) (hL.ss t) ⟨fun c2 => by omega, fun _ => ⟨⟨by omega, by omega⟩, ?_⟩⟩
        rw [b3, b4]
        refine am_mono (z_whyNot (by omega) (hL.ss t) e) (fun r h5 _ _ z5 => ?_)
        obtain ⟨rfl, rfl⟩ := z5
        rw [b3, b4]
        refine ⟨_, rfl, SS.rf, fun c2 => am_mono (z_carryOut (by omega) (hL.ss t) e hok c2) (fun r h6 _ _ z5 => ?_), fun c2 => am_mono (z_copy (hL.ss t).k106 (hL.ss t).k105 (by omega) (by omega) (by omega) (by omega) (by omega) (by omega) (by omega)) (fun r h6 _ _ z5 => ?_)⟩
        · obtain ⟨rfl, t6, f6, e6⟩ := z5
          rw [if_pos (hans.1 c2)] at K'
          refine ⟨rfl, t6, by unfold rg; omega, ih (i + 1) h6 (carO o.1 o.2 s1).2 (by omega) (t.tr t6) (f.tr (f6.wk (fun _ _ => sC_X))) e6 ?_ (b.fm f6 (fun j m hj => by unfold sC; omega)) h31 K'⟩
          rw [f6.row (fun m => by unfold sC; omega)]
          exact z
        · obtain ⟨rfl, rfl⟩ := z5
          obtain ⟨h7, h8⟩ := hans.2 (by omega)
          rw [if_neg h8, h7] at K'
          rw [← K']
          have e9 : EZ (cpy h5 106 105 0 0 293) g.1 := ZF.cong z (fun m h0 h2 => by
            rw [hi_cpy, if_pos ⟨rfl, by omega, by omega⟩]
            congr 1
            omega)
          have f9 : FM h (cpy h5 106 105 0 0 293) sX := f.cpy (fun m => Or.inl rfl)
          exact ⟨rfl, SS.rf.cpy, rfl, t.cpy, f9.fx (fun _ _ => sX_Z), a.moveX f9 e9⟩
    exact lp os.length 0 _ g.1 (by omega) t1.cpy (f1X.tr f2) e5 z6 b2 (by omega) rfl
  · rw [if_neg c]
    obtain ⟨rfl, e19⟩ := z2 c
    have hb := allP_b (tx := g.2.2.2) 31 0 [] (by omega) (by omega)
    have n60 := a.2.2.2.2.1
    refine ⟨_, rfl, t1, fun c2 => absurd rfl c2, fun _ => ?_⟩
    rw [e19]
    exact ⟨by unfold rg; omega, rfl, t1, f1X.fx (fun _ _ => sX_Z), a1⟩
end MODEL21
