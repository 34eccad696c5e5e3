/-! an order of a text carried out; the text performed -/
noncomputable def carO (k n : Int) (s : Ms) : Int × Ms := if k = 43 then putO n s else if k = 45 then takeO n s else if k = 122 then sleepO n s else if k = 102 then frameO n s else if k = 97 then wakeO s else if k = 118 then walkO 1 s else walkO 0 s
noncomputable def perfL (s0 : Ms) : List Od → Ms → Option Int × Ms
  | [], s => (none, s)
  | o :: os, s => if 0 ≤ (carO o.1 o.2 s).1 ∨ (carO o.1 o.2 s).1 = -5 then perfL s0 os (carO o.1 o.2 s).2 else (some (carO o.1 o.2 s).1, s0)
def finG (n : Int) (g : Gs) (x : Option Int × Ms) : Int × Gs := match x.1 with
  | none => (n, x.2, push g.1 g.2.1, g.2.2)
  | some e => (e, x.2, g.2)
noncomputable def perfG (g : Gs) : Int × Gs := if (allP g.2.2.2 31 0 []).1 = -1 then finG ((allP g.2.2.2 31 0 []).2.length : Int) g (perfL g.1 (allP g.2.2.2 31 0 []).2 g.1) else (-100 - (allP g.2.2.2 31 0 []).1, g)
theorem numO_u {k p : Int} {tx : List Int} {x1 x2 : Int} (h1 : 0 ≤ x1) (h2 : 9 ≤ x2) : (numO k (numP tx x1 x2 p) p).2 ≤ p ∨ (numO k (numP tx x1 x2 p) p).2 ≤ tx.length := by
  cases e : numP tx x1 x2 p with
  | none => exact Or.inl (Int.le_refl _)
  | some nq =>
    obtain ⟨n, q⟩ := nq
    have := numP_b h2 h1 e
    exact Or.inr this.2.2.2
theorem ordP_u {tx : List Int} {p : Int} : (ordP tx p).2 ≤ p + 1 ∨ (ordP tx p).2 ≤ tx.length := by
  unfold ordP
  split
  · exact numO_u (by omega) (by omega)
  · split
    · exact numO_u (by omega) (by omega)
    · split
      · exact Or.inl (Int.le_refl _)
      · left
        show p ≤ p + 1
        omega
theorem allP_b {tx : List Int} : ∀ (k : Nat) (p : Int) (os : List Od), 0 ≤ p → p ≤ tx.length + 1 → -1 ≤ (allP tx k p os).1 ∧ (allP tx k p os).1 ≤ tx.length + 2 := by
  intro k
  induction k with
  | zero => intro p os h0 h1; exact ⟨by show -1 ≤ p; omega, by show p ≤ _; omega⟩
  | succ k ih =>
    intro p os h0 h1
    have hb := (ordP_b (tx := tx) (p := p)).1
    have hu := ordP_u (tx := tx) (p := p)
    simp only [allP]
    split
    · split
      · exact ⟨Int.le_refl _, by show (-1 : Int) ≤ _; omega⟩
      · split
        · exact ih _ _ (by omega) (by omega)
        · exact ⟨by show -1 ≤ (ordP tx p).2; omega, by show (ordP tx p).2 ≤ _; omega⟩
    · exact ⟨by show -1 ≤ (ordP tx p).2; omega, by show (ordP tx p).2 ≤ _; omega⟩
section PERF
variable {d : Nat} {h : AH} {g : Gs} {s : Ms} {os : List Od}
theorem c_carryOut {k n : Int} (hd : 15 ≤ d) (hL : QS h 2) (a : ES h 2 s) : AM d m_X2_carryOut [.inr (some 2), .inl k, .inl n] h (fun r h' => r = some (carO k n s).1 ∧ SS h h' ∧ FX h h' (inS 2) ∧ ES h' 2 (carO k n s).2) := by
  unfold carO
  refine vc_X2_carryOut (by omega) hL ⟨fun c1 => ⟨fun c2 => ⟨fun c3 => ⟨fun c4 => ⟨fun c5 => ⟨fun c6 => ?_, fun c6 => ?_⟩, fun c5 => ?_⟩, fun c4 => ?_⟩, fun c3 => ?_⟩, fun c2 => ?_⟩, fun c1 => ?_⟩
  · rw [if_neg c1, if_neg c2, if_neg c3, if_neg c4, if_neg c5, if_neg c6]
    exact am_mono (c_makeWalk (by omega) hL a) (fun r h' _ _ z => ⟨_, z.1, z.2.1, rfl, z.2.1, z.2.2.1, z.2.2.2.1⟩)
  · rw [if_neg c1, if_neg c2, if_neg c3, if_neg c4, if_neg c5, if_pos (Classical.byContradiction c6)]
    exact am_mono (c_makeWalk (by omega) hL a) (fun r h' _ _ z => ⟨_, z.1, z.2.1, rfl, z.2.1, z.2.2.1, z.2.2.2.1⟩)
  · rw [if_neg c1, if_neg c2, if_neg c3, if_neg c4, if_pos (Classical.byContradiction c5)]
    exact am_mono (c_wakeCards (by omega) hL a) (fun r h' _ _ z => ⟨_, z.1, z.2.1, rfl, z.2⟩)
  · rw [if_neg c1, if_neg c2, if_neg c3, if_pos (Classical.byContradiction c4)]
    exact am_mono (c_frameX (by omega) hL a) (fun r h' _ _ z => ⟨_, z.1, z.2.1, rfl, z.2⟩)
  · rw [if_neg c1, if_neg c2, if_pos (Classical.byContradiction c3)]
    exact am_mono (c_sleepCard (by omega) hL a) (fun r h' _ _ z => ⟨_, z.1, z.2.1, rfl, z.2⟩)
  · rw [if_neg c1, if_pos (Classical.byContradiction c2)]
    exact am_mono (c_takeCard (by omega) hL a) (fun r h' _ _ z => ⟨_, z.1, z.2.1, rfl, z.2⟩)
  · rw [if_pos (Classical.byContradiction c1)]
    exact am_mono (c_putCard (by omega) hL a) (fun r h' _ _ z => ⟨_, z.1, z.2.1, rfl, z.2⟩)
theorem OK.same {h' : AH} {t : Nat} (a : OK h t os) (f : ∀ j, t ≤ j → j < t + 4 → hi h' j = hi h j) : OK h' t os := ⟨by rw [f t (by omega) (by omega)]; exact a.1, a.2.1, fun i o ho => by rw [f (t + 2) (by omega) (by omega), f (t + 3) (by omega) (by omega)]; exact a.2.2 i o ho⟩
theorem c_pfLoop {x1 : Int} (hd : 16 ≤ d) (hok : ∀ o ∈ os, okO o) : ∀ (k i : Nat) (h : AH) (s : Ms) (Q : Option Int → AH → Prop), k + i = os.length → L6 h → G6 h (s, g.2) → ES h 14 g.1 → OK h 100 os →
    (∀ h', SW h h' → FX h h' inC → G6 h' (finG (os.length : Int) g (perfL g.1 (os.drop i) s)).2 → Q (some (finG (os.length : Int) g (perfL g.1 (os.drop i) s)).1) h') →
    AW m_X6_perform d none Q 39 [some (.inr (some 1)), some (.inl x1), some (.inl (os.length : Int)), some (.inl (i : Int)), none] [] h (0, 0) := by
  intro k
  induction k with
  | zero =>
    intro i h s Q hk hL a a14 b q
    have e : os.drop i = [] := List.drop_eq_nil_of_le (by omega)
    rw [e] at q
    refine vc_X6_perform_39 (by omega) hL.1 ⟨fun c => am_mono (c_recorded (by omega) hL a (fun _ => a14)) (fun r h' _ _ z => ?_), fun c => by omega⟩
    obtain ⟨rfl, s4, f4, a4⟩ := z
    rw [if_neg (by omega)] at a4
    exact ⟨_, rfl, s4, q h' s4 f4 a4⟩
  | succ k ih =>
    intro i h s Q hk hL a a14 b q
    have hi1 : i < os.length := by omega
    have ho : os[i]? = some os[i] := List.getElem?_eq_getElem hi1
    have hko := hok _ (List.getElem_mem hi1)
    have e : os.drop i = os[i] :: os.drop (i + 1) := List.drop_eq_getElem_cons hi1
    rw [e] at q
    generalize os[i] = o at *
    have hk2 : 0 ≤ o.1 ∧ o.1 < 65536 := by
      have := hko.2.2.2
      omega
    refine vc_X6_perform_39 (by omega) hL.1 ⟨fun c => by omega, fun c => am_mono (c_kindAt hL.qx b ho hk2) (fun r h1 _ _ z => ?_)⟩
    obtain ⟨rfl, rfl⟩ := z
    refine ⟨_, rfl, SS.rf, am_mono (c_numberAt hL.qx b ho) (fun r h2 _ _ z => ?_)⟩
    obtain ⟨rfl, rfl⟩ := z
    refine ⟨_, rfl, SS.rf, am_mono (c_carryOut (k := o.1) (n := o.2) (by omega) hL.q2 a.1) (fun r h3 _ _ z => ?_)⟩
    obtain ⟨rfl, s3, f3, e3⟩ := z
    have hb := b.2.1
    have f' : ∀ j, 14 ≤ j ∨ j = 1 → hi h3 j = hi h2 j := fun j hj => f3 j (fun z => by have := z.1; have := z.2; omega)
    have a3 : G6 h3 ((carO o.1 o.2 s).2, g.2) := a.move (g := (s, g.2)) s3 (fun j hj => f' j (by omega)) e3
    have a143 : ES h3 14 g.1 := a14.same (fun j g1 g2 => f' j (by omega))
    have b3 : OK h3 100 os := b.same (fun j g1 g2 => f' j (by omega))
    have fC : FX h2 h3 inC := f3.wk (fun j z => inS_C z (by omega) (by omega))
    have go : 0 ≤ (carO o.1 o.2 s).1 ∨ (carO o.1 o.2 s).1 = -5 → rg ((i : Int) + 1) ∧ AW m_X6_perform d none Q 39 [some (.inr (some 1)), some (.inl x1), some (.inl (os.length : Int)), some (.inl ((i : Int) + 1)), none] [] h3 (0, 0) := fun cc => by
      simp only [perfL] at q
      rw [if_pos cc] at q
      refine ⟨by unfold rg; omega, ?_⟩
      exact ih (i + 1) h3 _ Q (by omega) (hL.ss s3) a3 a143 b3 (fun h' s' f'' a' => q h' (s3.w.tr s') (fC.tr f'') a')
    refine ⟨_, rfl, s3, fun c1 => go (Or.inl c1), fun c1 => ⟨fun c2 => go (Or.inr c2), fun c2 => ?_⟩⟩
    have c1' : ¬ 0 ≤ (carO o.1 o.2 s).1 := c1
    have c2' : ¬ (carO o.1 o.2 s).1 = -5 := c2
    simp only [perfL] at q
    rw [if_neg (fun z => z.elim c1' c2')] at q
    refine am_mono (c_copyState (by omega) (hL.q2.ss s3) (hL.q14.ss s3) (by omega) a143) (fun r h4 _ _ z => ?_)
    obtain ⟨rfl, s4, f4, e4⟩ := z
    refine ⟨rfl, s4, q h4 (s3.w.tr s4.w) (fC.tr (f4.wk (fun j z => inS_C z (by omega) (by omega)))) ?_⟩
    exact a3.move (g := ((carO o.1 o.2 s).2, g.2)) s4 (fun j hj => f4 j (fun z => by have := z.1; have := z.2; omega)) e4
theorem k_perform (hd : 17 ≤ d) (hL : L6 h) (a : G6 h g) : AM d m_X6_perform [.inr (some 1)] h (R6 h (perfG g)) := by
  refine vc_X6_perform (by omega) hL.1 (am_mono (c_readOrders (by omega) hL.qx a.2.2.2) (fun r h1 _ _ z => ?_))
  obtain ⟨rfl, s1, f1, t1, b1⟩ := z
  have a1 : G6 h1 g := a.text s1 f1 t1
  have fC : FX h h1 inC := f1.wk (fun j => inX_C)
  have hL1 := hL.ss s1
  refine ⟨_, rfl, s1, fun c => ?_, fun c => ?_⟩
  · have ep : perfG g = finG ((allP g.2.2.2 31 0 []).2.length : Int) g (perfL g.1 (allP g.2.2.2 31 0 []).2 g.1) := by unfold perfG; rw [if_pos c]
    rw [ep]
    have hok : ∀ o ∈ (allP g.2.2.2 31 0 []).2, okO o := allP_ok 31 0 [] (fun o ho => by cases ho)
    generalize (allP g.2.2.2 31 0 []).2 = os at *
    refine am_mono (c_copyState (by omega) hL1.q14 hL1.q2 (by omega) a1.1) (fun r h4 _ _ z => ?_)
    obtain ⟨rfl, s4, f4, e14⟩ := z
    have f' : ∀ j, 26 ≤ j ∨ j < 14 → hi h4 j = hi h1 j := fun j hj => f4 j (fun z => by have := z.1; have := z.2; omega)
    have a4 : G6 h4 (g.1, g.2) := a1.move s4 (fun j hj => f' j (by omega)) (a1.1.same (fun j g1 g2 => f' j (by omega)))
    have b4 : OK h4 100 os := b1.same (fun j g1 g2 => f' j (by omega))
    have fC4 : FX h h4 inC := fC.tr (f4.wk (fun j z => inS_C z (by omega) (by omega)))
    refine ⟨rfl, s4, vc_X4_orders (hL1.ss s4).qx ?_⟩
    rw [b4.1]
    refine ⟨_, rfl, SS.rf, ?_⟩
    exact c_pfLoop (os := os) (g := g) (by omega) hok os.length 0 h4 g.1 _ (by omega) (hL1.ss s4) a4 e14 b4 (fun h' s' f'' a' => ⟨rfl, (s1.tr s4).w.tr s', fC4.tr f'', a'⟩)
  · have ep : perfG g = (-100 - (allP g.2.2.2 31 0 []).1, g) := by unfold perfG; rw [if_neg c]
    rw [ep]
    have pb := allP_b (tx := g.2.2.2) 31 0 [] (by omega) (by omega)
    have tl := a.2.2.2.2.1
    exact ⟨by unfold rg; omega, rfl, s1.w, fC, a1⟩
end PERF
