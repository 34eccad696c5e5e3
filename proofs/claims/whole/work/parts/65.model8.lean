/-! the model: frames by cells; recorded, kept, restored -/
def FM (h h' : AH) (S : Nat → Int → Prop) : Prop := ∀ j m, ¬ S j m → hi h' j m = hi h j m
def s5 (j : Nat) (_ : Int) : Prop := j = 105
def s7 (j : Nat) (m : Int) : Prop := j = 107 ∨ (j = 104 ∧ m = 3)
def sA (j : Nat) (m : Int) : Prop := j = 105 ∨ (j = 104 ∧ 8 ≤ m ∧ m ≤ 11)
def sP (j : Nat) (m : Int) : Prop := j = 105 ∨ (j = 104 ∧ 8 ≤ m) ∨ 110 ≤ j
section MODEL9
variable {d : Nat} {h h1 h2 : AH} {s : Ms} {g : Gs} {S S' : Nat → Int → Prop}
theorem FM.rf : FM h h S := fun _ _ _ => rfl
theorem FM.tr (a : FM h h1 S) (b : FM h1 h2 S) : FM h h2 S := fun j m q => (b j m q).trans (a j m q)
theorem FM.wk (a : FM h h1 S) (hs : ∀ j m, S j m → S' j m) : FM h h1 S' := fun j m q => a j m (fun z => q (hs j m z))
theorem FM.up {j : Nat} {k v : Int} (a : FM h h1 S) (hj : S j k) : FM h (up h1 j k v) S := fun i m q => by
  rw [hi_up, if_neg (fun z => q (by rw [z.1, z.2]; exact hj))]
  exact a i m q
theorem FM.cpy {q0 q2 : Nat} {x v n : Int} (a : FM h h1 S) (hj : ∀ m, S q2 m) : FM h (cpy h1 q0 q2 x v n) S := fun i m q => by
  rw [hi_cpy, if_neg (fun z => q (by rw [z.1]; exact hj m))]
  exact a i m q
theorem FM.row (a : FM h h1 S) {j : Nat} (n : ∀ m, ¬ S j m) : hi h1 j = hi h j := by
  funext m
  exact a j m (n m)
theorem FM.fx (a : FM h h1 S) (hs : ∀ j m, S j m → inZ j) : FX h h1 inZ := fun j hj => a.row (fun m z => hj (hs j m z))
theorem s5_P {j : Nat} {m : Int} (q : s5 j m) : sP j m := Or.inl q
theorem s5_A {j : Nat} {m : Int} (q : s5 j m) : sA j m := Or.inl q
theorem sA_P {j : Nat} {m : Int} (q : sA j m) : sP j m := by unfold sA at q; unfold sP; omega
theorem sP_Z {j : Nat} {m : Int} (q : sP j m) : inZ j := by unfold sP at q; show 104 ≤ j; omega
theorem s7_Z {j : Nat} {m : Int} (q : s7 j m) : inZ j := by unfold s7 at q; show 104 ≤ j; omega
theorem G7.move {s' : Ms} (a : G7 h g) (f : FM h h1 sP) (e : EZ h1 s') : G7 h1 (s', g.2) :=
  ⟨e, a.2.1.same (f 104 3 (by unfold sP; omega)) (f.row (fun m => by unfold sP; omega)), a.2.2.1.same (f 104 5 (by unfold sP; omega)) (f.row (fun m => by unfold sP; omega)), a.2.2.2.same (f 104 7 (by unfold sP; omega)) (f.row (fun m => by unfold sP; omega))⟩
theorem EZ.row (a : EZ h s) (e : hi h1 105 = hi h 105) : EZ h1 s := by unfold EZ at *; rw [e]; exact a
theorem R7.st {v : Int} (a : G7 h g) : R7 h (v, g) (some v) h := ⟨rfl, SS.rf, FX.rf, a⟩
theorem R7.no {v : Int} (a : G7 h g) (hv : v < 0) : R7 h (recG (v, g.1) g) (some v) h := ⟨rfl, SS.rf, FX.rf, by unfold recG; rw [if_pos hv]; exact a⟩
theorem R7.now {s' : Ms} {v : Int} (t1 : SS h h1) (f1 : FM h h1 s7) (a1 : G7 h1 (g.1, push g.1 g.2.1, g.2.2)) (t2 : SS h1 h2) (f2 : FM h1 h2 sP) (e : EZ h2 s') (hv : 0 ≤ v) : R7 h (recG (v, s') g) (some v) h2 := by
  refine ⟨rfl, t1.tr t2, (f1.fx (fun _ _ => s7_Z)).tr (f2.fx (fun _ _ => sP_Z)), ?_⟩
  unfold recG
  rw [if_neg (by omega)]
  exact a1.move f2 e
theorem z_rec (hd : 3 ≤ d) (hL : QZ h) (a : G7 h g) : AM d m_X7_record [.inr (some 104)] h (fun r h' => r = none ∧ SS h h' ∧ FM h h' s7 ∧ G7 h' (g.1, push g.1 g.2.1, g.2.2)) := by
  refine vc_X7_record (by omega) hL (am_mono (z_record (s := g.1) (by omega) hL (Or.inl rfl) a.1 a.2.1) (fun r h3 _ _ z => ?_))
  obtain ⟨rfl, t, f, p⟩ := z
  have f' : FM h h3 s7 := fun j m q => f j m (fun z => q (Or.inl z)) (fun z => q (Or.inr z))
  exact ⟨rfl, t, rfl, t, f', a.1.row (f'.row (fun m => by unfold s7; omega)), p, a.2.2.1.same (f' 104 5 (by unfold s7; omega)) (f'.row (fun m => by unfold s7; omega)), a.2.2.2.same (f' 104 7 (by unfold s7; omega)) (f'.row (fun m => by unfold s7; omega))⟩
theorem z_keep (hd : 2 ≤ d) (hL : QZ h) (a : G7 h g) : AM d m_X7_keep [.inr (some 104)] h (R7 h (keepG g)) := by
  refine vc_X7_keep (by omega) hL (am_mono (z_copy hL.k105 hL.k108 (by omega) (by omega) (by omega) (by omega) (by omega) (by omega) (by omega)) (fun r h3 _ _ z => ?_))
  obtain ⟨rfl, rfl⟩ := z
  have f : ∀ j m, j ≠ 108 → ¬ (j = 104 ∧ m = 5) → hi (up (cpy h 105 108 0 0 293) 104 5 1) j m = hi h j m := fun j m q1 q2 => by rw [hi_up, if_neg q2, hi_cpy, if_neg (fun z => q1 z.1)]
  have fr : ∀ j, j ≠ 108 → j ≠ 104 → hi (up (cpy h 105 108 0 0 293) 104 5 1) j = hi h j := fun j q1 q2 => by
    funext m
    exact f j m q1 (fun z => q2 z.1)
  refine ⟨rfl, SS.rf.cpy, congrArg some ?_, SS.rf.cpy.up, fun j hj => fr j (fun z => hj (by show 104 ≤ j; omega)) (fun z => hj (by show 104 ≤ j; omega)), a.1.row (fr 105 (by decide) (by decide)), a.2.1.same (f 104 3 (by decide) (by decide)) (fr 107 (by decide) (by decide)), ⟨fun z => (by cases z), fun v z => ?_⟩, a.2.2.2.same (f 104 7 (by decide) (by decide)) (fr 109 (by decide) (by decide))⟩
  · rw [hi_cpy, if_neg (by omega)]
    exact a.1.1
  · cases z
    refine ⟨by rw [hi_up, if_pos ⟨rfl, rfl⟩], ZF.cong a.1 (fun m h0 h2 => ?_)⟩
    rw [hi_up, if_neg (by omega), hi_cpy, if_pos ⟨rfl, by omega, by omega⟩]
    congr 1
    omega
theorem z_restore (hd : 4 ≤ d) (hL : QZ h) (a : G7 h g) : AM d m_X7_restore [.inr (some 104)] h (R7 h (restG g)) := by
  cases hs : g.2.2.1 with
  | none =>
    have e : restG g = (-5, g) := by unfold restG; rw [hs]
    rw [e]
    have e4 := a.2.2.1.1 hs
    exact vc_X7_restore (by omega) hL ⟨fun c => absurd e4 c, fun _ => R7.st a⟩
  | some v =>
    have e : restG g = ((v.1.length : Int), v, push g.1 g.2.1, g.2.2) := by unfold restG; rw [hs]
    rw [e]
    have e4 := a.2.2.1.2 v hs
    refine vc_X7_restore (by omega) hL ⟨fun _ => am_mono (z_rec (by omega) hL a) (fun r h3 _ _ z => ?_), fun c => absurd (by rw [e4.1]; decide) c⟩
    obtain ⟨rfl, t1, f1, a1⟩ := z
    have hL1 := hL.ss t1
    refine ⟨rfl, t1, am_mono (z_copy hL1.k108 hL1.k105 (by omega) (by omega) (by omega) (by omega) (by omega) (by omega) (by omega)) (fun r h4 _ _ z => ?_)⟩
    obtain ⟨rfl, rfl⟩ := z
    have e8 : ZF (hi h3 108) v := (a1.2.2.1.2 v hs).2
    have f2 : FM h3 (cpy h3 108 105 0 0 293) sP := FM.rf.cpy (fun m => Or.inl rfl)
    have e9 : EZ (cpy h3 108 105 0 0 293) v := ZF.cong e8 (fun m h0 h2 => by
      rw [hi_cpy, if_pos ⟨rfl, by omega, by omega⟩]
      congr 1
      omega)
    exact ⟨rfl, SS.rf.cpy, congrArg some e9.1, t1.tr SS.rf.cpy, (f1.fx (fun _ _ => s7_Z)).tr (f2.fx (fun _ _ => sP_Z)), a1.move f2 e9⟩
end MODEL9
