/-! class and model side by side -/
abbrev LOC (i : Int) : List (Option AV) := [some (.inr (some 0)), some (.inr (some 1)), some (.inr (some 104)), some (.inl i)]
def LW (h : AH) : Prop := L6 h ∧ QZ h ∧ ∃ g, G6 h g ∧ G7 h g
section COUPLE
variable {h h1 h2 : AH} {g : Gs}
theorem G7.other (a : G7 h g) (f : FX h h1 inC) : G7 h1 g := by
  have e : ∀ j, 104 ≤ j → hi h1 j = hi h j := fun j hj => f j (fun z => by have := z.2; omega)
  have ez : ∀ j m, 104 ≤ j → hi h1 j m = hi h j m := fun j m hj => by rw [e j hj]
  exact ⟨a.1.row (e 105 (by decide)), a.2.1.same (ez 104 3 (by decide)) (e 107 (by decide)), a.2.2.1.same (ez 104 5 (by decide)) (e 108 (by decide)), a.2.2.2.same (ez 104 7 (by decide)) (e 109 (by decide))⟩
theorem G6.other (a : G6 h g) (s : SS h h1) (f : FX h h1 inZ) : G6 h1 g := by
  have e : ∀ j, j < 104 → hi h1 j = hi h j := fun j hj => f j (fun z => by have z' : 104 ≤ j := z; omega)
  exact ⟨a.1.same (fun j g1 g2 => e j (by omega)), a.2.1.same s (fun j g1 g2 => e j (by omega)), a.2.2.1.same (e 1 (by decide)) (fun j g1 g2 => e j (by omega)), a.2.2.2.same (e 100 (by decide)) (e (100 + 1) (by decide))⟩
theorem LW.mk {g' : Gs} (l6 : L6 h) (qz : QZ h) (s1 : SW h h1) (s2 : SS h1 h2) (f2 : FX h1 h2 inZ) (b6 : G6 h1 g') (b7 : G7 h2 g') : LW h2 := ⟨(l6.sw s1).ss s2, (qz.sw s1).ss s2, g', b6.other s2 f2, b7⟩
end COUPLE
