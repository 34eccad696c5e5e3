/-! the object: state, history, snapshot, text -/
abbrev Gs : Type := Ms × List Ms × Option Ms × List Int
def inC : Nat → Prop := fun j => 1 ≤ j ∧ j < 104
def SNK (h : AH) (o : Option Ms) : Prop := (o = none → hi h 1 4 = 0) ∧ ∀ v, o = some v → hi h 1 4 = 1 ∧ ES h 38 v
def L6 (h : AH) : Prop := QM h ∧ LH h
def G6 (h : AH) (g : Gs) : Prop := ES h 2 g.1 ∧ HK h g.2.1 ∧ SNK h g.2.2.1 ∧ TXK h 100 g.2.2.2
def R6 (h : AH) (o : Int × Gs) (r : Option Int) (h' : AH) : Prop := r = some o.1 ∧ SW h h' ∧ FX h h' inC ∧ G6 h' o.2
def recG (o : Int × Ms) (g : Gs) : Int × Gs := (o.1, o.2, if o.1 < 0 then g.2.1 else push g.1 g.2.1, g.2.2)
section W6
variable {d : Nat} {h : AH} {g : Gs}
theorem L6.sw {h' : AH} (a : L6 h) (s : SW h h') : L6 h' := ⟨a.1.sw s, a.2.sw s⟩
theorem L6.ss {h' : AH} (a : L6 h) (s : SS h h') : L6 h' := a.sw s.w
theorem L6.q2 (a : L6 h) : QS h 2 := a.1.2.2.1
theorem L6.q14 (a : L6 h) : QS h 14 := a.1.2.2.2.2.1
theorem L6.q26 (a : L6 h) : QS h 26 := a.1.2.2.2.2.2.2.1
theorem L6.q38 (a : L6 h) : QS h 38 := a.1.2.2.2.2.2.2.2.2.1
theorem L6.qx (a : L6 h) : QX h 100 := a.1.2.2.2.2.2.2.2.2.2.2.2.2
theorem SNK.same {h' : AH} {o : Option Ms} (a : SNK h o) (e : hi h' 1 = hi h 1) (e2 : ∀ j, 38 ≤ j → j < 50 → hi h' j = hi h j) : SNK h' o := ⟨fun z => by rw [e]; exact a.1 z, fun v z => ⟨by rw [e]; exact (a.2 v z).1, (a.2 v z).2.same (fun j g1 g2 => e2 j (by omega) (by omega))⟩⟩
/-- only the states 2, 14, 26 have moved -/
theorem G6.move {h' : AH} {s' : Ms} (a : G6 h g) (s : SS h h') (f : ∀ j, 38 ≤ j ∨ j = 1 → hi h' j = hi h j) (e : ES h' 2 s') : G6 h' (s', g.2) :=
  ⟨e, a.2.1.same s (fun j g1 g2 => f j (by omega)), a.2.2.1.same (f 1 (by omega)) (fun j g1 g2 => f j (by omega)), a.2.2.2.same (f 100 (by omega)) (f (100 + 1) (by omega))⟩
theorem c_recorded {v : Int} {s0 : Ms} (hd : 4 ≤ d) (hL : L6 h) (a : G6 h g) (a14 : 0 ≤ v → ES h 14 s0) : AM d m_X6_recorded [.inr (some 1), .inl v] h (fun r h' => r = some v ∧ SW h h' ∧ FX h h' inC ∧ G6 h' (g.1, if v < 0 then g.2.1 else push s0 g.2.1, g.2.2)) := by
  refine vc_X6_recorded (by omega) hL.1 ⟨fun c => ?_, fun c => am_mono (c_add (by omega) hL.2 hL.q14 a.2.1 (a14 (by omega))) (fun r h2 _ _ z => ?_)⟩
  · rw [if_pos c]
    exact ⟨rfl, SS.rf.w, FX.rf, a⟩
  · obtain ⟨rfl, s2, f2, k2⟩ := z
    rw [if_neg c]
    refine ⟨rfl, s2, rfl, s2, f2.wk (fun j z => ⟨by have := z.1; omega, by have := z.2; omega⟩), ?_⟩
    exact ⟨a.1.same (fun j g1 g2 => f2 j (fun z => by have := z.1; omega)), k2, a.2.2.1.same (f2 1 (fun z => by have := z.1; omega)) (fun j g1 g2 => f2 j (fun z => by have := z.1; omega)), a.2.2.2.same (f2 100 (fun z => by have := z.2; omega)) (f2 (100 + 1) (fun z => by have := z.2; omega))⟩
theorem inS_C {j b : Nat} (h : inS b j) (h1 : 1 ≤ b) (h2 : b ≤ 88) : inC j := ⟨by have := h.1; omega, by have := h.2; omega⟩
end W6
