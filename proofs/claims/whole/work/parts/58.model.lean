/-! the model: its row of numbers holds a state -/
def ZF (f : Int → Int) (s : Ms) : Prop := f 0 = s.1.length ∧ f 1 = s.2.1.length ∧ (∀ k, 2 ≤ k → k ≤ 12 → f k = s.2.2 k) ∧ (∀ (i : Nat) (c : Cd), s.1[i]? = some c → f (13 + 4 * i + 0) = c.1 ∧ f (13 + 4 * i + 1) = c.2.1 ∧ f (13 + 4 * i + 2) = c.2.2.1 ∧ f (13 + 4 * i + 3) = c.2.2.2) ∧ (∀ (i : Nat) (v : Int), s.2.1[i]? = some v → f (93 + i) = v) ∧ WL s.1 ∧ s.2.1.length ≤ 200 ∧ WS s.2.2
def EZ (h : AH) (s : Ms) : Prop := ZF (hi h 105) s
section MODEL
variable {d : Nat} {h : AH} {s : Ms}
theorem z_in {x0 x1 x2 : Int} : AM d m_X7_in [.inl x0, .inl x1, .inl x2] h (fun r h' => r = some (if x1 ≤ x0 ∧ x0 ≤ x2 then 1 else 0) ∧ h' = h) :=
  vc_X7_in ⟨fun c => ⟨by rw [if_neg (by omega)], rfl⟩, fun c => ⟨fun c2 => ⟨by rw [if_neg (by omega)], rfl⟩, fun c2 => ⟨by rw [if_pos (by omega)], rfl⟩⟩⟩
theorem z_of {x k : Int} (hL : QZ h) (h0 : 0 ≤ x) (h1 : x < 20) (k0 : 0 ≤ k) (k1 : k < 4) : AM d m_X7_of [.inr (some 104), .inl x, .inl k] h (fun r h' => r = some (hi h 105 (13 + 4 * x + k)) ∧ h' = h) :=
  vc_X7_of hL ⟨by unfold rg; omega, by unfold rg; omega, by unfold rg; omega, ⟨by omega, by omega⟩, rfl, rfl⟩
theorem z_lay {x k v : Int} (hL : QZ h) (h0 : 0 ≤ x) (h1 : x < 20) (k0 : 0 ≤ k) (k1 : k < 4) : AM d m_X7_lay [.inr (some 104), .inl x, .inl k, .inl v] h (fun r h' => r = none ∧ h' = up h 105 (13 + 4 * x + k) v) :=
  vc_X7_lay hL ⟨by unfold rg; omega, by unfold rg; omega, by unfold rg; omega, ⟨by omega, by omega⟩, rfl, rfl⟩
end MODEL
