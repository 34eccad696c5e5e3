/-! the model: a state copied from row to row -/
section MODEL3
variable {d : Nat} {h : AH}
theorem cpy_0 {q0 q2 : Nat} {x1 x3 : Int} : cpy h q0 q2 x1 x3 0 = h := by
  refine ah_ext rfl rfl rfl ?_
  funext j m
  show (if j = q2 ∧ x3 ≤ m ∧ m < x3 + 0 then h.2.2.2 q0 (x1 + (m - x3)) else h.2.2.2 j m) = h.2.2.2 j m
  rw [if_neg (by omega)]
theorem cpy_s {q0 q2 : Nat} {x1 x3 x4 : Int} (hne : q0 ≠ q2) (h4 : 0 ≤ x4) : up (cpy h q0 q2 x1 x3 x4) q2 (x3 + x4) (hi (cpy h q0 q2 x1 x3 x4) q0 (x1 + x4)) = cpy h q0 q2 x1 x3 (x4 + 1) := by
  rw [hi_cpy, if_neg (fun z => hne z.1)]
  refine ah_ext rfl rfl rfl ?_
  funext j m
  show (if j = q2 ∧ m = x3 + x4 then hi h q0 (x1 + x4) else if j = q2 ∧ x3 ≤ m ∧ m < x3 + x4 then h.2.2.2 q0 (x1 + (m - x3)) else h.2.2.2 j m) = (if j = q2 ∧ x3 ≤ m ∧ m < x3 + (x4 + 1) then h.2.2.2 q0 (x1 + (m - x3)) else h.2.2.2 j m)
  by_cases g : j = q2 ∧ m = x3 + x4
  · rw [if_pos g, if_pos ⟨g.1, by omega, by omega⟩, g.2]
    show h.2.2.2 q0 (x1 + x4) = _
    have e : x3 + x4 - x3 = x4 := by omega
    rw [e]
  · rw [if_neg g]
    by_cases g2 : j = q2 ∧ x3 ≤ m ∧ m < x3 + x4
    · rw [if_pos g2, if_pos ⟨g2.1, g2.2.1, by omega⟩]
    · rw [if_neg g2, if_neg (by omega)]
theorem z_copy {q0 n0 q2 n2 : Nat} {x1 x3 : Int} (hk0 : hk h q0 = (1, n0)) (hk2 : hk h q2 = (1, n2)) (hne : q0 ≠ q2) (a1 : 0 ≤ x1) (a2 : x1 + 293 ≤ n0) (a3 : 0 ≤ x3) (a4 : x3 + 293 ≤ n2) (b1 : n0 ≤ 1172) (b2 : n2 ≤ 1172) :
    AM d m_X7_copyState [.inr (some q0), .inl x1, .inr (some q2), .inl x3] h (fun r h' => r = none ∧ h' = cpy h q0 q2 x1 x3 293) := by
  have lp : ∀ (k : Nat) (x4 : Int), (k : Int) = 293 - x4 → 0 ≤ x4 → AW m_X7_copyState d none (fun r h' => r = none ∧ h' = cpy h q0 q2 x1 x3 293) 3 [some (.inr (some q0)), some (.inl x1), some (.inr (some q2)), some (.inl x3), some (.inl x4)] [] (cpy h q0 q2 x1 x3 x4) (0, 0) := by
    intro k
    induction k with
    | zero =>
      intro x4 hk h4
      have e : x4 = 293 := by omega
      subst e
      exact vc_X7_copyState_3 hk0 hk2 ⟨fun _ => ⟨rfl, rfl⟩, fun c => absurd (by decide) c⟩
    | succ k ih =>
      intro x4 hk h4
      refine vc_X7_copyState_3 hk0 hk2 ⟨fun c => by omega, fun c => ⟨by unfold rg; omega, by unfold rg; omega, ⟨by omega, by omega⟩, ⟨by omega, by omega⟩, by unfold rg; omega, ?_⟩⟩
      rw [cpy_s hne h4]
      exact ih (x4 + 1) (by omega) (by omega)
  have r := lp 293 0 (by omega) (by omega)
  rw [cpy_0] at r
  exact vc_X7_copyState hk0 hk2 r
end MODEL3
