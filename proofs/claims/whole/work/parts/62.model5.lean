/-! the model: a state recorded -/
section MODEL5
variable {d : Nat} {h : AH} {s : Ms} {L : List Ms}
theorem cpy_sh {x2 : Int} (h4 : 0 ≤ x2) : up (cpy h 107 107 293 0 x2) 107 x2 (hi (cpy h 107 107 293 0 x2) 107 (x2 + 293)) = cpy h 107 107 293 0 (x2 + 1) := by
  rw [hi_cpy, if_neg (by omega)]
  refine ah_ext rfl rfl rfl ?_
  funext j m
  show (if j = 107 ∧ m = x2 then hi h 107 (x2 + 293) else if j = 107 ∧ 0 ≤ m ∧ m < 0 + x2 then h.2.2.2 107 (293 + (m - 0)) else h.2.2.2 j m) = (if j = 107 ∧ 0 ≤ m ∧ m < 0 + (x2 + 1) then h.2.2.2 107 (293 + (m - 0)) else h.2.2.2 j m)
  by_cases g : j = 107 ∧ m = x2
  · rw [if_pos g, if_pos ⟨g.1, by omega, by omega⟩, g.2]
    have e : 293 + (x2 - 0) = x2 + 293 := by omega
    rw [e]
    rfl
  · rw [if_neg g]
    by_cases g2 : j = 107 ∧ 0 ≤ m ∧ m < 0 + x2
    · rw [if_pos g2, if_pos ⟨g2.1, g2.2.1, by omega⟩]
    · rw [if_neg g2, if_neg (by omega)]
end MODEL5
