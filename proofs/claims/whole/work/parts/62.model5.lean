/-! the model: a state recorded -/
section MODEL5
variable {d : Nat} {h : AH} {s : Ms} {L : List Ms}
theorem cpy_sh {x2 : Int} (h4 : 0 ≤ x2) : up (cpy h 107 107 293 0 x2) 107 x2 (hi (cpy h 107 107 293 0 x2) 107 (x2 + 293)) = cpy h 107 107 293 0 (x2 + 1) := by
  rw [hi_cpy, if_neg (by omega)]
  refine ah_ext rfl rfl rfl ?_
  funext j m
  show (if j = 107 ∧ m = x2 then hi h 107 (x2 + 293) else if j = 107 ∧ 0 ≤ m ∧ m < 0 + x2 then h.2.2.2 107 (293 + (m - 0)) else h.2.2.2 j m) = (if j = 107 ∧ 0 ≤ m ∧ m < 0 + (x2 + 1) then h.2.2.2 107 (293 + (m - 0)) else h.2.2.2 j m)
  by_cases g : j = 107 ∧ m = x2
  · rw [if_pos g, if_pos ⟨g.1, by omega, by omega⟩, g.2]
    have e : 293 + (x2 - 0) = x2 + 293 := by omega
    rw [e]
    rfl
  · rw [if_neg g]
    by_cases g2 : j = 107 ∧ 0 ≤ m ∧ m < 0 + x2
    · rw [if_pos g2, if_pos ⟨g2.1, g2.2.1, by omega⟩]
    · rw [if_neg g2, if_neg (by omega)]
end MODEL5
section MODEL6
variable {d : Nat} {h : AH} {s : Ms} {L : List Ms}
/-- laid at the end of a past with room -/
theorem HZ_put {h1 : AH} {q1 : Nat} (hq : q1 = 105 ∨ q1 = 106) (a : ZF (hi h1 q1) s) (n1 : hi h1 104 3 = L.length) (n4 : L.length < 4) (p : ∀ (k : Nat) (v : Ms), L[k]? = some v → ZF (fun m => hi h1 107 (293 * (k : Int) + m)) v) : HZ (up (cpy h1 q1 107 0 (293 * hi h1 104 3) 293) 104 3 (hi (cpy h1 q1 107 0 (293 * hi h1 104 3) 293) 104 3 + 1)) (L ++ [s]) := by
  have hl : (L ++ [s]).length = L.length + 1 := by simp
  have z : hi (cpy h1 q1 107 0 (293 * hi h1 104 3) 293) 104 3 = hi h1 104 3 := by rw [hi_cpy, if_neg (by omega)]
  refine ⟨by rw [hi_up, if_pos ⟨rfl, rfl⟩, z, n1, hl]; rfl, by omega, fun k v hv => ?_⟩
  have hk := lt_len hv
  by_cases c : k < L.length
  · rw [List.getElem?_append_left c] at hv
    refine (p k v hv).cong (fun m h0 h2 => ?_)
    rw [up_ne (by decide), hi_cpy, if_neg (by omega)]
  · have hk2 : k = L.length := by omega
    subst hk2
    rw [List.getElem?_append_right (by omega), Nat.sub_self] at hv
    cases hv
    refine a.cong (fun m h0 h2 => ?_)
    rw [up_ne (by decide), hi_cpy, if_pos ⟨rfl, by omega, by omega⟩]
    congr 1
    omega
end MODEL6
