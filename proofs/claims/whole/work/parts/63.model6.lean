/-! the model: a state recorded, whole -/
section MODEL7
variable {d : Nat} {h : AH} {s : Ms} {L : List Ms}
theorem QZ.k105 (a : QZ h) : hk h 105 = (1, 293) := a.2.2.1
theorem QZ.k106 (a : QZ h) : hk h 106 = (1, 293) := a.2.2.2.2.1
theorem QZ.k107 (a : QZ h) : hk h 107 = (1, 1172) := a.2.2.2.2.2.2.1
theorem QZ.k108 (a : QZ h) : hk h 108 = (1, 293) := a.2.2.2.2.2.2.2.2.1
theorem z_record {q1 : Nat} (hd : 2 ≤ d) (hL : QZ h) (hq : q1 = 105 ∨ q1 = 106) (a : ZF (hi h q1) s) (p : HZ h L) : AM d m_X7_recordRow [.inr (some 104), .inr (some q1)] h (fun r h' => r = none ∧ SS h h' ∧ (∀ j m, j ≠ 107 → ¬ (j = 104 ∧ m = 3) → hi h' j m = hi h j m) ∧ HZ h' (push s L)) := by
  have hk1 : hk h q1 = (1, 293) := by
    rcases hq with rfl | rfl
    · exact hL.k105
    · exact hL.k106
  obtain ⟨n1, n4, e⟩ := id p
  refine vc_X7_recordRow (by omega) hL hk1 ⟨fun c => ?_, fun c => ?_⟩
  · have hl : L.length < 4 := by omega
    refine ⟨by unfold rg; omega, am_mono (z_copy hk1 hL.k107 (by omega) (by omega) (by omega) (by omega) (by omega) (by omega) (by omega)) (fun r h3 _ _ z => ?_)⟩
    obtain ⟨rfl, rfl⟩ := z
    have z : hi (cpy h q1 107 0 (293 * hi h 104 3) 293) 104 3 = hi h 104 3 := by rw [hi_cpy, if_neg (by omega)]
    refine ⟨rfl, SS.rf.cpy, by rw [z]; unfold rg; omega, rfl, SS.rf.cpy.up, fun j m h1 h2 => ?_, ?_⟩
    · rw [hi_up, if_neg h2, hi_cpy, if_neg (fun z => h1 z.1)]
    · unfold push
      rw [if_pos hl]
      exact HZ_put hq a n1 hl e
  · have c4 : hi h 104 3 = 4 := Classical.byContradiction c
    have hl4 : L.length = 4 := by omega
    have lp : ∀ (k : Nat) (x2 : Int), (k : Int) = 879 - x2 → 0 ≤ x2 → AW m_X7_recordRow d none (fun r h' => r = none ∧ SS h h' ∧ (∀ j m, j ≠ 107 → ¬ (j = 104 ∧ m = 3) → hi h' j m = hi h j m) ∧ HZ h' (push s L)) 10 [some (.inr (some 104)), some (.inr (some q1)), some (.inl x2)] [] (cpy h 107 107 293 0 x2) (0, 0) := by
      intro k
      induction k with
      | zero =>
        intro x2 hk h2
        have ex : x2 = 879 := by omega
        subst ex
        have z3 : hi (cpy h 107 107 293 0 879) 104 3 = 4 := by rw [hi_cpy, if_neg (by omega)]; exact c4
        have hq1 : hi (up (cpy h 107 107 293 0 879) 104 3 3) q1 = hi h q1 := by
          rw [up_ne (by omega)]
          funext m
          rw [hi_cpy, if_neg (by omega)]
        have hdl : (L.drop 1).length = 3 := by rw [List.length_drop]; omega
        refine vc_X7_recordRow_10 (by omega) (hL.ss SS.rf.cpy) hk1 ⟨fun _ => ?_, fun c => absurd (by decide) c⟩
        rw [z3]
        refine ⟨by decide, by decide, am_mono (z_copy (h := up (cpy h 107 107 293 0 879) 104 3 (4 - 1)) hk1 hL.k107 (by omega) (by omega) (by omega) (by omega) (by omega) (by omega) (by omega)) (fun r h8 _ _ z => ?_)⟩
        obtain ⟨rfl, rfl⟩ := z
        have z8 : hi (up (cpy h 107 107 293 0 879) 104 3 (4 - 1)) 104 3 = 4 - 1 := by rw [hi_up, if_pos ⟨rfl, rfl⟩]
        have z9 : hi (cpy (up (cpy h 107 107 293 0 879) 104 3 (4 - 1)) q1 107 0 (293 * (4 - 1)) 293) 104 3 = 4 - 1 := by rw [hi_cpy, if_neg (by omega)]; exact z8
        have key := HZ_put (h1 := up (cpy h 107 107 293 0 879) 104 3 (4 - 1)) (s := s) (L := L.drop 1) hq (by rw [show (4 - 1 : Int) = 3 from rfl, hq1]; exact a) (by rw [z8, hdl]; rfl) (by omega) (fun k v hv => by
          have hk := lt_len hv
          rw [List.getElem?_drop] at hv
          refine (e _ v hv).cong (fun m h0 h2 => ?_)
          rw [up_ne (by decide), hi_cpy, if_pos ⟨rfl, by omega, by omega⟩]
          congr 1
          omega)
        rw [z8] at key
        refine ⟨rfl, SS.rf.cpy, by rw [z9]; decide, rfl, SS.rf.cpy.up.cpy.up, fun j m h1 h2 => ?_, ?_⟩
        · rw [hi_up, if_neg h2, hi_cpy, if_neg (fun z => h1 z.1), hi_up, if_neg h2, hi_cpy, if_neg (fun z => h1 z.1)]
        · unfold push
          rw [if_neg (by omega)]
          exact key
      | succ k ih =>
        intro x2 hk h2
        refine vc_X7_recordRow_10 (by omega) (hL.ss SS.rf.cpy) hk1 ⟨fun c => by omega, fun c => ⟨by unfold rg; omega, ⟨by omega, by omega⟩, ⟨by omega, by omega⟩, by unfold rg; omega, ?_⟩⟩
        rw [cpy_sh h2]
        exact ih (x2 + 1) (by omega) (by omega)
    have r := lp 879 0 (by omega) (by omega)
    rw [cpy_0] at r
    exact r
end MODEL7
