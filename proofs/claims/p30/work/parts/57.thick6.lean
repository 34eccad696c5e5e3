/-! the object: the thickest beginning -/
noncomputable def thL (l : List Cd) (len : Int) : Nat → Int → Int → Int → Int
  | 0, b, _, _ => b
  | k + 1, b, c, x => if (((l.filter (pa len x)).length : Nat) : Int) ≤ c then thL l len k b c (x + 1) else thL l len k x (((l.filter (pa len x)).length : Nat) : Int) (x + 1)
noncomputable def thickO (len : Int) (l : List Cd) : Int := if isB len 0 then thL l len (2 ^ len.toNat) (-5) 0 0 else -2
section THICK6
variable {d : Nat} {h : AH} {g : Gs}
theorem c_thL {len : Int} (hd : 3 ≤ d) (h0 : 0 ≤ len) (h8 : len ≤ 8) (hL : L6 h) (a : G6 h g) : ∀ (k : Nat) (b c x : Int), (k : Int) = sl 1 len - x → 0 ≤ x → sl 1 len ≤ 256 →
    AW m_X6_thickest d none (R6 h (thL g.1.1 len k b c x, g)) 19 [some (.inr (some 1)), some (.inl len), some (.inl b), some (.inl c), some (.inl x), none] [] h (0, 0) := by
  intro k
  induction k with
  | zero =>
    intro b c x hk hx hs
    exact vc_X6_thickest_19 (by omega) hL.1 ⟨fun c => R6.st a, fun c => by omega⟩
  | succ k ih =>
    intro b c x hk hx hs
    refine vc_X6_thickest_19 (by omega) hL.1 ⟨fun c => by omega, fun _ => am_mono (c_awakeWith (bits := x) (by omega) hL.q2.2.2.1 a.1.1 h0 h8) (fun r h2 _ _ z => ?_)⟩
    obtain ⟨rfl, rfl⟩ := z
    simp only [thL]
    refine ⟨_, rfl, SS.rf, fun c1 => ⟨by unfold rg; omega, ?_⟩, fun c1 => ⟨by unfold rg; omega, ?_⟩⟩
    · rw [if_pos c1]
      exact ih b c (x + 1) (by omega) (by omega) hs
    · rw [if_neg c1]
      exact ih x _ (x + 1) (by omega) (by omega) hs
theorem k_thickest {len : Int} (hd : 4 ≤ d) (hL : L6 h) (a : G6 h g) : AM d m_X6_thickest [.inr (some 1), .inl len] h (R6 h (thickO len g.1.1, g)) := by
  refine vc_X6_thickest (by omega) hL.1 (am_mono c_isBeginning (fun r h1 _ _ z => ?_))
  obtain ⟨rfl, rfl⟩ := z
  by_cases c : isB len 0
  · have e : sl 1 len = ((2 ^ len.toNat : Nat) : Int) := by
      have h0 := c.1
      have h8 := c.2.1
      obtain ⟨n, rfl⟩ : ∃ n : Nat, len = n := ⟨len.toNat, by omega⟩
      rw [sl_1 n (by omega)]
      simp
    have lim : (2 ^ len.toNat : Nat) ≤ 256 := Nat.le_trans (Nat.pow_le_pow_right (by decide) (by have := c.2.1; omega)) (by decide : 2 ^ 8 ≤ 256)
    unfold thickO
    rw [if_pos c, if_pos c]
    refine ⟨_, rfl, SS.rf, fun _ => ?_, fun c2 => absurd (by decide) c2⟩
    exact c_thL (by omega) c.1 c.2.1 hL a _ _ _ _ (by rw [e]; omega) (by omega) (by rw [e]; omega)
  · unfold thickO
    rw [if_neg c, if_neg c]
    exact ⟨_, rfl, SS.rf, fun c2 => absurd rfl c2, fun _ => R6.st a⟩
end THICK6
