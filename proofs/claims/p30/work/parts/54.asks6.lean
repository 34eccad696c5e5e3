/-! the object: what it answers and leaves as it is -/
def cardO (x : Int) (l : List Cd) : Int := if x < 0 then -2 else if (l.length : Int) ≤ x then -5 else (cat l x.toNat).1
noncomputable def ofO (x k : Int) (l : List Cd) : Int := match ix l x with
  | none => -1
  | some i => if k = 0 then (cat l i).2.1 else if k = 1 then (cat l i).2.2.1 else if k = 2 then (cat l i).2.2.2 else if k = 3 then shb (cat l i).1 l else -2
def toldO (x : Int) (tl : List Int) : Int := if x < 0 then -2 else if (tl.length : Int) ≤ x then -5 else tl.getD x.toNat 0
noncomputable def totO (x : Int) (g : Gs) : Int := if x = 0 then g.1.1.length else if x = 1 then nAw g.1.1 else if x = 2 then nLv g.1.1 else if x = 3 then g.1.2.1.length else if x = 11 then g.1.2.2 2 else if x = 12 then g.1.2.2 3 else if x = 13 then g.1.2.2 4 else if x = 15 then g.2.1.length else if x = 16 then g.2.2.2.length else if 4 ≤ x ∧ x ≤ 10 then g.1.2.2 (x + 1) else if x = 14 then g.1.2.2 12 else -2
noncomputable def countO (len bits : Int) (l : List Cd) : Int := if isB len bits then (((l.filter (pa len bits)).length : Nat) : Int) else -2
section ASK6
variable {d : Nat} {h : AH} {g : Gs}
theorem R6.st {v : Int} (a : G6 h g) : R6 h (v, g) (some v) h := ⟨rfl, SS.rf.w, FX.rf, a⟩
theorem k_card {x : Int} (hd : 3 ≤ d) (hL : L6 h) (a : G6 h g) : AM d m_X6_card [.inr (some 1), .inl x] h (R6 h (cardO x g.1.1, g)) := by
  have hp := hL.q2.2.2.1
  refine vc_X6_card (by omega) hL.1 ⟨fun c => am_mono (c_cards hp) (fun r h1 _ _ z => ?_), fun c => ?_⟩
  · obtain ⟨rfl, rfl⟩ := z
    have e : hi h1 (2 + 1) 6 = (g.1.1.length : Int) := a.1.1.1
    refine ⟨_, rfl, SS.rf, fun c2 => ?_, fun c2 => ?_⟩
    · rw [e] at c2
      unfold cardO
      rw [if_neg (by omega), if_pos c2]
      exact R6.st a
    · rw [e] at c2
      obtain ⟨i, rfl⟩ := Int.eq_ofNat_of_zero_le c
      have hi1 : i < g.1.1.length := by omega
      have hc := List.getElem?_eq_getElem hi1
      refine am_mono (c_nameAt (by omega) hp a.1.1 hc) (fun r h2 _ _ z => ?_)
      obtain ⟨rfl, rfl⟩ := z
      unfold cardO
      rw [if_neg (by omega), if_neg c2]
      have : cat g.1.1 (Int.toNat (i : Int)) = g.1.1[i] := cat_eq hc
      rw [this]
      exact ⟨_, rfl, SS.rf, R6.st a⟩
  · unfold cardO
    rw [if_pos (by omega)]
    exact R6.st a
theorem k_told {x : Int} (hd : 3 ≤ d) (hL : L6 h) (a : G6 h g) : AM d m_X6_told [.inr (some 1), .inl x] h (R6 h (toldO x g.1.2.1, g)) := by
  have hp := hL.q2.2.2.2.2.1
  refine vc_X6_told (by omega) hL.1 ⟨fun c => am_mono (c_names hp a.1.2.1) (fun r h1 _ _ z => ?_), fun c => ?_⟩
  · obtain ⟨rfl, rfl⟩ := z
    refine ⟨_, rfl, SS.rf, fun c2 => ?_, fun c2 => ?_⟩
    · unfold toldO
      rw [if_neg (by omega), if_pos c2]
      exact R6.st a
    · refine am_mono (c_toldAt hp a.1.2.1 c (by omega)) (fun r h2 _ _ z => ?_)
      obtain ⟨rfl, rfl⟩ := z
      unfold toldO
      rw [if_neg (by omega), if_neg c2]
      exact ⟨_, rfl, SS.rf, R6.st a⟩
  · unfold toldO
    rw [if_pos (by omega)]
    exact R6.st a
theorem k_count {len bits : Int} (hd : 3 ≤ d) (hL : L6 h) (a : G6 h g) : AM d m_X6_count [.inr (some 1), .inl len, .inl bits] h (R6 h (countO len bits g.1.1, g)) := by
  refine vc_X6_count (by omega) hL.1 (am_mono c_isBeginning (fun r h1 _ _ z => ?_))
  obtain ⟨rfl, rfl⟩ := z
  by_cases c : isB len bits
  · unfold countO
    rw [if_pos c, if_pos c]
    refine ⟨_, rfl, SS.rf, fun c2 => absurd c2 (by decide), fun _ => am_mono (c_awakeWith (by omega) hL.q2.2.2.1 a.1.1 c.1 c.2.1) (fun r h2 _ _ z => ?_)⟩
    obtain ⟨rfl, rfl⟩ := z
    exact ⟨_, rfl, SS.rf, R6.st a⟩
  · unfold countO
    rw [if_neg c, if_neg c]
    exact ⟨_, rfl, SS.rf, fun _ => R6.st a, fun c2 => absurd rfl c2⟩
theorem k_ofCard {x k : Int} (hd : 4 ≤ d) (hL : L6 h) (a : G6 h g) : AM d m_X6_ofCard [.inr (some 1), .inl x, .inl k] h (R6 h (ofO x k g.1.1, g)) := by
  have hp := hL.q2.2.2.1
  refine vc_X6_ofCard (by omega) hL.1 (am_mono (c_placeOf (x := x) hp a.1.1) (fun r h1 _ _ z => ?_))
  obtain ⟨rfl, rfl⟩ := z
  unfold ofO
  cases hx : ix g.1.1 x with
  | none => exact ⟨_, rfl, SS.rf, fun c => absurd rfl c, fun _ => R6.st a⟩
  | some i =>
    obtain ⟨c, hc, -⟩ := (ix_some a.1.1.2.2).mp hx
    have hw := cat_eq hc
    simp only
    rw [hw]
    refine ⟨_, rfl, SS.rf, fun _ => ⟨fun c1 => ?_, fun c1 => ?_, fun c1 => ?_, fun c1 => ?_, fun c1 => ?_⟩, fun c1 => absurd (by omega) c1⟩
    · rw [if_neg (by omega), if_neg (by omega), if_neg (by omega), if_neg (by omega)]
      exact R6.st a
    · refine am_mono (c_isAwake (by omega) hp a.1.1 hc) (fun r h2 _ _ z => ?_)
      obtain ⟨rfl, rfl⟩ := z
      rw [if_pos c1]
      have wl := (a.1.1.2.2.w1 hc).2.1
      refine ⟨_, rfl, SS.rf, fun c2 => ?_, fun c2 => ?_⟩
      · rw [c2]
        exact R6.st a
      · have e1 : c.2.1 = 1 := by omega
        rw [e1]
        exact R6.st a
    · refine am_mono (c_asksToGo (by omega) hp a.1.1 hc) (fun r h2 _ _ z => ?_)
      obtain ⟨rfl, rfl⟩ := z
      rw [if_neg (by omega), if_pos c1]
      exact ⟨_, rfl, SS.rf, R6.st a⟩
    · refine am_mono (c_tellings (by omega) hp a.1.1 hc) (fun r h2 _ _ z => ?_)
      obtain ⟨rfl, rfl⟩ := z
      rw [if_neg (by omega), if_neg (by omega), if_pos c1]
      exact ⟨_, rfl, SS.rf, R6.st a⟩
    · refine am_mono (c_sharedBits (by omega) hp a.1.1 hc) (fun r h2 _ _ z => ?_)
      obtain ⟨rfl, rfl⟩ := z
      rw [if_neg (by omega), if_neg (by omega), if_neg (by omega), if_pos c1]
      exact ⟨_, rfl, SS.rf, R6.st a⟩
end ASK6
