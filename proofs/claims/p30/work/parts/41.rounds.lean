/-! rounds -/
theorem w_step {a c : Int} {k : Nat} (hk : k < 1000) (h : w (a - c) = k) : w (w (a + 1) - c) = ((k + 1 : Nat) : Int) := by
  rw [w_eq] at h
  rw [w_eq, w_eq]
  omega
theorem hearS_9 (f : Cd → Bool) (s : Ms) : (hearS f s).2.2 9 = s.2.2 9 ∨ (hearS f s).2.2 9 = w (s.2.2 9 + 1) := by
  unfold hearS
  split
  · exact Or.inl (su_ne (f := s.2.2) (k := 7) (v := w (s.2.2 7 + 1)) (j := 9) (by decide))
  · exact Or.inl (su_ne (f := s.2.2) (k := 8) (v := w (s.2.2 8 + 1)) (j := 9) (by decide))
  · exact Or.inr (su_at (f := s.2.2) (k := 9) (v := w (s.2.2 9 + 1)))
theorem slotS_9 (sl : Int → Int) (k : Nat) (s : Ms) : (slotS sl k s).2.2 9 = s.2.2 9 ∨ (slotS sl k s).2.2 9 = w (s.2.2 9 + 1) := by
  have e : (slotS sl k s).2.2 9 = (hearS (fun c => decide (sl c.1 = k)) s).2.2 9 := by
    simp only [slotS, lgS, cntD]
    rw [su_ne (by decide), su_ne (by decide), su_ne (by decide)]
  rw [e]
  exact hearS_9 _ s
theorem slotsS_9 (sl : Int → Int) : ∀ (m : Nat) (s : Ms), m < 1000 → ∃ k : Nat, k ≤ m ∧ w ((slotsS sl m s).2.2 9 - s.2.2 9) = k
  | 0, s, _ => ⟨0, Nat.le_refl _, by
    show w (s.2.2 9 - s.2.2 9) = 0
    rw [Int.sub_self]
    exact w_id (by decide)⟩
  | m + 1, s, hm => by
    obtain ⟨k, hk, e⟩ := slotsS_9 sl m s (by omega)
    rcases slotS_9 sl m (slotsS sl m s) with q | q
    · exact ⟨k, by omega, by show w ((slotS sl m (slotsS sl m s)).2.2 9 - s.2.2 9) = k; rw [q]; exact e⟩
    · exact ⟨k + 1, by omega, by show w ((slotS sl m (slotsS sl m s)).2.2 9 - s.2.2 9) = _; rw [q]; exact w_step (by omega) e⟩
theorem frS_9 (m : Nat) (s : Ms) (hm : m < 1000) : ∃ k : Nat, k ≤ m ∧ w ((frS m s).2.2 9 - s.2.2 9) = k := by
  obtain ⟨k, hk, e⟩ := slotsS_9 (slF (drs m s.1 (s.2.2 4)).1) m (frB m s) hm
  refine ⟨k, hk, ?_⟩
  have e9 : (frB m s).2.2 9 = s.2.2 9 := by
    simp only [frB]
    rw [su_ne (by decide), su_ne (by decide), su_ne (by decide)]
  rw [e9] at e
  exact e
theorem slotS_3 (sl : Int → Int) (k : Nat) (s : Ms) {j : Int} (hj : j < 5) : (slotS sl k s).2.2 j = s.2.2 j := by
  have e : (slotS sl k s).2.2 j = (hearS (fun c => decide (sl c.1 = k)) s).2.2 j := by
    simp only [slotS, lgS, cntD]
    rw [su_ne (by omega), su_ne (by omega), su_ne (by omega)]
  rw [e]
  unfold hearS
  split
  · exact su_ne (f := s.2.2) (k := 7) (v := w (s.2.2 7 + 1)) (j := j) (by omega)
  · exact su_ne (f := s.2.2) (k := 8) (v := w (s.2.2 8 + 1)) (j := j) (by omega)
  · exact su_ne (f := s.2.2) (k := 9) (v := w (s.2.2 9 + 1)) (j := j) (by omega)
theorem frS_3 (m : Nat) (s : Ms) {j : Int} (hj : j < 4) : (frS m s).2.2 j = s.2.2 j := by
  have : ∀ n, (slotsS (slF (drs m s.1 (s.2.2 4)).1) n (frB m s)).2.2 j = (frB m s).2.2 j := by
    intro n
    induction n with
    | zero => rfl
    | succ n ih => exact (slotS_3 _ n _ (by omega)).trans ih
  refine (this m).trans ?_
  simp only [frB]
  rw [su_ne (by omega), su_ne (by omega), su_ne (by omega)]
def nsz (mode first size k : Int) : Int := if mode = 1 then 2 * k else if mode = 2 then (if size < 2 * k then 2 * size else if 4 * k ≤ size then size / 2 else size) else first
def clp (x : Int) : Int := if x < 1 then 1 else if 64 < x then 64 else x
theorem clp_in (x : Int) : 1 ≤ clp x ∧ clp x ≤ 64 := by
  unfold clp
  split
  · omega
  · split <;> omega
theorem clp_eq (x : Int) : (if 1 < (if x < 64 then x else 64) then (if x < 64 then x else 64) else 1) = clp x := by
  unfold clp
  split <;> split <;> (try split) <;> (try split) <;> omega
theorem dv_2 {x : Int} (h0 : 0 ≤ x) (h1 : x < 2147483648) : dv x 2 = x / 2 := by
  obtain ⟨n, rfl⟩ : ∃ n : Nat, x = n := ⟨x.toNat, by omega⟩
  unfold dv
  rw [b2_def]
  show (Int32.ofInt (n : Int) / Int32.ofInt ((2 : Nat) : Int)).toInt = _
  rw [nI_ofInt, nI_ofInt, pk_div (by omega) (by decide) (by decide), nI_toInt (by omega)]
  omega
/-- rounds: f frames more may be made; how many were made, and the state -/
noncomputable def rdS (first : Int) : Nat → Nat → Int → Ms → Int × Ms
  | 0, _, n, s => (n, s)
  | f + 1, size, n, s => if 0 < w ((frS size s).2.2 9 - s.2.2 9) then rdS first f (clp (nsz (s.2.2 3) first size (w ((frS size s).2.2 9 - s.2.2 9)))).toNat (n + 1) (frS size s) else (n + 1, frS size s)
section RDS
variable {d b : Nat} {h : AH} {s : Ms}
theorem c_nextSize {first size k : Int} (hd : 1 ≤ d) (hL : QS h b) (h3 : hi h (b + 11) 1 = 0 ∨ hi h (b + 11) 1 = 1 ∨ hi h (b + 11) 1 = 2) (hs : 1 ≤ size ∧ size ≤ 64) (hk : 0 ≤ k ∧ k ≤ 64) : AM d m_X2_nextSize [.inr (some b), .inl first, .inl size, .inl k] h (fun r h' => r = some (clp (nsz (hi h (b + 11) 1) first size k)) ∧ h' = h) := by
  refine vc_X2_nextSize hd hL ⟨fun c => ⟨fun c2 => ?_, fun c2 => ⟨⟨by omega, by omega⟩, fun c3 => ⟨⟨by omega, by omega⟩, fun c4 => ?_, fun c4 => ?_⟩, fun c3 => ⟨⟨by omega, by omega⟩, ?_⟩⟩⟩, fun c => ⟨⟨by omega, by omega⟩, ?_⟩⟩
  · refine ⟨?_, rfl⟩
    rw [clp_eq]
    unfold nsz
    rw [if_neg c, if_neg c2]
  · refine ⟨?_, rfl⟩
    rw [clp_eq]
    unfold nsz
    rw [if_neg c, if_pos (Classical.byContradiction c2), if_neg (by omega), if_neg (by omega)]
  · refine ⟨?_, rfl⟩
    rw [clp_eq]
    unfold nsz
    rw [if_neg c, if_pos (Classical.byContradiction c2), if_neg (by omega), if_pos (by omega), dv_2 (by omega) (by omega)]
  · refine ⟨?_, rfl⟩
    rw [clp_eq]
    unfold nsz
    rw [if_neg c, if_pos (Classical.byContradiction c2), if_pos (by omega)]
  · refine ⟨?_, rfl⟩
    rw [clp_eq]
    unfold nsz
    rw [if_pos (Classical.byContradiction c)]
theorem c_makeRounds {m : Nat} (hd : 5 ≤ d) (hL : QS h b) (a : ES h b s) (hm1 : 1 ≤ m) (hm2 : m ≤ 64) : AM d m_X2_makeRounds [.inr (some b), .inl (m : Int)] h (fun r h' => r = some (rdS m 40 m 0 s).1 ∧ SS h h' ∧ FX h h' (inS b) ∧ ES h' b (rdS m 40 m 0 s).2) := by
  have loop : ∀ (f size : Nat) (n : Int) (u : Ms) (h1 : AH), n + f = 40 → 0 ≤ n → 1 ≤ size → size ≤ 64 → SS h h1 → FX h h1 (inS b) → ES h1 b u → rdS m f size n u = rdS m 40 m 0 s →
      AW m_X2_makeRounds d none (fun r h' => r = some (rdS m 40 m 0 s).1 ∧ SS h h' ∧ FX h h' (inS b) ∧ ES h' b (rdS m 40 m 0 s).2) 17 [some (.inr (some b)), some (.inl (m : Int)), some (.inl (size : Int)), some (.inl n), some (.inl 1), none] [] h1 (0, 0) := by
    intro f
    induction f with
    | zero =>
      intro size n u h1 hn hn0 hz1 hz2 s1 f1 a1 er
      have er' : (n, u) = rdS m 40 m 0 s := er
      exact vc_X2_makeRounds_17 (by omega) (hL.ss s1) ⟨fun c => by omega, fun c => ⟨fun c2 => ⟨by rw [← er'], s1, f1, by rw [← er']; exact a1⟩, fun c2 => by omega⟩⟩
    | succ f ih =>
      intro size n u h1 hn hn0 hz1 hz2 s1 f1 a1 er
      refine vc_X2_makeRounds_17 (by omega) (hL.ss s1) ⟨fun c => by omega, fun c => ⟨fun c2 => by omega, fun c2 => am_mono (c_makeFrame (by omega) (hL.ss s1) a1 hz1 hz2) (fun r h2 _ _ q => ?_)⟩⟩
      obtain ⟨rfl, s2, f2, a2⟩ := q
      have y9 : hi h1 (b + 10) 4 = u.2.2 9 := a1.2.2.1.2.2.2.2.1
      have z9 : hi h2 (b + 10) 4 = (frS size u).2.2 9 := a2.2.2.1.2.2.2.2.1
      have z3 : hi h2 (b + 11) 1 = u.2.2 3 := by rw [a2.2.2.2.2.1, frS_3 size u (by decide)]
      obtain ⟨k, hk, ek⟩ := frS_9 size u (by omega)
      rw [y9, z9]
      have er' : (if 0 < w ((frS size u).2.2 9 - u.2.2 9) then rdS m f (clp (nsz (u.2.2 3) m size (w ((frS size u).2.2 9 - u.2.2 9)))).toNat (n + 1) (frS size u) else (n + 1, frS size u)) = rdS m 40 m 0 s := er
      rw [ek] at er' ⊢
      refine ⟨_, rfl, s2, am_mono (c_nextSize (by omega) ((hL.ss s1).ss s2) (by rw [z3]; exact a1.2.2.2.2.2.2.2.1) ⟨by omega, by omega⟩ ⟨by omega, by omega⟩) (fun r h3 _ _ q => ?_)⟩
      obtain ⟨rfl, rfl⟩ := q
      rw [z3]
      have hcl := clp_in (nsz (u.2.2 3) m size k)
      refine ⟨_, rfl, SS.rf, ⟨by omega, by omega⟩, fun c3 => ?_, fun c3 => ?_⟩
      · rw [if_neg (by omega)] at er'
        exact vc_X2_makeRounds_17 (by omega) ((hL.ss s1).ss s2) ⟨fun _ => ⟨by rw [← er'], s1.tr s2, f1.tr f2, by rw [← er']; exact a2⟩, fun c => by omega⟩
      · rw [if_pos (by omega)] at er'
        have := ih (clp (nsz (u.2.2 3) m size k)).toNat (n + 1) (frS size u) h3 (by omega) (by omega) (by omega) (by omega) (s1.tr s2) (f1.tr f2) a2 er'
        rw [Int.toNat_of_nonneg (by omega)] at this
        exact this
  refine vc_X2_makeRounds (by omega) hL (am_mono c_isFrameSize (fun r h' _ _ q => ?_))
  obtain ⟨rfl, rfl⟩ := q
  rw [if_pos (by omega)]
  exact ⟨_, rfl, SS.rf, fun _ => loop 40 m 0 s h' (by omega) (by omega) hm1 hm2 SS.rf FX.rf a rfl, fun c => by omega⟩
end RDS
