/-! the model: what would be -/
theorem hear11 (f : Cd → Bool) (s : Ms) : (hearS f s).2.2 11 = s.2.2 11 := by
  unfold hearS
  split
  · exact su_ne (f := s.2.2) (k := 7) (v := w (s.2.2 7 + 1)) (j := 11) (by decide)
  · exact su_ne (f := s.2.2) (k := 8) (v := w (s.2.2 8 + 1)) (j := 11) (by decide)
  · exact su_ne (f := s.2.2) (k := 9) (v := w (s.2.2 9 + 1)) (j := 11) (by decide)
theorem slots11 (sl : Int → Int) : ∀ (m : Nat) (s : Ms), (slotsS sl m s).2.2 11 = s.2.2 11
  | 0, _ => rfl
  | m + 1, s => by
    have e : (slotsS sl (m + 1) s).2.2 11 = (hearS (fun c => decide (sl c.1 = m)) (slotsS sl m s)).2.2 11 := by
      simp only [slotsS, slotS, lgS, cntD]
      rw [su_ne (by decide), su_ne (by decide), su_ne (by decide)]
    rw [e, hear11, slots11 sl m s]
theorem frS_11 (m : Nat) (s : Ms) : (frS m s).2.2 11 = w (s.2.2 11 + 1) := by
  have e : (frS m s).2.2 11 = (frB m s).2.2 11 := slots11 _ m (frB m s)
  rw [e]
  simp only [frB]
  rw [su_ne (by decide), su_ne (by decide), su_at]
theorem rdS_11 {first : Int} : ∀ (f size : Nat) (n : Int) (s : Ms), f ≤ 40 → ∃ k : Nat, k ≤ f ∧ (rdS first f size n s).1 = n + k ∧ w ((rdS first f size n s).2.2.2 11 - s.2.2 11) = k
  | 0, _, n, s, _ => ⟨0, by decide, by show n = n + ((0 : Nat) : Int); omega, w_self⟩
  | f + 1, size, n, s, hf => by
    have er : rdS first (f + 1) size n s = if 0 < w ((frS size s).2.2 9 - s.2.2 9) then rdS first f (clp (nsz (s.2.2 3) first size (w ((frS size s).2.2 9 - s.2.2 9)))).toNat (n + 1) (frS size s) else (n + 1, frS size s) := rfl
    have h1 : w ((frS size s).2.2 11 - s.2.2 11) = ((1 : Nat) : Int) := by rw [frS_11]; exact w_one
    rw [er]
    by_cases c : 0 < w ((frS size s).2.2 9 - s.2.2 9)
    · rw [if_pos c]
      obtain ⟨k, l, e1, e2⟩ := rdS_11 (first := first) f (clp (nsz (s.2.2 3) first size (w ((frS size s).2.2 9 - s.2.2 9)))).toNat (n + 1) (frS size s) (by omega)
      exact ⟨1 + k, by omega, by rw [e1]; omega, w_tr h1 e2 (by omega) (by omega)⟩
    · rw [if_neg c]
      exact ⟨1, by omega, rfl, h1⟩
section MODEL23
variable {d : Nat} {h h1 : AH} {s : Ms} {g : Gs}
theorem z_spare (a : EZ h s) : EZ (cpy h 105 106 0 0 293) s ∧ ZF (hi (cpy h 105 106 0 0 293) 106) s := by
  refine ⟨a.row (by funext m; rw [hi_cpy, if_neg (by omega)]), ZF.cong a (fun m h0 h2 => ?_)⟩
  rw [hi_cpy, if_pos ⟨rfl, by omega, by omega⟩]
  congr 1
  omega
theorem z_backE (z : ZF (hi h1 106) s) : EZ (cpy h1 106 105 0 0 293) s := ZF.cong z (fun m h0 h2 => by
  rw [hi_cpy, if_pos ⟨rfl, by omega, by omega⟩]
  congr 1
  omega)
theorem z_return {v : Int} (a : G7 h g) (t : SS h h1) (f : FM h h1 sX) (z : ZF (hi h1 106) g.1) : R7 h (v, g) (some v) (cpy h1 106 105 0 0 293) := by
  have f9 : FM h (cpy h1 106 105 0 0 293) sX := f.cpy (fun m => Or.inl rfl)
  exact ⟨rfl, t.cpy, f9.fx (fun _ _ => sX_Z), a.moveX f9 (z_backE z)⟩
theorem fX_spare : FM h (cpy h 105 106 0 0 293) sX := FM.rf.cpy (fun m => Or.inr (Or.inl rfl))
theorem y_walkTakes {x k : Int} (hd : 7 ≤ d) (hL : QZ h) (a : G7 h g) : AM d m_X7_walkTakes [.inr (some 104), .inl x, .inl k] h (R7 h (walkTO x k g.1, g)) := by
  refine vc_X7_walkTakes (by omega) hL (am_mono z_in (fun r h1 _ _ z => ?_))
  obtain ⟨rfl, rfl⟩ := z
  unfold walkTO
  by_cases c : 0 ≤ k ∧ k ≤ 4
  · rw [if_pos c, if_neg (show ¬ (k < 0 ∨ 4 < k) by omega)]
    refine ⟨_, rfl, SS.rf, fun _ => am_mono (z_copy hL.k105 hL.k106 (by omega) (by omega) (by omega) (by omega) (by omega) (by omega) (by omega)) (fun r h4 _ _ z => ?_), fun c2 => absurd (by decide) c2⟩
    obtain ⟨rfl, rfl⟩ := z
    obtain ⟨e4, z4⟩ := z_spare a.1
    refine ⟨rfl, SS.rf.cpy, am_mono (z_walkNow (by omega) (hL.ss SS.rf.cpy) e4) (fun r h5 _ _ z => ?_)⟩
    obtain ⟨rfl, t5, f5, e5, g5⟩ := z
    have z5 : ZF (hi h5 106) g.1 := by
      rw [f5.row (fun m => by unfold sW; omega)]
      exact z4
    have t15 : SS h1 h5 := SS.rf.cpy.tr t5
    have f15 : FM h1 h5 sX := fX_spare.tr (f5.wk (fun _ _ q => sP_X (sW_P q)))
    have hL5 := hL.ss t15
    have q5 : ∀ j, 2 ≤ j → j ≤ 12 → hi h5 105 j = (wkS x g.1).2.2.2 j := fun j j1 j2 => e5.sc j1 j2
    have q6 : ∀ j, 2 ≤ j → j ≤ 12 → hi h5 106 j = g.1.2.2 j := fun j j1 j2 => z5.2.2.1 j j1 j2
    have cp : AM (d - 1) m_X7_copyState [(.inr (some 106)), (.inl 0), (.inr (some 105)), (.inl 0)] h5 (fun r h' => r = none ∧ h' = cpy h5 106 105 0 0 293) := z_copy hL5.k106 hL5.k105 (by omega) (by omega) (by omega) (by omega) (by omega) (by omega) (by omega)
    refine ⟨rfl, t5, fun c0 => ⟨fun c1 => ⟨fun c2 => am_mono cp (fun r h9 _ _ z => ?_), fun c2 => am_mono cp (fun r h9 _ _ z => ?_)⟩, fun c1 => am_mono cp (fun r h9 _ _ z => ?_)⟩, fun c0 => am_mono cp (fun r h9 _ _ z => ?_)⟩
    · obtain ⟨rfl, rfl⟩ := z
      rw [if_neg c0, if_neg c1, if_neg c2, q5 9 (by decide) (by decide), q6 9 (by decide) (by decide)]
      refine ⟨rfl, SS.rf.cpy, fun c4 => ?_, fun c4 => ?_⟩
      · rw [if_pos (show k = 3 by omega)]
        exact z_return a t15 f15 z5
      · rw [if_neg (show ¬ k = 3 by omega)]
        have eg : hi (cpy h5 106 105 0 0 293) 104 13 = (wkS x g.1).1 := by
          rw [hi_cpy, if_neg (by omega)]
          exact g5
        rw [eg]
        exact z_return a t15 f15 z5
    · obtain ⟨rfl, rfl⟩ := z
      rw [if_neg c0, if_neg c1, if_pos (Classical.byContradiction c2), q5 8 (by decide) (by decide), q6 8 (by decide) (by decide)]
      exact ⟨rfl, SS.rf.cpy, z_return a t15 f15 z5⟩
    · obtain ⟨rfl, rfl⟩ := z
      rw [if_neg c0, if_pos (Classical.byContradiction c1), q5 10 (by decide) (by decide), q6 10 (by decide) (by decide)]
      exact ⟨rfl, SS.rf.cpy, z_return a t15 f15 z5⟩
    · obtain ⟨rfl, rfl⟩ := z
      rw [if_pos (Classical.byContradiction c0), q5 5 (by decide) (by decide), q6 5 (by decide) (by decide)]
      exact ⟨rfl, SS.rf.cpy, z_return a t15 f15 z5⟩
  · rw [if_neg c, if_pos (show k < 0 ∨ 4 < k by omega)]
    exact ⟨_, rfl, SS.rf, fun c2 => absurd rfl c2, fun _ => R7.st a⟩
theorem y_roundsTake {x k : Int} (hd : 7 ≤ d) (hL : QZ h) (a : G7 h g) : AM d m_X7_roundsTake [.inr (some 104), .inl x, .inl k] h (R7 h (roundsTO x k g.1, g)) := by
  refine vc_X7_roundsTake (by omega) hL (am_mono (z_isSlots (by omega)) (fun r h1 _ _ z => ?_))
  obtain ⟨rfl, rfl⟩ := z
  unfold roundsTO
  by_cases cx : 1 ≤ x ∧ x ≤ 64
  · rw [if_pos cx]
    refine ⟨_, rfl, SS.rf, fun c2 => absurd c2 (by decide), fun _ => am_mono z_in (fun r h4 _ _ z => ?_)⟩
    obtain ⟨rfl, rfl⟩ := z
    by_cases c : 0 ≤ k ∧ k ≤ 4
    · rw [if_pos c, if_neg (show ¬ (¬ (1 ≤ x ∧ x ≤ 64) ∨ k < 0 ∨ 4 < k) by omega)]
      obtain ⟨m, hm⟩ : ∃ m : Nat, x = m := ⟨x.toNat, by omega⟩
      subst hm
      have er : roundsO (m : Int) g.1 = rdS m 40 m 0 g.1 := by
        unfold roundsO
        rw [if_pos cx, Int.toNat_natCast]
      rw [er]
      refine ⟨_, rfl, SS.rf, fun _ => am_mono (z_copy hL.k105 hL.k106 (by omega) (by omega) (by omega) (by omega) (by omega) (by omega) (by omega)) (fun r h5 _ _ z => ?_), fun c2 => absurd (by decide) c2⟩
      obtain ⟨rfl, rfl⟩ := z
      obtain ⟨e4, z4⟩ := z_spare a.1
      refine ⟨rfl, SS.rf.cpy, am_mono (z_roundsNow (by omega) (hL.ss SS.rf.cpy) e4 (by omega) (by omega)) (fun r h6 _ _ z => ?_)⟩
      obtain ⟨rfl, t5, f5, e5⟩ := z
      have z5 : ZF (hi h6 106) g.1 := by
        rw [f5.row (fun m => by unfold sF; omega)]
        exact z4
      have t15 : SS h4 h6 := SS.rf.cpy.tr t5
      have f15 : FM h4 h6 sX := fX_spare.tr (f5.wk (fun _ _ q => sP_X (sF_P q)))
      have hL5 := hL.ss t15
      have q5 : ∀ j, 2 ≤ j → j ≤ 12 → hi h6 105 j = (rdS m 40 m 0 g.1).2.2.2 j := fun j j1 j2 => e5.sc j1 j2
      have q6 : ∀ j, 2 ≤ j → j ≤ 12 → hi h6 106 j = g.1.2.2 j := fun j j1 j2 => z5.2.2.1 j j1 j2
      have cp : AM (d - 1) m_X7_copyState [(.inr (some 106)), (.inl 0), (.inr (some 105)), (.inl 0)] h6 (fun r h' => r = none ∧ h' = cpy h6 106 105 0 0 293) := z_copy hL5.k106 hL5.k105 (by omega) (by omega) (by omega) (by omega) (by omega) (by omega) (by omega)
      refine ⟨_, rfl, t5, fun c0 => ⟨fun c1 => ⟨fun c2 => ⟨fun c3 => am_mono cp (fun r h9 _ _ z => ?_), fun c3 => am_mono cp (fun r h9 _ _ z => ?_)⟩, fun c2 => am_mono cp (fun r h9 _ _ z => ?_)⟩, fun c1 => am_mono cp (fun r h9 _ _ z => ?_)⟩, fun c0 => am_mono cp (fun r h9 _ _ z => ?_)⟩
      · obtain ⟨rfl, rfl⟩ := z
        rw [if_neg c0, if_neg c1, if_neg c2, if_neg c3, q5 6 (by decide) (by decide), q6 6 (by decide) (by decide)]
        exact ⟨rfl, SS.rf.cpy, z_return a t15 f15 z5⟩
      · obtain ⟨rfl, rfl⟩ := z
        rw [if_neg c0, if_neg c1, if_neg c2, if_pos (Classical.byContradiction c3), q5 9 (by decide) (by decide), q6 9 (by decide) (by decide)]
        exact ⟨rfl, SS.rf.cpy, z_return a t15 f15 z5⟩
      · obtain ⟨rfl, rfl⟩ := z
        rw [if_neg c0, if_neg c1, if_pos (Classical.byContradiction c2), q5 8 (by decide) (by decide), q6 8 (by decide) (by decide)]
        exact ⟨rfl, SS.rf.cpy, z_return a t15 f15 z5⟩
      · obtain ⟨rfl, rfl⟩ := z
        rw [if_neg c0, if_pos (Classical.byContradiction c1), q5 10 (by decide) (by decide), q6 10 (by decide) (by decide)]
        exact ⟨rfl, SS.rf.cpy, z_return a t15 f15 z5⟩
      · obtain ⟨rfl, rfl⟩ := z
        obtain ⟨kk, -, e1, e2⟩ := rdS_11 (first := (m : Int)) 40 m 0 g.1 (by omega)
        have ev : w ((rdS m 40 m 0 g.1).2.2.2 11 - g.1.2.2 11) = (rdS m 40 m 0 g.1).1 := by rw [e1, e2]; omega
        rw [if_pos (Classical.byContradiction c0), q5 11 (by decide) (by decide), q6 11 (by decide) (by decide), ev]
        exact ⟨rfl, SS.rf.cpy, z_return a t15 f15 z5⟩
    · rw [if_neg c, if_pos (show (¬ (1 ≤ x ∧ x ≤ 64) ∨ k < 0 ∨ 4 < k) by omega)]
      exact ⟨_, rfl, SS.rf, fun c2 => absurd rfl c2, fun _ => R7.st a⟩
  · rw [if_neg cx, if_pos (show (¬ (1 ≤ x ∧ x ≤ 64) ∨ k < 0 ∨ 4 < k) from Or.inl cx)]
    exact ⟨_, rfl, SS.rf, fun _ => R7.st a, fun c2 => absurd rfl c2⟩
theorem y_bestFrame (hd : 7 ≤ d) (hL : QZ h) (a : G7 h g) : AM d m_X7_bestFrame [.inr (some 104)] h (R7 h (bestL g.1 64 0 0 0 1, g)) := by
  have lp : ∀ (k : Nat) (b v v' t m : Int) (h1 : AH), (k : Int) = 65 - m → 1 ≤ m → (b = 0 → v' = -1) → (b ≠ 0 → v' = v) → SS h h1 → FM h h1 sX → EZ h1 g.1 → ZF (hi h1 106) g.1 →
      AW m_X7_bestFrame d none (R7 h (bestL g.1 k b v t m, g)) 22 [some (.inr (some 104)), some (.inl b), some (.inl v'), some (.inl t), some (.inl m), none, none, none] [] h1 (0, 0) := by
    intro k
    induction k with
    | zero =>
      intro b v v' t m h1 hk hm hb0 hb1 tt f e z
      exact vc_X7_bestFrame_22 (by omega) (hL.ss tt) ⟨fun _ => ⟨rfl, tt, f.fx (fun _ _ => sX_Z), a.moveX f e⟩, fun c => by omega⟩
    | succ k ih =>
      intro b v v' t m h1 hk hm hb0 hb1 tt f e z
      obtain ⟨n, hn⟩ : ∃ n : Nat, m = n := ⟨m.toNat, by omega⟩
      subst hn
      have ef : frameO (n : Int) g.1 = (frR n g.1, frS n g.1) := by
        unfold frameO
        rw [if_pos ⟨by omega, by omega⟩, Int.toNat_natCast]
      have f0 : 0 ≤ frR n g.1 := frR_0 (by omega)
      refine vc_X7_bestFrame_22 (by omega) (hL.ss tt) ⟨fun c => by omega, fun _ => am_mono (z_frameNow (by omega) (hL.ss tt) e (by omega) (by omega)) (fun r h3 _ _ q => ?_)⟩
      obtain ⟨rfl, t3, f3, e3⟩ := q
      have z3 : ZF (hi h3 106) g.1 := by
        rw [f3.row (fun m => by unfold sF; omega)]
        exact z
      have t13 := tt.tr t3
      have f13 : FM h h3 sX := f.tr (f3.wk (fun _ _ q => sP_X (sF_P q)))
      have hL3 := hL.ss t13
      have q8 : w (hi h3 105 8 - hi h3 106 8) = frR n g.1 := by
        have u1 : hi h3 105 8 = (frS n g.1).2.2 8 := e3.sc (by decide) (by decide)
        have u2 : hi h3 106 8 = g.1.2.2 8 := z3.2.2.1 8 (by decide) (by decide)
        rw [u1, u2]
        rfl
      have q10 : w (hi h3 105 10 - hi h3 106 10) = w ((frS n g.1).2.2 10 - g.1.2.2 10) := by
        have u1 : hi h3 105 10 = (frS n g.1).2.2 10 := e3.sc (by decide) (by decide)
        have u2 : hi h3 106 10 = g.1.2.2 10 := z3.2.2.1 10 (by decide) (by decide)
        rw [u1, u2]
      have f4 : FM h (cpy h3 106 105 0 0 293) sX := f13.cpy (fun m => Or.inl rfl)
      have e4 := z_backE z3
      have z4 : ZF (hi (cpy h3 106 105 0 0 293) 106) g.1 := by
        have er : hi (cpy h3 106 105 0 0 293) 106 = hi h3 106 := by
          funext m
          rw [hi_cpy, if_neg (by omega)]
        rw [er]
        exact z3
      have cp : AM (d - 1) m_X7_copyState [(.inr (some 106)), (.inl 0), (.inr (some 105)), (.inl 0)] h3 (fun r h' => r = none ∧ h' = cpy h3 106 105 0 0 293) := z_copy hL3.k106 hL3.k105 (by omega) (by omega) (by omega) (by omega) (by omega) (by omega) (by omega)
      have eb : bestL g.1 (k + 1) b v t (n : Int) = if b = 0 ∨ v < frR n g.1 ∨ (frR n g.1 = v ∧ w ((frS n g.1).2.2 10 - g.1.2.2 10) < t) then bestL g.1 k n (frR n g.1) (w ((frS n g.1).2.2 10 - g.1.2.2 10)) ((n : Int) + 1) else bestL g.1 k b v t ((n : Int) + 1) := by
        simp only [bestL]
        rw [ef]
      rw [eb, q8, q10]
      have yes : (b = 0 ∨ v < frR n g.1 ∨ (frR n g.1 = v ∧ w ((frS n g.1).2.2 10 - g.1.2.2 10) < t)) → AM (d - 1) m_X7_copyState [(.inr (some 106)), (.inl 0), (.inr (some 105)), (.inl 0)] h3 (fun r h8 => 
            r = none ∧ SS h3 h8 ∧
            (rg ((n : Int) + 1)) ∧
            AW m_X7_bestFrame d none (R7 h ((if b = 0 ∨ v < frR n g.1 ∨ (frR n g.1 = v ∧ w ((frS n g.1).2.2 10 - g.1.2.2 10) < t) then bestL g.1 k n (frR n g.1) (w ((frS n g.1).2.2 10 - g.1.2.2 10)) ((n : Int) + 1) else bestL g.1 k b v t ((n : Int) + 1)), g)) 22 [some (.inr (some 104)), some (.inl (n : Int)), some (.inl (frR n g.1)), some (.inl (w ((frS n g.1).2.2 10 - g.1.2.2 10))), some (.inl ((n : Int) + 1)), none, none, none] [] h8 (0, 0)) := by
        intro c
        rw [if_pos c]
        refine am_mono cp (fun r h8 _ _ q => ?_)
        obtain ⟨rfl, rfl⟩ := q
        exact ⟨rfl, SS.rf.cpy, by unfold rg; omega, ih n (frR n g.1) (frR n g.1) _ ((n : Int) + 1) _ (by omega) (by omega) (fun q => by omega) (fun _ => rfl) t13.cpy f4 e4 z4⟩
      have no : ¬ (b = 0 ∨ v < frR n g.1 ∨ (frR n g.1 = v ∧ w ((frS n g.1).2.2 10 - g.1.2.2 10) < t)) → AM (d - 1) m_X7_copyState [(.inr (some 106)), (.inl 0), (.inr (some 105)), (.inl 0)] h3 (fun r h8 => 
            r = none ∧ SS h3 h8 ∧
            (rg ((n : Int) + 1)) ∧
            AW m_X7_bestFrame d none (R7 h ((if b = 0 ∨ v < frR n g.1 ∨ (frR n g.1 = v ∧ w ((frS n g.1).2.2 10 - g.1.2.2 10) < t) then bestL g.1 k n (frR n g.1) (w ((frS n g.1).2.2 10 - g.1.2.2 10)) ((n : Int) + 1) else bestL g.1 k b v t ((n : Int) + 1)), g)) 22 [some (.inr (some 104)), some (.inl b), some (.inl v'), some (.inl t), some (.inl ((n : Int) + 1)), none, none, none] [] h8 (0, 0)) := by
        intro c
        rw [if_neg c]
        refine am_mono cp (fun r h8 _ _ q => ?_)
        obtain ⟨rfl, rfl⟩ := q
        exact ⟨rfl, SS.rf.cpy, by unfold rg; omega, ih b v v' t ((n : Int) + 1) _ (by omega) (by omega) hb0 hb1 t13.cpy f4 e4 z4⟩
      refine ⟨rfl, t3, fun c1 => yes ?_, fun c1 => ⟨fun c2 => no ?_, fun c2 => ⟨fun c3 => no ?_, fun c3 => yes ?_⟩⟩⟩
      · by_cases hb : b = 0
        · exact Or.inl hb
        · have := hb1 hb
          exact Or.inr (Or.inl (by omega))
      · have hb : b ≠ 0 := fun q => by have := hb0 q; omega
        have := hb1 hb
        omega
      · have hb : b ≠ 0 := fun q => by have := hb0 q; omega
        have := hb1 hb
        omega
      · have hb : b ≠ 0 := fun q => by have := hb0 q; omega
        have := hb1 hb
        omega
  refine vc_X7_bestFrame (by omega) hL (am_mono (z_copy hL.k105 hL.k106 (by omega) (by omega) (by omega) (by omega) (by omega) (by omega) (by omega)) (fun r h4 _ _ z => ?_))
  obtain ⟨rfl, rfl⟩ := z
  obtain ⟨e4, z4⟩ := z_spare a.1
  exact ⟨rfl, SS.rf.cpy, lp 64 0 0 (-1) 0 1 _ (by decide) (by decide) (fun _ => rfl) (fun q => absurd rfl q) SS.rf.cpy fX_spare e4 z4⟩
end MODEL23
