/-! the model: frame, rounds, type, clearText -/
section MODEL19
variable {d : Nat} {h : AH} {s : Ms} {g : Gs}
theorem z_isSlots {x : Int} (hd : 1 ≤ d) : AM d m_X7_isSlots [.inl x] h (fun r h' => r = some (if 1 ≤ x ∧ x ≤ 64 then 1 else 0) ∧ h' = h) := by
  refine vc_X7_isSlots (by omega) (am_mono z_in (fun r h1 _ _ z => ?_))
  obtain ⟨rfl, rfl⟩ := z
  refine ⟨_, rfl, SS.rf, ?_, rfl, rfl⟩
  split
  · exact Or.inr rfl
  · exact Or.inl rfl
theorem y_frame {x : Int} (hd : 6 ≤ d) (hL : QZ h) (a : G7 h g) : AM d m_X7_frame [.inr (some 104), .inl x] h (R7 h (recG (frameO x g.1) g)) := by
  refine vc_X7_frame (by omega) hL (am_mono (z_isSlots (by omega)) (fun r h1 _ _ z => ?_))
  obtain ⟨rfl, rfl⟩ := z
  unfold frameO
  by_cases c : 1 ≤ x ∧ x ≤ 64
  · rw [if_pos c, if_pos c]
    obtain ⟨m, hm⟩ : ∃ m : Nat, x = m := ⟨x.toNat, by omega⟩
    subst hm
    rw [Int.toNat_natCast]
    refine ⟨_, rfl, SS.rf, fun _ => am_mono (z_rec (by omega) hL a) (fun r h2 _ _ z => ?_), fun c2 => absurd (by decide) c2⟩
    obtain ⟨rfl, t1, f1, a1⟩ := z
    refine ⟨rfl, t1, am_mono (z_frameNow (by omega) (hL.ss t1) a1.1 (by omega) (by omega)) (fun r h3 _ _ z => ?_)⟩
    obtain ⟨rfl, t2, f2, e2⟩ := z
    have q1 : hi h2 105 8 = g.1.2.2 8 := a1.1.sc (by decide) (by decide)
    have q2 : hi h3 105 8 = (frS m g.1).2.2 8 := e2.sc (by decide) (by decide)
    rw [q1, q2]
    exact ⟨rfl, t2, R7.now (v := frR m g.1) t1 f1 a1 t2 (f2.wk (fun _ _ => sF_P)) e2 (frR_0 (by omega))⟩
  · rw [if_neg c, if_neg c]
    exact ⟨_, rfl, SS.rf, fun c2 => absurd rfl c2, fun _ => R7.no a (by decide)⟩
theorem z_next {first size k : Int} (hL : QZ h) (h3 : hi h 105 3 = 0 ∨ hi h 105 3 = 1 ∨ hi h 105 3 = 2) (hs : 1 ≤ size ∧ size ≤ 64) (hk : 0 ≤ k ∧ k ≤ 64) : AM d m_X7_nextSize [.inr (some 104), .inl first, .inl size, .inl k] h (fun r h' => r = some (clp (nsz (hi h 105 3) first size k)) ∧ h' = h) := by
  have B : ∀ y : Int, y = nsz (hi h 105 3) first size k → ((1 ≤ y → ((y ≤ 64 → (some y = some (clp (nsz (hi h 105 3) first size k)) ∧ h = h)) ∧ (¬ y ≤ 64 → (some 64 = some (clp (nsz (hi h 105 3) first size k)) ∧ h = h)))) ∧ (¬ 1 ≤ y → (some 1 = some (clp (nsz (hi h 105 3) first size k)) ∧ h = h))) := by
    intro y hy
    rw [← hy]
    unfold clp
    refine ⟨fun c => ⟨fun c2 => ⟨?_, rfl⟩, fun c2 => ⟨?_, rfl⟩⟩, fun c => ⟨?_, rfl⟩⟩
    · rw [if_neg (by omega), if_neg (by omega)]
    · rw [if_neg (by omega), if_pos (by omega)]
    · rw [if_pos (by omega)]
  have ed := dv_2 (x := size) (by omega) (by omega)
  refine vc_X7_nextSize hL ⟨fun c => ⟨fun c2 => ⟨by unfold rg; omega, fun c3 => ⟨by unfold rg; omega, fun c4 => B _ ?_, fun c4 => B _ ?_⟩, fun c3 => ⟨by unfold rg; omega, B _ ?_⟩⟩, fun c2 => ⟨by unfold rg; omega, B _ ?_⟩⟩, fun c => B _ ?_⟩
  · unfold nsz
    rw [if_neg (by omega), if_pos (by omega), if_neg (by omega), if_neg (by omega)]
  · unfold nsz
    rw [if_neg (by omega), if_pos (by omega), if_neg (by omega), if_pos (by omega), ed]
  · unfold nsz
    rw [if_neg (by omega), if_pos (by omega), if_pos (by omega)]
  · unfold nsz
    rw [if_pos (by omega)]
  · unfold nsz
    rw [if_neg (by omega), if_neg (by omega)]
theorem z_roundsNow {m : Nat} (hd : 6 ≤ d) (hL : QZ h) (a : EZ h s) (hm1 : 1 ≤ m) (hm2 : m ≤ 64) : AM d m_X7_roundsNow [.inr (some 104), .inl (m : Int)] h (fun r h' => r = some (rdS m 40 m 0 s).1 ∧ SS h h' ∧ FM h h' sF ∧ EZ h' (rdS m 40 m 0 s).2) := by
  have lp : ∀ (f n size : Nat) (h1 : AH) (s1 : Ms), f + 1 + n = 40 → 1 ≤ size → size ≤ 64 → SS h h1 → FM h h1 sF → EZ h1 s1 →
      (∀ x : Int × Ms, x = rdS m (f + 1) size n s1 → x = rdS m 40 m 0 s) →
      AW m_X7_roundsNow d none (fun r h' => r = some (rdS m 40 m 0 s).1 ∧ SS h h' ∧ FM h h' sF ∧ EZ h' (rdS m 40 m 0 s).2) 7 [some (.inr (some 104)), some (.inl (m : Int)), some (.inl (n : Int)), some (.inl (size : Int)), some (.inl 1), none, none] [] h1 (0, 0) := by
    intro f
    induction f with
    | zero =>
      intro n size h1 s1 hf hs1 hs2 t fm e K
      refine vc_X7_roundsNow_7 (by omega) (hL.ss t) ⟨fun c => absurd c (by decide), fun _ => am_mono (z_frameNow (by omega) (hL.ss t) e hs1 hs2) (fun r h2 _ _ z => ?_)⟩
      obtain ⟨rfl, t2, f2, e2⟩ := z
      have q1 : hi h1 105 9 = s1.2.2 9 := e.sc (by decide) (by decide)
      have q2 : hi h2 105 9 = (frS size s1).2.2 9 := e2.sc (by decide) (by decide)
      have q3 : hi h2 105 3 = (frS size s1).2.2 3 := e2.sc (by decide) (by decide)
      have w3 := e2.ws.2.1
      rw [← q3] at w3
      obtain ⟨kk, hk1, hk2⟩ := frS_9 size s1 (by omega)
      rw [q1, q2]
      have hr : rdS m (0 + 1) size n s1 = ((n : Int) + 1, frS size s1) := by
        show (if 0 < w ((frS size s1).2.2 9 - s1.2.2 9) then rdS m 0 _ ((n : Int) + 1) (frS size s1) else ((n : Int) + 1, frS size s1)) = _
        split <;> rfl
      have hx := K _ hr.symm
      have fin : ∀ v6 : Int, AW m_X7_roundsNow d none (fun r h' => r = some (rdS m 40 m 0 s).1 ∧ SS h h' ∧ FM h h' sF ∧ EZ h' (rdS m 40 m 0 s).2) 7 [some (.inr (some 104)), some (.inl (m : Int)), some (.inl ((n : Int) + 1)), some (.inl v6), some (.inl 0), none, none] [] h2 (0, 0) := fun v6 =>
        vc_X7_roundsNow_7 (by omega) (hL.ss (t.tr t2)) ⟨fun _ => ⟨by rw [← hx], t.tr t2, fm.tr f2, by rw [← hx]; exact e2⟩, fun c => absurd rfl c⟩
      refine ⟨rfl, t2, by unfold rg; omega, fun c => ?_, fun c => ⟨fun c2 => ?_, fun c2 => by omega⟩⟩
      · refine am_mono (z_next (hL.ss (t.tr t2)) w3 (by omega) (by rw [hk2]; omega)) (fun r h3 _ _ z => ?_)
        obtain ⟨rfl, rfl⟩ := z
        exact ⟨_, rfl, SS.rf, fin _⟩
      · refine am_mono (z_next (hL.ss (t.tr t2)) w3 (by omega) (by rw [hk2]; omega)) (fun r h3 _ _ z => ?_)
        obtain ⟨rfl, rfl⟩ := z
        exact ⟨_, rfl, SS.rf, fin _⟩
    | succ f ih =>
      intro n size h1 s1 hf hs1 hs2 t fm e K
      refine vc_X7_roundsNow_7 (by omega) (hL.ss t) ⟨fun c => absurd c (by decide), fun _ => am_mono (z_frameNow (by omega) (hL.ss t) e hs1 hs2) (fun r h2 _ _ z => ?_)⟩
      obtain ⟨rfl, t2, f2, e2⟩ := z
      have q1 : hi h1 105 9 = s1.2.2 9 := e.sc (by decide) (by decide)
      have q2 : hi h2 105 9 = (frS size s1).2.2 9 := e2.sc (by decide) (by decide)
      have q3 : hi h2 105 3 = s1.2.2 3 := (e2.sc (by decide) (by decide)).trans (frS_3 size s1 (by decide))
      have w3 := e.ws.2.1
      rw [← q3] at w3
      obtain ⟨kk, hk1, hk2⟩ := frS_9 size s1 (by omega)
      rw [q1, q2]
      have hr : rdS m (f + 1 + 1) size n s1 = if 0 < w ((frS size s1).2.2 9 - s1.2.2 9) then rdS m (f + 1) (clp (nsz (s1.2.2 3) m size (w ((frS size s1).2.2 9 - s1.2.2 9)))).toNat ((n : Int) + 1) (frS size s1) else ((n : Int) + 1, frS size s1) := rfl
      refine ⟨rfl, t2, by unfold rg; omega, fun c => ?_, fun c => ⟨fun c2 => by omega, fun c2 => ?_⟩⟩
      · rw [if_neg (by omega)] at hr
        have hx := K _ hr.symm
        have fin : ∀ v6 : Int, AW m_X7_roundsNow d none (fun r h' => r = some (rdS m 40 m 0 s).1 ∧ SS h h' ∧ FM h h' sF ∧ EZ h' (rdS m 40 m 0 s).2) 7 [some (.inr (some 104)), some (.inl (m : Int)), some (.inl ((n : Int) + 1)), some (.inl v6), some (.inl 0), none, none] [] h2 (0, 0) := fun v6 =>
          vc_X7_roundsNow_7 (by omega) (hL.ss (t.tr t2)) ⟨fun _ => ⟨by rw [← hx], t.tr t2, fm.tr f2, by rw [← hx]; exact e2⟩, fun c => absurd rfl c⟩
        refine am_mono (z_next (hL.ss (t.tr t2)) w3 (by omega) (by rw [hk2]; omega)) (fun r h3 _ _ z => ?_)
        obtain ⟨rfl, rfl⟩ := z
        exact ⟨_, rfl, SS.rf, fin _⟩
      · rw [if_pos (by omega)] at hr
        refine am_mono (z_next (hL.ss (t.tr t2)) w3 (by omega) (by rw [hk2]; omega)) (fun r h3 _ _ z => ?_)
        obtain ⟨rfl, rfl⟩ := z
        rw [q3]
        have hc := clp_in (nsz (s1.2.2 3) m size (w ((frS size s1).2.2 9 - s1.2.2 9)))
        have r := ih (n + 1) (clp (nsz (s1.2.2 3) m size (w ((frS size s1).2.2 9 - s1.2.2 9)))).toNat h3 (frS size s1) (by omega) (by omega) (by omega) (t.tr t2) (fm.tr f2) e2 (fun x hx => K x (by rw [hx, hr]; rfl))
        rw [Int.toNat_of_nonneg (by omega)] at r
        exact ⟨_, rfl, SS.rf, r⟩
  exact vc_X7_roundsNow (by omega) hL (lp 39 0 m h s (by omega) hm1 hm2 SS.rf FM.rf a (fun x hx => hx))
theorem rdS_0 {first : Int} : ∀ (f size : Nat) (n : Int) (s : Ms), n ≤ (rdS first f size n s).1
  | 0, _, n, _ => Int.le_refl n
  | f + 1, size, n, s => by
    show n ≤ (if 0 < w ((frS size s).2.2 9 - s.2.2 9) then rdS first f (clp (nsz (s.2.2 3) first size (w ((frS size s).2.2 9 - s.2.2 9)))).toNat (n + 1) (frS size s) else (n + 1, frS size s)).1
    split
    · have := rdS_0 (first := first) f (clp (nsz (s.2.2 3) first size (w ((frS size s).2.2 9 - s.2.2 9)))).toNat (n + 1) (frS size s)
      omega
    · show n ≤ n + 1
      omega
theorem y_rounds {x : Int} (hd : 7 ≤ d) (hL : QZ h) (a : G7 h g) : AM d m_X7_rounds [.inr (some 104), .inl x] h (R7 h (recG (roundsO x g.1) g)) := by
  refine vc_X7_rounds (by omega) hL (am_mono (z_isSlots (by omega)) (fun r h1 _ _ z => ?_))
  obtain ⟨rfl, rfl⟩ := z
  unfold roundsO
  by_cases c : 1 ≤ x ∧ x ≤ 64
  · rw [if_pos c, if_pos c]
    obtain ⟨m, hm⟩ : ∃ m : Nat, x = m := ⟨x.toNat, by omega⟩
    subst hm
    rw [Int.toNat_natCast]
    refine ⟨_, rfl, SS.rf, fun _ => am_mono (z_rec (by omega) hL a) (fun r h2 _ _ z => ?_), fun c2 => absurd (by decide) c2⟩
    obtain ⟨rfl, t1, f1, a1⟩ := z
    refine ⟨rfl, t1, am_mono (z_roundsNow (by omega) (hL.ss t1) a1.1 (by omega) (by omega)) (fun r h3 _ _ z => ?_)⟩
    obtain ⟨rfl, t2, f2, e2⟩ := z
    exact ⟨_, rfl, t2, R7.now (v := (rdS m 40 m 0 g.1).1) t1 f1 a1 t2 (f2.wk (fun _ _ => sF_P)) e2 (rdS_0 40 m 0 g.1)⟩
  · rw [if_neg c, if_neg c]
    exact ⟨_, rfl, SS.rf, fun c2 => absurd rfl c2, fun _ => R7.no a (by decide)⟩
def sT (j : Nat) (m : Int) : Prop := j = 109 ∨ (j = 104 ∧ m = 7)
theorem G7.text {h1 : AH} {tx : List Int} (a : G7 h g) (f : FM h h1 sT) (t : TZ h1 tx) : G7 h1 (g.1, g.2.1, g.2.2.1, tx) :=
  ⟨a.1.row (f.row (fun m => by unfold sT; omega)), a.2.1.same (f 104 3 (by unfold sT; omega)) (f.row (fun m => by unfold sT; omega)), a.2.2.1.same (f 104 5 (by unfold sT; omega)) (f.row (fun m => by unfold sT; omega)), t⟩
theorem sT_Z {j : Nat} {m : Int} (q : sT j m) : inZ j := by unfold sT at q; show 104 ≤ j; omega
theorem y_type {x : Int} (hL : QZ h) (a : G7 h g) (hx : 0 ≤ x ∧ x < 65536) : AM d m_X7_type [.inr (some 104), .inl x] h (R7 h (typeG x g)) := by
  obtain ⟨n, n60, e⟩ := id a.2.2.2
  refine vc_X7_type hL ⟨fun c => ⟨⟨by omega, by omega⟩, by unfold rg; omega, ?_⟩, fun c => ?_⟩
  · have ht : typeO x g.2.2.2 = ((g.2.2.2.length : Int) + 1, g.2.2.2 ++ [x]) := by unfold typeO; rw [if_pos (by omega)]
    unfold typeG
    rw [ht, n]
    have f : FM h (up (up h 109 (g.2.2.2.length : Int) x) 104 7 ((g.2.2.2.length : Int) + 1)) sT := (FM.rf.up (Or.inl rfl)).up (Or.inr ⟨rfl, rfl⟩)
    refine ⟨rfl, SS.rf.up.up, f.fx (fun _ _ => sT_Z), a.text f ⟨?_, ?_, fun i v hv => ?_⟩⟩
    · rw [hi_up, if_pos ⟨rfl, rfl⟩, List.length_append]
      rfl
    · rw [List.length_append]
      have : [x].length = 1 := rfl
      omega
    · rw [hi_up, if_neg (by omega)]
      by_cases q : i < g.2.2.2.length
      · rw [List.getElem?_append_left q] at hv
        rw [hi_up, if_neg (by omega)]
        exact e i v hv
      · have hi2 := lt_len hv
        rw [List.length_append] at hi2
        have hi3 : i = g.2.2.2.length := by
          have : [x].length = 1 := rfl
          omega
        subst hi3
        rw [List.getElem?_append_right (Nat.le_refl _), Nat.sub_self] at hv
        cases hv
        rw [hi_up, if_pos ⟨rfl, rfl⟩]
        exact ⟨rfl, hx⟩
  · have ht : typeO x g.2.2.2 = (-3, g.2.2.2) := by unfold typeO; rw [if_neg (by omega)]
    unfold typeG
    rw [ht]
    exact R7.st a
theorem y_clearText (hL : QZ h) (a : G7 h g) : AM d m_X7_clearText [.inr (some 104)] h (R7 h (clearG g)) := by
  obtain ⟨n, n60, e⟩ := id a.2.2.2
  have f : FM h (up h 104 7 0) sT := FM.rf.up (Or.inr ⟨rfl, rfl⟩)
  refine vc_X7_clearText hL ⟨congrArg some n, SS.rf.up, f.fx (fun _ _ => sT_Z), a.text f ⟨?_, by decide, fun i v hv => by simp at hv⟩⟩
  rw [hi_up, if_pos ⟨rfl, rfl⟩]
  rfl
end MODEL19
