/-! the model: a card put in -/
section MODEL11
variable {d : Nat} {h h1 h2 : AH} {s : Ms} {g : Gs}
theorem z_putNow {x : Int} (hd : 2 ≤ d) (hL : QZ h) (a : EZ h s) (hx : 0 ≤ x ∧ x ≤ 255) (hn : ∀ c ∈ s.1, c.1 ≠ x) (hl : s.1.length < 20) : AM d m_X7_putNow [.inr (some 104), .inl x] h (fun r h' => r = none ∧ SS h h' ∧ FM h h' s5 ∧ EZ h' (ins x s.1, s.2)) := by
  have a0 := a.n
  have fin : ∀ (k : Nat) (h1 : AH), k ≤ s.1.length → SS h h1 → FM h h1 s5 → (∀ m, (m < 13 ∨ 93 ≤ m) → hi h1 105 m = hi h 105 m) → (∀ (i : Nat) (c : Cd), s.1[i]? = some c → i < k → A5 (hi h1 105) (i : Int) c) → (∀ (i : Nat) (c : Cd), s.1[i]? = some c → k ≤ i → A5 (hi h1 105) ((i : Int) + 1) c ∧ x < c.1) → (∀ c : Cd, 0 < k → s.1[k - 1]? = some c → c.1 ≤ x) →
      AM (d - 1) m_X7_lay [(.inr (some 104)), (.inl (k : Int)), (.inl 0), (.inl x)] h1 (fun r h2 => 
        r = none ∧ SS h1 h2 ∧
        AM (d - 1) m_X7_lay [(.inr (some 104)), (.inl (k : Int)), (.inl 1), (.inl 1)] h2 (fun r h3 => 
          r = none ∧ SS h2 h3 ∧
          AM (d - 1) m_X7_lay [(.inr (some 104)), (.inl (k : Int)), (.inl 2), (.inl 0)] h3 (fun r h4 => 
            r = none ∧ SS h3 h4 ∧
            AM (d - 1) m_X7_lay [(.inr (some 104)), (.inl (k : Int)), (.inl 3), (.inl 0)] h4 (fun r h5 => 
              r = none ∧ SS h4 h5 ∧
              (rg ((hi h5 105 0) + 1)) ∧
              ((none : Option Int) = none ∧ SS h (up h5 105 0 ((hi h5 105 0) + 1)) ∧ FM h (up h5 105 0 ((hi h5 105 0) + 1)) s5 ∧ EZ (up h5 105 0 ((hi h5 105 0) + 1)) (ins x s.1, s.2)))))) := by
    intro k h1 hk t f e lo hi2 hb
    have z0 := e 0 (by decide)
    refine am_mono (z_lay (hL.ss t) (by omega) (by omega) (by omega) (by omega)) (fun r h2 _ _ z => ?_)
    obtain ⟨rfl, rfl⟩ := z
    refine ⟨rfl, SS.rf.up, am_mono (z_lay (hL.ss t.up) (by omega) (by omega) (by omega) (by omega)) (fun r h3 _ _ z => ?_)⟩
    obtain ⟨rfl, rfl⟩ := z
    refine ⟨rfl, SS.rf.up, am_mono (z_lay (hL.ss t.up.up) (by omega) (by omega) (by omega) (by omega)) (fun r h4 _ _ z => ?_)⟩
    obtain ⟨rfl, rfl⟩ := z
    refine ⟨rfl, SS.rf.up, am_mono (z_lay (hL.ss t.up.up.up) (by omega) (by omega) (by omega) (by omega)) (fun r h5 _ _ z => ?_)⟩
    obtain ⟨rfl, rfl⟩ := z
    have zz : ∀ m, (m < 13 + 4 * (k : Int) ∨ 13 + 4 * (k : Int) + 4 ≤ m) → hi (up (up (up (up h1 105 (13 + 4 * (k : Int) + 0) x) 105 (13 + 4 * (k : Int) + 1) 1) 105 (13 + 4 * (k : Int) + 2) 0) 105 (13 + 4 * (k : Int) + 3) 0) 105 m = hi h1 105 m := fun m hm => by
      rw [hi_up, if_neg (by omega), hi_up, if_neg (by omega), hi_up, if_neg (by omega), hi_up, if_neg (by omega)]
    have zk : A5 (hi (up (up (up (up h1 105 (13 + 4 * (k : Int) + 0) x) 105 (13 + 4 * (k : Int) + 1) 1) 105 (13 + 4 * (k : Int) + 2) 0) 105 (13 + 4 * (k : Int) + 3) 0) 105) (k : Int) (x, 1, 0, 0) := by
      refine ⟨?_, ?_, ?_, ?_⟩
      · rw [hi_up, if_neg (by omega), hi_up, if_neg (by omega), hi_up, if_neg (by omega), hi_up, if_pos ⟨rfl, rfl⟩]
      · rw [hi_up, if_neg (by omega), hi_up, if_neg (by omega), hi_up, if_pos ⟨rfl, rfl⟩]
      · rw [hi_up, if_neg (by omega), hi_up, if_pos ⟨rfl, rfl⟩]
      · rw [hi_up, if_pos ⟨rfl, rfl⟩]
    have z5 := zz 0 (by omega)
    have ei := ins_at k a.wl.2.2 hk (fun i c hc hki => (hi2 i c hc hki).2) hb
    refine ⟨rfl, SS.rf.up, by unfold rg; omega, rfl, t.up.up.up.up.up, ((((f.up rfl).up rfl).up rfl).up rfl).up rfl, a.cards ?_ (a.wl.ins hl hx hn) (fun i c hc => ?_) (fun m m0 hm => ?_)⟩
    · rw [hi_up, if_pos ⟨rfl, rfl⟩, z5, z0, a0, ins_len]
      rfl
    · have up0 : ∀ (j : Int) (y : Cd), 0 ≤ j → A5 (hi (up (up (up (up h1 105 (13 + 4 * (k : Int) + 0) x) 105 (13 + 4 * (k : Int) + 1) 1) 105 (13 + 4 * (k : Int) + 2) 0) 105 (13 + 4 * (k : Int) + 3) 0) 105) j y → A5 (hi (up (up (up (up (up h1 105 (13 + 4 * (k : Int) + 0) x) 105 (13 + 4 * (k : Int) + 1) 1) 105 (13 + 4 * (k : Int) + 2) 0) 105 (13 + 4 * (k : Int) + 3) 0) 105 0 (hi (up (up (up (up h1 105 (13 + 4 * (k : Int) + 0) x) 105 (13 + 4 * (k : Int) + 1) 1) 105 (13 + 4 * (k : Int) + 2) 0) 105 (13 + 4 * (k : Int) + 3) 0) 105 0 + 1)) 105) j y := fun j y hj q => q.cong (fun k0 k1 k2 => by rw [hi_up, if_neg (by omega)])
      refine up0 (i : Int) c (by omega) ?_
      rw [← ei] at hc
      have ht : (s.1.take k).length = k := by rw [List.length_take]; omega
      by_cases q : i < k
      · rw [List.getElem?_append_left (by omega), List.getElem?_take, if_pos q] at hc
        exact (lo i c hc q).cong (fun k0 k1 k2 => zz _ (by omega))
      · rw [List.getElem?_append_right (by omega), ht] at hc
        by_cases q2 : i = k
        · subst q2
          rw [Nat.sub_self] at hc
          cases hc
          exact zk
        · obtain ⟨j, hj⟩ : ∃ j, i - k = j + 1 := ⟨i - k - 1, by omega⟩
          rw [hj, List.getElem?_cons_succ, List.getElem?_drop] at hc
          have hh := (hi2 (k + j) c hc (by omega)).1
          have ej : ((k + j : Nat) : Int) + 1 = (i : Int) := by omega
          rw [ej] at hh
          exact hh.cong (fun k0 k1 k2 => zz _ (by omega))
    · rw [hi_up, if_neg (by omega), zz m (by omega)]
      exact e m hm
  have lp : ∀ (k : Nat) (h1 : AH), k ≤ s.1.length → SS h h1 → FM h h1 s5 → (∀ m, (m < 13 ∨ 93 ≤ m) → hi h1 105 m = hi h 105 m) → (∀ (i : Nat) (c : Cd), s.1[i]? = some c → i < k → A5 (hi h1 105) (i : Int) c) → (∀ (i : Nat) (c : Cd), s.1[i]? = some c → k ≤ i → A5 (hi h1 105) ((i : Int) + 1) c ∧ x < c.1) →
      AW m_X7_putNow d none (fun r h' => r = none ∧ SS h h' ∧ FM h h' s5 ∧ EZ h' (ins x s.1, s.2)) 7 [some (.inr (some 104)), some (.inl x), some (.inl (k : Int)), none] [] h1 (0, 0) := by
    intro k
    induction k with
    | zero =>
      intro h1 hk t f e lo hi2
      exact vc_X7_putNow_7 (by omega) (hL.ss t) ⟨fun _ => fin 0 h1 hk t f e lo hi2 (fun c q => by omega), fun c => absurd (by decide) c⟩
    | succ k ih =>
      intro h1 hk t f e lo hi2
      obtain ⟨c0, hc0⟩ := get_ex (l := s.1) (i := k) (by omega)
      have ek : ((k + 1 : Nat) : Int) - 1 = (k : Int) := by omega
      refine vc_X7_putNow_7 (by omega) (hL.ss t) ⟨fun c => by omega, fun _ => ⟨by unfold rg; omega, ?_⟩⟩
      rw [ek]
      refine am_mono (z_of (x := (k : Int)) (k := 0) (hL.ss t) (by omega) (by omega) (by omega) (by omega)) (fun r h2' _ _ z => ?_)
      obtain ⟨rfl, rfl⟩ := z
      have c5 := lo k c0 hc0 (by omega)
      rw [c5.1]
      refine ⟨_, rfl, SS.rf, fun c => fin (k + 1) h2' hk t f e lo hi2 (fun y _ hy => ?_), fun c => ?_⟩
      · rw [Nat.add_sub_cancel, hc0] at hy
        cases hy
        exact c
      · have inn : ∀ (j : Nat) (y : Int), (j : Int) = 4 - y → 0 ≤ y → AW m_X7_putNow d none (fun r h' => r = none ∧ SS h h' ∧ FM h h' s5 ∧ EZ h' (ins x s.1, s.2)) 25 [some (.inr (some 104)), some (.inl x), some (.inl ((k + 1 : Nat) : Int)), some (.inl y)] [] (cpy h2' 105 105 (13 + 4 * (k : Int)) (13 + 4 * ((k + 1 : Nat) : Int)) y) (0, 0) := by
          intro j
          induction j with
          | zero =>
            intro y hj hy
            have ey : y = 4 := by omega
            subst ey
            refine vc_X7_putNow_25 (by omega) (hL.ss t.cpy) ⟨fun _ => ⟨by unfold rg; omega, ?_⟩, fun c => absurd (by decide) c⟩
            rw [ek]
            refine ih _ (by omega) t.cpy (f.cpy (fun _ => rfl)) (fun m hm => ?_) (fun i c hc hik => ?_) (fun i c hc hik => ?_)
            · rw [hi_cpy, if_neg (by omega)]
              exact e m hm
            · exact (lo i c hc (by omega)).cong (fun k0 k1 k2 => by rw [hi_cpy, if_neg (by omega)])
            · by_cases q : i = k
              · subst q
                rw [hc0] at hc
                cases hc
                refine ⟨c5.cong (fun k0 k1 k2 => ?_), by omega⟩
                rw [hi_cpy, if_pos ⟨rfl, by omega, by omega⟩]
                congr 1
                omega
              · obtain ⟨g1, g2⟩ := hi2 i c hc (by omega)
                exact ⟨g1.cong (fun k0 k1 k2 => by rw [hi_cpy, if_neg (by omega)]), g2⟩
          | succ j ihj =>
            intro y hj hy
            refine vc_X7_putNow_25 (by omega) (hL.ss t.cpy) ⟨fun c => by omega, fun _ => ⟨by unfold rg; omega, ?_⟩⟩
            rw [ek]
            refine am_mono (z_of (x := (k : Int)) (k := y) (hL.ss t.cpy) (by omega) (by omega) (by omega) (by omega)) (fun r h3' _ _ z => ?_)
            obtain ⟨rfl, rfl⟩ := z
            refine ⟨_, rfl, SS.rf, am_mono (z_lay (hL.ss t.cpy) (by omega) (by omega) (by omega) (by omega)) (fun r h4' _ _ z => ?_)⟩
            obtain ⟨rfl, rfl⟩ := z
            refine ⟨rfl, SS.rf.up, by unfold rg; omega, ?_⟩
            rw [cpy_t (by omega) hy]
            exact ihj (y + 1) (by omega) (by omega)
        have r := inn 4 0 (by omega) (by omega)
        rw [cpy_0] at r
        exact r
  have r := lp s.1.length h (Nat.le_refl _) SS.rf FM.rf (fun _ _ => rfl) (fun i c hc _ => a.cd hc) (fun i c hc q => by have := lt_len hc; omega)
  refine vc_X7_putNow (by omega) hL ?_
  rw [a0]
  exact r
end MODEL11
