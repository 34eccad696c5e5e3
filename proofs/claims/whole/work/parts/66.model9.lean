/-! the model: its cards in the row of numbers -/
def A5 (f : Int → Int) (i : Int) (c : Cd) : Prop := f (13 + 4 * i + 0) = c.1 ∧ f (13 + 4 * i + 1) = c.2.1 ∧ f (13 + 4 * i + 2) = c.2.2.1 ∧ f (13 + 4 * i + 3) = c.2.2.2
section MODEL10
variable {d : Nat} {h h1 h2 : AH} {s : Ms} {g : Gs}
theorem A5.cong {f f' : Int → Int} {i i' : Int} {c : Cd} (a : A5 f i c) (e : ∀ k, 0 ≤ k → k < 4 → f' (13 + 4 * i' + k) = f (13 + 4 * i + k)) : A5 f' i' c := by
  obtain ⟨a0, a1, a2, a3⟩ := a
  exact ⟨(e 0 (by omega) (by omega)).trans a0, (e 1 (by omega) (by omega)).trans a1, (e 2 (by omega) (by omega)).trans a2, (e 3 (by omega) (by omega)).trans a3⟩
theorem EZ.n (a : EZ h s) : hi h 105 0 = s.1.length := a.1
theorem EZ.tn (a : EZ h s) : hi h 105 1 = s.2.1.length := a.2.1
theorem EZ.sc (a : EZ h s) {k : Int} (k1 : 2 ≤ k) (k2 : k ≤ 12) : hi h 105 k = s.2.2 k := a.2.2.1 k k1 k2
theorem EZ.cd (a : EZ h s) {i : Nat} {c : Cd} (hc : s.1[i]? = some c) : A5 (hi h 105) (i : Int) c := a.2.2.2.1 i c hc
theorem EZ.tl (a : EZ h s) {i : Nat} {v : Int} (hv : s.2.1[i]? = some v) : hi h 105 (93 + (i : Int)) = v := a.2.2.2.2.1 i v hv
theorem EZ.wl (a : EZ h s) : WL s.1 := a.2.2.2.2.2.1
theorem EZ.t200 (a : EZ h s) : s.2.1.length ≤ 200 := a.2.2.2.2.2.2.1
theorem EZ.ws (a : EZ h s) : WS s.2.2 := a.2.2.2.2.2.2.2
theorem EZ.cards {l' : List Cd} (a : EZ h s) (n0 : hi h1 105 0 = l'.length) (hw : WL l') (c5 : ∀ (i : Nat) (c : Cd), l'[i]? = some c → A5 (hi h1 105) (i : Int) c) (e : ∀ m, m ≠ 0 → (m < 13 ∨ 93 ≤ m) → hi h1 105 m = hi h 105 m) : EZ h1 (l', s.2) :=
  ⟨n0, (e 1 (by decide) (by decide)).trans a.tn, fun k k1 k2 => (e k (by omega) (by omega)).trans (a.sc k1 k2), c5, fun i v hv => (e _ (by omega) (by omega)).trans (a.tl hv), hw, a.t200, a.ws⟩
theorem EZ.set {i : Nat} {c e : Cd} (a : EZ h s) (hc : s.1[i]? = some c) (hn : e.1 = c.1) (he : wc e) (hA : A5 (hi h1 105) (i : Int) e) (ho : ∀ m, (m < 13 + 4 * (i : Int) ∨ 13 + 4 * (i : Int) + 4 ≤ m) → hi h1 105 m = hi h 105 m) : EZ h1 (s.1.set i e, s.2) := by
  have hl := lt_len hc
  have h20 := a.wl.1
  refine a.cards (by rw [ho 0 (by omega), a.n, List.length_set]) (a.wl.set hc hn he) (fun j x hx => ?_) (fun m h0 hm => ho m (by omega))
  rw [List.getElem?_set] at hx
  by_cases q : i = j
  · subst q
    rw [if_pos rfl, if_pos hl] at hx
    cases hx
    exact hA
  · rw [if_neg q] at hx
    exact (a.cd hx).cong (fun k k0 k4 => ho _ (by omega))
theorem EZ.lay1 {i : Nat} {c : Cd} {v : Int} (a : EZ h s) (hc : s.1[i]? = some c) (hv : v = 0 ∨ v = 1) : EZ (up h 105 (13 + 4 * (i : Int) + 1) v) (s.1.set i (c.1, v, c.2.2), s.2) := by
  have w1 := a.wl.w1 hc
  have c5 := a.cd hc
  refine a.set hc rfl ⟨w1.1, hv, w1.2.2⟩ ⟨?_, ?_, ?_, ?_⟩ (fun m hm => by rw [hi_up, if_neg (by omega)])
  · rw [hi_up, if_neg (by omega)]; exact c5.1
  · rw [hi_up, if_pos ⟨rfl, rfl⟩]
  · rw [hi_up, if_neg (by omega)]; exact c5.2.2.1
  · rw [hi_up, if_neg (by omega)]; exact c5.2.2.2
theorem EZ.lay2 {i : Nat} {c : Cd} {v : Int} (a : EZ h s) (hc : s.1[i]? = some c) (hv : 0 ≤ v ∧ v ≤ 200) : EZ (up h 105 (13 + 4 * (i : Int) + 2) v) (s.1.set i (c.1, c.2.1, v, c.2.2.2), s.2) := by
  have w1 := a.wl.w1 hc
  have c5 := a.cd hc
  refine a.set hc rfl ⟨w1.1, w1.2.1, hv⟩ ⟨?_, ?_, ?_, ?_⟩ (fun m hm => by rw [hi_up, if_neg (by omega)])
  · rw [hi_up, if_neg (by omega)]; exact c5.1
  · rw [hi_up, if_neg (by omega)]; exact c5.2.1
  · rw [hi_up, if_pos ⟨rfl, rfl⟩]
  · rw [hi_up, if_neg (by omega)]; exact c5.2.2.2
theorem EZ.lay3 {i : Nat} {c : Cd} {v : Int} (a : EZ h s) (hc : s.1[i]? = some c) : EZ (up h 105 (13 + 4 * (i : Int) + 3) v) (s.1.set i (c.1, c.2.1, c.2.2.1, v), s.2) := by
  have w1 := a.wl.w1 hc
  have c5 := a.cd hc
  refine a.set hc rfl w1 ⟨?_, ?_, ?_, ?_⟩ (fun m hm => by rw [hi_up, if_neg (by omega)])
  · rw [hi_up, if_neg (by omega)]; exact c5.1
  · rw [hi_up, if_neg (by omega)]; exact c5.2.1
  · rw [hi_up, if_neg (by omega)]; exact c5.2.2.1
  · rw [hi_up, if_pos ⟨rfl, rfl⟩]
theorem cpy_t {q0 q2 : Nat} {x1 x3 x4 : Int} (hne : ¬ (q0 = q2 ∧ x3 ≤ x1 + x4 ∧ x1 + x4 < x3 + x4)) (h4 : 0 ≤ x4) : up (cpy h q0 q2 x1 x3 x4) q2 (x3 + x4) (hi (cpy h q0 q2 x1 x3 x4) q0 (x1 + x4)) = cpy h q0 q2 x1 x3 (x4 + 1) := by
  rw [hi_cpy, if_neg hne]
  refine ah_ext rfl rfl rfl ?_
  funext j m
  show (if j = q2 ∧ m = x3 + x4 then hi h q0 (x1 + x4) else if j = q2 ∧ x3 ≤ m ∧ m < x3 + x4 then h.2.2.2 q0 (x1 + (m - x3)) else h.2.2.2 j m) = (if j = q2 ∧ x3 ≤ m ∧ m < x3 + (x4 + 1) then h.2.2.2 q0 (x1 + (m - x3)) else h.2.2.2 j m)
  by_cases g : j = q2 ∧ m = x3 + x4
  · rw [if_pos g, if_pos ⟨g.1, by omega, by omega⟩, g.2]
    show h.2.2.2 q0 (x1 + x4) = _
    have e : x3 + x4 - x3 = x4 := by omega
    rw [e]
  · rw [if_neg g]
    by_cases g2 : j = q2 ∧ x3 ≤ m ∧ m < x3 + x4
    · rw [if_pos g2, if_pos ⟨g2.1, g2.2.1, by omega⟩]
    · rw [if_neg g2, if_neg (by omega)]
theorem z_take {i : Nat} (hL : QZ h) (a : EZ h s) (hi1 : i < s.1.length) : AM d m_X7_takeNow [.inr (some 104), .inl (i : Int)] h (fun r h' => r = none ∧ SS h h' ∧ FM h h' s5 ∧ EZ h' (s.1.eraseIdx i, s.2)) := by
  have hl := a.wl.1
  have a0 := a.n
  have lp : ∀ (k : Nat) (y : Int), (k : Int) = 4 * ((s.1.length : Int) - 1 - i) - y → 0 ≤ y → AW m_X7_takeNow d none (fun r h' => r = none ∧ SS h h' ∧ FM h h' s5 ∧ EZ h' (s.1.eraseIdx i, s.2)) 14 [some (.inr (some 104)), some (.inl (i : Int)), some (.inl (4 * (i : Int) + y))] [] (cpy (up h 105 0 (hi h 105 0 - 1)) 105 105 (13 + 4 * (i : Int) + 4) (13 + 4 * (i : Int)) y) (0, 0) := by
    intro k
    induction k with
    | zero =>
      intro y hk hy
      have z0 : hi (cpy (up h 105 0 (hi h 105 0 - 1)) 105 105 (13 + 4 * (i : Int) + 4) (13 + 4 * (i : Int)) y) 105 0 = (s.1.length : Int) - 1 := by
        rw [hi_cpy, if_neg (by omega), hi_up, if_pos ⟨rfl, rfl⟩, a0]
      refine vc_X7_takeNow_14 (hL.ss SS.rf.up.cpy) ⟨by unfold rg; omega, fun c => ⟨rfl, SS.rf.up.cpy, (FM.rf.up rfl).cpy (fun _ => rfl), a.cards ?_ (a.wl.erase i) (fun j x hx => ?_) (fun m m0 hm => ?_)⟩, fun c => by omega⟩
      · rw [z0, List.length_eraseIdx_of_lt hi1]
        omega
      · rw [List.getElem?_eraseIdx] at hx
        by_cases q : j < i
        · rw [if_pos q] at hx
          exact (a.cd hx).cong (fun k k0 k4 => by rw [hi_cpy, if_neg (by omega), hi_up, if_neg (by omega)])
        · rw [if_neg q] at hx
          have hj := lt_len hx
          refine (a.cd hx).cong (fun k k0 k4 => ?_)
          rw [hi_cpy, if_pos ⟨rfl, by omega, by omega⟩, hi_up, if_neg (by omega)]
          congr 1
          omega
      · rw [hi_cpy, if_neg (by omega), hi_up, if_neg (by omega)]
    | succ k ih =>
      intro y hk hy
      have z0 : hi (cpy (up h 105 0 (hi h 105 0 - 1)) 105 105 (13 + 4 * (i : Int) + 4) (13 + 4 * (i : Int)) y) 105 0 = (s.1.length : Int) - 1 := by
        rw [hi_cpy, if_neg (by omega), hi_up, if_pos ⟨rfl, rfl⟩, a0]
      refine vc_X7_takeNow_14 (hL.ss SS.rf.up.cpy) ⟨by unfold rg; omega, fun c => by omega, fun c => ⟨by unfold rg; omega, by unfold rg; omega, ⟨by omega, by omega⟩, ⟨by omega, by omega⟩, by unfold rg; omega, ?_⟩⟩
      have e1 : 13 + (4 * (i : Int) + y) = 13 + 4 * (i : Int) + y := by omega
      have e2 : 13 + 4 * (i : Int) + y + 4 = 13 + 4 * (i : Int) + 4 + y := by omega
      have e3 : 4 * (i : Int) + y + 1 = 4 * (i : Int) + (y + 1) := by omega
      rw [e1, e2, e3, cpy_t (by omega) hy]
      exact ih (y + 1) (by omega) (by omega)
  have r := lp (4 * ((s.1.length : Int) - 1 - i)).toNat 0 (by omega) (by omega)
  rw [cpy_0, Int.add_zero] at r
  exact vc_X7_takeNow hL ⟨by unfold rg; omega, by unfold rg; omega, r⟩
theorem nAw_s {l : List Cd} {i : Nat} {c : Cd} (hc : l[i]? = some c) : nAw (l.take (i + 1)) = nAw (l.take i) + (if c.2.1 = 1 then 1 else 0) := by
  unfold nAw
  rw [tk hc, List.filter_append, List.length_append]
  congr 1
  by_cases q : c.2.1 = 1
  · rw [if_pos q]; simp [q]
  · rw [if_neg q]; simp [q]
theorem nAw_le {l : List Cd} : nAw l ≤ l.length := List.length_filter_le ..
theorem z_awake (hd : 2 ≤ d) (hL : QZ h) (a : EZ h s) : AM d m_X7_awake [.inr (some 104)] h (fun r h' => r = some (nAw s.1 : Int) ∧ h' = h) := by
  have hl := a.wl.1
  have a0 := a.n
  have lp : ∀ (k i : Nat), k + i = s.1.length → AW m_X7_awake d none (fun r h' => r = some (nAw s.1 : Int) ∧ h' = h) 4 [some (.inr (some 104)), some (.inl (nAw (s.1.take i) : Int)), some (.inl (i : Int))] [] h (0, 0) := by
    intro k
    induction k with
    | zero =>
      intro i hk
      refine vc_X7_awake_4 (by omega) hL ⟨fun c => ⟨?_, rfl⟩, fun c => by omega⟩
      rw [List.take_of_length_le (by omega)]
    | succ k ih =>
      intro i hk
      obtain ⟨c, hc⟩ := get_ex (l := s.1) (i := i) (by omega)
      have w1 := (a.wl.w1 hc).2.1
      have hn : nAw (s.1.take i) ≤ (s.1.take i).length := nAw_le
      rw [List.length_take] at hn
      refine vc_X7_awake_4 (by omega) hL ⟨fun c => by omega, fun _ => am_mono (z_of (x := (i : Int)) (k := 1) hL (by omega) (by omega) (by omega) (by omega)) (fun r h2' _ _ z => ?_)⟩
      obtain ⟨rfl, rfl⟩ := z
      have e := (a.cd hc).2.1
      rw [e]
      refine ⟨_, rfl, SS.rf, by unfold rg; omega, by unfold rg; omega, ?_⟩
      have r := ih (i + 1) (by omega)
      rw [nAw_s hc] at r
      rcases w1 with q | q
      · rw [if_neg (by omega)] at r
        rw [q, Int.add_zero]
        exact r
      · rw [if_pos q] at r
        rw [q]
        exact r
  exact vc_X7_awake (by omega) hL (lp s.1.length 0 (by omega))
theorem z_wakeNow (hd : 2 ≤ d) (hL : QZ h) (a : EZ h s) : AM d m_X7_wakeNow [.inr (some 104)] h (fun r h' => r = none ∧ SS h h' ∧ FM h h' s5 ∧ EZ h' (s.1.map wake, s.2)) := by
  have hl := a.wl.1
  have a0 := a.n
  have lp : ∀ (k i : Nat) (h1 : AH), k + i = s.1.length → SS h h1 → FM h h1 s5 → (∀ m, (m < 13 ∨ 93 ≤ m ∨ m % 4 ≠ 2) → hi h1 105 m = hi h 105 m) → (∀ j : Nat, j < i → hi h1 105 (13 + 4 * (j : Int) + 1) = 1) → AW m_X7_wakeNow d none (fun r h' => r = none ∧ SS h h' ∧ FM h h' s5 ∧ EZ h' (s.1.map wake, s.2)) 2 [some (.inr (some 104)), some (.inl (i : Int))] [] h1 (0, 0) := by
    intro k
    induction k with
    | zero =>
      intro i h1 hk t f e e1
      have z0 := e 0 (by decide)
      refine vc_X7_wakeNow_2 (by omega) (hL.ss t) ⟨fun c => ⟨rfl, t, f, a.cards (by rw [z0, a0, List.length_map]) a.wl.wake (fun j x hx => ?_) (fun m m0 hm => e m (by omega))⟩, fun c => by omega⟩
      rw [List.getElem?_map] at hx
      cases hq : s.1[j]? with
      | none => rw [hq] at hx; cases hx
      | some y =>
        rw [hq] at hx
        cases hx
        have hj := lt_len hq
        obtain ⟨g1, g2, g3, g4⟩ := a.cd hq
        exact ⟨by rw [e _ (by omega)]; exact g1, e1 j (by omega), by rw [e _ (by omega)]; exact g3, by rw [e _ (by omega)]; exact g4⟩
    | succ k ih =>
      intro i h1 hk t f e e1
      have z0 := e 0 (by decide)
      refine vc_X7_wakeNow_2 (by omega) (hL.ss t) ⟨fun c => by omega, fun _ => am_mono (z_lay (x := (i : Int)) (k := 1) (hL.ss t) (by omega) (by omega) (by omega) (by omega)) (fun r h2' _ _ z => ?_)⟩
      obtain ⟨rfl, rfl⟩ := z
      refine ⟨rfl, SS.rf.up, by unfold rg; omega, ih (i + 1) _ (by omega) t.up (f.up rfl) (fun m hm => ?_) (fun j hj => ?_)⟩
      · rw [hi_up, if_neg (by omega)]
        exact e m hm
      · rw [hi_up]
        by_cases q : j = i
        · rw [if_pos ⟨rfl, by omega⟩]
        · rw [if_neg (by omega)]
          exact e1 j (by omega)
  exact vc_X7_wakeNow (by omega) hL (lp s.1.length 0 h (by omega) SS.rf FM.rf (fun _ _ => rfl) (fun j hj => by omega))
end MODEL10
