/-! the model: what there is -/
theorem xor_div {a b k : Nat} : a ^^^ b < 2 ^ k ↔ a / 2 ^ k = b / 2 ^ k := by
  have e : orN [a] b 0 = a ^^^ b := Nat.zero_or _
  constructor
  · intro q
    exact orN_sub (A := [a]) List.mem_cons_self (by rw [e]; exact q)
  · intro q
    have := orN_lt2 (f := b) (k := k) [a] 0 (Nat.two_pow_pos k) (fun x hx => by rw [List.mem_singleton.mp hx]; exact q)
    rw [e] at this
    exact this
theorem alike {x y : Int} (hx : 0 ≤ x ∧ x ≤ 255) (hy : 0 ≤ y ∧ y ≤ 255) {m : Nat} (hm : m ≤ 7) : sr x (8 - ((m : Int) + 1)) = sr y (7 - (m : Int)) ↔ ((m : Int) + 1) ≤ fo (xr x y) := by
  have e1 : (8 : Int) - ((m : Int) + 1) = 8 - ((m + 1 : Nat) : Int) := by omega
  have e2 : (7 : Int) - (m : Int) = 8 - ((m + 1 : Nat) : Int) := by omega
  rw [e1, e2, sr_n hx (by omega), sr_n hy (by omega)]
  have hxr := xr_in hx hy
  obtain ⟨a, ha, ha2⟩ := nat_of hx
  obtain ⟨b, hb, hb2⟩ := nat_of hy
  have hn := xr_nat ha2 hb2
  rw [← ha, ← hb] at hn
  have t1 : x.toNat = a := by omega
  have t2 : y.toNat = b := by omega
  rw [t1, t2]
  constructor
  · intro q
    have q' : a / 2 ^ (8 - (m + 1)) = b / 2 ^ (8 - (m + 1)) := by omega
    have h1 := xor_div.mpr q'
    have := fo_ge (x := xr x y) (t := m + 1) (by omega) (by
      rw [hn]
      have h2 := Int.ofNat_lt.mpr h1
      rw [Int.natCast_pow] at h2
      exact h2)
    omega
  · intro q
    have h1 := fo_lt (x := xr x y) (t := m + 1) hxr.2 (by omega) (by omega)
    rw [hn] at h1
    have h2 : a ^^^ b < 2 ^ (8 - (m + 1)) := by
      apply Int.ofNat_lt.mp
      rw [Int.natCast_pow]
      exact h1
    rw [xor_div.mp h2]
theorem shb_s {name : Int} {l : List Cd} {i : Nat} {e : Cd} (he : l[i]? = some e) : shb name (l.take (i + 1)) = if e.1 = name then shb name (l.take i) else if shb name (l.take i) < fo (xr e.1 name) then fo (xr e.1 name) else shb name (l.take i) := by
  unfold shb
  rw [tk he, List.foldl_append]
  rfl
section MODEL22
variable {d : Nat} {h : AH} {s : Ms} {g : Gs}
theorem z_shares {i : Nat} {c0 : Cd} (hd : 3 ≤ d) (hL : QZ h) (a : EZ h s) (hc0 : s.1[i]? = some c0) : AM d m_X7_shares [.inr (some 104), .inl (i : Int)] h (fun r h' => r = some (shb c0.1 s.1) ∧ h' = h) := by
  have hw := a.wl
  have h20 := hw.1
  have a0 := a.n
  have hi20 := lt_len hc0
  have c5 := a.cd hc0
  have hn0 := nm_of hw (List.mem_of_getElem? hc0)
  have lp : ∀ (k j : Nat), k + j = s.1.length → AW m_X7_shares d none (fun r h' => r = some (shb c0.1 s.1) ∧ h' = h) 5 [some (.inr (some 104)), some (.inl (i : Int)), some (.inl (shb c0.1 (s.1.take j))), some (.inl (j : Int)), none] [] h (0, 0) := by
    intro k
    induction k with
    | zero =>
      intro j hk
      refine vc_X7_shares_5 (by omega) hL ⟨fun _ => ⟨by rw [List.take_of_length_le (by omega)], rfl⟩, fun c => by omega⟩
    | succ k ih =>
      intro j hk
      obtain ⟨e, he⟩ := get_ex (l := s.1) (i := j) (by omega)
      have e5 := a.cd he
      have hne := nm_of hw (List.mem_of_getElem? he)
      have st := ih (j + 1) (by omega)
      rw [shb_s he] at st
      refine vc_X7_shares_5 (by omega) hL ⟨fun c => by omega, fun _ => ?_⟩
      by_cases q : j = i
      · subst q
        rw [hc0] at he
        cases he
        rw [if_pos rfl] at st
        exact vc_X7_shares_18 (by omega) hL ⟨fun _ => ⟨by unfold rg; omega, st⟩, fun c => absurd rfl c⟩
      · have hnn : e.1 ≠ c0.1 := fun z => q (hw.inj he hc0 z)
        rw [if_neg hnn] at st
        have hx := xr_in hne hn0
        have hx0 : xr e.1 c0.1 ≠ 0 := fun z => hnn ((xr_0 hne hn0).mp z)
        have h7 := fo_7 (x := xr e.1 c0.1) (by omega)
        have f0 := (fo_in (xr e.1 c0.1)).1
        have inn : ∀ (n m : Nat), (n : Int) = fo (xr e.1 c0.1) - m → AW m_X7_shares d none (fun r h' => r = some (shb c0.1 s.1) ∧ h' = h) 18 [some (.inr (some 104)), some (.inl (i : Int)), some (.inl (shb c0.1 (s.1.take j))), some (.inl (j : Int)), some (.inl (m : Int))] [] h (0, 0) := by
          intro n
          induction n with
          | zero =>
            intro m hm
            have al := alike hne hn0 (m := m) (by omega)
            refine vc_X7_shares_18 (by omega) hL ⟨fun c => by omega, fun _ => am_mono (z_of (x := (j : Int)) (k := 0) hL (by omega) (by omega) (by omega) (by omega)) (fun r h5 _ _ z => ?_)⟩
            obtain ⟨rfl, rfl⟩ := z
            rw [e5.1]
            refine ⟨_, rfl, SS.rf, by unfold rg; omega, am_mono (z_of (x := (i : Int)) (k := 0) hL (by omega) (by omega) (by omega) (by omega)) (fun r h6 _ _ z => ?_)⟩
            obtain ⟨rfl, rfl⟩ := z
            rw [c5.1]
            refine ⟨_, rfl, SS.rf, by unfold rg; omega, am_mono (z_begins (by omega) (by omega)) (fun r h6 _ _ z => ?_)⟩
            obtain ⟨rfl, rfl⟩ := z
            rw [if_neg (fun z => by have := al.mp z; omega)]
            have em : (m : Int) = fo (xr e.1 c0.1) := by omega
            refine ⟨_, rfl, SS.rf, fun _ => ⟨fun c2 => ⟨by unfold rg; omega, ?_⟩, fun c2 => ⟨by unfold rg; omega, ?_⟩⟩, fun c => absurd rfl c⟩
            · rw [if_neg (by omega)] at st
              exact st
            · rw [if_pos (by omega), ← em] at st
              exact st
          | succ n ihn =>
            intro m hm
            have al := alike hne hn0 (m := m) (by omega)
            refine vc_X7_shares_18 (by omega) hL ⟨fun c => by omega, fun _ => am_mono (z_of (x := (j : Int)) (k := 0) hL (by omega) (by omega) (by omega) (by omega)) (fun r h5 _ _ z => ?_)⟩
            obtain ⟨rfl, rfl⟩ := z
            rw [e5.1]
            refine ⟨_, rfl, SS.rf, by unfold rg; omega, am_mono (z_of (x := (i : Int)) (k := 0) hL (by omega) (by omega) (by omega) (by omega)) (fun r h6 _ _ z => ?_)⟩
            obtain ⟨rfl, rfl⟩ := z
            rw [c5.1]
            refine ⟨_, rfl, SS.rf, by unfold rg; omega, am_mono (z_begins (by omega) (by omega)) (fun r h6 _ _ z => ?_)⟩
            obtain ⟨rfl, rfl⟩ := z
            rw [if_pos (al.mpr (by omega))]
            exact ⟨_, rfl, SS.rf, fun c => absurd c (by decide), fun _ => ihn (m + 1) (by omega)⟩
        exact inn (fo (xr e.1 c0.1)).toNat 0 (by omega)
  exact vc_X7_shares (by omega) hL (lp s.1.length 0 (by omega))
theorem y_card {x : Int} (hL : QZ h) (hd : 1 ≤ d) (a : G7 h g) : AM d m_X7_card [.inr (some 104), .inl x] h (R7 h (cardO x g.1.1, g)) := by
  have a0 := a.1.n
  have h20 := a.1.wl.1
  unfold cardO
  refine vc_X7_card hd hL ⟨fun c => ⟨fun c2 => ?_, fun c2 => ?_⟩, fun c => ?_⟩
  · rw [if_neg (by omega), if_pos (by omega)]
    exact R7.st a
  · obtain ⟨i, hi2⟩ : ∃ i : Nat, x = i := ⟨x.toNat, by omega⟩
    subst hi2
    obtain ⟨c0, hc0⟩ := get_ex (l := g.1.1) (i := i) (by omega)
    rw [if_neg (by omega), if_neg (by omega), Int.toNat_natCast, cat_eq hc0]
    refine am_mono (z_of (x := (i : Int)) (k := 0) hL (by omega) (by omega) (by omega) (by omega)) (fun r h5 _ _ z => ?_)
    obtain ⟨rfl, rfl⟩ := z
    rw [(a.1.cd hc0).1]
    exact ⟨_, rfl, SS.rf, R7.st a⟩
  · rw [if_pos (by omega)]
    exact R7.st a
theorem y_ofCard {x k : Int} (hd : 4 ≤ d) (hL : QZ h) (a : G7 h g) : AM d m_X7_ofCard [.inr (some 104), .inl x, .inl k] h (R7 h (ofO x k g.1.1, g)) := by
  have h20 := a.1.wl.1
  refine vc_X7_ofCard (by omega) hL (am_mono (z_with (by omega) hL a.1) (fun r h1 _ _ z => ?_))
  obtain ⟨rfl, rfl⟩ := z
  refine ⟨_, rfl, SS.rf, ?_⟩
  cases hx : ix g.1.1 x with
  | none =>
    have e : ofO x k g.1.1 = -1 := by
      unfold ofO
      rw [hx]
    rw [e]
    exact ⟨fun c => absurd rfl c, fun _ => R7.st a⟩
  | some i =>
    obtain ⟨c0, hc0, e0⟩ := (ix_some a.1.wl).mp hx
    have hl := lt_len hc0
    have c5 := a.1.cd hc0
    have e : ofO x k g.1.1 = if k = 0 then c0.2.1 else if k = 1 then c0.2.2.1 else if k = 2 then c0.2.2.2 else if k = 3 then shb c0.1 g.1.1 else -2 := by
      unfold ofO
      rw [hx]
      simp only [cat_eq hc0]
    rw [e]
    refine ⟨fun _ => am_mono z_in (fun r h4 _ _ z => ?_), fun c => absurd (show ¬ (i : Int) = -5 by omega) c⟩
    obtain ⟨rfl, rfl⟩ := z
    by_cases ck : 0 ≤ k ∧ k ≤ 3
    · rw [if_pos ck]
      refine ⟨_, rfl, SS.rf, fun _ => ⟨fun c3 => ⟨by unfold rg; omega, ?_⟩, fun c3 => ?_⟩, fun c => absurd (by decide) c⟩
      · refine am_mono (z_of (x := (i : Int)) (k := 1 + k) hL (by omega) (by omega) (by omega) (by omega)) (fun r h5 _ _ z => ?_)
        obtain ⟨rfl, rfl⟩ := z
        have ev : hi h5 105 (13 + 4 * (i : Int) + (1 + k)) = if k = 0 then c0.2.1 else if k = 1 then c0.2.2.1 else if k = 2 then c0.2.2.2 else if k = 3 then shb c0.1 g.1.1 else -2 := by
          rcases (show k = 0 ∨ k = 1 ∨ k = 2 by omega) with q | q | q
          · subst q; exact c5.2.1
          · subst q; exact c5.2.2.1
          · subst q; exact c5.2.2.2
        rw [ev]
        exact ⟨_, rfl, SS.rf, R7.st a⟩
      · refine am_mono (z_shares (by omega) hL a.1 hc0) (fun r h5 _ _ z => ?_)
        obtain ⟨rfl, rfl⟩ := z
        rw [if_neg (by omega), if_neg (by omega), if_neg (by omega), if_pos (Classical.byContradiction c3)]
        exact ⟨_, rfl, SS.rf, R7.st a⟩
    · rw [if_neg ck, if_neg (by omega), if_neg (by omega), if_neg (by omega), if_neg (by omega)]
      exact ⟨_, rfl, SS.rf, fun c => absurd rfl c, fun _ => R7.st a⟩
theorem y_told {x : Int} (hL : QZ h) (a : G7 h g) : AM d m_X7_told [.inr (some 104), .inl x] h (R7 h (toldO x g.1.2.1, g)) := by
  have a0 := a.1.tn
  have h200 := a.1.t200
  unfold toldO
  refine vc_X7_told hL ⟨fun c => ⟨fun c2 => ?_, fun c2 => ⟨by unfold rg; omega, ⟨by omega, by omega⟩, ?_⟩⟩, fun c => ?_⟩
  · rw [if_neg (by omega), if_pos (by omega)]
    exact R7.st a
  · obtain ⟨i, hi2⟩ : ∃ i : Nat, x = i := ⟨x.toNat, by omega⟩
    subst hi2
    obtain ⟨v, hv⟩ := get_ex (l := g.1.2.1) (i := i) (by omega)
    rw [if_neg (by omega), if_neg (by omega), Int.toNat_natCast, a.1.tl hv, List.getD_eq_getElem?_getD, hv]
    exact R7.st a
  · rw [if_pos (by omega)]
    exact R7.st a
theorem nLv_s {l : List Cd} {i : Nat} {c : Cd} (hc : l[i]? = some c) : nLv (l.take (i + 1)) = nLv (l.take i) + (if 0 < c.2.2.1 then 1 else 0) := by
  unfold nLv
  rw [tk hc, List.filter_append, List.length_append]
  congr 1
  by_cases q : 0 < c.2.2.1
  · rw [if_pos q]; simp [q]
  · rw [if_neg q]; simp [q]
theorem z_leaving (hd : 2 ≤ d) (hL : QZ h) (a : EZ h s) : AM d m_X7_leaving [.inr (some 104)] h (fun r h' => r = some (nLv s.1 : Int) ∧ h' = h) := by
  have hl := a.wl.1
  have a0 := a.n
  have lp : ∀ (k i : Nat), k + i = s.1.length → AW m_X7_leaving d none (fun r h' => r = some (nLv s.1 : Int) ∧ h' = h) 4 [some (.inr (some 104)), some (.inl (nLv (s.1.take i) : Int)), some (.inl (i : Int))] [] h (0, 0) := by
    intro k
    induction k with
    | zero =>
      intro i hk
      refine vc_X7_leaving_4 (by omega) hL ⟨fun c => ⟨?_, rfl⟩, fun c => by omega⟩
      rw [List.take_of_length_le (by omega)]
    | succ k ih =>
      intro i hk
      obtain ⟨c, hc⟩ := get_ex (l := s.1) (i := i) (by omega)
      have hn : nLv (s.1.take i) ≤ (s.1.take i).length := List.length_filter_le ..
      rw [List.length_take] at hn
      refine vc_X7_leaving_4 (by omega) hL ⟨fun c => by omega, fun _ => am_mono (z_of (x := (i : Int)) (k := 2) hL (by omega) (by omega) (by omega) (by omega)) (fun r h2' _ _ z => ?_)⟩
      obtain ⟨rfl, rfl⟩ := z
      rw [(a.cd hc).2.2.1]
      have r := ih (i + 1) (by omega)
      rw [nLv_s hc] at r
      refine ⟨_, rfl, SS.rf, fun c2 => ⟨by unfold rg; omega, by unfold rg; omega, ?_⟩, fun c2 => ⟨by unfold rg; omega, by unfold rg; omega, ?_⟩⟩
      · rw [if_neg (by omega)] at r
        rw [Int.add_zero]
        exact r
      · rw [if_pos (by omega)] at r
        exact r
  exact vc_X7_leaving (by omega) hL (lp s.1.length 0 (by omega))
theorem z_withB {len bits : Int} (hd : 2 ≤ d) (hL : QZ h) (a : EZ h s) (h0 : 0 ≤ len) (h8 : len ≤ 8) : AM d m_X7_withBeginning [.inr (some 104), .inl len, .inl bits] h (fun r h' => r = some ((s.1.filter (pa len bits)).length : Int) ∧ h' = h) := by
  have hl := a.wl.1
  have a0 := a.n
  have lp : ∀ (k i : Nat), k + i = s.1.length → AW m_X7_withBeginning d none (fun r h' => r = some ((s.1.filter (pa len bits)).length : Int) ∧ h' = h) 5 [some (.inr (some 104)), some (.inl len), some (.inl bits), some (.inl (((s.1.take i).filter (pa len bits)).length : Int)), some (.inl (i : Int))] [] h (0, 0) := by
    intro k
    induction k with
    | zero =>
      intro i hk
      refine vc_X7_withBeginning_5 (by omega) hL ⟨fun c => ⟨?_, rfl⟩, fun c => by omega⟩
      rw [List.take_of_length_le (by omega)]
    | succ k ih =>
      intro i hk
      obtain ⟨c, hc⟩ := get_ex (l := s.1) (i := i) (by omega)
      have hn : ((s.1.take i).filter (pa len bits)).length ≤ (s.1.take i).length := List.length_filter_le ..
      rw [List.length_take] at hn
      have c5 := a.cd hc
      have r := ih (i + 1) (by omega)
      rw [filter_tk hc, List.length_append] at r
      have no : pa len bits c = false → AW m_X7_withBeginning d none (fun r h' => r = some ((s.1.filter (pa len bits)).length : Int) ∧ h' = h) 5 [some (.inr (some 104)), some (.inl len), some (.inl bits), some (.inl ((((s.1.take i).filter (pa len bits)).length : Int) + 0)), some (.inl ((i : Int) + 1))] [] h (0, 0) := fun q => by
        rw [if_neg (by rw [q]; decide)] at r
        rw [Int.add_zero]
        exact r
      refine vc_X7_withBeginning_5 (by omega) hL ⟨fun c => by omega, fun _ => am_mono (z_of (x := (i : Int)) (k := 1) hL (by omega) (by omega) (by omega) (by omega)) (fun r h2' _ _ z => ?_)⟩
      obtain ⟨rfl, rfl⟩ := z
      rw [c5.2.1]
      refine ⟨_, rfl, SS.rf, fun c2 => ⟨by unfold rg; omega, by unfold rg; omega, no (by simp [pa, c2])⟩, fun c2 => am_mono (z_of (x := (i : Int)) (k := 0) hL (by omega) (by omega) (by omega) (by omega)) (fun r h3' _ _ z => ?_)⟩
      obtain ⟨rfl, rfl⟩ := z
      rw [c5.1]
      have c1 : c.2.1 = 1 := Classical.byContradiction c2
      refine ⟨_, rfl, SS.rf, am_mono (z_begins h0 h8) (fun r h4' _ _ z => ?_)⟩
      obtain ⟨rfl, rfl⟩ := z
      by_cases q : sr c.1 (8 - len) = bits
      · rw [if_pos q]
        rw [if_pos (show pa len bits c = true by simp [pa, c1, q])] at r
        exact ⟨_, rfl, SS.rf, fun c3 => absurd c3 (by decide), fun _ => ⟨by unfold rg; omega, by unfold rg; omega, r⟩⟩
      · rw [if_neg q]
        exact ⟨_, rfl, SS.rf, fun _ => ⟨by unfold rg; omega, by unfold rg; omega, no (by simp [pa, q])⟩, fun c3 => absurd rfl c3⟩
  exact vc_X7_withBeginning (by omega) hL (lp s.1.length 0 (by omega))
theorem y_count {len bits : Int} (hd : 3 ≤ d) (hL : QZ h) (a : G7 h g) : AM d m_X7_count [.inr (some 104), .inl len, .inl bits] h (R7 h (countO len bits g.1.1, g)) := by
  refine vc_X7_count (by omega) hL (am_mono (z_isB (by omega)) (fun r h1 _ _ z => ?_))
  obtain ⟨rfl, rfl⟩ := z
  unfold countO
  by_cases c : isB len bits
  · rw [if_pos c, if_pos c]
    refine ⟨_, rfl, SS.rf, fun c2 => absurd c2 (by decide), fun _ => am_mono (z_withB (by omega) hL a.1 c.1 c.2.1) (fun r h2 _ _ z => ?_)⟩
    obtain ⟨rfl, rfl⟩ := z
    exact ⟨_, rfl, SS.rf, R7.st a⟩
  · rw [if_neg c, if_neg c]
    exact ⟨_, rfl, SS.rf, fun _ => R7.st a, fun c2 => absurd rfl c2⟩
theorem y_total {x : Int} (hd : 3 ≤ d) (hL : QZ h) (a : G7 h g) : AM d m_X7_total [.inr (some 104), .inl x] h (R7 h (totO x g, g)) := by
  have sc : ∀ k, 2 ≤ k → k ≤ 12 → hi h 105 k = g.1.2.2 k := fun k k1 k2 => a.1.sc k1 k2
  refine vc_X7_total (by omega) hL ⟨fun c => ?_, fun c => ?_, fun c => ?_, fun c => ?_, fun c => ?_, fun c => ?_, fun c => ?_, fun c => ?_, fun c => ?_, fun c => ?_, fun c => ?_⟩
  · have e : totO x g = -2 := by
      unfold totO
      rw [if_neg (by omega), if_neg (by omega), if_neg (by omega), if_neg (by omega), if_neg (by omega), if_neg (by omega), if_neg (by omega), if_neg (by omega), if_neg (by omega), if_neg (by omega), if_neg (by omega)]
    rw [e]
    exact R7.st a
  · subst c
    rw [a.1.n]
    exact R7.st a
  · subst c
    refine am_mono (z_awake (by omega) hL a.1) (fun r h2 _ _ z => ?_)
    obtain ⟨rfl, rfl⟩ := z
    exact ⟨_, rfl, SS.rf, R7.st a⟩
  · subst c
    refine am_mono (z_leaving (by omega) hL a.1) (fun r h2 _ _ z => ?_)
    obtain ⟨rfl, rfl⟩ := z
    exact ⟨_, rfl, SS.rf, R7.st a⟩
  · subst c
    rw [a.1.tn]
    exact R7.st a
  · have e : totO x g = g.1.2.2 (x + 1) := by
      unfold totO
      rw [if_neg (by omega), if_neg (by omega), if_neg (by omega), if_neg (by omega), if_neg (by omega), if_neg (by omega), if_neg (by omega), if_neg (by omega), if_neg (by omega), if_pos (by omega)]
    have e2 : 5 + x - 4 = x + 1 := by omega
    rw [e, e2, sc _ (by omega) (by omega)]
    exact ⟨by unfold rg; omega, by unfold rg; omega, ⟨by omega, by omega⟩, R7.st a⟩
  · rcases c with c | c
    · subst c
      have e2 : (2 : Int) + 11 - 11 = 2 := by decide
      rw [e2, sc _ (by omega) (by omega)]
      exact ⟨by unfold rg; omega, by unfold rg; omega, ⟨by omega, by omega⟩, R7.st a⟩
    · subst c
      have e2 : (2 : Int) + 12 - 11 = 3 := by decide
      rw [e2, sc _ (by omega) (by omega)]
      exact ⟨by unfold rg; omega, by unfold rg; omega, ⟨by omega, by omega⟩, R7.st a⟩
  · subst c
    rw [sc _ (by omega) (by omega)]
    exact R7.st a
  · subst c
    rw [sc _ (by omega) (by omega)]
    exact R7.st a
  · subst c
    rw [a.2.1.1]
    exact R7.st a
  · subst c
    rw [a.2.2.2.1]
    exact R7.st a
theorem y_thickest {len : Int} (hd : 3 ≤ d) (hL : QZ h) (a : G7 h g) : AM d m_X7_thickest [.inr (some 104), .inl len] h (R7 h (thickO len g.1.1, g)) := by
  refine vc_X7_thickest (by omega) hL (am_mono z_in (fun r h1 _ _ z => ?_))
  obtain ⟨rfl, rfl⟩ := z
  unfold thickO
  by_cases c : 0 ≤ len ∧ len ≤ 8
  · have h2 := two_in len.toNat (by omega)
    rw [if_pos c, if_pos (show isB len 0 from ⟨c.1, c.2, by decide, by omega⟩)]
    have e : sl 1 len = ((2 ^ len.toNat : Nat) : Int) := by
      obtain ⟨n, hn⟩ : ∃ n : Nat, len = n := ⟨len.toNat, by omega⟩
      rw [hn, sl_1 n (by omega), Int.natCast_pow]
      rfl
    have e3 : (2 : Int) ^ len.toNat = ((2 ^ len.toNat : Nat) : Int) := by
      rw [Int.natCast_pow]
      rfl
    have lp : ∀ (k : Nat) (b c x : Int), (k : Int) = sl 1 len - x → 0 ≤ x →
        AW m_X7_thickest d none (R7 h1 (thL g.1.1 len k b c x, g)) 21 [some (.inr (some 104)), some (.inl len), some (.inl b), some (.inl c), some (.inl x), none] [] h1 (0, 0) := by
      intro k
      induction k with
      | zero =>
        intro b c x hk hx
        exact vc_X7_thickest_21 (by omega) hL ⟨fun c => R7.st a, fun c => by omega⟩
      | succ k ih =>
        intro b c2 x hk hx
        refine vc_X7_thickest_21 (by omega) hL ⟨fun c => by omega, fun _ => am_mono (z_withB (bits := x) (by omega) hL a.1 c.1 c.2) (fun r h2 _ _ z => ?_)⟩
        obtain ⟨rfl, rfl⟩ := z
        simp only [thL]
        refine ⟨_, rfl, SS.rf, fun c1 => ⟨by unfold rg; omega, ?_⟩, fun c1 => ⟨by unfold rg; omega, ?_⟩⟩
        · rw [if_pos c1]
          exact ih b c2 (x + 1) (by omega) (by omega)
        · rw [if_neg c1]
          exact ih x _ (x + 1) (by omega) (by omega)
    exact ⟨_, rfl, SS.rf, fun _ => lp (2 ^ len.toNat) (-5) 0 0 (by omega) (by omega), fun c2 => absurd (by decide) c2⟩
  · rw [if_neg c, if_neg (show ¬ isB len 0 from fun q => c ⟨q.1, q.2.1⟩)]
    exact ⟨_, rfl, SS.rf, fun c2 => absurd rfl c2, fun _ => R7.st a⟩
end MODEL22
