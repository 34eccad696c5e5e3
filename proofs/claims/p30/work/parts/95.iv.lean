/-! what every state keeps: the numbers add up, none is large -/
def IVd (e T : Int) (s : Ms) : Prop := WL s.1 ∧ WS s.2.2 ∧ s.2.1.length ≤ 200 ∧ (0 ≤ s.2.2 5 ∧ 0 ≤ s.2.2 6 ∧ 0 ≤ s.2.2 7 ∧ 0 ≤ s.2.2 8 ∧ 0 ≤ s.2.2 9 ∧ 0 ≤ s.2.2 11) ∧ s.2.2 5 + s.2.2 6 + e = s.2.2 7 + s.2.2 8 + s.2.2 9 ∧ (s.2.1.length : Int) ≤ s.2.2 8 ∧ 6 * s.2.2 5 + s.2.2 6 + 4 * s.2.2 11 ≤ s.2.2 10 ∧ s.2.2 10 ≤ T ∧ ∀ c ∈ s.1, 0 ≤ c.2.2.2 ∧ c.2.2.2 ≤ s.2.2 8
abbrev IV (T : Int) (s : Ms) : Prop := IVd 0 T s
theorem IVd.of {e T : Int} {l : List Cd} {tl : List Int} {sc : Int → Int} (hw : WL l) (hs : WS sc) (hl : tl.length ≤ 200) (a5 a6 a7 a8 a9 a10 a11 : Int) (e5 : sc 5 = a5) (e6 : sc 6 = a6) (e7 : sc 7 = a7) (e8 : sc 8 = a8) (e9 : sc 9 = a9) (e10 : sc 10 = a10) (e11 : sc 11 = a11)
    (h0 : 0 ≤ a5 ∧ 0 ≤ a6 ∧ 0 ≤ a7 ∧ 0 ≤ a8 ∧ 0 ≤ a9 ∧ 0 ≤ a11) (h1 : a5 + a6 + e = a7 + a8 + a9) (h2 : (tl.length : Int) ≤ a8) (h3 : 6 * a5 + a6 + 4 * a11 ≤ a10) (h4 : a10 ≤ T) (h5 : ∀ c ∈ l, 0 ≤ c.2.2.2 ∧ c.2.2.2 ≤ a8) : IVd e T (l, tl, sc) := by
  subst e5 e6 e7 e8 e9 e10 e11
  exact ⟨hw, hs, hl, h0, h1, h2, h3, h4, h5⟩
theorem IVd.up {e T T' : Int} {s : Ms} (a : IVd e T s) (h : T ≤ T') : IVd e T' s := by
  obtain ⟨hw, hs, hl, h0, h1, h2, h3, h4, h5⟩ := a
  exact ⟨hw, hs, hl, h0, h1, h2, h3, Int.le_trans h4 h, h5⟩
theorem tell_WL {l : List Cd} (hw : WL l) {c : Cd} (hc : c ∈ l) (slp : Int) : WL (l.map (tellC slp c.1)) := by
  obtain ⟨i, hi⟩ := List.getElem?_of_mem hc
  rw [map_set hw hi slp]
  have q := hw.w1 hi
  refine hw.set hi rfl ⟨q.1, ?_, q.2.2⟩
  show (if slp = 0 then c.2.1 else 0) = 0 ∨ (if slp = 0 then c.2.1 else 0) = 1
  split
  · exact q.2.1
  · exact Or.inl rfl
theorem hear_iv {f : Cd → Bool} {T : Int} {s : Ms} (a : IV T s) (hT : T ≤ 2000000000) : IVd 1 T (hearS f s) ∧ ((hearS f s).2.2 8 = s.2.2 8 ∨ (hearS f s).2.2 8 = s.2.2 8 + 1) := by
  obtain ⟨l, tl, sc⟩ := s
  obtain ⟨hw, hs, hl, ⟨p5, p6, p7, p8, p9, p11⟩, h1, h2, h3, h4, h5⟩ := a
  simp only at hw hs hl p5 p6 p7 p8 p9 p11 h1 h2 h3 h4 h5
  cases hq : l.filter f with
  | nil =>
    have e : hearS f (l, tl, sc) = (l, tl, su sc 7 (w (sc 7 + 1))) := by unfold hearS; simp only; rw [hq]
    rw [e, w_id ⟨by omega, by omega⟩]
    show IVd 1 T _ ∧ (su sc 7 (sc 7 + 1) 8 = sc 8 ∨ su sc 7 (sc 7 + 1) 8 = sc 8 + 1)
    exact ⟨IVd.of hw (hs.su (by decide)) hl (sc 5) (sc 6) (sc 7 + 1) (sc 8) (sc 9) (sc 10) (sc 11) (su_ne (by decide)) (su_ne (by decide)) su_at (su_ne (by decide)) (su_ne (by decide)) (su_ne (by decide)) (su_ne (by decide)) ⟨p5, p6, by omega, p8, p9, p11⟩ (by omega) h2 h3 h4 h5, Or.inl (su_ne (by decide))⟩
  | cons c t =>
    have hcl : c ∈ l := (List.mem_filter.mp (hq ▸ List.mem_cons_self)).1
    cases t with
    | nil =>
      have e : hearS f (l, tl, sc) = (l.map (tellC (sc 2) c.1), tad tl c.1, su sc 8 (w (sc 8 + 1))) := by unfold hearS; simp only; rw [hq]
      rw [e, w_id ⟨by omega, by omega⟩]
      have ht := tad_len (x := c.1) hl
      show IVd 1 T _ ∧ (su sc 8 (sc 8 + 1) 8 = sc 8 ∨ su sc 8 (sc 8 + 1) 8 = sc 8 + 1)
      refine ⟨IVd.of (tell_WL hw hcl _) (hs.su (by decide)) (by rw [ht]; split <;> omega) (sc 5) (sc 6) (sc 7) (sc 8 + 1) (sc 9) (sc 10) (sc 11) (su_ne (by decide)) (su_ne (by decide)) (su_ne (by decide)) su_at (su_ne (by decide)) (su_ne (by decide)) (su_ne (by decide)) ⟨p5, p6, p7, by omega, p9, p11⟩ (by omega) (by rw [ht]; split <;> omega) h3 h4 (fun x hx => ?_), Or.inr su_at⟩
      obtain ⟨y, hy, rfl⟩ := List.mem_map.mp hx
      have hb := h5 y hy
      unfold tellC
      split
      · show 0 ≤ w (y.2.2.2 + 1) ∧ w (y.2.2.2 + 1) ≤ sc 8 + 1
        rw [w_id ⟨by omega, by omega⟩]
        omega
      · omega
    | cons c2 t =>
      have e : hearS f (l, tl, sc) = (l, tl, su sc 9 (w (sc 9 + 1))) := by unfold hearS; simp only; rw [hq]
      rw [e, w_id ⟨by omega, by omega⟩]
      show IVd 1 T _ ∧ (su sc 9 (sc 9 + 1) 8 = sc 8 ∨ su sc 9 (sc 9 + 1) 8 = sc 8 + 1)
      exact ⟨IVd.of hw (hs.su (by decide)) hl (sc 5) (sc 6) (sc 7) (sc 8) (sc 9 + 1) (sc 10) (sc 11) (su_ne (by decide)) (su_ne (by decide)) (su_ne (by decide)) (su_ne (by decide)) su_at (su_ne (by decide)) (su_ne (by decide)) ⟨p5, p6, p7, p8, by omega, p11⟩ (by omega) h2 h3 h4 h5, Or.inl (su_ne (by decide))⟩
theorem cnt_iv {k t T : Int} {s : Ms} (a : IVd 1 T s) (hT : T ≤ 2000000000) (hk : (k = 5 ∧ 6 ≤ t ∨ k = 6 ∧ 1 ≤ t) ∧ t ≤ 100) : IV (T + t) (cntD k t s) ∧ (cntD k t s).2.2 8 = s.2.2 8 ∧ (cntD k t s).2.2 11 = s.2.2 11 := by
  obtain ⟨l, tl, sc⟩ := s
  obtain ⟨hw, hs, hl, ⟨p5, p6, p7, p8, p9, p11⟩, h1, h2, h3, h4, h5⟩ := a
  simp only at hw hs hl p5 p6 p7 p8 p9 p11 h1 h2 h3 h4 h5
  have e10 : w (sc 10 + t) = sc 10 + t := w_id ⟨by omega, by omega⟩
  rcases hk with ⟨⟨rfl, hk⟩ | ⟨rfl, hk⟩, ht⟩
  · have e5 : w (sc 5 + 1) = sc 5 + 1 := w_id ⟨by omega, by omega⟩
    have e : cntD 5 t (l, tl, sc) = (l, tl, su (su sc 5 (sc 5 + 1)) 10 (sc 10 + t)) := by unfold cntD; simp only; rw [e5, e10]
    have n2 : ∀ j : Int, j ≠ 10 → j ≠ 5 → su (su sc 5 (sc 5 + 1)) 10 (sc 10 + t) j = sc j := fun j q1 q2 => (su_ne q1).trans (su_ne q2)
    rw [e]
    show IV (T + t) _ ∧ su (su sc 5 (sc 5 + 1)) 10 (sc 10 + t) 8 = sc 8 ∧ su (su sc 5 (sc 5 + 1)) 10 (sc 10 + t) 11 = sc 11
    exact ⟨IVd.of hw ((WS.su hs (k := 5) (by decide)).su (by decide)) hl (sc 5 + 1) (sc 6) (sc 7) (sc 8) (sc 9) (sc 10 + t) (sc 11) ((su_ne (by decide)).trans su_at) (n2 6 (by decide) (by decide)) (n2 7 (by decide) (by decide)) (n2 8 (by decide) (by decide)) (n2 9 (by decide) (by decide)) su_at (n2 11 (by decide) (by decide)) ⟨by omega, p6, p7, p8, p9, p11⟩ (by omega) h2 (by omega) (by omega) h5, n2 8 (by decide) (by decide), n2 11 (by decide) (by decide)⟩
  · have e6 : w (sc 6 + 1) = sc 6 + 1 := w_id ⟨by omega, by omega⟩
    have e : cntD 6 t (l, tl, sc) = (l, tl, su (su sc 6 (sc 6 + 1)) 10 (sc 10 + t)) := by unfold cntD; simp only; rw [e6, e10]
    have n2 : ∀ j : Int, j ≠ 10 → j ≠ 6 → su (su sc 6 (sc 6 + 1)) 10 (sc 10 + t) j = sc j := fun j q1 q2 => (su_ne q1).trans (su_ne q2)
    rw [e]
    show IV (T + t) _ ∧ su (su sc 6 (sc 6 + 1)) 10 (sc 10 + t) 8 = sc 8 ∧ su (su sc 6 (sc 6 + 1)) 10 (sc 10 + t) 11 = sc 11
    exact ⟨IVd.of hw ((WS.su hs (k := 6) (by decide)).su (by decide)) hl (sc 5) (sc 6 + 1) (sc 7) (sc 8) (sc 9) (sc 10 + t) (sc 11) (n2 5 (by decide) (by decide)) ((su_ne (by decide)).trans su_at) (n2 7 (by decide) (by decide)) (n2 8 (by decide) (by decide)) (n2 9 (by decide) (by decide)) su_at (n2 11 (by decide) (by decide)) ⟨p5, by omega, p7, p8, p9, p11⟩ (by omega) h2 (by omega) (by omega) h5, n2 8 (by decide) (by decide), n2 11 (by decide) (by decide)⟩
theorem lg_iv {e T : Int} {s : Ms} (a : IVd e T s) : IVd e T (lgS s) ∧ (lgS s).2.2 8 = s.2.2 8 ∧ (lgS s).2.2 11 = s.2.2 11 := by
  obtain ⟨l, tl, sc⟩ := s
  obtain ⟨hw, hs, hl, h0, h1, h2, h3, h4, h5⟩ := a
  obtain ⟨v, ev⟩ : ∃ v : Int, lgS (l, tl, sc) = (lg l, tl, su sc 12 v) := ⟨_, rfl⟩
  rw [ev]
  show IVd e T _ ∧ su sc 12 v 8 = sc 8 ∧ su sc 12 v 11 = sc 11
  simp only at hw hs hl h0 h1 h2 h3 h4 h5
  refine ⟨IVd.of hw.lg (hs.su (by decide)) hl (sc 5) (sc 6) (sc 7) (sc 8) (sc 9) (sc 10) (sc 11) (su_ne (by decide)) (su_ne (by decide)) (su_ne (by decide)) (su_ne (by decide)) (su_ne (by decide)) (su_ne (by decide)) (su_ne (by decide)) h0 h1 h2 h3 h4 (fun c hc => ?_), su_ne (by decide), su_ne (by decide)⟩
  obtain ⟨c0, hc0, e0⟩ := List.mem_filterMap.mp hc
  rw [(lg1_name e0).2.2.1]
  exact h5 c0 hc0
theorem hear_11 {f : Cd → Bool} {s : Ms} : (hearS f s).2.2 11 = s.2.2 11 := by
  unfold hearS
  split
  · exact su_ne (f := s.2.2) (k := 7) (j := 11) (v := w (s.2.2 7 + 1)) (by decide)
  · exact su_ne (f := s.2.2) (k := 8) (j := 11) (v := w (s.2.2 8 + 1)) (by decide)
  · exact su_ne (f := s.2.2) (k := 9) (j := 11) (v := w (s.2.2 9 + 1)) (by decide)
theorem stt_in {r len : Int} (h0 : 0 ≤ len) (h8 : len ≤ 8) : 6 ≤ stt r len ∧ stt r len ≤ 14 := by
  unfold stt
  split
  · omega
  · split <;> omega
theorem ask_iv {T len bits : Int} {s : Ms} (a : IV T s) (hT : T ≤ 2000000000) (h0 : 0 ≤ len) (h8 : len ≤ 8) : IV (T + 14) (askS len bits s) ∧ s.2.2 8 ≤ (askS len bits s).2.2 8 := by
  have hs := stt_in (r := askR len bits s) h0 h8
  obtain ⟨a1, b1⟩ := hear_iv (f := pa len bits) a hT
  obtain ⟨a2, b2, -⟩ := cnt_iv (k := 5) (t := stt (askR len bits s) len) a1 hT ⟨Or.inl ⟨rfl, hs.1⟩, by omega⟩
  obtain ⟨a3, b3, -⟩ := lg_iv a2
  refine ⟨a3.up (by omega), ?_⟩
  show s.2.2 8 ≤ (lgS (cntD 5 (stt (askR len bits s) len) (hearS (pa len bits) s))).2.2 8
  rw [b3, b2]
  omega
theorem slot_iv {T : Int} {s : Ms} {sl : Int → Int} {k : Nat} (a : IV T s) (hT : T ≤ 2000000000) : IV (T + 9) (slotS sl k s) ∧ s.2.2 8 ≤ (slotS sl k s).2.2 8 ∧ (slotS sl k s).2.2 11 = s.2.2 11 := by
  obtain ⟨a1, b1⟩ := hear_iv (f := fun c => decide (sl c.1 = k)) a hT
  have ht : 1 ≤ (if hearR (fun c => decide (sl c.1 = k)) s.1 = 300 then (1 : Int) else 9) ∧ (if hearR (fun c => decide (sl c.1 = k)) s.1 = 300 then (1 : Int) else 9) ≤ 9 := by split <;> omega
  obtain ⟨a2, b2, c2⟩ := cnt_iv (k := 6) (t := if hearR (fun c => decide (sl c.1 = k)) s.1 = 300 then 1 else 9) a1 hT ⟨Or.inr ⟨rfl, ht.1⟩, by omega⟩
  obtain ⟨a3, b3, c3⟩ := lg_iv a2
  unfold slotS
  refine ⟨a3.up (by omega), ?_, ?_⟩
  · rw [b3, b2]
    omega
  · rw [c3, c2, hear_11]
theorem slots_iv {sl : Int → Int} : ∀ (n : Nat) {T : Int} {s : Ms}, IV T s → T + 9 * (n : Int) ≤ 2000000000 → IV (T + 9 * (n : Int)) (slotsS sl n s) ∧ s.2.2 8 ≤ (slotsS sl n s).2.2 8 ∧ (slotsS sl n s).2.2 11 = s.2.2 11
  | 0, T, s, a, _ => ⟨a.up (by omega), Int.le_refl _, rfl⟩
  | n + 1, T, s, a, hT => by
    obtain ⟨a1, b1, c1⟩ := slots_iv (sl := sl) n a (by omega)
    obtain ⟨a2, b2, c2⟩ := slot_iv (sl := sl) (k := n) a1 (by omega)
    exact ⟨a2.up (by omega), Int.le_trans b1 b2, c2.trans c1⟩
theorem drs_in {m : Int} : ∀ (l : List Cd) (acc : List (Int × Int) × Int), 0 ≤ acc.2 ∧ acc.2 < 2147483648 → 0 ≤ (l.foldl (dst m) acc).2 ∧ (l.foldl (dst m) acc).2 < 2147483648
  | [], acc, h => h
  | c :: t, acc, h => drs_in t (dst m acc c) (by
    unfold dst
    split
    · exact nx_in _
    · exact h)
theorem frB_iv {T m : Int} {s : Ms} (a : IV T s) (hT : T ≤ 2000000000) : IV (T + 4) (frB m s) ∧ (frB m s).2.2 8 = s.2.2 8 ∧ (frB m s).2.2 11 = s.2.2 11 + 1 := by
  obtain ⟨l, tl, sc⟩ := s
  obtain ⟨hw, hs, hl, ⟨p5, p6, p7, p8, p9, p11⟩, h1, h2, h3, h4, h5⟩ := a
  simp only at hw hs hl p5 p6 p7 p8 p9 p11 h1 h2 h3 h4 h5
  have e10 : w (sc 10 + 4) = sc 10 + 4 := w_id ⟨by omega, by omega⟩
  have e11 : w (sc 11 + 1) = sc 11 + 1 := w_id ⟨by omega, by omega⟩
  have e : frB m (l, tl, sc) = (l, tl, su (su (su sc 11 (sc 11 + 1)) 10 (sc 10 + 4)) 4 (drs m l (sc 4)).2) := by unfold frB; simp only; rw [e11, e10]
  have hd := drs_in (m := m) l ([], sc 4) ⟨hs.2.2.1, hs.2.2.2⟩
  have hs' : WS (su (su (su sc 11 (sc 11 + 1)) 10 (sc 10 + 4)) 4 (drs m l (sc 4)).2) := by
    unfold WS
    rw [su_ne (by decide), su_ne (by decide), su_ne (by decide), su_ne (by decide), su_ne (by decide), su_ne (by decide), su_at]
    exact ⟨hs.1, hs.2.1, hd⟩
  have n3 : ∀ j : Int, j ≠ 4 → j ≠ 10 → j ≠ 11 → su (su (su sc 11 (sc 11 + 1)) 10 (sc 10 + 4)) 4 (drs m l (sc 4)).2 j = sc j := fun j q1 q2 q3 => (su_ne q1).trans ((su_ne q2).trans (su_ne q3))
  rw [e]
  show IV (T + 4) _ ∧ su (su (su sc 11 (sc 11 + 1)) 10 (sc 10 + 4)) 4 (drs m l (sc 4)).2 8 = sc 8 ∧ su (su (su sc 11 (sc 11 + 1)) 10 (sc 10 + 4)) 4 (drs m l (sc 4)).2 11 = sc 11 + 1
  exact ⟨IVd.of hw hs' hl (sc 5) (sc 6) (sc 7) (sc 8) (sc 9) (sc 10 + 4) (sc 11 + 1) (n3 5 (by decide) (by decide) (by decide)) (n3 6 (by decide) (by decide) (by decide)) (n3 7 (by decide) (by decide) (by decide)) (n3 8 (by decide) (by decide) (by decide)) (n3 9 (by decide) (by decide) (by decide)) ((su_ne (by decide)).trans su_at) ((su_ne (by decide)).trans ((su_ne (by decide)).trans su_at)) ⟨p5, p6, p7, p8, p9, by omega⟩ h1 h2 (by omega) (by omega) h5, n3 8 (by decide) (by decide) (by decide), (su_ne (by decide)).trans ((su_ne (by decide)).trans su_at)⟩
theorem frS_iv {T : Int} {s : Ms} {m : Nat} (a : IV T s) (hT : T ≤ 1900000000) (hm : m ≤ 64) : IV (T + 580) (frS m s) ∧ s.2.2 8 ≤ (frS m s).2.2 8 ∧ (frS m s).2.2 11 = s.2.2 11 + 1 := by
  obtain ⟨a1, b1, c1⟩ := frB_iv (m := (m : Int)) a (by omega)
  obtain ⟨a2, b2, c2⟩ := slots_iv (sl := slF (drs m s.1 (s.2.2 4)).1) m a1 (by omega)
  unfold frS
  exact ⟨a2.up (by omega), by omega, by omega⟩
theorem rd_iv {first : Int} : ∀ (f size : Nat) (n : Int) {T : Int} {s : Ms}, IV T s → T + 580 * (f : Int) ≤ 1900000000 → 1 ≤ size → size ≤ 64 → IV (T + 580 * (f : Int)) (rdS first f size n s).2 ∧ n ≤ (rdS first f size n s).1 ∧ (rdS first f size n s).1 ≤ n + f ∧ (rdS first f size n s).2.2.2 11 = s.2.2 11 + ((rdS first f size n s).1 - n)
  | 0, size, n, T, s, a, _, _, _ => ⟨a.up (by omega), Int.le_refl _, by show n ≤ n + ((0 : Nat) : Int); omega, by show s.2.2 11 = s.2.2 11 + (n - n); omega⟩
  | f + 1, size, n, T, s, a, hT, h1, h2 => by
    obtain ⟨a1, -, c1⟩ := frS_iv (m := size) a (by omega) h2
    have hcl := clp_in (nsz (s.2.2 3) first size (w ((frS size s).2.2 9 - s.2.2 9)))
    have e : rdS first (f + 1) size n s = if 0 < w ((frS size s).2.2 9 - s.2.2 9) then rdS first f (clp (nsz (s.2.2 3) first size (w ((frS size s).2.2 9 - s.2.2 9)))).toNat (n + 1) (frS size s) else (n + 1, frS size s) := rfl
    rw [e]
    split
    · obtain ⟨a2, b2, c2, d2⟩ := rd_iv (first := first) f (clp (nsz (s.2.2 3) first size (w ((frS size s).2.2 9 - s.2.2 9)))).toNat (n + 1) a1 (by omega) (by omega) (by omega)
      exact ⟨a2.up (by omega), by omega, by omega, by omega⟩
    · exact ⟨a1.up (by omega), by show n ≤ n + 1; omega, by show n + 1 ≤ n + ((f + 1 : Nat) : Int); omega, by show (frS size s).2.2 11 = s.2.2 11 + (n + 1 - n); omega⟩
theorem wk_iv {skips : Int} : ∀ (f : Nat) (gs : Int × Ms) (len bits T : Int), IV T gs.2 → T + 14 * (2 ^ f - 1) ≤ 1900000000 → 0 ≤ len → len ≤ 8 → IV (T + 14 * (2 ^ f - 1)) (wk skips f gs len bits).2 ∧ gs.2.2.2 8 ≤ (wk skips f gs len bits).2.2.2 8
  | 0, gs, len, bits, T, a, _, _, _ => ⟨a.up (by have e : (2 : Int) ^ 0 = 1 := rfl; rw [e]; omega), Int.le_refl _⟩
  | f + 1, gs, len, bits, T, a, hT, h0, h8 => by
    have hp : (2 : Int) ^ (f + 1) = 2 ^ f * 2 := Int.pow_succ 2 f
    have hp1 : (1 : Int) ≤ 2 ^ f := by
      have := Nat.one_le_two_pow (n := f)
      have h2 : ((1 : Nat) : Int) ≤ ((2 ^ f : Nat) : Int) := Int.ofNat_le.mpr this
      rw [Int.natCast_pow] at h2
      exact h2
    obtain ⟨a1, b1⟩ := ask_iv (len := len) (bits := bits) a (by omega) h0 h8
    have e : wk skips (f + 1) gs len bits = if askR len bits gs.2 < 400 then (if gs.1 < len then len else gs.1, askS len bits gs.2)
    else wk skips f (wk skips f (if gs.1 < len then len else gs.1, askS len bits gs.2) (wto skips len (askR len bits gs.2) + 1) (2 * sr (fnm (pa len bits) gs.2.1) (8 - wto skips len (askR len bits gs.2)))) (wto skips len (askR len bits gs.2) + 1) (2 * sr (fnm (pa len bits) gs.2.1) (8 - wto skips len (askR len bits gs.2)) + 1) := rfl
    rw [e]
    split
    · exact ⟨a1.up (by omega), b1⟩
    · next c =>
      have ht := wto_in (skips := skips) a.1 h0 h8 (by omega : 400 ≤ askR len bits gs.2)
      obtain ⟨a2, b2⟩ := wk_iv (skips := skips) f (if gs.1 < len then len else gs.1, askS len bits gs.2) (wto skips len (askR len bits gs.2) + 1) (2 * sr (fnm (pa len bits) gs.2.1) (8 - wto skips len (askR len bits gs.2))) (T + 14) a1 (by omega) (by omega) (by omega)
      obtain ⟨a3, b3⟩ := wk_iv (skips := skips) f (wk skips f (if gs.1 < len then len else gs.1, askS len bits gs.2) (wto skips len (askR len bits gs.2) + 1) (2 * sr (fnm (pa len bits) gs.2.1) (8 - wto skips len (askR len bits gs.2)))) (wto skips len (askR len bits gs.2) + 1) (2 * sr (fnm (pa len bits) gs.2.1) (8 - wto skips len (askR len bits gs.2)) + 1) (T + 14 + 14 * (2 ^ f - 1)) a2 (by omega) (by omega) (by omega)
      exact ⟨a3.up (by omega), Int.le_trans b1 (Int.le_trans b2 b3)⟩
