/-! the model: an answer, an ask -/
section MODEL15
variable {d : Nat} {h h1 : AH} {s : Ms} {g : Gs}
theorem hearR_0 {f : Cd → Bool} {l : List Cd} (hw : WL l) : 0 ≤ hearR f l := by
  unfold hearR
  split
  · decide
  · next c he =>
    have hc := List.mem_filter.mp (show c ∈ l.filter f from he ▸ List.mem_cons_self)
    exact (nm_of hw hc.1).1
  · next c e t he =>
    have := (fo_in (dfs f c.1 l)).1
    omega
theorem EZ.ans (a : EZ h s) {v7 v8 v9 : Int} : EZ (up (up (up h 105 7 v7) 105 8 v8) 105 9 v9) (s.1, s.2.1, su (su (su s.2.2 7 v7) 8 v8) 9 v9) :=
  ((a.num (by decide) (by decide) (a.ws.su (by decide))).num (by decide) (by decide) ((a.ws.su (by decide)).su (by decide))).num (by decide) (by decide) (((a.ws.su (by decide)).su (by decide)).su (by decide))
theorem su_7 {f : Int → Int} {v : Int} : su (su (su f 7 v) 8 (f 8)) 9 (f 9) = su f 7 v := by
  funext j
  by_cases h9 : j = 9
  · subst h9; simp [su]
  · by_cases h8 : j = 8
    · subst h8; simp [su]
    · simp [su, h9, h8]
theorem su_8 {f : Int → Int} {v : Int} : su (su (su f 7 (f 7)) 8 v) 9 (f 9) = su f 8 v := by
  funext j
  by_cases h9 : j = 9
  · subst h9; simp [su]
  · by_cases h7 : j = 7
    · subst h7; simp [su]
    · simp [su, h9, h7]
theorem su_9 {f : Int → Int} {v : Int} : su (su (su f 7 (f 7)) 8 (f 8)) 9 v = su f 9 v := by
  funext j
  by_cases h8 : j = 8
  · subst h8; simp [su]
  · by_cases h7 : j = 7
    · subst h7; simp [su]
    · simp [su, h8, h7]
theorem fm_ans {v7 v8 v9 : Int} : FM h (up (up (up h 105 7 v7) 105 8 v8) 105 9 v9) s5 := ((FM.rf.up rfl).up rfl).up rfl
theorem z_answer {f : Cd → Bool} (hd : 4 ≤ d) (hL : QZ h) (a : EZ h s) (an : AN h s.1 (s.1.filter f)) : AM d m_X7_answer [.inr (some 104)] h (fun r h' => r = some (hearR f s.1) ∧ SS h h' ∧ FM h h' s5 ∧ EZ h' (lgS (hearS f s))) := by
  refine am_ok (fun ho _ => ?_)
  have e7 : hi h 105 7 = s.2.2 7 := a.sc (by decide) (by decide)
  have e8 : hi h 105 8 = s.2.2 8 := a.sc (by decide) (by decide)
  have e9 : hi h 105 9 = s.2.2 9 := a.sc (by decide) (by decide)
  have q7 : w (hi h 105 7 + 0) = s.2.2 7 := by rw [Int.add_zero, w_id (ho.1 _ _), e7]
  have q8 : w (hi h 105 8 + 0) = s.2.2 8 := by rw [Int.add_zero, w_id (ho.1 _ _), e8]
  have q9 : w (hi h 105 9 + 0) = s.2.2 9 := by rw [Int.add_zero, w_id (ho.1 _ _), e9]
  have hw := a.wl
  obtain ⟨n8, n11, n9, n10⟩ := id an
  refine vc_X7_answer (by omega) hL ?_
  cases he : s.1.filter f with
  | nil =>
    rw [he] at n8
    have c0 : hi h 104 8 = 0 := n8
    have eR : hearR f s.1 = 300 := by unfold hearR; rw [he]
    have eS : hearS f s = (s.1, s.2.1, su s.2.2 7 (w (s.2.2 7 + 1))) := by unfold hearS; rw [he]
    refine ⟨fun c => absurd c0 c, fun _ => ?_⟩
    rw [q8, q9, e7]
    have e := a.ans (v7 := w (s.2.2 7 + 1)) (v8 := s.2.2 8) (v9 := s.2.2 9)
    rw [su_7] at e
    refine am_mono (z_letGo (by omega) (hL.ss SS.rf.up.up.up) e) (fun r h2 _ _ z => ?_)
    obtain ⟨rfl, t2, f2, e2⟩ := z
    exact ⟨rfl, t2, by rw [eR], SS.rf.up.up.up.tr t2, fm_ans.tr f2, by rw [eS]; exact e2⟩
  | cons c0 tl =>
    cases tl with
    | nil =>
      rw [he] at n8 n9 n10
      have c1 : hi h 104 8 = 1 := n8
      obtain ⟨i, hc, hi9⟩ := n9 c0 rfl
      have h10 : hi h 104 10 = c0.1 := n10 c0 [] rfl
      have eR : hearR f s.1 = c0.1 := by unfold hearR; rw [he]
      have eS : hearS f s = (s.1.map (tellC (s.2.2 2) c0.1), tad s.2.1 c0.1, su s.2.2 8 (w (s.2.2 8 + 1))) := by unfold hearS; rw [he]
      refine ⟨fun _ => ⟨fun c => absurd c1 c, fun _ => ?_⟩, fun c => by omega⟩
      rw [q7, q9, e8, hi9]
      have e := a.ans (v7 := s.2.2 7) (v8 := w (s.2.2 8 + 1)) (v9 := s.2.2 9)
      rw [su_8] at e
      refine am_mono (z_tell (by omega) (hL.ss SS.rf.up.up.up) e hc) (fun r h2 _ _ z => ?_)
      obtain ⟨rfl, t2, f2, e2⟩ := z
      have e3 : EZ h2 (s.1.map (tellC (su s.2.2 8 (w (s.2.2 8 + 1)) 2) c0.1), tad s.2.1 c0.1, su s.2.2 8 (w (s.2.2 8 + 1))) := e2
      rw [su_ne (by decide)] at e3
      refine ⟨rfl, t2, am_mono (z_letGo (by omega) (hL.ss (SS.rf.up.up.up.tr t2)) e3) (fun r h3 _ _ z => ?_)⟩
      obtain ⟨rfl, t3, f3, e4⟩ := z
      exact ⟨rfl, t3, by rw [eR, h10], (SS.rf.up.up.up.tr t2).tr t3, (fm_ans.tr f2).tr f3, by rw [eS]; exact e4⟩
    | cons c1 tl =>
      rw [he] at n8 n11
      have hlen : (c0 :: c1 :: tl).length = tl.length + 2 := rfl
      rw [hlen] at n8
      have hc := List.mem_filter.mp (show c0 ∈ s.1.filter f from he ▸ List.mem_cons_self)
      have hd2 := dfs_in (f := f) hw hc.1
      have hone := one_of hw he
      have hne : dfs f c0.1 s.1 ≠ 0 := fun q => by have := hone.mp q; cases this
      have hu : hi h 104 11 = dfs f c0.1 s.1 := by
        rw [n11, dfs_filter, he]
        rfl
      have eR : hearR f s.1 = 400 + fo (dfs f c0.1 s.1) := by unfold hearR; rw [he]
      have eS : hearS f s = (s.1, s.2.1, su s.2.2 9 (w (s.2.2 9 + 1))) := by unfold hearS; rw [he]
      have hf := fo_in (dfs f c0.1 s.1)
      refine ⟨fun _ => ⟨fun _ => am_mono (z_clash hL hu (by omega) (by omega)) (fun r h2 _ _ z => ?_), fun c => by omega⟩, fun c => by omega⟩
      obtain ⟨rfl, rfl⟩ := z
      refine ⟨_, rfl, SS.rf, by unfold rg; omega, fun _ => ⟨fun _ => ⟨fun c => by omega, fun _ => ?_⟩, fun c => by omega⟩, fun c => by omega⟩
      rw [q7, q8, e9]
      have e := a.ans (v7 := s.2.2 7) (v8 := s.2.2 8) (v9 := w (s.2.2 9 + 1))
      rw [su_9] at e
      refine am_mono (z_letGo (by omega) (hL.ss SS.rf.up.up.up) e) (fun r h3 _ _ z => ?_)
      obtain ⟨rfl, t2, f2, e2⟩ := z
      exact ⟨rfl, t2, by rw [eR], SS.rf.up.up.up.tr t2, fm_ans.tr f2, by rw [eS]; exact e2⟩
theorem hearS_a {f : Cd → Bool} {l : List Cd} {tl : List Int} {F : Int → Int} (he : l.filter f = []) : hearS f (l, tl, F) = (l, tl, su F 7 (w (F 7 + 1))) := by
  unfold hearS
  rw [he]
theorem hearS_b {f : Cd → Bool} {l : List Cd} {tl : List Int} {F : Int → Int} {c : Cd} (he : l.filter f = [c]) : hearS f (l, tl, F) = (l.map (tellC (F 2) c.1), tad tl c.1, su F 8 (w (F 8 + 1))) := by
  unfold hearS
  rw [he]
theorem hearS_c {f : Cd → Bool} {l : List Cd} {tl : List Int} {F : Int → Int} {c e : Cd} {t : List Cd} (he : l.filter f = c :: e :: t) : hearS f (l, tl, F) = (l, tl, su F 9 (w (F 9 + 1))) := by
  unfold hearS
  rw [he]
theorem su_cnt {k t m : Int} (hk : k = 5 ∨ k = 6) (F : Int → Int) (hm : m = 7 ∨ m = 8 ∨ m = 9) : su (su (su F k (w (F k + 1))) 10 (w (F 10 + t))) m (w (su (su F k (w (F k + 1))) 10 (w (F 10 + t)) m + 1)) = su (su (su F m (w (F m + 1))) k (w (su F m (w (F m + 1)) k + 1))) 10 (w (su F m (w (F m + 1)) 10 + t)) := by
  have e1 : su (su F k (w (F k + 1))) 10 (w (F 10 + t)) m = F m := by rw [su_ne (by omega), su_ne (by omega)]
  have e2 : su F m (w (F m + 1)) k = F k := su_ne (by omega)
  have e3 : su F m (w (F m + 1)) 10 = F 10 := su_ne (by omega)
  rw [e1, e2, e3]
  funext j
  by_cases j1 : j = m
  · rw [j1, su_at, su_ne (by omega), su_ne (by omega), su_at]
  · rw [su_ne j1]
    by_cases j2 : j = 10
    · rw [j2, su_at, su_at]
    · rw [su_ne j2, su_ne j2]
      by_cases j3 : j = k
      · rw [j3, su_at, su_at]
      · rw [su_ne j3, su_ne j3, su_ne j1]
theorem hearS_cn {f : Cd → Bool} {k t : Int} (hk : k = 5 ∨ k = 6) (l : List Cd) (tl : List Int) (F : Int → Int) : hearS f (cntD k t (l, tl, F)) = cntD k t (hearS f (l, tl, F)) := by
  have h2 : su (su F k (w (F k + 1))) 10 (w (F 10 + t)) 2 = F 2 := by rw [su_ne (by decide), su_ne (by omega)]
  have eq : cntD k t (l, tl, F) = (l, tl, su (su F k (w (F k + 1))) 10 (w (F 10 + t))) := rfl
  rw [eq]
  have ec : ∀ (l' : List Cd) (tl' : List Int) (m : Int), (m = 7 ∨ m = 8 ∨ m = 9) → (l', tl', su (su (su F k (w (F k + 1))) 10 (w (F 10 + t))) m (w (su (su F k (w (F k + 1))) 10 (w (F 10 + t)) m + 1))) = cntD k t (l', tl', su F m (w (F m + 1))) := fun l' tl' m hm => by
    rw [su_cnt hk F hm]
    rfl
  cases he : l.filter f with
  | nil => rw [hearS_a he, hearS_a he, ec l tl 7 (Or.inl rfl)]
  | cons c0 t0 =>
    cases t0 with
    | nil => rw [hearS_b he, hearS_b he, h2, ec _ _ 8 (Or.inr (Or.inl rfl))]
    | cons c1 t1 => rw [hearS_c he, hearS_c he, ec l tl 9 (Or.inr (Or.inr rfl))]
theorem hearS_cnt {f : Cd → Bool} {k t : Int} (hk : k = 5 ∨ k = 6) : hearS f (cntD k t s) = cntD k t (hearS f s) := hearS_cn hk s.1 s.2.1 s.2.2
theorem EZ.cnt {k t : Int} (a : EZ h s) (hk : k = 5 ∨ k = 6) : EZ (up (up h 105 k (w (hi h 105 k + 1))) 105 10 (w (hi h 105 10 + t))) (cntD k t s) := by
  have e1 : hi h 105 k = s.2.2 k := a.sc (by omega) (by omega)
  have e2 : hi h 105 10 = s.2.2 10 := a.sc (by decide) (by decide)
  rw [e1, e2]
  exact (a.num (by omega) (by omega) (a.ws.su (by omega))).num (by decide) (by decide) ((a.ws.su (by omega)).su (by decide))
theorem AN.z {l A : List Cd} {k k' v v' : Int} (a : AN h l A) : AN (up (up h 105 k v) 105 k' v') l A := a.same (fun m _ _ => by rw [hi_up, if_neg (by omega), hi_up, if_neg (by omega)])
theorem z_begins {x k b : Int} (h0 : 0 ≤ k) (h8 : k ≤ 8) : AM d m_X7_begins [.inl x, .inl k, .inl b] h (fun r h' => r = some (if sr x (8 - k) = b then 1 else 0) ∧ h' = h) :=
  vc_X7_begins ⟨by unfold rg; omega, fun c => ⟨by rw [if_neg c], rfl⟩, fun c => ⟨by rw [if_pos (Classical.byContradiction c)], rfl⟩⟩
theorem filter_tk {f : Cd → Bool} {l : List Cd} {i : Nat} {c : Cd} (hc : l[i]? = some c) : (l.take (i + 1)).filter f = (l.take i).filter f ++ (if f c = true then [c] else []) := by
  rw [tk hc, List.filter_append]
  congr 1
  by_cases q : f c = true
  · rw [if_pos q]; simp [q]
  · rw [if_neg q]; simp [q]
theorem z_askNow {len bits : Int} (hd : 5 ≤ d) (hL : QZ h) (a : EZ h s) (h0 : 0 ≤ len) (h8 : len ≤ 8) : AM d m_X7_askNow [.inr (some 104), .inl len, .inl bits] h (fun r h' => r = some (askR len bits s) ∧ SS h h' ∧ FM h h' sA ∧ EZ h' (askS len bits s) ∧ ∀ c A', s.1.filter (pa len bits) = A' ++ [c] → hi h' 104 10 = c.1) := by
  have hw := a.wl
  have h20 := hw.1
  have lp : ∀ (k i : Nat) (h1 : AH), k + i = s.1.length → SS h h1 → FM h h1 s4 → AN h1 s.1 ((s.1.take i).filter (pa len bits)) → AW m_X7_askNow d none (fun r h' => r = some (askR len bits s) ∧ SS h h' ∧ FM h h' sA ∧ EZ h' (askS len bits s) ∧ ∀ c A', s.1.filter (pa len bits) = A' ++ [c] → hi h' 104 10 = c.1) 6 [some (.inr (some 104)), some (.inl len), some (.inl bits), some (.inl (i : Int))] [] h1 (0, 0) := by
    intro k
    induction k with
    | zero =>
      intro i h1 hk t f an
      have a1 := a.k4 f
      have a0 := a1.n
      rw [List.take_of_length_le (by omega)] at an
      have fin : ∀ (tm : Int), stt (askR len bits s) len = tm → AM (d - 1) m_X7_answer [(.inr (some 104))] (up (up h1 105 5 (w ((hi h1 105 5) + 1))) 105 10 (w ((hi h1 105 10) + tm))) (fun r h8 => 
            ∃ v9, r = some v9 ∧ SS (up (up h1 105 5 (w ((hi h1 105 5) + 1))) 105 10 (w ((hi h1 105 10) + tm))) h8 ∧
            (some v9 = some (askR len bits s) ∧ SS h h8 ∧ FM h h8 sA ∧ EZ h8 (askS len bits s) ∧ ∀ c A', s.1.filter (pa len bits) = A' ++ [c] → hi h8 104 10 = c.1)) := by
        intro tm htm
        have e2 := a1.cnt (k := 5) (t := tm) (Or.inl rfl)
        refine am_mono (z_answer (f := pa len bits) (by omega) (hL.ss t.up.up) e2 an.z) (fun r h3 _ _ z => ?_)
        obtain ⟨rfl, t3, f3, e3⟩ := z
        rw [hearS_cnt (Or.inl rfl), ← htm] at e3
        refine ⟨_, rfl, t3, rfl, t.up.up.tr t3, (((f.wk (fun _ _ => s4_A)).up (Or.inl rfl)).up (Or.inl rfl)).tr (f3.wk (fun _ _ => s5_A)), e3, fun c A' hA => ?_⟩
        rw [f3 104 10 (by unfold s5; decide), hi_up, if_neg (by decide), hi_up, if_neg (by decide)]
        exact an.2.2.2 c A' hA
      have h300 : askR len bits s = 300 ↔ s.1.filter (pa len bits) = [] := hearR_300 hw
      refine vc_X7_askNow_6 (by omega) (hL.ss t) ⟨fun _ => ⟨by unfold rg; omega, fun c => ⟨fun c2 => ⟨by unfold rg; omega, by unfold rg; omega, fin _ ?_⟩, fun c2 => ⟨by unfold rg; omega, fin _ ?_⟩⟩, fun c => ⟨by unfold rg; omega, fin _ ?_⟩⟩, fun c => by omega⟩
      · have hne : ¬ askR len bits s = 300 := fun q => c (by rw [an.1, h300.mp q]; rfl)
        unfold stt
        rw [if_neg hne]
        split <;> omega
      · have hne : ¬ askR len bits s = 300 := fun q => c (by rw [an.1, h300.mp q]; rfl)
        unfold stt
        rw [if_neg hne, if_neg (by omega)]
      · have hnil : s.1.filter (pa len bits) = [] := List.eq_nil_of_length_eq_zero (by have := an.1; omega)
        unfold stt
        rw [if_pos (h300.mpr hnil)]
    | succ k ih =>
      intro i h1 hk t f an
      have a1 := a.k4 f
      have a0 := a1.n
      obtain ⟨c0, hc0⟩ := get_ex (l := s.1) (i := i) (by omega)
      have c5 := a1.cd hc0
      have ft := filter_tk (f := pa len bits) hc0
      have hAl : ((s.1.take i).filter (pa len bits)).length ≤ 20 := by
        have q1 := List.length_filter_le (pa len bits) (s.1.take i)
        rw [List.length_take] at q1
        omega
      have skip : pa len bits c0 = false → AW m_X7_askNow d none (fun r h' => r = some (askR len bits s) ∧ SS h h' ∧ FM h h' sA ∧ EZ h' (askS len bits s) ∧ ∀ c A', s.1.filter (pa len bits) = A' ++ [c] → hi h' 104 10 = c.1) 6 [some (.inr (some 104)), some (.inl len), some (.inl bits), some (.inl ((i : Int) + 1))] [] h1 (0, 0) := by
        intro q
        rw [if_neg (by rw [q]; decide), List.append_nil] at ft
        exact ih (i + 1) h1 (by omega) t f (by rw [ft]; exact an)
      refine vc_X7_askNow_6 (by omega) (hL.ss t) ⟨fun c => by omega, fun _ => am_mono (z_of (x := (i : Int)) (k := 1) (hL.ss t) (by omega) (by omega) (by omega) (by omega)) (fun r h2 _ _ z => ?_)⟩
      obtain ⟨rfl, rfl⟩ := z
      rw [c5.2.1]
      refine ⟨_, rfl, SS.rf, fun c => ⟨by unfold rg; omega, skip (by simp [pa, c])⟩, fun c => ?_⟩
      have c1 : c0.2.1 = 1 := Classical.byContradiction c
      refine am_mono (z_of (x := (i : Int)) (k := 0) (hL.ss t) (by omega) (by omega) (by omega) (by omega)) (fun r h3 _ _ z => ?_)
      obtain ⟨rfl, rfl⟩ := z
      rw [c5.1]
      refine ⟨_, rfl, SS.rf, am_mono (z_begins h0 h8) (fun r h4 _ _ z => ?_)⟩
      obtain ⟨rfl, rfl⟩ := z
      refine ⟨_, rfl, SS.rf, fun c2 => ⟨by unfold rg; omega, skip ?_⟩, fun c2 => ?_⟩
      · by_cases q : sr c0.1 (8 - len) = bits
        · rw [if_pos q] at c2
          exact absurd c2 (by decide)
        · simp [pa, q]
      · have q : sr c0.1 (8 - len) = bits := Classical.byContradiction (fun q => c2 (by rw [if_neg q]))
        have hp : pa len bits c0 = true := by simp [pa, c1, q]
        rw [if_pos hp] at ft
        refine am_mono (z_answers (by omega) (hL.ss t) a1 hc0 an (fun e he => List.mem_of_mem_take (List.mem_filter.mp he).1) (by omega)) (fun r h5 _ _ z => ?_)
        obtain ⟨rfl, t5, f5, an5⟩ := z
        exact ⟨rfl, t5, by unfold rg; omega, ih (i + 1) h5 (by omega) (t.tr t5) (f.tr f5) (by rw [ft]; exact an5)⟩
  refine vc_X7_askNow (by omega) hL (am_mono (z_no (l := s.1) hL) (fun r h1 _ _ z => ?_))
  obtain ⟨rfl, t1, f1, an1⟩ := z
  exact ⟨rfl, t1, lp s.1.length 0 h1 (by omega) t1 f1 an1⟩
theorem two_in : ∀ n : Nat, n < 9 → 1 ≤ (2 : Int) ^ n ∧ (2 : Int) ^ n ≤ 256 := by decide
theorem z_isB {len bits : Int} (hd : 1 ≤ d) : AM d m_X7_isBeginning [.inl len, .inl bits] h (fun r h' => r = some (if isB len bits then 1 else 0) ∧ h' = h) := by
  refine vc_X7_isBeginning (by omega) (am_mono z_in (fun r h1 _ _ z => ?_))
  obtain ⟨rfl, rfl⟩ := z
  by_cases c : 0 ≤ len ∧ len ≤ 8
  · rw [if_pos c]
    have e : sl 1 len = 2 ^ len.toNat := by
      obtain ⟨n, hn⟩ : ∃ n : Nat, len = n := ⟨len.toNat, by omega⟩
      rw [hn]
      exact sl_1 n (by omega)
    have e2 := two_in len.toNat (by omega)
    rw [e]
    refine ⟨_, rfl, SS.rf, fun c2 => absurd c2 (by decide), fun _ => ⟨by unfold rg; omega, am_mono z_in (fun r h2 _ _ z => ?_)⟩⟩
    obtain ⟨rfl, rfl⟩ := z
    by_cases c3 : 0 ≤ bits ∧ bits ≤ 2 ^ len.toNat - 1
    · rw [if_pos c3, if_pos (show isB len bits from ⟨c.1, c.2, c3.1, by omega⟩)]
      exact ⟨_, rfl, SS.rf, fun c2 => absurd c2 (by decide), fun _ => ⟨rfl, rfl⟩⟩
    · rw [if_neg c3, if_neg (show ¬ isB len bits from fun q => c3 ⟨q.2.2.1, by have := q.2.2.2; omega⟩)]
      exact ⟨_, rfl, SS.rf, fun _ => ⟨rfl, rfl⟩, fun c2 => absurd rfl c2⟩
  · rw [if_neg c, if_neg (show ¬ isB len bits from fun q => c ⟨q.1, q.2.1⟩)]
    exact ⟨_, rfl, SS.rf, fun _ => ⟨rfl, rfl⟩, fun c2 => absurd rfl c2⟩
theorem y_ask {len bits : Int} (hd : 6 ≤ d) (hL : QZ h) (a : G7 h g) : AM d m_X7_ask [.inr (some 104), .inl len, .inl bits] h (R7 h (askG len bits g)) := by
  have hw := a.1.wl
  refine vc_X7_ask (by omega) hL (am_mono (z_isB (by omega)) (fun r h1 _ _ z => ?_))
  obtain ⟨rfl, rfl⟩ := z
  unfold askG
  by_cases c : isB len bits
  · rw [if_pos c, if_pos c]
    refine ⟨_, rfl, SS.rf, fun _ => am_mono (z_rec (by omega) hL a) (fun r h2 _ _ z => ?_), fun c2 => absurd (by decide) c2⟩
    obtain ⟨rfl, t1, f1, a1⟩ := z
    refine ⟨rfl, t1, am_mono (z_askNow (by omega) (hL.ss t1) a1.1 c.1 c.2.1) (fun r h3 _ _ z => ?_)⟩
    obtain ⟨rfl, t2, f2, e2, -⟩ := z
    exact ⟨_, rfl, t2, R7.now t1 f1 a1 t2 (f2.wk (fun _ _ => sA_P)) e2 (hearR_0 hw)⟩
  · rw [if_neg c, if_neg c]
    exact ⟨_, rfl, SS.rf, fun c2 => absurd rfl c2, fun _ => R7.st a⟩
end MODEL15
