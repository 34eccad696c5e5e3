/-! the model: frames -/
theorem sorted_ext : ∀ {A B : List Cd}, A.Pairwise (fun a b => a.1 < b.1) → B.Pairwise (fun a b => a.1 < b.1) → (∀ c, c ∈ A ↔ c ∈ B) → A = B
  | [], [], _, _, _ => rfl
  | [], b :: B, _, _, hm => by
    have := (hm b).mpr List.mem_cons_self
    cases this
  | a :: A, [], _, _, hm => by
    have := (hm a).mp List.mem_cons_self
    cases this
  | a :: A, b :: B, pA, pB, hm => by
    have pA' := List.pairwise_cons.mp pA
    have pB' := List.pairwise_cons.mp pB
    have hab : a = b := by
      rcases List.mem_cons.mp ((hm a).mp List.mem_cons_self) with q | q
      · exact q
      · rcases List.mem_cons.mp ((hm b).mpr List.mem_cons_self) with q2 | q2
        · exact q2.symm
        · have h1 := pB'.1 a q
          have h2 := pA'.1 b q2
          omega
    subst hab
    rw [sorted_ext pA'.2 pB'.2 (fun c => ⟨fun hc => ?_, fun hc => ?_⟩)]
    · rcases List.mem_cons.mp ((hm c).mp (List.mem_cons_of_mem _ hc)) with q | q
      · have := pA'.1 c hc
        rw [q] at this
        omega
      · exact q
    · rcases List.mem_cons.mp ((hm c).mpr (List.mem_cons_of_mem _ hc)) with q | q
      · have := pB'.1 c hc
        rw [q] at this
        omega
      · exact q
theorem drs_pw {m x : Int} {l : List Cd} (hw : WL l) : ∀ j : Nat, (drs m (l.take j) x).1.Pairwise (fun a b => a.1 < b.1)
  | 0 => by simp [drs]
  | j + 1 => by
    have ih := drs_pw (m := m) (x := x) hw j
    by_cases hj : j < l.length
    · obtain ⟨e, he⟩ := get_ex (l := l) (i := j) hj
      rw [drs_s he]
      unfold dst
      split
      · show ((drs m (l.take j) x).1 ++ [(e.1, dn (nx (drs m (l.take j) x).2) m)]).Pairwise _
        rw [List.pairwise_append]
        refine ⟨ih, List.pairwise_singleton _ _, fun q hq y hy => ?_⟩
        rw [List.mem_singleton.mp hy]
        obtain ⟨c, hc, hcq⟩ := drs_mem hq
        rw [← hcq]
        obtain ⟨i, hi2⟩ := List.getElem?_of_mem hc
        have hil := lt_len hi2
        rw [List.length_take] at hil
        rw [List.getElem?_take, if_pos (by omega)] at hi2
        have hp := List.pairwise_iff_getElem.mp hw.2.2
        obtain ⟨g1, g2⟩ := List.getElem?_eq_some_iff.mp hi2
        obtain ⟨g3, g4⟩ := List.getElem?_eq_some_iff.mp he
        have := hp i j g1 g3 (by omega)
        rw [g2, g4] at this
        exact this
      · exact ih
    · rw [List.take_of_length_le (by omega)]
      rw [List.take_of_length_le (by omega)] at ih
      exact ih
theorem slF_mem : ∀ {tb : List (Int × Int)} {y v : Int}, tb.Pairwise (fun a b => a.1 < b.1) → (y, v) ∈ tb → slF tb y = v
  | [], y, v, _, hm => by cases hm
  | q :: tb, y, v, hp, hm => by
    have hp' := List.pairwise_cons.mp hp
    unfold slF
    by_cases c : q.1 = y
    · rw [List.find?_cons_of_pos (by simpa using c)]
      rcases List.mem_cons.mp hm with h | h
      · show q.2 = v
        rw [← h]
      · have := hp'.1 _ h
        have h2 : q.1 < y := this
        omega
    · rw [List.find?_cons_of_neg (by simpa using c)]
      rcases List.mem_cons.mp hm with h | h
      · rw [← h] at c
        exact absurd rfl c
      · exact slF_mem hp'.2 h
theorem slF_of {tb : List (Int × Int)} {y : Int} {k : Nat} (h : slF tb y = k) : (y, (k : Int)) ∈ tb := by
  unfold slF at h
  cases hq : tb.find? (fun q => decide (q.1 = y)) with
  | none =>
    rw [hq] at h
    have h' : (-1 : Int) = k := h
    omega
  | some q =>
    rw [hq] at h
    have h1 := List.mem_of_find?_eq_some hq
    have h2 := List.find?_some hq
    have h3 : q.1 = y := by simpa using h2
    have h4 : q.2 = k := h
    rw [← h3, ← h4]
    exact h1
def phi (l : List Cd) (k : Int) (q : Int × Int) : Option Cd := if q.2 = k then (match ix l q.1 with | none => none | some i => l[i]?) else none
theorem phi_some {l : List Cd} (hw : WL l) {k : Int} {q : Int × Int} {c : Cd} : phi l k q = some c ↔ q.2 = k ∧ c ∈ l ∧ c.1 = q.1 := by
  unfold phi
  by_cases h : q.2 = k
  · rw [if_pos h]
    cases hx : ix l q.1 with
    | none =>
      refine ⟨fun z => (by cases z), fun z => ?_⟩
      exact absurd z.2.2 (ix_none.mp hx c z.2.1)
    | some i =>
      obtain ⟨e, he, hn⟩ := (ix_some hw).mp hx
      refine ⟨fun z => ?_, fun z => ?_⟩
      · have z' : l[i]? = some c := z
        rw [he] at z'
        cases z'
        exact ⟨h, List.mem_of_getElem? he, hn⟩
      · obtain ⟨j, hj⟩ := List.getElem?_of_mem z.2.1
        have := hw.inj hj he (z.2.2.trans hn.symm)
        subst this
        exact hj
  · rw [if_neg h]
    exact ⟨fun z => (by cases z), fun z => absurd z.1 h⟩
/-- those that answer in a slot, as the table has them and as the pocket has them -/
theorem scan_eq {tb : List (Int × Int)} {l : List Cd} (hw : WL l) (hp : tb.Pairwise (fun a b => a.1 < b.1)) (k : Nat) : tb.filterMap (phi l k) = l.filter (fun c => decide (slF tb c.1 = k)) := by
  refine sorted_ext ?_ (hw.2.2.sublist (List.filter_sublist ..)) (fun c => ?_)
  · refine List.Pairwise.filterMap (phi l k) (fun a b hab a' ha b' hb => ?_) hp
    have h1 := ((phi_some hw).mp ha).2.2
    have h2 := ((phi_some hw).mp hb).2.2
    omega
  · rw [List.mem_filterMap, List.mem_filter, decide_eq_true_eq]
    constructor
    · rintro ⟨q, hq, hc⟩
      obtain ⟨h1, h2, h3⟩ := (phi_some hw).mp hc
      refine ⟨h2, ?_⟩
      rw [h3]
      refine slF_mem hp ?_
      rw [← h1]
      exact hq
    · rintro ⟨h1, h2⟩
      exact ⟨(c.1, (k : Int)), slF_of h2, (phi_some hw).mpr ⟨rfl, h1, rfl⟩⟩
def sF (j : Nat) (m : Int) : Prop := j = 105 ∨ (j = 104 ∧ 8 ≤ m ∧ m ≤ 11) ∨ j = 111 ∨ j = 112
theorem sA_F {j : Nat} {m : Int} (q : sA j m) : sF j m := by unfold sA at q; unfold sF; omega
theorem s4_F {j : Nat} {m : Int} (q : s4 j m) : sF j m := Or.inr (Or.inl q)
theorem sF_P {j : Nat} {m : Int} (q : sF j m) : sP j m := by unfold sF at q; unfold sP; omega
/-- the rows hold the table -/
def TB (h : AH) (tb : List (Int × Int)) : Prop := ∀ (k : Nat) (q : Int × Int), tb[k]? = some q → hi h 111 k = q.1 ∧ hi h 112 k = q.2
section MODEL18
variable {d : Nat} {h h1 : AH} {s : Ms} {g : Gs} {tb : List (Int × Int)}
theorem TB.fm {S : Nat → Int → Prop} (a : TB h tb) (f : FM h h1 S) (n : ∀ j m, (j = 111 ∨ j = 112) → ¬ S j m) : TB h1 tb := fun k q hk => by
  rw [f 111 _ (n _ _ (Or.inl rfl)), f 112 _ (n _ _ (Or.inr rfl))]
  exact a k q hk
theorem z_slots {m : Nat} {Q : Option Int → AH → Prop} (hd : 5 ≤ d) (hm : m ≤ 64) (htl : tb.length ≤ 20) (hp : tb.Pairwise (fun a b => a.1 < b.1)) (s0 : Ms) : ∀ (n k : Nat) (h1 : AH), n + k = m → QZ h1 → EZ h1 (slotsS (slF tb) k s0) → TB h1 tb →
    (∀ h', SS h1 h' → FM h1 h' sA → EZ h' (slotsS (slF tb) m s0) → Q none h') →
    AW m_X7_frameNow d none Q 80 [some (.inr (some 104)), some (.inl (m : Int)), some (.inl (tb.length : Int)), some (.inl (k : Int)), none, none] [] h1 (0, 0) := by
  intro n
  induction n with
  | zero =>
    intro k h1 hk hL a b K
    have ek : k = m := by omega
    subst ek
    exact vc_X7_frameNow_80 (by omega) hL ⟨fun _ => K h1 SS.rf FM.rf a, fun c => by omega⟩
  | succ n ih =>
    intro k h1 hk hL a b K
    have hw := a.wl
    refine vc_X7_frameNow_80 (by omega) hL ⟨fun c => by omega, fun _ => am_mono (z_no (l := (slotsS (slF tb) k s0).1) hL) (fun r h2 _ _ z => ?_)⟩
    obtain ⟨rfl, t2, f2, an2⟩ := z
    refine ⟨rfl, t2, ?_⟩
    have lp : ∀ (j i : Nat) (h3 : AH), j + i = tb.length → SS h1 h3 → FM h1 h3 s4 → AN h3 (slotsS (slF tb) k s0).1 ((tb.take i).filterMap (phi (slotsS (slF tb) k s0).1 k)) →
        AW m_X7_frameNow d none Q 92 [some (.inr (some 104)), some (.inl (m : Int)), some (.inl (tb.length : Int)), some (.inl (k : Int)), some (.inl (i : Int)), none] [] h3 (0, 0) := by
      intro j
      induction j with
      | zero =>
        intro i h3 hi3 t f an
        rw [List.take_of_length_le (by omega), scan_eq hw hp k] at an
        have a3 := a.k4 f
        have hL3 := hL.ss t
        have fin : ∀ (tm : Int), (if hearR (fun c => decide (slF tb c.1 = k)) (slotsS (slF tb) k s0).1 = 300 then 1 else 9) = tm → AM (d - 1) m_X7_answer [(.inr (some 104))] (up (up h3 105 6 (w ((hi h3 105 6) + 1))) 105 10 (w ((hi h3 105 10) + tm))) (fun r h17 => 
              ∃ v18, r = some v18 ∧ SS (up (up h3 105 6 (w ((hi h3 105 6) + 1))) 105 10 (w ((hi h3 105 10) + tm))) h17 ∧
              (rg ((k : Int) + 1)) ∧
              AW m_X7_frameNow d none Q 80 [some (.inr (some 104)), some (.inl (m : Int)), some (.inl (tb.length : Int)), some (.inl ((k : Int) + 1)), none, none] [] h17 (0, 0)) := by
          intro tm htm
          have e2 := a3.cnt (k := 6) (t := tm) (Or.inr rfl)
          refine am_mono (z_answer (f := fun c => decide (slF tb c.1 = k)) (by omega) (hL3.ss SS.rf.up.up) e2 an.z) (fun r h4 _ _ z => ?_)
          obtain ⟨rfl, t4, f4, e4⟩ := z
          rw [hearS_cnt (Or.inr rfl), ← htm] at e4
          have t14 : SS h1 h4 := t.up.up.tr t4
          have f14 : FM h1 h4 sA := (((f.wk (fun _ _ => s4_A)).up (Or.inl rfl)).up (Or.inl rfl)).tr (f4.wk (fun _ _ => s5_A))
          refine ⟨_, rfl, t4, by unfold rg; omega, ih (k + 1) h4 (by omega) (hL.ss t14) e4 (b.fm f14 (fun j m hj => by unfold sA; omega)) (fun h' t' f' e' => K h' (t14.tr t') (f14.tr f') e')⟩
        have h300 : hearR (fun c => decide (slF tb c.1 = k)) (slotsS (slF tb) k s0).1 = 300 ↔ (slotsS (slF tb) k s0).1.filter (fun c => decide (slF tb c.1 = k)) = [] := hearR_300 hw
        refine vc_X7_frameNow_92 (by omega) hL3 ⟨fun _ => ⟨fun c => fin 9 ?_, fun c => fin 1 ?_⟩, fun c => by omega⟩
        · rw [if_neg (fun q => c (by rw [an.1, h300.mp q]; rfl))]
        · rw [if_pos (h300.mpr (List.eq_nil_of_length_eq_zero (by have := an.1; omega)))]
      | succ j ihj =>
        intro i h3 hi3 t f an
        have a3 := a.k4 f
        have hL3 := hL.ss t
        obtain ⟨q, hq⟩ := get_ex (l := tb) (i := i) (by omega)
        obtain ⟨b1, b2⟩ := b.fm f (fun j m hj => by unfold s4; omega) i q hq
        have ft : (tb.take (i + 1)).filterMap (phi (slotsS (slF tb) k s0).1 k) = (tb.take i).filterMap (phi (slotsS (slF tb) k s0).1 k) ++ (phi (slotsS (slF tb) k s0).1 k q).toList := by
          rw [tk hq, List.filterMap_append]
          congr 1
        have hAl : ((tb.take i).filterMap (phi (slotsS (slF tb) k s0).1 k)).length ≤ 20 := by
          have q1 := List.length_filterMap_le (phi (slotsS (slF tb) k s0).1 k) (tb.take i)
          rw [List.length_take] at q1
          omega
        have skip : phi (slotsS (slF tb) k s0).1 k q = none → AW m_X7_frameNow d none Q 92 [some (.inr (some 104)), some (.inl (m : Int)), some (.inl (tb.length : Int)), some (.inl (k : Int)), some (.inl ((i : Int) + 1)), none] [] h3 (0, 0) := by
          intro hn
          rw [hn] at ft
          have ft' : (tb.take (i + 1)).filterMap (phi (slotsS (slF tb) k s0).1 k) = (tb.take i).filterMap (phi (slotsS (slF tb) k s0).1 k) := by rw [ft]; simp
          exact ihj (i + 1) h3 (by omega) t f (by rw [ft']; exact an)
        refine vc_X7_frameNow_92 (by omega) hL3 ⟨fun c => by omega, fun _ => ⟨⟨by omega, by omega⟩, ?_⟩⟩
        rw [b1]
        refine am_mono (z_with (by omega) hL3 a3) (fun r h4 _ _ z => ?_)
        obtain ⟨rfl, rfl⟩ := z
        rw [b2]
        refine ⟨_, rfl, SS.rf, fun c => ⟨by unfold rg; omega, skip (by unfold phi; rw [if_neg c])⟩, fun c => ?_⟩
        have c' : q.2 = k := Classical.byContradiction c
        cases hx : ix (slotsS (slF tb) k s0).1 q.1 with
        | none => exact ⟨fun _ => ⟨by unfold rg; omega, skip (by unfold phi; rw [if_pos c', hx])⟩, fun c2 => absurd rfl c2⟩
        | some i0 =>
          obtain ⟨c0, hc0, hn0⟩ := (ix_some hw).mp hx
          have hph : phi (slotsS (slF tb) k s0).1 k q = some c0 := (phi_some hw).mpr ⟨c', List.mem_of_getElem? hc0, hn0⟩
          refine ⟨fun c2 => absurd c2 (show ¬ (i0 : Int) = -5 by omega), fun _ => am_mono (z_answers (by omega) hL3 a3 hc0 an (fun e he => ?_) (by omega)) (fun r h5 _ _ z => ?_)⟩
          · obtain ⟨q2, -, hq3⟩ := List.mem_filterMap.mp he
            exact ((phi_some hw).mp hq3).2.1
          · obtain ⟨rfl, t5, f5, an5⟩ := z
            rw [hph] at ft
            have ft' : (tb.take (i + 1)).filterMap (phi (slotsS (slF tb) k s0).1 k) = (tb.take i).filterMap (phi (slotsS (slF tb) k s0).1 k) ++ [c0] := ft
            exact ⟨rfl, t5, by unfold rg; omega, ihj (i + 1) h5 (by omega) (t.tr t5) (f.tr f5) (by rw [ft']; exact an5)⟩
    exact lp tb.length 0 h2 (by omega) t2 f2 an2
theorem z_frameNow {m : Nat} (hd : 5 ≤ d) (hL : QZ h) (a : EZ h s) (hm1 : 1 ≤ m) (hm2 : m ≤ 64) : AM d m_X7_frameNow [.inr (some 104), .inl (m : Int)] h (fun r h' => r = none ∧ SS h h' ∧ FM h h' sF ∧ EZ h' (frS m s)) := by
  have hw := a.wl
  have h20 := hw.1
  have lp : ∀ (k i : Nat) (h1 : AH), k + i = s.1.length → SS h h1 → FM h h1 sF → EZ h1 (s.1, s.2.1, su s.2.2 4 (drs m (s.1.take i) (s.2.2 4)).2) → TB h1 (drs m (s.1.take i) (s.2.2 4)).1 → (drs m (s.1.take i) (s.2.2 4)).1.length ≤ i →
      AW m_X7_frameNow d none (fun r h' => r = none ∧ SS h h' ∧ FM h h' sF ∧ EZ h' (frS m s)) 4 [some (.inr (some 104)), some (.inl (m : Int)), some (.inl ((drs m (s.1.take i) (s.2.2 4)).1.length : Int)), some (.inl (i : Int)), none, none] [] h1 (0, 0) := by
    intro k
    induction k with
    | zero =>
      intro i h1 hk t f e b hl
      have a0 : hi h1 105 0 = (s.1.length : Int) := e.n
      have hpw := drs_pw (m := m) (x := s.2.2 4) hw i
      rw [List.take_of_length_le (show s.1.length ≤ i by omega)] at e b hl hpw ⊢
      have q11 : hi h1 105 11 = s.2.2 11 := (show hi h1 105 11 = su s.2.2 4 (drs m s.1 (s.2.2 4)).2 11 from e.sc (by decide) (by decide)).trans (su_ne (by decide))
      have q10 : hi h1 105 10 = s.2.2 10 := (show hi h1 105 10 = su s.2.2 4 (drs m s.1 (s.2.2 4)).2 10 from e.sc (by decide) (by decide)).trans (su_ne (by decide))
      have e2 : EZ (up (up h1 105 11 (w (s.2.2 11 + 1))) 105 10 (w (s.2.2 10 + 4))) (frB m s) := by
        have e3 := (e.num (k := 11) (v := w (s.2.2 11 + 1)) (by decide) (by decide) (e.ws.su (by decide))).num (k := 10) (v := w (s.2.2 10 + 4)) (by decide) (by decide) ((e.ws.su (by decide)).su (by decide))
        have ef : su (su (su s.2.2 4 (drs m s.1 (s.2.2 4)).2) 11 (w (s.2.2 11 + 1))) 10 (w (s.2.2 10 + 4)) = su (su (su s.2.2 11 (w (s.2.2 11 + 1))) 10 (w (s.2.2 10 + 4))) 4 (drs m s.1 (s.2.2 4)).2 := by
          funext j
          by_cases j4 : j = 4
          · rw [j4, su_ne (by decide), su_ne (by decide), su_at, su_at]
          · rw [su_ne (f := su (su s.2.2 11 (w (s.2.2 11 + 1))) 10 (w (s.2.2 10 + 4))) j4]
            by_cases j10 : j = 10
            · rw [j10, su_at, su_at]
            · rw [su_ne j10, su_ne j10]
              by_cases j11 : j = 11
              · rw [j11, su_at, su_at]
              · rw [su_ne j11, su_ne j11, su_ne j4]
        have e4 : EZ (up (up h1 105 11 (w (s.2.2 11 + 1))) 105 10 (w (s.2.2 10 + 4))) (s.1, s.2.1, su (su (su s.2.2 4 (drs m s.1 (s.2.2 4)).2) 11 (w (s.2.2 11 + 1))) 10 (w (s.2.2 10 + 4))) := e3
        rw [ef] at e4
        exact e4
      refine vc_X7_frameNow_4 (by omega) (hL.ss t) ⟨fun _ => ?_, fun c => by omega⟩
      rw [q11, q10]
      refine z_slots hd hm2 (by omega) hpw (frB m s) m 0 _ (by omega) (hL.ss t.up.up) e2 (fun k q hk => ?_) (fun h' t' f' e' => ⟨rfl, t.up.up.tr t', ((f.up (Or.inl rfl)).up (Or.inl rfl)).tr (f'.wk (fun _ _ => sA_F)), e'⟩)
      rw [hi_up, if_neg (by omega), hi_up, if_neg (by omega), hi_up, if_neg (by omega), hi_up, if_neg (by omega)]
      exact b k q hk
    | succ k ih =>
      intro i h1 hk t f e b hl
      have a0 : hi h1 105 0 = (s.1.length : Int) := e.n
      obtain ⟨c0, hc0⟩ := get_ex (l := s.1) (i := i) (by omega)
      have c5 : A5 (hi h1 105) (i : Int) c0 := e.cd hc0
      have hs := drs_s (m := m) (x := s.2.2 4) hc0
      have w4 : hi h1 105 4 = (drs m (s.1.take i) (s.2.2 4)).2 := (show hi h1 105 4 = su s.2.2 4 (drs m (s.1.take i) (s.2.2 4)).2 4 from e.sc (by decide) (by decide)).trans su_at
      have hw4 : 0 ≤ (drs m (s.1.take i) (s.2.2 4)).2 := by
        have := e.ws.2.2.1
        have e4 : su s.2.2 4 (drs m (s.1.take i) (s.2.2 4)).2 4 = (drs m (s.1.take i) (s.2.2 4)).2 := su_at
        have h3 : 0 ≤ su s.2.2 4 (drs m (s.1.take i) (s.2.2 4)).2 4 := this
        omega
      refine vc_X7_frameNow_4 (by omega) (hL.ss t) ⟨fun c => by omega, fun _ => am_mono (z_of (x := (i : Int)) (k := 1) (hL.ss t) (by omega) (by omega) (by omega) (by omega)) (fun r h2 _ _ z => ?_)⟩
      obtain ⟨rfl, rfl⟩ := z
      rw [c5.2.1]
      refine ⟨_, rfl, SS.rf, fun c => ⟨by unfold rg; omega, ?_⟩, fun c => ?_⟩
      · have hs' : drs m (s.1.take (i + 1)) (s.2.2 4) = drs m (s.1.take i) (s.2.2 4) := by rw [hs]; unfold dst; rw [if_neg c]
        have r := ih (i + 1) h2 (by omega) t f (by rw [hs']; exact e) (by rw [hs']; exact b) (by rw [hs']; omega)
        rw [hs'] at r
        exact r
      · have c1 : c0.2.1 = 1 := Classical.byContradiction c
        have hs' : drs m (s.1.take (i + 1)) (s.2.2 4) = ((drs m (s.1.take i) (s.2.2 4)).1 ++ [(c0.1, dn (nx (drs m (s.1.take i) (s.2.2 4)).2) m)], nx (drs m (s.1.take i) (s.2.2 4)).2) := by rw [hs]; unfold dst; rw [if_pos c1]
        refine am_mono (z_of (x := (i : Int)) (k := 0) (hL.ss t) (by omega) (by omega) (by omega) (by omega)) (fun r h3 _ _ z => ?_)
        obtain ⟨rfl, rfl⟩ := z
        rw [c5.1]
        have w4' : hi (up h3 111 ((drs m (s.1.take i) (s.2.2 4)).1.length : Int) c0.1) 105 4 = (drs m (s.1.take i) (s.2.2 4)).2 := by
          rw [hi_up, if_neg (by omega)]
          exact w4
        refine ⟨_, rfl, SS.rf, ⟨by omega, by omega⟩, am_mono (z_draw (hL.ss t.up) (by omega) (by omega)) (fun r h4 _ _ z => ?_)⟩
        rw [w4'] at z
        obtain ⟨rfl, rfl⟩ := z
        refine ⟨_, rfl, SS.rf.up, by unfold rg; omega, by unfold rg; omega, ?_⟩
        have hn := nx_in (drs m (s.1.take i) (s.2.2 4)).2
        have e1 : EZ (up h3 111 ((drs m (s.1.take i) (s.2.2 4)).1.length : Int) c0.1) (s.1, s.2.1, su s.2.2 4 (drs m (s.1.take i) (s.2.2 4)).2) := e.row (up_ne (by decide))
        have ww : WS (su (su s.2.2 4 (drs m (s.1.take i) (s.2.2 4)).2) 4 (nx (drs m (s.1.take i) (s.2.2 4)).2)) := by
          have hw0 := a.ws
          unfold WS at *
          rw [su_ne (by decide), su_ne (by decide), su_ne (by decide), su_ne (by decide), su_at]
          exact ⟨hw0.1, hw0.2.1, hn.1, hn.2⟩
        have e2 := e1.num (k := 4) (v := nx (drs m (s.1.take i) (s.2.2 4)).2) (by decide) (by decide) ww
        have es : su (su s.2.2 4 (drs m (s.1.take i) (s.2.2 4)).2) 4 (nx (drs m (s.1.take i) (s.2.2 4)).2) = su s.2.2 4 (nx (drs m (s.1.take i) (s.2.2 4)).2) := by
          funext j
          unfold su
          split <;> rfl
        have e3 : EZ (up (up h3 111 ((drs m (s.1.take i) (s.2.2 4)).1.length : Int) c0.1) 105 4 (nx (drs m (s.1.take i) (s.2.2 4)).2)) (s.1, s.2.1, su (su s.2.2 4 (drs m (s.1.take i) (s.2.2 4)).2) 4 (nx (drs m (s.1.take i) (s.2.2 4)).2)) := e2
        rw [es] at e3
        have e5 : EZ (up (up (up h3 111 ((drs m (s.1.take i) (s.2.2 4)).1.length : Int) c0.1) 105 4 (nx (drs m (s.1.take i) (s.2.2 4)).2)) 112 ((drs m (s.1.take i) (s.2.2 4)).1.length : Int) (dn (nx (drs m (s.1.take i) (s.2.2 4)).2) m)) (s.1, s.2.1, su s.2.2 4 (nx (drs m (s.1.take i) (s.2.2 4)).2)) := e3.row (up_ne (by decide))
        have hlen : (((drs m (s.1.take i) (s.2.2 4)).1 ++ [(c0.1, dn (nx (drs m (s.1.take i) (s.2.2 4)).2) m)]).length : Int) = ((drs m (s.1.take i) (s.2.2 4)).1.length : Int) + 1 := by rw [List.length_append]; rfl
        have hlen2 : ((drs m (s.1.take i) (s.2.2 4)).1 ++ [(c0.1, dn (nx (drs m (s.1.take i) (s.2.2 4)).2) m)]).length = (drs m (s.1.take i) (s.2.2 4)).1.length + 1 := by rw [List.length_append]; rfl
        have r := ih (i + 1) (up (up (up h3 111 ((drs m (s.1.take i) (s.2.2 4)).1.length : Int) c0.1) 105 4 (nx (drs m (s.1.take i) (s.2.2 4)).2)) 112 ((drs m (s.1.take i) (s.2.2 4)).1.length : Int) (dn (nx (drs m (s.1.take i) (s.2.2 4)).2) m)) (by omega) t.up.up.up (((f.up (Or.inr (Or.inr (Or.inl rfl)))).up (Or.inl rfl)).up (Or.inr (Or.inr (Or.inr rfl)))) (by rw [hs']; exact e5) (by
          rw [hs']
          intro j q hq
          have hq' : ((drs m (s.1.take i) (s.2.2 4)).1 ++ [(c0.1, dn (nx (drs m (s.1.take i) (s.2.2 4)).2) m)])[j]? = some q := hq
          have hj := lt_len hq'
          rw [hlen2] at hj
          by_cases qj : j < (drs m (s.1.take i) (s.2.2 4)).1.length
          · rw [List.getElem?_append_left qj] at hq'
            rw [hi_up, if_neg (by omega), hi_up, if_neg (by omega), hi_up, if_neg (by omega), hi_up, if_neg (by omega), hi_up, if_neg (by omega), hi_up, if_neg (by omega)]
            exact b j q hq'
          · have ej : j = (drs m (s.1.take i) (s.2.2 4)).1.length := by omega
            subst ej
            rw [List.getElem?_append_right (Nat.le_refl _), Nat.sub_self] at hq'
            cases hq'
            exact ⟨by rw [hi_up, if_neg (by omega), hi_up, if_neg (by omega), hi_up, if_pos ⟨rfl, rfl⟩], by rw [hi_up, if_pos ⟨rfl, rfl⟩]⟩) (by rw [hs']; show ((drs m (s.1.take i) (s.2.2 4)).1 ++ [(c0.1, dn (nx (drs m (s.1.take i) (s.2.2 4)).2) m)]).length ≤ i + 1; omega)
        rw [hs'] at r
        have r' : AW m_X7_frameNow d none (fun r h' => r = none ∧ SS h h' ∧ FM h h' sF ∧ EZ h' (frS m s)) 4 [some (.inr (some 104)), some (.inl (m : Int)), some (.inl (((drs m (s.1.take i) (s.2.2 4)).1 ++ [(c0.1, dn (nx (drs m (s.1.take i) (s.2.2 4)).2) m)]).length : Int)), some (.inl ((i + 1 : Nat) : Int)), none, none] [] (up (up (up h3 111 ((drs m (s.1.take i) (s.2.2 4)).1.length : Int) c0.1) 105 4 (nx (drs m (s.1.take i) (s.2.2 4)).2)) 112 ((drs m (s.1.take i) (s.2.2 4)).1.length : Int) (dn (nx (drs m (s.1.take i) (s.2.2 4)).2) m)) (0, 0) := r
        rw [hlen] at r'
        exact r'
  have es : su s.2.2 4 (s.2.2 4) = s.2.2 := by
    funext j
    unfold su
    split
    · next z => rw [z]
    · rfl
  have e0 : EZ h (s.1, s.2.1, su s.2.2 4 (drs m (s.1.take 0) (s.2.2 4)).2) := by
    show EZ h (s.1, s.2.1, su s.2.2 4 (s.2.2 4))
    rw [es]
    exact a
  exact vc_X7_frameNow (by omega) hL (lp s.1.length 0 h (by omega) SS.rf FM.rf e0 (fun k q hk => by simp [drs] at hk) (by simp [drs]))
end MODEL18
