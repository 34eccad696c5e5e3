/-! asks: what the law asks of an answer -/
def orN (A : List Nat) (f acc : Nat) : Nat := A.foldl (fun acc e => acc ||| (e ^^^ f)) acc
noncomputable def orF : List Cd → Int
  | [] => 0
  | c :: t => (c :: t).foldl (fun acc e => orr acc (xr e.1 c.1)) 0
theorem orN_bit {f i : Nat} : ∀ (A : List Nat) (acc : Nat), (orN A f acc).testBit i = (acc.testBit i || A.any (fun e => (e ^^^ f).testBit i))
  | [], acc => by simp [orN]
  | e :: t, acc => by
    have := orN_bit (f := f) (i := i) t (acc ||| (e ^^^ f))
    show (orN t f (acc ||| (e ^^^ f))).testBit i = _
    rw [this, Nat.testBit_or, List.any_cons, Bool.or_assoc]
theorem orN_lt {f : Nat} (hf : f < 256) : ∀ (A : List Nat) (acc : Nat), acc < 256 → (∀ e ∈ A, e < 256) → orN A f acc < 256
  | [], acc, ha, _ => ha
  | e :: t, acc, ha, hA => orN_lt hf t (acc ||| (e ^^^ f)) (Nat.or_lt_two_pow (n := 8) ha (Nat.xor_lt_two_pow (n := 8) (hA e List.mem_cons_self) hf)) (fun x hx => hA x (List.mem_cons_of_mem _ hx))
theorem orN_sub {A : List Nat} {f e k : Nat} (he : e ∈ A) (hk : orN A f 0 < 2 ^ k) : e / 2 ^ k = f / 2 ^ k := by
  have h2 : (e ^^^ f) >>> k = 0 := by
    apply Nat.eq_of_testBit_eq
    intro i
    rw [Nat.testBit_shiftRight, Nat.zero_testBit]
    have h3 : (orN A f 0).testBit (k + i) = false := Nat.testBit_lt_two_pow (Nat.lt_of_lt_of_le hk (Nat.pow_le_pow_right (by decide) (by omega)))
    rw [orN_bit, Nat.zero_testBit, Bool.false_or] at h3
    have := List.any_eq_false.mp h3 e he
    simpa using this
  rw [Nat.shiftRight_xor_distrib] at h2
  have h4 : e >>> k = f >>> k := by
    apply Nat.eq_of_testBit_eq
    intro i
    have h0 := congrArg (fun z : Nat => z.testBit i) h2
    simp only [Nat.testBit_xor, Nat.zero_testBit] at h0
    revert h0
    cases (e >>> k).testBit i <;> cases (f >>> k).testBit i <;> simp
  rw [Nat.shiftRight_eq_div_pow, Nat.shiftRight_eq_div_pow] at h4
  exact h4
theorem orF_nat {f : Nat} (hf : f < 256) : ∀ (A : List Cd) (acc : Nat), acc < 256 → (∀ c ∈ A, 0 ≤ c.1 ∧ c.1 ≤ 255) → A.foldl (fun acc e => orr acc (xr e.1 (f : Int))) (acc : Int) = ((orN (A.map fun c => c.1.toNat) f acc : Nat) : Int)
  | [], acc, _, _ => rfl
  | c :: t, acc, ha, hA => by
    obtain ⟨x, hx, hx2⟩ := nat_of (hA c List.mem_cons_self)
    have hxf : x ^^^ f < 256 := Nat.xor_lt_two_pow (n := 8) hx2 hf
    have h1 := orF_nat hf t (acc ||| (x ^^^ f)) (Nat.or_lt_two_pow (n := 8) ha hxf) (fun e he => hA e (List.mem_cons_of_mem _ he))
    show t.foldl (fun acc e => orr acc (xr e.1 (f : Int))) (orr (acc : Int) (xr c.1 (f : Int))) = ((orN (t.map fun c => c.1.toNat) f (acc ||| (c.1.toNat ^^^ f)) : Nat) : Int)
    rw [hx, xr_nat hx2 hf, orr_nat ha hxf, h1, Int.toNat_natCast]
theorem orF_cons {c : Cd} {t : List Cd} (hA : ∀ e ∈ c :: t, 0 ≤ e.1 ∧ e.1 ≤ 255) : orF (c :: t) = ((orN ((c :: t).map fun e => e.1.toNat) c.1.toNat 0 : Nat) : Int) := by
  have hc := hA c List.mem_cons_self
  have := orF_nat (f := c.1.toNat) (by omega) (c :: t) 0 (by decide) hA
  rw [Int.toNat_of_nonneg hc.1] at this
  exact this
theorem orN_lt2 {f k : Nat} : ∀ (A : List Nat) (acc : Nat), acc < 2 ^ k → (∀ e ∈ A, e / 2 ^ k = f / 2 ^ k) → orN A f acc < 2 ^ k
  | [], acc, ha, _ => ha
  | e :: t, acc, ha, hA => by
    have h0 : (e ^^^ f) / 2 ^ k = 0 := by
      have h1 := hA e List.mem_cons_self
      rw [← Nat.shiftRight_eq_div_pow, ← Nat.shiftRight_eq_div_pow] at h1
      rw [← Nat.shiftRight_eq_div_pow, Nat.shiftRight_xor_distrib, h1, Nat.xor_self]
    have hx : e ^^^ f < 2 ^ k := (Nat.div_eq_zero_iff_lt (Nat.two_pow_pos k)).mp h0
    exact orN_lt2 t (acc ||| (e ^^^ f)) (Nat.or_lt_two_pow ha hx) (fun x hx => hA x (List.mem_cons_of_mem _ hx))
theorem hearS_a {f : Cd → Bool} {l : List Cd} {tl : List Int} {F : Int → Int} (he : l.filter f = []) : hearS f (l, tl, F) = (l, tl, su F 7 (w (F 7 + 1))) := by
  unfold hearS
  rw [he]
theorem hearS_b {f : Cd → Bool} {l : List Cd} {tl : List Int} {F : Int → Int} {c : Cd} (he : l.filter f = [c]) : hearS f (l, tl, F) = (l.map (tellC (F 2) c.1), tad tl c.1, su F 8 (w (F 8 + 1))) := by
  unfold hearS
  rw [he]
theorem hearS_c {f : Cd → Bool} {l : List Cd} {tl : List Int} {F : Int → Int} {c e : Cd} {t : List Cd} (he : l.filter f = c :: e :: t) : hearS f (l, tl, F) = (l, tl, su F 9 (w (F 9 + 1))) := by
  unfold hearS
  rw [he]
theorem filter_tk {f : Cd → Bool} {l : List Cd} {i : Nat} {c : Cd} (hc : l[i]? = some c) : (l.take (i + 1)).filter f = (l.take i).filter f ++ (if f c = true then [c] else []) := by
  rw [tk hc, List.filter_append]
  congr 1
  by_cases q : f c = true
  · rw [if_pos q]; simp [q]
  · rw [if_neg q]; simp [q]
section ASKL
variable {l : List Cd}
theorem sr_half {x : Int} (hx : 0 ≤ x ∧ x ≤ 255) {t : Nat} (ht : t ≤ 7) : sr x (8 - (t : Int)) = sr x (8 - ((t : Int) + 1)) / 2 := by
  have h1 := sr_n hx (t := t + 1) (by omega)
  rw [Int.natCast_add] at h1
  rw [sr_n hx (by omega), show (8 : Int) - ((t : Int) + 1) = 8 - ((t : Int) + ((1 : Nat) : Int)) from rfl, h1]
  have e : 8 - t = (8 - (t + 1)) + 1 := by omega
  rw [e, Nat.pow_succ, ← Nat.div_div_eq_div_mul]
  generalize x.toNat / 2 ^ (8 - (t + 1)) = A
  omega
theorem pa_iff {m b : Int} {c : Cd} : pa m b c = true ↔ c.2.1 = 1 ∧ sr c.1 (8 - m) = b := by simp [pa]
theorem pa_two {t : Nat} (ht : t ≤ 7) {low : Int} {c : Cd} (hc : 0 ≤ c.1 ∧ c.1 ≤ 255) : pa (t : Int) low c = true ↔ (pa ((t : Int) + 1) (2 * low) c = true ∨ pa ((t : Int) + 1) (2 * low + 1) c = true) := by
  rw [pa_iff, pa_iff, pa_iff, sr_half hc ht]
  omega
theorem cnt_eq {m b : Int} (h : isB m b) : countO m b l = ((l.filter (pa m b)).length : Int) := by unfold countO; rw [if_pos h]
theorem cnt_0 {m b : Int} (h : isB m b) (e : countO m b l = 0) : ∀ c ∈ l, pa m b c = false := by
  rw [cnt_eq h] at e
  have e2 : l.filter (pa m b) = [] := List.eq_nil_of_length_eq_zero (by omega)
  intro c hc
  have := List.filter_eq_nil_iff.mp e2 c hc
  simpa using this
theorem cnt_p {m b : Int} (h : isB m b) (e : countO m b l ≠ 0) : ∃ c ∈ l, pa m b c = true := by
  rw [cnt_eq h] at e
  cases hq : l.filter (pa m b) with
  | nil => rw [hq] at e; exact absurd rfl e
  | cons c t =>
    have := List.mem_filter.mp (show c ∈ l.filter (pa m b) from hq ▸ List.mem_cons_self)
    exact ⟨c, this.1, this.2⟩
theorem isB_2 {t : Nat} {low : Int} (ht : t ≤ 7) (h : 0 ≤ low ∧ low < 2 ^ t) : isB ((t : Int) + 1) (2 * low) ∧ isB ((t : Int) + 1) (2 * low + 1) := by
  have e : ((t : Int) + 1).toNat = t + 1 := by omega
  have hp : (2 : Int) ^ (t + 1) = 2 ^ t * 2 := Int.pow_succ 2 t
  unfold isB
  rw [e, hp]
  omega
theorem sr_0 {x : Int} (hx : 0 ≤ x ∧ x ≤ 255) : sr x (8 - 8) = x := by
  have h := sr_n hx (t := 8) (by omega)
  have e : (2 : Nat) ^ (8 - 8) = 1 := rfl
  rw [e, Nat.div_one] at h
  have e2 : (8 : Int) - ((8 : Nat) : Int) = 8 - 8 := rfl
  rw [e2] at h
  omega
theorem pw_f (hw : WL l) (f : Cd → Bool) : (l.filter f).Pairwise (fun a b => a.1 < b.1) := hw.2.2.sublist (List.filter_sublist ..)
theorem all8 {b : Int} (hw : WL l) : (l.filter (pa 8 b)).length ≤ 1 := by
  have hp := pw_f hw (pa 8 b)
  have hm : ∀ c ∈ l.filter (pa 8 b), c.1 = b := fun c hc => by
    have h := List.mem_filter.mp hc
    have h2 := (pa_iff.mp h.2).2
    rw [sr_0 (nm_of hw h.1)] at h2
    exact h2
  match hq : l.filter (pa 8 b) with
  | [] => exact Nat.zero_le _
  | [c] => exact Nat.le_refl _
  | c :: e :: t =>
    rw [hq] at hp hm
    have h1 := (List.pairwise_cons.mp hp).1 e List.mem_cons_self
    have h2 := hm c List.mem_cons_self
    have h3 := hm e (List.mem_cons_of_mem _ List.mem_cons_self)
    omega
theorem fo_exit {t : Nat} (ht : t ≤ 7) {low : Int} {f : Cd → Bool} (hw : WL l) (hf : ∀ c ∈ l, pa (t : Int) low c = f c) {c0 : Cd} {A : List Cd} (he : l.filter f = c0 :: A) (h0 : ∃ c ∈ l, pa ((t : Int) + 1) (2 * low) c = true) (h1 : ∃ c ∈ l, pa ((t : Int) + 1) (2 * low + 1) c = true) : fo (dfs f c0.1 l) = t := by
  have hA : ∀ x ∈ c0 :: A, x ∈ l ∧ f x = true := fun x hx => List.mem_filter.mp (by rw [he]; exact hx)
  have hn : ∀ x ∈ c0 :: A, 0 ≤ x.1 ∧ x.1 ≤ 255 := fun x hx => nm_of hw (hA x hx).1
  have hdf : dfs f c0.1 l = ((orN ((c0 :: A).map fun e => e.1.toNat) c0.1.toNat 0 : Nat) : Int) := by
    rw [dfs_filter, he]
    exact orF_cons hn
  have hd := dfs_in (f := f) hw (hA c0 List.mem_cons_self).1
  have hsame : ∀ x ∈ c0 :: A, sr x.1 (8 - (t : Int)) = low := fun x hx => (pa_iff.mp ((hf x (hA x hx).1).trans (hA x hx).2)).2
  have hge : (t : Int) ≤ fo (dfs f c0.1 l) := by
    refine fo_ge (by omega) ?_
    have hb : orN ((c0 :: A).map fun e => e.1.toNat) c0.1.toNat 0 < 2 ^ (8 - t) := orN_lt2 _ _ (Nat.two_pow_pos _) (fun x hx => by
      obtain ⟨u, hu, rfl⟩ := List.mem_map.mp hx
      have q1 := hsame u hu
      have q2 := hsame c0 List.mem_cons_self
      rw [sr_n (hn u hu) (by omega)] at q1
      rw [sr_n (hn c0 List.mem_cons_self) (by omega)] at q2
      omega)
    rw [hdf]
    have h2 := Int.ofNat_lt.mpr hb
    rw [Int.natCast_pow] at h2
    exact h2
  rcases Int.lt_or_le (t : Int) (fo (dfs f c0.1 l)) with q | q
  · exfalso
    have hlt := fo_lt (t := t + 1) hd.1.2 (by omega) (by rw [Int.natCast_add]; exact q)
    rw [hdf] at hlt
    have hlt2 : orN ((c0 :: A).map fun e => e.1.toNat) c0.1.toNat 0 < 2 ^ (8 - (t + 1)) := by
      apply Int.ofNat_lt.mp
      rw [Int.natCast_pow]
      exact hlt
    have key : ∀ c ∈ l, f c = true → sr c.1 (8 - ((t : Int) + 1)) = ((c0.1.toNat / 2 ^ (8 - (t + 1)) : Nat) : Int) := fun c hc hfc => by
      have hm : c ∈ c0 :: A := by rw [← he]; exact List.mem_filter.mpr ⟨hc, hfc⟩
      have h3 := sr_n (hn c hm) (t := t + 1) (by omega)
      rw [Int.natCast_add] at h3
      rw [show (8 : Int) - ((t : Int) + 1) = 8 - ((t : Int) + ((1 : Nat) : Int)) from rfl, h3, orN_sub (List.mem_map.mpr ⟨c, hm, rfl⟩) hlt2]
    obtain ⟨a, ha, pa1⟩ := h0
    obtain ⟨b, hb, pb1⟩ := h1
    have fa : f a = true := (hf a ha).symm.trans ((pa_two ht (nm_of hw ha)).mpr (Or.inl pa1))
    have fb : f b = true := (hf b hb).symm.trans ((pa_two ht (nm_of hw hb)).mpr (Or.inr pb1))
    have k1 := key a ha fa
    have k2 := key b hb fb
    have g1 := (pa_iff.mp pa1).2
    have g2 := (pa_iff.mp pb1).2
    omega
  · omega
def nOne (l : List Cd) : Nat := (l.filter (fun c => decide (c.2.2.1 = 1))).length
theorem lg_len : ∀ l : List Cd, (∀ c ∈ l, 0 ≤ c.2.2.1) → ((lg l).length : Int) = (l.length : Int) - nOne l
  | [], _ => rfl
  | c :: t, h => by
    have ih := lg_len t (fun e he => h e (List.mem_cons_of_mem _ he))
    have hc := h c List.mem_cons_self
    unfold lg nOne at ih ⊢
    rw [List.filterMap_cons, List.filter_cons]
    by_cases q : c.2.2.1 = 1
    · have e : lg1 c = none := by unfold lg1; rw [if_pos (by omega), if_pos q]
      rw [e]
      simp only [q, decide_true, if_true, List.length_cons]
      omega
    · have e : ∃ e, lg1 c = some e := by
        unfold lg1
        split
        · exact ⟨_, rfl⟩
        · exact ⟨_, rfl⟩
      obtain ⟨e, he⟩ := e
      rw [he]
      simp only [q, decide_false, List.length_cons, Bool.false_eq_true, if_false]
      omega
theorem tellC_l {slp x : Int} (c : Cd) : (tellC slp x c).2.2.1 = c.2.2.1 := by
  unfold tellC
  split <;> rfl
theorem nOne_tell {slp x : Int} : ∀ l : List Cd, nOne (l.map (tellC slp x)) = nOne l
  | [] => rfl
  | c :: t => by
    have ih := nOne_tell (slp := slp) (x := x) t
    unfold nOne at ih ⊢
    rw [List.map_cons, List.filter_cons, List.filter_cons, tellC_l]
    split
    · rw [List.length_cons, List.length_cons, ih]
    · exact ih
theorem told_last {tl : List Int} {x : Int} (h : tl.length ≤ 200) : toldO (((tad tl x).length : Int) - 1) (tad tl x) = x := by
  have h2 := tad_len (x := x) h
  have h3 : 1 ≤ (tad tl x).length := by rw [h2]; split <;> omega
  unfold toldO
  rw [if_neg (by omega), if_neg (by omega)]
  unfold tad
  have e : (((((if tl.length = 200 then tl.drop 1 else tl) ++ [x]).length : Nat) : Int) - 1).toNat = (if tl.length = 200 then tl.drop 1 else tl).length := by
    rw [List.length_append]
    show ((((if tl.length = 200 then tl.drop 1 else tl).length + 1 : Nat) : Int) - 1).toNat = _
    omega
  rw [e, List.getD_eq_getElem?_getD, List.getElem?_append_right (Nat.le_refl _), Nat.sub_self]
  rfl
theorem asleep8 {slp y : Int} (hs : slp ≠ 0) (hy : 0 ≤ y ∧ y ≤ 255) (hw : WL l) : countO 8 y (lg (l.map (tellC slp y))) = 0 := by
  have hB : isB 8 y := ⟨by decide, by decide, hy.1, by show y < 256; omega⟩
  rw [cnt_eq hB]
  have e : (lg (l.map (tellC slp y))).filter (pa 8 y) = [] := by
    rw [List.filter_eq_nil_iff]
    intro c hc q
    obtain ⟨c1, hc1, e1⟩ := List.mem_filterMap.mp hc
    obtain ⟨c2, hc2, rfl⟩ := List.mem_map.mp hc1
    have hq := pa_iff.mp q
    have hn := lg1_name e1
    have n1 : c.1 = c2.1 := hn.1.trans (tellC_1 c2)
    have hr := hq.2
    rw [n1, sr_0 (nm_of hw hc2)] at hr
    have ha : (tellC slp y c2).2.1 = 0 := by
      unfold tellC
      rw [if_pos hr]
      show (if slp = 0 then c2.2.1 else 0) = 0
      rw [if_neg hs]
    have := hn.2.1.symm.trans hq.1
    omega
  rw [e]
  rfl
end ASKL
section ASKF
variable {T m b : Int} {g : Gs}
theorem askG_e (hB : isB m b) : askG m b g = recG (askR m b g.1, askS m b g.1) g := by unfold askG; rw [if_pos hB]
theorem ask_num {s : Ms} (a : IV T s) (hT : T ≤ 1800000000) (h0 : 0 ≤ m) (h8 : m ≤ 8) : (askS m b s).2.2 10 = s.2.2 10 + stt (askR m b s) m ∧ (askS m b s).2.2 2 = s.2.2 2 := by
  have hs := stt_in (r := askR m b s) h0 h8
  have e10 : (hearS (pa m b) s).2.2 10 = s.2.2 10 ∧ (hearS (pa m b) s).2.2 2 = s.2.2 2 := by
    unfold hearS
    split
    · exact ⟨su_ne (f := s.2.2) (k := 7) (j := 10) (v := w (s.2.2 7 + 1)) (by decide), su_ne (f := s.2.2) (k := 7) (j := 2) (v := w (s.2.2 7 + 1)) (by decide)⟩
    · exact ⟨su_ne (f := s.2.2) (k := 8) (j := 10) (v := w (s.2.2 8 + 1)) (by decide), su_ne (f := s.2.2) (k := 8) (j := 2) (v := w (s.2.2 8 + 1)) (by decide)⟩
    · exact ⟨su_ne (f := s.2.2) (k := 9) (j := 10) (v := w (s.2.2 9 + 1)) (by decide), su_ne (f := s.2.2) (k := 9) (j := 2) (v := w (s.2.2 9 + 1)) (by decide)⟩
  obtain ⟨hw, hs2, hl, ⟨p5, p6, p7, p8, p9, p11⟩, h1, h2, h3, h4, h5⟩ := a
  obtain ⟨v, ev⟩ : ∃ v : Int, askS m b s = (lg (hearS (pa m b) s).1, (hearS (pa m b) s).2.1, su (cntD 5 (stt (askR m b s) m) (hearS (pa m b) s)).2.2 12 v) := ⟨_, rfl⟩
  rw [ev]
  show su (cntD 5 (stt (askR m b s) m) (hearS (pa m b) s)).2.2 12 v 10 = _ ∧ su (cntD 5 (stt (askR m b s) m) (hearS (pa m b) s)).2.2 12 v 2 = _
  rw [su_ne (by decide), su_ne (by decide)]
  show su (su (hearS (pa m b) s).2.2 5 (w ((hearS (pa m b) s).2.2 5 + 1))) 10 (w ((hearS (pa m b) s).2.2 10 + stt (askR m b s) m)) 10 = _ ∧ su (su (hearS (pa m b) s).2.2 5 (w ((hearS (pa m b) s).2.2 5 + 1))) 10 (w ((hearS (pa m b) s).2.2 10 + stt (askR m b s) m)) 2 = _
  rw [su_at, su_ne (by decide), su_ne (by decide), e10.1, e10.2, w_id ⟨by omega, by omega⟩]
  exact ⟨rfl, rfl⟩
theorem lv_0 {l : List Cd} (hw : WL l) : ∀ c ∈ l, 0 ≤ c.2.2.1 := fun c hc => (hw.2.1 c hc).2.2.1
/-- nobody answers -/
theorem ask_f0 (hB : isB m b) (a : IV T g.1) (hT : T ≤ 1800000000) (h : g.1.1.filter (pa m b) = []) : (askG m b g).1 = 300 ∧ (askG m b g).2.1.2.2 10 = g.1.2.2 10 + 4 + m + 2 ∧ ((askG m b g).2.1.1.length : Int) = (g.1.1.length : Int) - nOne g.1.1 ∧ ((askG m b g).2.1.2.1.length : Int) = g.1.2.1.length := by
  have hr : askR m b g.1 = 300 := by unfold askR hearR; rw [h]
  have hn := ask_num (m := m) (b := b) a hT hB.1 hB.2.1
  rw [askG_e hB]
  have eh : hearS (pa m b) g.1 = (g.1.1, g.1.2.1, su g.1.2.2 7 (w (g.1.2.2 7 + 1))) := hearS_a h
  refine ⟨hr, ?_, ?_, ?_⟩
  · show (askS m b g.1).2.2 10 = _
    rw [hn.1, hr]
    unfold stt
    rw [if_pos rfl]
    omega
  · show ((lg (hearS (pa m b) g.1).1).length : Int) = _
    rw [eh]
    exact lg_len _ (lv_0 a.1)
  · show ((hearS (pa m b) g.1).2.1.length : Int) = _
    rw [eh]
theorem stt_1 {r : Int} (hr : r ≠ 300) : stt r m = (4 + m) + (if 1 < 8 - m then 8 - m else 1) := by unfold stt; rw [if_neg hr]
/-- one answers -/
theorem ask_f1 (hB : isB m b) (a : IV T g.1) (hT : T ≤ 1800000000) {c : Cd} (h : g.1.1.filter (pa m b) = [c]) : (0 ≤ (askG m b g).1 ∧ (askG m b g).1 < 256) ∧ sr (askG m b g).1 (8 - m) = b ∧ ((m = 8 ∧ (askG m b g).2.1.2.2 10 = g.1.2.2 10 + 4 + m + 1) ∨ (m ≠ 8 ∧ (askG m b g).2.1.2.2 10 = g.1.2.2 10 + 4 + m + (8 - m))) ∧ ((askG m b g).2.1.1.length : Int) = (g.1.1.length : Int) - nOne g.1.1 ∧ ((g.1.2.1.length : Int) = 200 ∧ ((askG m b g).2.1.2.1.length : Int) = 200 ∨ (g.1.2.1.length : Int) < 200 ∧ ((askG m b g).2.1.2.1.length : Int) = (g.1.2.1.length : Int) + 1) ∧ toldO (((askG m b g).2.1.2.1.length : Int) - 1) (askG m b g).2.1.2.1 = (askG m b g).1 ∧ (countO 8 (askG m b g).1 (askG m b g).2.1.1 = 0 ∨ (askG m b g).2.1.2.2 2 = 0) := by
  have hm := List.mem_filter.mp (show c ∈ g.1.1.filter (pa m b) from h ▸ List.mem_cons_self)
  have hc := nm_of a.1 hm.1
  have hr : askR m b g.1 = c.1 := by unfold askR hearR; rw [h]
  have hn := ask_num (m := m) (b := b) a hT hB.1 hB.2.1
  have h8 := hB.2.1
  rw [askG_e hB]
  have eh : hearS (pa m b) g.1 = (g.1.1.map (tellC (g.1.2.2 2) c.1), tad g.1.2.1 c.1, su g.1.2.2 8 (w (g.1.2.2 8 + 1))) := hearS_b h
  have e1 : (askS m b g.1).1 = lg (g.1.1.map (tellC (g.1.2.2 2) c.1)) := by show lg (hearS (pa m b) g.1).1 = _; rw [eh]
  have e2 : (askS m b g.1).2.1 = tad g.1.2.1 c.1 := by show (hearS (pa m b) g.1).2.1 = _; rw [eh]
  have ht := tad_len (x := c.1) a.2.2.1
  have hl := a.2.2.1
  show (0 ≤ askR m b g.1 ∧ askR m b g.1 < 256) ∧ sr (askR m b g.1) (8 - m) = b ∧ ((m = 8 ∧ (askS m b g.1).2.2 10 = g.1.2.2 10 + 4 + m + 1) ∨ (m ≠ 8 ∧ (askS m b g.1).2.2 10 = g.1.2.2 10 + 4 + m + (8 - m))) ∧ ((askS m b g.1).1.length : Int) = (g.1.1.length : Int) - nOne g.1.1 ∧ ((g.1.2.1.length : Int) = 200 ∧ ((askS m b g.1).2.1.length : Int) = 200 ∨ (g.1.2.1.length : Int) < 200 ∧ ((askS m b g.1).2.1.length : Int) = (g.1.2.1.length : Int) + 1) ∧ toldO (((askS m b g.1).2.1.length : Int) - 1) (askS m b g.1).2.1 = askR m b g.1 ∧ (countO 8 (askR m b g.1) (askS m b g.1).1 = 0 ∨ (askS m b g.1).2.2 2 = 0)
  rw [e1, e2, hn.1, hn.2, hr, stt_1 (by omega)]
  refine ⟨⟨hc.1, by omega⟩, (pa_iff.mp hm.2).2, ?_, ?_, ?_, told_last hl, ?_⟩
  · split <;> omega
  · rw [lg_len _ (fun x hx => by
      obtain ⟨y, hy, rfl⟩ := List.mem_map.mp hx
      rw [tellC_l]
      exact lv_0 a.1 y hy), nOne_tell, List.length_map]
  · rw [ht]
    split <;> omega
  · by_cases q : g.1.2.2 2 = 0
    · exact Or.inr q
    · exact Or.inl (asleep8 q hc a.1)
/-- some clash -/
theorem ask_f2 (hB : isB m b) (a : IV T g.1) (hT : T ≤ 1800000000) {c e : Cd} {A : List Cd} (h : g.1.1.filter (pa m b) = c :: e :: A) : (askG m b g).1 = 400 + fo (dfs (pa m b) c.1 g.1.1) ∧ ((m = 8 ∧ (askG m b g).2.1.2.2 10 = g.1.2.2 10 + 4 + m + 1) ∨ (m ≠ 8 ∧ (askG m b g).2.1.2.2 10 = g.1.2.2 10 + 4 + m + (8 - m))) ∧ ((askG m b g).2.1.1.length : Int) = (g.1.1.length : Int) - nOne g.1.1 ∧ ((askG m b g).2.1.2.1.length : Int) = g.1.2.1.length := by
  have hr : askR m b g.1 = 400 + fo (dfs (pa m b) c.1 g.1.1) := by unfold askR hearR; rw [h]
  have hf := fo_in (dfs (pa m b) c.1 g.1.1)
  have hn := ask_num (m := m) (b := b) a hT hB.1 hB.2.1
  have h8 := hB.2.1
  rw [askG_e hB]
  have eh : hearS (pa m b) g.1 = (g.1.1, g.1.2.1, su g.1.2.2 9 (w (g.1.2.2 9 + 1))) := hearS_c h
  refine ⟨hr, ?_, ?_, ?_⟩
  · show (m = 8 ∧ (askS m b g.1).2.2 10 = g.1.2.2 10 + 4 + m + 1) ∨ (m ≠ 8 ∧ (askS m b g.1).2.2 10 = g.1.2.2 10 + 4 + m + (8 - m))
    rw [hn.1, stt_1 (by omega)]
    split <;> omega
  · show ((lg (hearS (pa m b) g.1).1).length : Int) = _
    rw [eh]
    exact lg_len _ (lv_0 a.1)
  · show ((hearS (pa m b) g.1).2.1.length : Int) = _
    rw [eh]
end ASKF
