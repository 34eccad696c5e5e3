/-! the model: those that answer -/
def orN (A : List Nat) (f acc : Nat) : Nat := A.foldl (fun acc e => acc ||| (e ^^^ f)) acc
noncomputable def orF : List Cd → Int
  | [] => 0
  | c :: t => (c :: t).foldl (fun acc e => orr acc (xr e.1 c.1)) 0
theorem orN_bit {f i : Nat} : ∀ (A : List Nat) (acc : Nat), (orN A f acc).testBit i = (acc.testBit i || A.any (fun e => (e ^^^ f).testBit i))
  | [], acc => by simp [orN]
  | e :: t, acc => by
    have := orN_bit (f := f) (i := i) t (acc ||| (e ^^^ f))
    show (orN t f (acc ||| (e ^^^ f))).testBit i = _
    rw [this, Nat.testBit_or, List.any_cons, Bool.or_assoc]
theorem orN_lt {f : Nat} (hf : f < 256) : ∀ (A : List Nat) (acc : Nat), acc < 256 → (∀ e ∈ A, e < 256) → orN A f acc < 256
  | [], acc, ha, _ => ha
  | e :: t, acc, ha, hA => orN_lt hf t (acc ||| (e ^^^ f)) (Nat.or_lt_two_pow (n := 8) ha (Nat.xor_lt_two_pow (n := 8) (hA e List.mem_cons_self) hf)) (fun x hx => hA x (List.mem_cons_of_mem _ hx))
/-- one more that answers: against the last as against the first -/
theorem orN_last {A : List Nat} {f e c : Nat} (he : e ∈ A) : orN A f 0 ||| (c ^^^ e) = orN A f 0 ||| (c ^^^ f) := by
  apply Nat.eq_of_testBit_eq
  intro i
  rw [Nat.testBit_or, Nat.testBit_or, orN_bit, Nat.testBit_xor, Nat.testBit_xor, Nat.zero_testBit, Bool.false_or]
  cases h : A.any (fun e => (e ^^^ f).testBit i) with
  | true => rw [Bool.true_or, Bool.true_or]
  | false =>
    have h2 := List.any_eq_false.mp h e he
    rw [Nat.testBit_xor] at h2
    revert h2
    cases e.testBit i <;> cases f.testBit i <;> cases c.testBit i <;> simp
theorem orN_sub {A : List Nat} {f e k : Nat} (he : e ∈ A) (hk : orN A f 0 < 2 ^ k) : e / 2 ^ k = f / 2 ^ k := by
  have h2 : (e ^^^ f) >>> k = 0 := by
    apply Nat.eq_of_testBit_eq
    intro i
    rw [Nat.testBit_shiftRight, Nat.zero_testBit]
    have h3 : (orN A f 0).testBit (k + i) = false := Nat.testBit_lt_two_pow (Nat.lt_of_lt_of_le hk (Nat.pow_le_pow_right (by decide) (by omega)))
    rw [orN_bit, Nat.zero_testBit, Bool.false_or] at h3
    have := List.any_eq_false.mp h3 e he
    simpa using this
  rw [Nat.shiftRight_xor_distrib] at h2
  have h4 : e >>> k = f >>> k := by
    apply Nat.eq_of_testBit_eq
    intro i
    have h0 := congrArg (fun z : Nat => z.testBit i) h2
    simp only [Nat.testBit_xor, Nat.zero_testBit] at h0
    revert h0
    cases (e >>> k).testBit i <;> cases (f >>> k).testBit i <;> simp
  rw [Nat.shiftRight_eq_div_pow, Nat.shiftRight_eq_div_pow] at h4
  exact h4
theorem orF_nat {f : Nat} (hf : f < 256) : ∀ (A : List Cd) (acc : Nat), acc < 256 → (∀ c ∈ A, 0 ≤ c.1 ∧ c.1 ≤ 255) → A.foldl (fun acc e => orr acc (xr e.1 (f : Int))) (acc : Int) = ((orN (A.map fun c => c.1.toNat) f acc : Nat) : Int)
  | [], acc, _, _ => rfl
  | c :: t, acc, ha, hA => by
    obtain ⟨x, hx, hx2⟩ := nat_of (hA c List.mem_cons_self)
    have hxf : x ^^^ f < 256 := Nat.xor_lt_two_pow (n := 8) hx2 hf
    have h1 := orF_nat hf t (acc ||| (x ^^^ f)) (Nat.or_lt_two_pow (n := 8) ha hxf) (fun e he => hA e (List.mem_cons_of_mem _ he))
    show t.foldl (fun acc e => orr acc (xr e.1 (f : Int))) (orr (acc : Int) (xr c.1 (f : Int))) = ((orN (t.map fun c => c.1.toNat) f (acc ||| (c.1.toNat ^^^ f)) : Nat) : Int)
    rw [hx, xr_nat hx2 hf, orr_nat ha hxf, h1, Int.toNat_natCast]
theorem orF_cons {c : Cd} {t : List Cd} (hA : ∀ e ∈ c :: t, 0 ≤ e.1 ∧ e.1 ≤ 255) : orF (c :: t) = ((orN ((c :: t).map fun e => e.1.toNat) c.1.toNat 0 : Nat) : Int) := by
  have hc := hA c List.mem_cons_self
  have := orF_nat (f := c.1.toNat) (by omega) (c :: t) 0 (by decide) hA
  rw [Int.toNat_of_nonneg hc.1] at this
  exact this
theorem orF_s {A : List Cd} {e c : Cd} (hA : ∀ x ∈ A ++ [e] ++ [c], 0 ≤ x.1 ∧ x.1 ≤ 255) : orr (orF (A ++ [e])) (xr c.1 e.1) = orF (A ++ [e] ++ [c]) := by
  have hf : ∃ f t, A ++ [e] = f :: t := by
    cases A with
    | nil => exact ⟨e, [], rfl⟩
    | cons f t => exact ⟨f, t ++ [e], rfl⟩
  obtain ⟨f, t, hft⟩ := hf
  have he : e ∈ f :: t := by rw [← hft]; simp
  rw [hft] at hA ⊢
  have hA1 : ∀ x ∈ f :: t, 0 ≤ x.1 ∧ x.1 ≤ 255 := fun x hx => hA x (List.mem_append_left _ hx)
  have hA2 : ∀ x ∈ f :: (t ++ [c]), 0 ≤ x.1 ∧ x.1 ≤ 255 := fun x hx => hA x hx
  have hc := hA c (by simp)
  have hfn := hA1 f List.mem_cons_self
  have hen := hA1 e he
  show orr (orF (f :: t)) (xr c.1 e.1) = orF (f :: (t ++ [c]))
  rw [orF_cons hA1, orF_cons hA2]
  obtain ⟨x, hx, hx2⟩ := nat_of hc
  obtain ⟨y, hy, hy2⟩ := nat_of hen
  have hlt : orN ((f :: t).map fun e => e.1.toNat) f.1.toNat 0 < 256 := orN_lt (by omega) _ _ (by decide) (fun z hz => by
    obtain ⟨u, hu, rfl⟩ := List.mem_map.mp hz
    have := hA1 u hu
    omega)
  rw [hx, hy, xr_nat hx2 hy2, orr_nat hlt (Nat.xor_lt_two_pow (n := 8) hx2 hy2)]
  have hmem : y ∈ (f :: t).map fun e => e.1.toNat := List.mem_map.mpr ⟨e, he, by rw [hy]; rfl⟩
  rw [orN_last hmem]
  have hs : (f :: (t ++ [c])).map (fun e => e.1.toNat) = ((f :: t).map fun e => e.1.toNat) ++ [x] := by
    rw [show f :: (t ++ [c]) = (f :: t) ++ [c] from rfl, List.map_append]
    show _ ++ [c.1.toNat] = _
    rw [hx]
    rfl
  rw [hs]
  unfold orN
  rw [List.foldl_append]
  rfl
theorem an_1 {y : Int} (h0 : 0 ≤ y) (h1 : y < 2147483648) : an y 1 = y % 2 := by
  obtain ⟨n, rfl⟩ : ∃ n : Nat, y = n := ⟨y.toNat, by omega⟩
  unfold an
  rw [b2_def]
  show (Int32.ofInt (n : Int) &&& Int32.ofInt 1).toInt = _
  rw [nI_ofInt, pk_andN (by omega) 1 (m := Int32.ofInt 1) (by decide +kernel), nI_toInt (by omega)]
  omega
/-- the bit at a place, where none ahead of it is 1 -/
theorem bit_at {x : Int} (hx : 0 ≤ x ∧ x < 256) {i : Nat} (hi : i < 8) (hf : (i : Int) ≤ fo x) : an (sr x (7 - (i : Int))) 1 = 0 ↔ ¬ fo x = i := by
  have e : ∀ k : Int, 0 ≤ k → k < 32 → sr x k = x / 2 ^ k.toNat := fun k a b => sr_eq ⟨by omega, by omega⟩ a b
  have hc : i = 0 ∨ i = 1 ∨ i = 2 ∨ i = 3 ∨ i = 4 ∨ i = 5 ∨ i = 6 ∨ i = 7 := by omega
  have h01 : 0 ≤ sr x (7 - (i : Int)) ∧ sr x (7 - (i : Int)) ≤ 1 := by
    rcases hc with rfl | rfl | rfl | rfl | rfl | rfl | rfl | rfl
    · rw [show (7 : Int) - ((0 : Nat) : Int) = 7 from rfl, e 7 (by decide) (by decide)]; show 0 ≤ x / 128 ∧ x / 128 ≤ 1; omega
    · rw [show (7 : Int) - ((1 : Nat) : Int) = 6 from rfl, e 6 (by decide) (by decide)]; show 0 ≤ x / 64 ∧ x / 64 ≤ 1; unfold fo at hf; split at hf <;> omega
    · rw [show (7 : Int) - ((2 : Nat) : Int) = 5 from rfl, e 5 (by decide) (by decide)]; show 0 ≤ x / 32 ∧ x / 32 ≤ 1; unfold fo at hf; split at hf <;> (try split at hf) <;> omega
    · rw [show (7 : Int) - ((3 : Nat) : Int) = 4 from rfl, e 4 (by decide) (by decide)]; show 0 ≤ x / 16 ∧ x / 16 ≤ 1; unfold fo at hf; split at hf <;> (try split at hf) <;> (try split at hf) <;> omega
    · rw [show (7 : Int) - ((4 : Nat) : Int) = 3 from rfl, e 3 (by decide) (by decide)]; show 0 ≤ x / 8 ∧ x / 8 ≤ 1; unfold fo at hf; split at hf <;> (try split at hf) <;> (try split at hf) <;> (try split at hf) <;> omega
    · rw [show (7 : Int) - ((5 : Nat) : Int) = 2 from rfl, e 2 (by decide) (by decide)]; show 0 ≤ x / 4 ∧ x / 4 ≤ 1; unfold fo at hf; split at hf <;> (try split at hf) <;> (try split at hf) <;> (try split at hf) <;> (try split at hf) <;> omega
    · rw [show (7 : Int) - ((6 : Nat) : Int) = 1 from rfl, e 1 (by decide) (by decide)]; show 0 ≤ x / 2 ∧ x / 2 ≤ 1; unfold fo at hf; split at hf <;> (try split at hf) <;> (try split at hf) <;> (try split at hf) <;> (try split at hf) <;> (try split at hf) <;> omega
    · rw [show (7 : Int) - ((7 : Nat) : Int) = 0 from rfl, e 0 (by decide) (by decide)]; show 0 ≤ x / 1 ∧ x / 1 ≤ 1; unfold fo at hf; split at hf <;> (try split at hf) <;> (try split at hf) <;> (try split at hf) <;> (try split at hf) <;> (try split at hf) <;> (try split at hf) <;> omega
  rw [an_1 h01.1 (by omega), ← sr7 hx hi hf]
  omega
def s4 (j : Nat) (m : Int) : Prop := j = 104 ∧ 8 ≤ m ∧ m ≤ 11
/-- A has answered so far -/
def AN (h : AH) (l A : List Cd) : Prop := hi h 104 8 = A.length ∧ hi h 104 11 = orF A ∧ (∀ c, A = [c] → ∃ i : Nat, l[i]? = some c ∧ hi h 104 9 = i) ∧ ∀ c A', A = A' ++ [c] → hi h 104 10 = c.1
section MODEL14
variable {d : Nat} {h h1 : AH} {s : Ms} {g : Gs} {A : List Cd}
theorem AN.same {l : List Cd} (a : AN h l A) (e : ∀ m, 8 ≤ m → m ≤ 11 → hi h1 104 m = hi h 104 m) : AN h1 l A :=
  ⟨(e 8 (by decide) (by decide)).trans a.1, (e 11 (by decide) (by decide)).trans a.2.1, fun c hc => by rw [e 9 (by decide) (by decide)]; exact a.2.2.1 c hc, fun c A' hc => (e 10 (by decide) (by decide)).trans (a.2.2.2 c A' hc)⟩
theorem EZ.k4 (a : EZ h s) (f : FM h h1 s4) : EZ h1 s := a.row (f.row (fun m => by unfold s4; omega))
theorem s4_A {j : Nat} {m : Int} (q : s4 j m) : sA j m := Or.inr q
theorem z_no (hL : QZ h) {l : List Cd} : AM d m_X7_noAnswer [.inr (some 104)] h (fun r h' => r = none ∧ SS h h' ∧ FM h h' s4 ∧ AN h' l []) := by
  refine vc_X7_noAnswer hL ⟨rfl, SS.rf.up.up.up.up, (((FM.rf.up ⟨rfl, by decide, by decide⟩).up ⟨rfl, by decide, by decide⟩).up ⟨rfl, by decide, by decide⟩).up ⟨rfl, by decide, by decide⟩, ?_, ?_, fun c hc => (by cases hc), fun c A' hc => (by simp at hc)⟩
  · rw [hi_up, if_neg (by decide), hi_up, if_neg (by decide), hi_up, if_neg (by decide), hi_up, if_pos ⟨rfl, rfl⟩]
    rfl
  · rw [hi_up, if_pos ⟨rfl, rfl⟩]
    rfl
theorem z_answers {i : Nat} {c0 : Cd} (hd : 1 ≤ d) (hL : QZ h) (a : EZ h s) (hc0 : s.1[i]? = some c0) (an : AN h s.1 A) (hA : ∀ e ∈ A, e ∈ s.1) (hl : A.length < 1000) : AM d m_X7_answers [.inr (some 104), .inl (i : Int)] h (fun r h' => r = none ∧ SS h h' ∧ FM h h' s4 ∧ AN h' s.1 (A ++ [c0])) := by
  have h20 := a.wl.1
  have hi20 := lt_len hc0
  have hw := a.wl
  have c5 := a.cd hc0
  obtain ⟨n8, n11, n9, n10⟩ := id an
  have hA2 : ∀ x ∈ A ++ [c0], 0 ≤ x.1 ∧ x.1 ≤ 255 := fun x hx => by
    rcases List.mem_append.mp hx with q | q
    · exact nm_of hw (hA x q)
    · rw [List.mem_singleton.mp q]
      exact nm_of hw (List.mem_of_getElem? hc0)
  have key : ∀ (u : Int), u = orF (A ++ [c0]) → FM h (up (up (up (up h 104 11 u) 104 8 (hi h 104 8 + 1)) 104 9 (i : Int)) 104 10 c0.1) s4 ∧ AN (up (up (up (up h 104 11 u) 104 8 (hi h 104 8 + 1)) 104 9 (i : Int)) 104 10 c0.1) s.1 (A ++ [c0]) := by
    intro u hu
    refine ⟨(((FM.rf.up ⟨rfl, by decide, by decide⟩).up ⟨rfl, by decide, by decide⟩).up ⟨rfl, by decide, by decide⟩).up ⟨rfl, by decide, by decide⟩, ?_, ?_, fun c hc => ?_, fun c A' hc => ?_⟩
    · rw [hi_up, if_neg (by decide), hi_up, if_neg (by decide), hi_up, if_pos ⟨rfl, rfl⟩, n8, List.length_append]
      rfl
    · rw [hi_up, if_neg (by decide), hi_up, if_neg (by decide), hi_up, if_neg (by decide), hi_up, if_pos ⟨rfl, rfl⟩]
      exact hu
    · have hc2 : c0 = c := by
        cases A with
        | nil =>
          have hc' : [c0] = [c] := hc
          cases hc'
          rfl
        | cons x t => simp at hc
      subst hc2
      refine ⟨i, hc0, ?_⟩
      rw [hi_up, if_neg (by decide), hi_up, if_pos ⟨rfl, rfl⟩]
    · have := List.append_inj' hc rfl
      have hc2 : c0 = c := by
        have q := this.2
        cases q
        rfl
      subst hc2
      rw [hi_up, if_pos ⟨rfl, rfl⟩]
  refine vc_X7_answers (by omega) hL ⟨fun c => ?_, fun c => ?_⟩
  · refine am_mono (z_of (x := (i : Int)) (k := 0) hL (by omega) (by omega) (by omega) (by omega)) (fun r h2 _ _ z => ?_)
    obtain ⟨rfl, rfl⟩ := z
    rw [c5.1]
    refine ⟨_, rfl, SS.rf, by unfold rg; omega, am_mono (z_of (x := (i : Int)) (k := 0) (hL.ss SS.rf.up.up.up) (by omega) (by omega) (by omega) (by omega)) (fun r h3 _ _ z => ?_)⟩
    obtain ⟨rfl, rfl⟩ := z
    have hne : A ≠ [] := fun q => by rw [q] at n8; exact c n8
    obtain ⟨e, he⟩ : ∃ e, A = A.dropLast ++ [e] := ⟨A.getLast hne, (List.dropLast_concat_getLast hne).symm⟩
    have e10 := n10 e _ he
    have eu : orr (hi h2 104 11) (xr c0.1 (hi h2 104 10)) = orF (A ++ [c0]) := by
      rw [n11, e10]
      rw [he] at hA2 ⊢
      exact orF_s hA2
    obtain ⟨f, q⟩ := key _ eu
    have c5' : hi (up (up (up h2 104 11 (orr (hi h2 104 11) (xr c0.1 (hi h2 104 10)))) 104 8 (hi h2 104 8 + 1)) 104 9 (i : Int)) 105 (13 + 4 * (i : Int) + 0) = c0.1 := by
      rw [hi_up, if_neg (by omega), hi_up, if_neg (by omega), hi_up, if_neg (by omega)]
      exact c5.1
    rw [c5']
    exact ⟨_, rfl, SS.rf, rfl, SS.rf.up.up.up.up, f, q⟩
  · have c8 : hi h 104 8 = 0 := Classical.byContradiction c
    refine ⟨by unfold rg; omega, am_mono (z_of (x := (i : Int)) (k := 0) (hL.ss SS.rf.up.up.up) (by omega) (by omega) (by omega) (by omega)) (fun r h3 _ _ z => ?_)⟩
    obtain ⟨rfl, rfl⟩ := z
    have hnil : A = [] := List.eq_nil_of_length_eq_zero (by omega)
    have hcn := nm_of hw (List.mem_of_getElem? hc0)
    have o00 : orr 0 0 = 0 := by
      have := orr_nat (a := 0) (b := 0) (by decide) (by decide)
      exact this
    have eu : orr (hi h 104 11) 0 = orF (A ++ [c0]) := by
      rw [n11, hnil]
      show orr 0 0 = orr 0 (xr c0.1 c0.1)
      rw [(xr_0 hcn hcn).mpr rfl]
    obtain ⟨f, q⟩ := key _ eu
    have c5' : hi (up (up (up h 104 11 (orr (hi h 104 11) 0)) 104 8 (hi h 104 8 + 1)) 104 9 (i : Int)) 105 (13 + 4 * (i : Int) + 0) = c0.1 := by
      rw [hi_up, if_neg (by omega), hi_up, if_neg (by omega), hi_up, if_neg (by omega)]
      exact c5.1
    rw [c5']
    exact ⟨_, rfl, SS.rf, rfl, SS.rf.up.up.up.up, f, q⟩
theorem z_clash {u : Int} (hL : QZ h) (hu : hi h 104 11 = u) (h0 : 0 < u) (h1 : u < 256) : AM d m_X7_clashBit [.inr (some 104)] h (fun r h' => r = some (fo u) ∧ h' = h) := by
  have h7 := fo_7 h0
  have f0 := (fo_in u).1
  have lp : ∀ (k i : Nat), (k : Int) = fo u - i → (i : Int) ≤ fo u → AW m_X7_clashBit d none (fun r h' => r = some (fo u) ∧ h' = h) 2 [some (.inr (some 104)), some (.inl (i : Int))] [] h (0, 0) := by
    intro k
    induction k with
    | zero =>
      intro i hk hi2
      have b := bit_at (x := u) ⟨by omega, h1⟩ (i := i) (by omega) hi2
      refine vc_X7_clashBit_2 hL ⟨by unfold rg; omega, ?_⟩
      rw [hu]
      exact ⟨fun _ => ⟨congrArg some (by omega), rfl⟩, fun c => absurd (fun q => (b.mp q) (by omega)) c⟩
    | succ k ih =>
      intro i hk hi2
      have b := bit_at (x := u) ⟨by omega, h1⟩ (i := i) (by omega) hi2
      refine vc_X7_clashBit_2 hL ⟨by unfold rg; omega, ?_⟩
      rw [hu]
      exact ⟨fun c => absurd (b.mpr (by omega)) c, fun _ => ⟨by unfold rg; omega, ih (i + 1) (by omega) (by omega)⟩⟩
  exact vc_X7_clashBit hL (lp (fo u).toNat 0 (by omega) f0)
end MODEL14
