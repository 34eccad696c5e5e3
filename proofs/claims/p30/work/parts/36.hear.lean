/-! the state: cards, those told, numbers (as 'z' of the reference counts them: 2 sleeps, 3 sizes, 4 x, 5 .. 12 counts) -/
abbrev Ms : Type := List Cd × List Int × (Int → Int)
def su (f : Int → Int) (k v : Int) : Int → Int := fun j => if j = k then v else f j
def WS (f : Int → Int) : Prop := (f 2 = 0 ∨ f 2 = 1) ∧ (f 3 = 0 ∨ f 3 = 1 ∨ f 3 = 2) ∧ 0 ≤ f 4 ∧ f 4 < 2147483648
def ES (h : AH) (b : Nat) (s : Ms) : Prop := PK h (b + 1) s.1 ∧ TK h (b + 8) s.2.1 ∧ YK h (b + 10) s.2.2 ∧ hi h (b + 11) 0 = s.2.2 2 ∧ hi h (b + 11) 1 = s.2.2 3 ∧ hi h b 4 = s.2.2 4 ∧ WS s.2.2
def inS (b : Nat) : Nat → Prop := fun j => b ≤ j ∧ j < b + 12
theorem PK.same {h h' : AH} {p : Nat} {l : List Cd} (a : PK h p l) (e : ∀ j, p ≤ j → j < p + 7 → hi h' j = hi h j) : PK h' p l :=
  ⟨by rw [e p (by omega) (by omega)]; exact a.1, a.2.1.cong fun i _ => ⟨by rw [e (p + 1) (by omega) (by omega)], by rw [e (p + 5) (by omega) (by omega)], by rw [e (p + 2) (by omega) (by omega)], by rw [e (p + 3) (by omega) (by omega)]⟩, a.2.2⟩
theorem TK.same {h h' : AH} {t : Nat} {tl : List Int} (a : TK h t tl) (e : ∀ j, t ≤ j → j < t + 2 → hi h' j = hi h j) : TK h' t tl :=
  ⟨by rw [e t (by omega) (by omega)]; exact a.1, fun i v hv => by rw [e (t + 1) (by omega) (by omega)]; exact a.2.1 i v hv, a.2.2⟩
theorem YK.same {h h' : AH} {y : Nat} {f : Int → Int} (a : YK h y f) (e : hi h' y = hi h y) : YK h' y f := by
  unfold YK at *
  rw [e]
  exact a
theorem SL.same {h h' : AH} {p : Nat} {l : List Cd} {sl : Int → Int} (a : SL h p l sl) (e : hi h' (p + 4) = hi h (p + 4)) : SL h' p l sl := fun i c hc => by rw [e]; exact a i c hc
theorem up_ne {h : AH} {j a : Nat} {k v : Int} (n : a ≠ j) : hi (up h j k v) a = hi h a := by
  funext x
  rw [hi_up, if_neg (fun z => n z.1)]
noncomputable def hearR (f : Cd → Bool) (l : List Cd) : Int := match l.filter f with
  | [] => 300
  | [c] => c.1
  | c :: _ :: _ => 400 + fo (dfs f c.1 l)
noncomputable def tellC (slp x : Int) (c : Cd) : Cd := if c.1 = x then (c.1, if slp = 0 then c.2.1 else 0, c.2.2.1, w (c.2.2.2 + 1)) else c
noncomputable def hearS (f : Cd → Bool) (s : Ms) : Ms := match s.1.filter f with
  | [] => (s.1, s.2.1, su s.2.2 7 (w (s.2.2 7 + 1)))
  | [c] => (s.1.map (tellC (s.2.2 2) c.1), tad s.2.1 c.1, su s.2.2 8 (w (s.2.2 8 + 1)))
  | _ :: _ :: _ => (s.1, s.2.1, su s.2.2 9 (w (s.2.2 9 + 1)))
theorem orr_in {x y : Int} (hx : 0 ≤ x ∧ x < 256) (hy : 0 ≤ y ∧ y < 256) : (0 ≤ orr x y ∧ orr x y < 256) ∧ (orr x y = 0 ↔ x = 0 ∧ y = 0) := by
  obtain ⟨a, rfl, ha⟩ := nat_of (x := x) ⟨hx.1, by omega⟩
  obtain ⟨b, rfl, hb⟩ := nat_of (x := y) ⟨hy.1, by omega⟩
  rw [orr_nat ha hb]
  have h1 : a ||| b < 256 := Nat.or_lt_two_pow (n := 8) ha hb
  refine ⟨by omega, fun q => ?_, fun q => ?_⟩
  · have q' : a ||| b = 0 := by omega
    have := Nat.or_eq_zero_iff.mp q'
    omega
  · have e1 : a = 0 := by omega
    have e2 : b = 0 := by omega
    rw [e1, e2]
    rfl
theorem xr_0 {x y : Int} (hx : 0 ≤ x ∧ x ≤ 255) (hy : 0 ≤ y ∧ y ≤ 255) : xr x y = 0 ↔ x = y := by
  obtain ⟨a, rfl, ha⟩ := nat_of hx
  obtain ⟨b, rfl, hb⟩ := nat_of hy
  rw [xr_nat ha hb]
  constructor
  · intro q
    have q' : a ^^^ b = 0 := by omega
    have e : a = b := by
      apply Nat.eq_of_testBit_eq
      intro i
      have h0 := congrArg (fun z : Nat => z.testBit i) q'
      simp only [Nat.testBit_xor, Nat.zero_testBit] at h0
      revert h0
      cases a.testBit i <;> cases b.testBit i <;> simp
    omega
  · intro q
    have : a = b := by omega
    rw [this, Nat.xor_self]
    rfl
theorem dfs_filter {f : Cd → Bool} {name : Int} {l : List Cd} : dfs f name l = (l.filter f).foldl (fun acc c => orr acc (xr c.1 name)) 0 := by
  unfold dfs
  rw [List.foldl_filter]
theorem ors_in {name : Int} (hn : 0 ≤ name ∧ name ≤ 255) : ∀ (A : List Cd) (acc : Int), (∀ c ∈ A, 0 ≤ c.1 ∧ c.1 ≤ 255) → (0 ≤ acc ∧ acc < 256) → (0 ≤ A.foldl (fun acc c => orr acc (xr c.1 name)) acc ∧ A.foldl (fun acc c => orr acc (xr c.1 name)) acc < 256) ∧ (A.foldl (fun acc c => orr acc (xr c.1 name)) acc = 0 ↔ acc = 0 ∧ ∀ c ∈ A, c.1 = name)
  | [], acc, _, ha => ⟨ha, by simp⟩
  | c :: t, acc, hA, ha => by
    have hc := hA c List.mem_cons_self
    have hx := xr_in hc hn
    have ho := orr_in ha hx
    obtain ⟨h1, h2⟩ := ors_in hn t (orr acc (xr c.1 name)) (fun e he => hA e (List.mem_cons_of_mem _ he)) ho.1
    refine ⟨h1, h2.trans ?_⟩
    rw [ho.2, xr_0 hc hn]
    constructor
    · rintro ⟨⟨q1, q2⟩, q3⟩
      exact ⟨q1, fun e he => (List.mem_cons.mp he).elim (fun z => by rw [z]; exact q2) (q3 e)⟩
    · rintro ⟨q1, q2⟩
      exact ⟨⟨q1, q2 c List.mem_cons_self⟩, fun e he => q2 e (List.mem_cons_of_mem _ he)⟩
theorem dfs_in {f : Cd → Bool} {l : List Cd} (hw : WL l) {c : Cd} (hc : c ∈ l) : (0 ≤ dfs f c.1 l ∧ dfs f c.1 l < 256) ∧ (dfs f c.1 l = 0 ↔ ∀ e ∈ l.filter f, e.1 = c.1) := by
  rw [dfs_filter]
  have := ors_in (hw.2.1 c hc).1 (l.filter f) 0 (fun e he => (hw.2.1 e (List.mem_filter.mp he).1).1) ⟨by omega, by omega⟩
  exact ⟨this.1, this.2.trans (by simp)⟩
/-- the first that answers -/
theorem first_of {f : Cd → Bool} {l : List Cd} : match l.findIdx? f with
    | none => l.filter f = []
    | some i => ∃ c t, l[i]? = some c ∧ l.filter f = c :: t ∧ f c = true := by
  induction l with
  | nil => simp
  | cons a l ih =>
    by_cases q : f a = true
    · have : (a :: l).findIdx? f = some 0 := by simp [List.findIdx?_cons, q]
      rw [this]
      exact ⟨a, l.filter f, rfl, by simp [q], q⟩
    · have q' : f a = false := by simpa using q
      have e : (a :: l).findIdx? f = (l.findIdx? f).map (· + 1) := by simp [List.findIdx?_cons, q']
      rw [e]
      cases hq : l.findIdx? f with
      | none =>
        rw [hq] at ih
        simp only [Option.map_none]
        simp only [List.filter_cons, q']
        simpa using ih
      | some i =>
        rw [hq] at ih
        obtain ⟨c, t, h1, h2, h3⟩ := ih
        simp only [Option.map_some]
        exact ⟨c, t, by simpa using h1, by simp [q', h2], h3⟩
theorem map_set {l : List Cd} (hw : WL l) {i : Nat} {c : Cd} (hc : l[i]? = some c) (slp : Int) : l.map (tellC slp c.1) = l.set i (c.1, if slp = 0 then c.2.1 else 0, c.2.2.1, w (c.2.2.2 + 1)) := by
  apply List.ext_getElem?
  intro j
  rw [List.getElem?_map, List.getElem?_set]
  by_cases q : i = j
  · subst q
    rw [if_pos rfl, if_pos (lt_len hc), hc]
    show some (tellC slp c.1 c) = _
    unfold tellC
    rw [if_pos rfl]
  · rw [if_neg q]
    cases hj : l[j]? with
    | none => rfl
    | some e =>
      show some (tellC slp c.1 e) = some e
      unfold tellC
      rw [if_neg (fun z => q (hw.inj hc hj z.symm))]
theorem su_at {f : Int → Int} {k v : Int} : su f k v k = v := if_pos rfl
theorem su_ne {f : Int → Int} {k v j : Int} (n : j ≠ k) : su f k v j = f j := if_neg n
theorem WS.su {f : Int → Int} {k v : Int} (a : WS f) (hk : 5 ≤ k) : WS (su f k v) := by
  unfold WS at *
  rw [su_ne (by omega), su_ne (by omega), su_ne (by omega)]
  exact a
