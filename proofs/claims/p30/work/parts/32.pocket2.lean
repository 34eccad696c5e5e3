theorem sh_k : ∀ k, k < 32 → ((Int32.ofInt ((k : Nat) : Int) &&& 31).toBitVec.smod 32).toNat = k := by decide +kernel
theorem sr_eq {x k : Int} (hx : rg x) (h0 : 0 ≤ k) (h1 : k < 32) : sr x k = x / 2 ^ k.toNat := by
  obtain ⟨n, rfl⟩ : ∃ n : Nat, k = n := ⟨k.toNat, by omega⟩
  unfold sr
  rw [b2_def]
  show (Int32.ofInt x >>> (Int32.ofInt (n : Int) &&& 31)).toInt = _
  rw [pk_shr _ _ n (sh_k n (by omega)), ti hx, Int.shiftRight_eq_div_pow]
  rfl
theorem sl_1 : ∀ k, k < 9 → sl 1 ((k : Nat) : Int) = 2 ^ k := by
  have h : ∀ k, k < 9 → (Int32.ofInt 1 <<< (Int32.ofInt ((k : Nat) : Int) &&& 31)).toInt = 2 ^ k := by decide +kernel
  intro k hk
  unfold sl
  rw [b2_def]
  exact h k hk
/-- the first bit that is 1 of eight; 8 if none is -/
def fo (x : Int) : Int := if 128 ≤ x then 0 else if 64 ≤ x then 1 else if 32 ≤ x then 2 else if 16 ≤ x then 3 else if 8 ≤ x then 4 else if 4 ≤ x then 5 else if 2 ≤ x then 6 else if 1 ≤ x then 7 else 8
theorem sr7 {x : Int} (hx : 0 ≤ x ∧ x < 256) {i : Nat} (hi : i < 8) (hf : (i : Int) ≤ fo x) : (sr x (7 - (i : Int)) = 0 ↔ ¬ fo x = i) := by
  have hr : rg x := ⟨by omega, by omega⟩
  have e : ∀ k : Int, 0 ≤ k → k < 32 → sr x k = x / 2 ^ k.toNat := fun k a b => sr_eq hr a b
  have hc : i = 0 ∨ i = 1 ∨ i = 2 ∨ i = 3 ∨ i = 4 ∨ i = 5 ∨ i = 6 ∨ i = 7 := by omega
  rcases hc with rfl | rfl | rfl | rfl | rfl | rfl | rfl | rfl
  · rw [show (7 : Int) - ((0 : Nat) : Int) = 7 from rfl, e 7 (by decide) (by decide)]; simp only [show ((7 : Int).toNat) = 7 from rfl]; unfold fo at *; split at hf <;> (try split at hf) <;> (try split at hf) <;> (try split at hf) <;> (try split at hf) <;> (try split at hf) <;> (try split at hf) <;> (try split at hf) <;> omega
  · rw [show (7 : Int) - ((1 : Nat) : Int) = 6 from rfl, e 6 (by decide) (by decide)]; simp only [show ((6 : Int).toNat) = 6 from rfl]; unfold fo at *; split at hf <;> (try split at hf) <;> (try split at hf) <;> (try split at hf) <;> (try split at hf) <;> (try split at hf) <;> (try split at hf) <;> (try split at hf) <;> omega
  · rw [show (7 : Int) - ((2 : Nat) : Int) = 5 from rfl, e 5 (by decide) (by decide)]; simp only [show ((5 : Int).toNat) = 5 from rfl]; unfold fo at *; split at hf <;> (try split at hf) <;> (try split at hf) <;> (try split at hf) <;> (try split at hf) <;> (try split at hf) <;> (try split at hf) <;> (try split at hf) <;> omega
  · rw [show (7 : Int) - ((3 : Nat) : Int) = 4 from rfl, e 4 (by decide) (by decide)]; simp only [show ((4 : Int).toNat) = 4 from rfl]; unfold fo at *; split at hf <;> (try split at hf) <;> (try split at hf) <;> (try split at hf) <;> (try split at hf) <;> (try split at hf) <;> (try split at hf) <;> (try split at hf) <;> omega
  · rw [show (7 : Int) - ((4 : Nat) : Int) = 3 from rfl, e 3 (by decide) (by decide)]; simp only [show ((3 : Int).toNat) = 3 from rfl]; unfold fo at *; split at hf <;> (try split at hf) <;> (try split at hf) <;> (try split at hf) <;> (try split at hf) <;> (try split at hf) <;> (try split at hf) <;> (try split at hf) <;> omega
  · rw [show (7 : Int) - ((5 : Nat) : Int) = 2 from rfl, e 2 (by decide) (by decide)]; simp only [show ((2 : Int).toNat) = 2 from rfl]; unfold fo at *; split at hf <;> (try split at hf) <;> (try split at hf) <;> (try split at hf) <;> (try split at hf) <;> (try split at hf) <;> (try split at hf) <;> (try split at hf) <;> omega
  · rw [show (7 : Int) - ((6 : Nat) : Int) = 1 from rfl, e 1 (by decide) (by decide)]; simp only [show ((1 : Int).toNat) = 1 from rfl]; unfold fo at *; split at hf <;> (try split at hf) <;> (try split at hf) <;> (try split at hf) <;> (try split at hf) <;> (try split at hf) <;> (try split at hf) <;> (try split at hf) <;> omega
  · rw [show (7 : Int) - ((7 : Nat) : Int) = 0 from rfl, e 0 (by decide) (by decide)]; simp only [show ((0 : Int).toNat) = 0 from rfl]; unfold fo at *; split at hf <;> (try split at hf) <;> (try split at hf) <;> (try split at hf) <;> (try split at hf) <;> (try split at hf) <;> (try split at hf) <;> (try split at hf) <;> omega
theorem fo_in (x : Int) : 0 ≤ fo x ∧ fo x ≤ 8 := by
  unfold fo
  repeat' split
  all_goals omega
section PP
variable {d p : Nat} {h : AH} {l : List Cd}
theorem c_firstBits {x len : Int} (h0 : 0 ≤ len) (h8 : len ≤ 8) : AM d m_X6_firstBits [.inl x, .inl len] h (fun r h' => r = some (sr x (8 - len)) ∧ h' = h) :=
  vc_X6_firstBits ⟨fun c => by omega, fun c => ⟨fun c => by omega, fun c => ⟨⟨by omega, by omega⟩, rfl, rfl⟩⟩⟩
theorem c_firstOne {x : Int} (hx : 0 ≤ x ∧ x < 256) : AM d m_X6_firstOne [.inl x] h (fun r h' => r = some (fo x) ∧ h' = h) := by
  have h8 := fo_in x
  have loop : ∀ (n i : Nat), i + n = 8 → (i : Int) ≤ fo x → AW m_X6_firstOne d none (fun r h' => r = some (fo x) ∧ h' = h) 2 [some (.inl x), some (.inl (i : Int))] [] h (0, 0) := by
    intro n
    induction n with
    | zero =>
      intro i hin hf
      exact vc_X6_firstOne_2 ⟨fun c => ⟨by congr 1; omega, rfl⟩, fun c => by omega⟩
    | succ n ih =>
      intro i hin hf
      have e := sr7 hx (i := i) (by omega) hf
      refine vc_X6_firstOne_2 ⟨fun c => by omega, fun c => ⟨⟨by omega, by omega⟩, fun c2 => ⟨?_, rfl⟩, fun c2 => ⟨⟨by omega, by omega⟩, ih (i + 1) (by omega) ?_⟩⟩⟩
      · have : fo x = i := Classical.byContradiction fun q => c2 (e.mpr q)
        rw [this]
      · have : ¬ fo x = i := e.mp (Classical.byContradiction fun q => c2 q)
        omega
  exact vc_X6_firstOne (loop 8 0 rfl h8.1)
theorem c_tellAt {i : Nat} {c : Cd} (hd : 1 ≤ d) (hL : QP h p) (a : PK h p l) (hc : l[i]? = some c) : AM d m_X1_tellAt [.inr (some p), .inl i] h (fun r h' => r = none ∧ h' = up h (p + 3) i (w (c.2.2.2 + 1))) := by
  have hlt := lt_len hc
  have h20 := a.2.2.1
  refine vc_X1_tellAt hd hL (am_mono (c_isCard hL a) (fun r h' _ _ q => ?_))
  obtain ⟨rfl, rfl⟩ := q
  rw [if_pos (by omega)]
  exact ⟨_, rfl, SS.rf, fun c1 => by omega, fun c1 => ⟨by omega, rfl, by rw [(a.2.1 _ _ hc).2.2.2]⟩⟩
/-- which cards answer: marks -/
def MK (h : AH) (p : Nat) (l : List Cd) (f : Cd → Bool) : Prop := ∀ (i : Nat) (c : Cd), l[i]? = some c → hi h (p + 6) i = if f c = true then 1 else 0
/-- a slot for each name -/
def SL (h : AH) (p : Nat) (l : List Cd) (sl : Int → Int) : Prop := ∀ (i : Nat) (c : Cd), l[i]? = some c → hi h (p + 4) i = sl c.1
noncomputable def pa (len bits : Int) (c : Cd) : Bool := decide (c.2.1 = 1) && decide (sr c.1 (8 - len) = bits)
theorem PK.fx {h' : AH} (a : PK h p l) (f : FX h h' (fun j => j = p + 4 ∨ j = p + 6)) : PK h' p l :=
  ⟨by rw [f.at (by omega)]; exact a.1, a.2.1.cong fun i _ => ⟨f.at (by omega) _, f.at (by omega) _, f.at (by omega) _, f.at (by omega) _⟩, a.2.2⟩
theorem c_letAnswer {len bits : Int} (hd : 1 ≤ d) (hL : QP h p) (a : PK h p l) (h0 : 0 ≤ len) (h8 : len ≤ 8) : AM d m_X1_letAnswer [.inr (some p), .inl len, .inl bits] h (fun r h' => r = none ∧ SS h h' ∧ FX h h' (fun j => j = p + 6) ∧ MK h' p l (pa len bits)) := by
  have h20 := a.2.2.1
  have loop : ∀ (n i : Nat) (h1 : AH), i + n = l.length → SS h h1 → FX h h1 (fun j => j = p + 6) → (∀ (k : Nat) (c : Cd), l[k]? = some c → k < i → hi h1 (p + 6) k = if pa len bits c = true then 1 else 0) →
      AW m_X1_letAnswer d none (fun r h' => r = none ∧ SS h h' ∧ FX h h' (fun j => j = p + 6) ∧ MK h' p l (pa len bits)) 2 [some (.inr (some p)), some (.inl len), some (.inl bits), some (.inl (i : Int))] [] h1 (0, 0) := by
    intro n
    induction n with
    | zero =>
      intro i h1 hin s f hk
      have h6 : hi h1 p 6 = l.length := by rw [f.at (by omega)]; exact a.1
      exact vc_X1_letAnswer_2 hd (hL.ss s) ⟨fun c => ⟨rfl, s, f, fun k c hkc => hk k c hkc (by have := lt_len hkc; omega)⟩, fun c => by omega⟩
    | succ n ih =>
      intro i h1 hin s f hk
      have h6 : hi h1 p 6 = l.length := by rw [f.at (by omega)]; exact a.1
      obtain ⟨e, he⟩ := get_ex (l := l) (i := i) (by omega)
      have hnm : hi h1 (p + 1) i = e.1 := by rw [f.at (by omega)]; exact (a.2.1 _ _ he).1
      have haw : hi h1 (p + 5) i = e.2.1 := by rw [f.at (by omega)]; exact (a.2.1 _ _ he).2.1
      have hw := (a.2.2.w1 he).2.1
      have step : ∀ v : Int, (v = if pa len bits e = true then 1 else 0) → AW m_X1_letAnswer d none (fun r h' => r = none ∧ SS h h' ∧ FX h h' (fun j => j = p + 6) ∧ MK h' p l (pa len bits)) 2 [some (.inr (some p)), some (.inl len), some (.inl bits), some (.inl ((i : Int) + 1))] [] (up h1 (p + 6) i v) (0, 0) := by
        intro v hv
        refine ih (i + 1) _ (by omega) s.up (f.up rfl) (fun k c hkc hki => ?_)
        rw [hi_up]
        by_cases q : k = i
        · subst q
          rw [if_pos ⟨rfl, rfl⟩]
          rw [he] at hkc
          cases hkc
          exact hv
        · rw [if_neg (by omega)]
          exact hk k c hkc (by omega)
      refine vc_X1_letAnswer_2 hd (hL.ss s) ⟨fun c => by omega, fun c => ⟨fun c2 => by omega, fun c2 => ⟨by omega, fun c3 => ⟨⟨by omega, by omega⟩, step 0 ?_⟩, fun c3 => am_mono (c_firstBits h0 h8) (fun r h' _ _ q => ?_)⟩⟩⟩
      · rw [if_neg]
        simp only [pa, Bool.and_eq_true, decide_eq_true_eq]
        omega
      · obtain ⟨rfl, rfl⟩ := q
        rw [hnm]
        refine ⟨_, rfl, SS.rf, fun c4 => ⟨⟨by omega, by omega⟩, step 0 ?_⟩, fun c4 => ⟨⟨by omega, by omega⟩, step 1 ?_⟩⟩
        · rw [if_neg]
          simp only [pa, Bool.and_eq_true, decide_eq_true_eq]
          exact fun q => c4 q.2
        · rw [if_pos]
          simp only [pa, Bool.and_eq_true, decide_eq_true_eq]
          exact ⟨by omega, Classical.byContradiction c4⟩
  exact vc_X1_letAnswer hd hL (loop l.length 0 h (by omega) SS.rf FX.rf (fun k c _ q => by omega))
theorem c_letAnswerIn {k0 : Int} {sl : Int → Int} (hL : QP h p) (a : PK h p l) (b : SL h p l sl) : AM d m_X1_letAnswerIn [.inr (some p), .inl k0] h (fun r h' => r = none ∧ SS h h' ∧ FX h h' (fun j => j = p + 6) ∧ MK h' p l (fun c => decide (sl c.1 = k0))) := by
  have h20 := a.2.2.1
  have loop : ∀ (n i : Nat) (h1 : AH), i + n = l.length → SS h h1 → FX h h1 (fun j => j = p + 6) → (∀ (k : Nat) (c : Cd), l[k]? = some c → k < i → hi h1 (p + 6) k = if decide (sl c.1 = k0) = true then 1 else 0) →
      AW m_X1_letAnswerIn d none (fun r h' => r = none ∧ SS h h' ∧ FX h h' (fun j => j = p + 6) ∧ MK h' p l (fun c => decide (sl c.1 = k0))) 2 [some (.inr (some p)), some (.inl k0), some (.inl (i : Int))] [] h1 (0, 0) := by
    intro n
    induction n with
    | zero =>
      intro i h1 hin s f hk
      have h6 : hi h1 p 6 = l.length := by rw [f.at (by omega)]; exact a.1
      exact vc_X1_letAnswerIn_2 (hL.ss s) ⟨fun c => ⟨rfl, s, f, fun k c hkc => hk k c hkc (by have := lt_len hkc; omega)⟩, fun c => by omega⟩
    | succ n ih =>
      intro i h1 hin s f hk
      have h6 : hi h1 p 6 = l.length := by rw [f.at (by omega)]; exact a.1
      obtain ⟨e, he⟩ := get_ex (l := l) (i := i) (by omega)
      have hsl : hi h1 (p + 4) i = sl e.1 := by rw [f.at (by omega)]; exact b _ _ he
      have step : ∀ v : Int, (v = if decide (sl e.1 = k0) = true then 1 else 0) → AW m_X1_letAnswerIn d none (fun r h' => r = none ∧ SS h h' ∧ FX h h' (fun j => j = p + 6) ∧ MK h' p l (fun c => decide (sl c.1 = k0))) 2 [some (.inr (some p)), some (.inl k0), some (.inl ((i : Int) + 1))] [] (up h1 (p + 6) i v) (0, 0) := by
        intro v hv
        refine ih (i + 1) _ (by omega) s.up (f.up rfl) (fun k c hkc hki => ?_)
        rw [hi_up]
        by_cases q : k = i
        · subst q
          rw [if_pos ⟨rfl, rfl⟩]
          rw [he] at hkc
          cases hkc
          exact hv
        · rw [if_neg (by omega)]
          exact hk k c hkc (by omega)
      refine vc_X1_letAnswerIn_2 (hL.ss s) ⟨fun c => by omega, fun c => ⟨fun c2 => by omega, fun c2 => ⟨by omega, fun c3 => ⟨⟨by omega, by omega⟩, step 0 ?_⟩, fun c3 => ⟨⟨by omega, by omega⟩, step 1 ?_⟩⟩⟩⟩
      · rw [if_neg]
        simp only [decide_eq_true_eq]
        omega
      · rw [if_pos]
        simp only [decide_eq_true_eq]
        omega
  exact vc_X1_letAnswerIn hL (loop l.length 0 h (by omega) SS.rf FX.rf (fun k c _ q => by omega))
theorem c_firstAnswering {f : Cd → Bool} (hL : QP h p) (a : PK h p l) (b : MK h p l f) : AM d m_X1_firstAnswering [.inr (some p)] h (fun r h' => r = some (match l.findIdx? f with | none => -1 | some i => (i : Int)) ∧ h' = h) := by
  have h20 := a.2.2.1
  have h6 := a.1
  have loop : ∀ (n i : Nat), i + n = l.length → (∀ (k : Nat) (c : Cd), l[k]? = some c → k < i → f c = false) →
      AW m_X1_firstAnswering d none (fun r h' => r = some (match l.findIdx? f with | none => -1 | some i => (i : Int)) ∧ h' = h) 2 [some (.inr (some p)), some (.inl (i : Int))] [] h (0, 0) := by
    intro n
    induction n with
    | zero =>
      intro i hin hk
      have hn : l.findIdx? f = none := List.findIdx?_eq_none_iff.mpr (fun c hc => by
        obtain ⟨k, hk'⟩ := List.getElem?_of_mem hc
        exact hk k c hk' (by have := lt_len hk'; omega))
      exact vc_X1_firstAnswering_2 hL ⟨fun c => ⟨by rw [hn], rfl⟩, fun c => by omega⟩
    | succ n ih =>
      intro i hin hk
      obtain ⟨e, he⟩ := get_ex (l := l) (i := i) (by omega)
      have hm := b _ _ he
      refine vc_X1_firstAnswering_2 hL ⟨fun c => by omega, fun c => ⟨fun c2 => by omega, fun c2 => ⟨by omega, fun c3 => ⟨⟨by omega, by omega⟩, ih (i + 1) (by omega) (fun k c hkc hki => ?_)⟩, fun c3 => ⟨?_, rfl⟩⟩⟩⟩
      · by_cases q : k = i
        · subst q
          rw [he] at hkc
          cases hkc
          rw [c3] at hm
          cases hfe : f e with
          | false => rfl
          | true => rw [hfe] at hm; simp at hm
        · exact hk k c hkc (by omega)
      · have hfe : f e = true := by
          cases hfe : f e with
          | true => rfl
          | false => rw [hfe] at hm; simp at hm; omega
        have : l.findIdx? f = some i := List.findIdx?_eq_some_iff_getElem.mpr ⟨lt_len he, by rw [(List.getElem?_eq_some_iff.mp he).2]; exact hfe, fun j hj => by
          have hjl : j < l.length := by have := lt_len he; omega
          rw [hk j l[j] (List.getElem?_eq_getElem hjl) hj]
          simp⟩
        rw [this]
  exact vc_X1_firstAnswering hL (loop l.length 0 (by omega) (fun k c _ q => by omega))
end PP
