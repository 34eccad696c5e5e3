/-! the cards: (name, awake, asks to go, tellings) -/
abbrev Cd : Type := Int × Int × Int × Int
def wc (c : Cd) : Prop := (0 ≤ c.1 ∧ c.1 ≤ 255) ∧ (c.2.1 = 0 ∨ c.2.1 = 1) ∧ 0 ≤ c.2.2.1 ∧ c.2.2.1 ≤ 200
def WL (l : List Cd) : Prop := l.length ≤ 20 ∧ (∀ c ∈ l, wc c) ∧ l.Pairwise (fun a b => a.1 < b.1)
def CL (nm aw lv tm : Int → Int) (l : List Cd) : Prop := ∀ (i : Nat) (c : Cd), l[i]? = some c → nm i = c.1 ∧ aw i = c.2.1 ∧ lv i = c.2.2.1 ∧ tm i = c.2.2.2
/-- nothing outside S is changed -/
def FX (h h' : AH) (S : Nat → Prop) : Prop := ∀ j, ¬ S j → hi h' j = hi h j
theorem FX.rf {h : AH} {S : Nat → Prop} : FX h h S := fun _ _ => rfl
theorem FX.tr {h h1 h2 : AH} {S : Nat → Prop} (a : FX h h1 S) (b : FX h1 h2 S) : FX h h2 S := fun j hj => (b j hj).trans (a j hj)
theorem FX.wk {h h1 : AH} {S S' : Nat → Prop} (a : FX h h1 S) (hs : ∀ j, S j → S' j) : FX h h1 S' := fun j hj => a j (fun q => hj (hs j q))
theorem FX.up {h h1 : AH} {S : Nat → Prop} {j : Nat} {k v : Int} (a : FX h h1 S) (hj : S j) : FX h (up h1 j k v) S := fun i hi' => by
  rw [← a i hi']
  funext x
  rw [hi_up, if_neg (fun q => hi' (by rw [q.1]; exact hj))]
theorem FX.at {h h1 : AH} {S : Nat → Prop} (a : FX h h1 S) {j : Nat} (hj : ¬ S j) (k : Int) : hi h1 j k = hi h j k := by rw [a j hj]
theorem lt_len {α : Type} {l : List α} {i : Nat} {c : α} (h : l[i]? = some c) : i < l.length := (List.getElem?_eq_some_iff.mp h).1
theorem get_ex {α : Type} {l : List α} {i : Nat} (h : i < l.length) : ∃ c, l[i]? = some c := ⟨l[i], List.getElem?_eq_getElem h⟩
theorem CL.cong {nm aw lv tm nm' aw' lv' tm' : Int → Int} {l : List Cd} (h : CL nm aw lv tm l) (e : ∀ i : Nat, i < l.length → nm' i = nm i ∧ aw' i = aw i ∧ lv' i = lv i ∧ tm' i = tm i) : CL nm' aw' lv' tm' l := by
  intro i c hc
  obtain ⟨h1, h2, h3, h4⟩ := h i c hc
  obtain ⟨e1, e2, e3, e4⟩ := e i (lt_len hc)
  exact ⟨e1.trans h1, e2.trans h2, e3.trans h3, e4.trans h4⟩
/-- the place of the card with a name -/
def ix (l : List Cd) (x : Int) : Option Nat := l.findIdx? (fun c => decide (c.1 = x))
theorem ix_none {l : List Cd} {x : Int} : ix l x = none ↔ ∀ c ∈ l, c.1 ≠ x := by
  simp [ix, List.findIdx?_eq_none_iff]
theorem WL.inj {l : List Cd} (h : WL l) {i j : Nat} {c e : Cd} (hi : l[i]? = some c) (hj : l[j]? = some e) (hn : c.1 = e.1) : i = j := by
  have hp := List.pairwise_iff_getElem.mp h.2.2
  obtain ⟨hi1, hi2⟩ := List.getElem?_eq_some_iff.mp hi
  obtain ⟨hj1, hj2⟩ := List.getElem?_eq_some_iff.mp hj
  rcases Nat.lt_trichotomy i j with q | q | q
  · have := hp i j hi1 hj1 q
    rw [hi2, hj2] at this
    omega
  · exact q
  · have := hp j i hj1 hi1 q
    rw [hi2, hj2] at this
    omega
theorem ix_some {l : List Cd} {x : Int} {i : Nat} (h : WL l) : ix l x = some i ↔ ∃ c, l[i]? = some c ∧ c.1 = x := by
  constructor
  · intro q
    have := List.findIdx?_eq_some_iff_getElem.mp q
    obtain ⟨h1, h2, -⟩ := this
    exact ⟨l[i], List.getElem?_eq_getElem h1, by simpa using h2⟩
  · intro ⟨c, h1, h2⟩
    cases hq : ix l x with
    | none => exact absurd h2 (ix_none.mp hq c (List.mem_of_getElem? h1))
    | some j =>
      have := List.findIdx?_eq_some_iff_getElem.mp hq
      obtain ⟨h3, h4, -⟩ := this
      rw [h.inj h1 (List.getElem?_eq_getElem h3) (by rw [h2]; simpa using (of_decide_eq_true h4).symm)]
theorem WL.w1 {l : List Cd} (h : WL l) {i : Nat} {c : Cd} (hc : l[i]? = some c) : wc c := h.2.1 c (List.mem_of_getElem? hc)
/-- a card is changed at its place -/
theorem WL.set {l : List Cd} (h : WL l) {i : Nat} {c e : Cd} (hc : l[i]? = some c) (hn : e.1 = c.1) (he : wc e) : WL (l.set i e) := by
  refine ⟨by rw [List.length_set]; exact h.1, fun x hx => ?_, ?_⟩
  · rcases List.mem_or_eq_of_mem_set hx with q | q
    · exact h.2.1 x q
    · rw [q]; exact he
  · rw [List.pairwise_iff_getElem]
    intro a b ha hb hab
    have hp := List.pairwise_iff_getElem.mp h.2.2
    rw [List.length_set] at ha hb
    have h0 := hp a b ha hb hab
    obtain ⟨hi1, hi2⟩ := List.getElem?_eq_some_iff.mp hc
    rw [List.getElem_set, List.getElem_set]
    by_cases q1 : i = a <;> by_cases q2 : i = b
    · omega
    · subst q1; rw [if_pos rfl, if_neg q2, hn]; rw [hi2] at h0; exact h0
    · subst q2; rw [if_pos rfl, if_neg q1, hn]; rw [hi2] at h0; exact h0
    · rw [if_neg q1, if_neg q2]; exact h0
theorem WL.erase {l : List Cd} (h : WL l) (i : Nat) : WL (l.eraseIdx i) :=
  ⟨Nat.le_trans (List.length_eraseIdx_le ..) h.1, fun x hx => h.2.1 x (List.mem_of_mem_eraseIdx hx), h.2.2.sublist (List.eraseIdx_sublist ..)⟩
/-- a card is put in by its name -/
def ins (x : Int) : List Cd → List Cd
  | [] => [(x, 1, 0, 0)]
  | c :: t => if c.1 ≤ x then c :: ins x t else (x, 1, 0, 0) :: c :: t
theorem ins_at {x : Int} : ∀ {l : List Cd} (k : Nat), l.Pairwise (fun a b => a.1 < b.1) → k ≤ l.length → (∀ (i : Nat) (c : Cd), l[i]? = some c → k ≤ i → x < c.1) → (∀ c : Cd, 0 < k → l[k - 1]? = some c → c.1 ≤ x) → l.take k ++ (x, 1, 0, 0) :: l.drop k = ins x l
  | [], k, _, hk, _, _ => by
    have : k = 0 := by simpa using hk
    subst this
    rfl
  | c :: t, 0, _, _, h1, _ => by
    have := h1 0 c rfl (Nat.le_refl _)
    show (x, 1, 0, 0) :: c :: t = ins x (c :: t)
    rw [ins, if_neg (by omega)]
  | c :: t, k + 1, hp, hk, h1, h2 => by
    have hk' : k ≤ t.length := by simpa using hk
    have hp' := List.pairwise_cons.mp hp
    have hcx : c.1 ≤ x := by
      cases k with
      | zero => exact h2 c (by omega) rfl
      | succ k =>
        obtain ⟨e, he⟩ := get_ex (l := t) (i := k) (by omega)
        have h3 := h2 e (by omega) (by simpa using he)
        have h4 := hp'.1 e (List.mem_of_getElem? he)
        omega
    show c :: (t.take k ++ (x, 1, 0, 0) :: t.drop k) = ins x (c :: t)
    rw [ins, if_pos hcx, ins_at k hp'.2 hk' (fun i e he hi => h1 (i + 1) e (by simpa using he) (by omega)) (fun e hk0 he => h2 e (by omega) (by
      cases k with
      | zero => omega
      | succ k => simpa using he))]
theorem ins_len {x : Int} : ∀ l : List Cd, (ins x l).length = l.length + 1
  | [] => rfl
  | c :: t => by
    rw [ins]
    split
    · simp [ins_len t]
    · rfl
theorem ins_mem {x : Int} {e : Cd} : ∀ {l : List Cd}, e ∈ ins x l → e = (x, 1, 0, 0) ∨ e ∈ l
  | [], h => by simpa [ins] using h
  | c :: t, h => by
    rw [ins] at h
    split at h
    · rcases List.mem_cons.mp h with q | q
      · exact Or.inr (by rw [q]; exact List.mem_cons_self)
      · rcases ins_mem q with r | r
        · exact Or.inl r
        · exact Or.inr (List.mem_cons_of_mem _ r)
    · rcases List.mem_cons.mp h with q | q
      · exact Or.inl q
      · exact Or.inr q
theorem ins_pw {x : Int} : ∀ {l : List Cd}, l.Pairwise (fun a b => a.1 < b.1) → (∀ c ∈ l, c.1 ≠ x) → (ins x l).Pairwise (fun a b => a.1 < b.1)
  | [], _, _ => by simp [ins]
  | c :: t, hp, hx => by
    have hp' := List.pairwise_cons.mp hp
    rw [ins]
    split
    · next q =>
      refine List.pairwise_cons.mpr ⟨fun e he => ?_, ins_pw hp'.2 (fun e he => hx e (List.mem_cons_of_mem _ he))⟩
      rcases ins_mem he with r | r
      · rw [r]
        have := hx c List.mem_cons_self
        show c.1 < x
        omega
      · exact hp'.1 e r
    · next q =>
      refine List.pairwise_cons.mpr ⟨fun e he => ?_, hp⟩
      show x < e.1
      rcases List.mem_cons.mp he with r | r
      · rw [r]; omega
      · have := hp'.1 e r
        omega
theorem WL.ins {l : List Cd} (h : WL l) {x : Int} (hl : l.length < 20) (hx : 0 ≤ x ∧ x ≤ 255) (hn : ∀ c ∈ l, c.1 ≠ x) : WL (ins x l) := by
  refine ⟨by rw [ins_len]; omega, fun e he => ?_, ins_pw h.2.2 hn⟩
  rcases ins_mem he with r | r
  · rw [r]
    exact ⟨hx, Or.inr rfl, Int.le_refl 0, by show (0 : Int) ≤ 200; decide⟩
  · exact h.2.1 e r
/-- one ask less to go -/
def lg1 (c : Cd) : Option Cd := if 0 < c.2.2.1 then (if c.2.2.1 = 1 then none else some (c.1, c.2.1, c.2.2.1 - 1, c.2.2.2)) else some c
def lg (l : List Cd) : List Cd := l.filterMap lg1
theorem lg1_name {c e : Cd} (h : lg1 c = some e) : e.1 = c.1 ∧ e.2.1 = c.2.1 ∧ e.2.2.2 = c.2.2.2 ∧ (wc c → wc e) := by
  unfold lg1 at h
  split at h
  · split at h
    · cases h
    · next q1 q2 =>
      cases h
      exact ⟨rfl, rfl, rfl, fun w => ⟨w.1, w.2.1, by show 0 ≤ c.2.2.1 - 1; omega, by show c.2.2.1 - 1 ≤ 200; have := w.2.2.2; omega⟩⟩
  · cases h
    exact ⟨rfl, rfl, rfl, id⟩
theorem WL.lg {l : List Cd} (h : WL l) : WL (lg l) := by
  refine ⟨Nat.le_trans (List.length_filterMap_le ..) h.1, fun e he => ?_, ?_⟩
  · obtain ⟨c, hc, hce⟩ := List.mem_filterMap.mp he
    exact (lg1_name hce).2.2.2 (h.2.1 c hc)
  · refine List.Pairwise.filterMap lg1 (fun a b hab a' ha b' hb => ?_) h.2.2
    rw [(lg1_name ha).1, (lg1_name hb).1]
    exact hab
