/-! the pocket -/
def A4 (h : AH) (p : Nat) (i : Int) (c : Cd) : Prop := hi h (p + 1) i = c.1 ∧ hi h (p + 5) i = c.2.1 ∧ hi h (p + 2) i = c.2.2.1 ∧ hi h (p + 3) i = c.2.2.2
def CP (h : AH) (p : Nat) (l : List Cd) : Prop := ∀ (i : Nat) (c : Cd), l[i]? = some c → A4 h p i c
def PK (h : AH) (p : Nat) (l : List Cd) : Prop := hi h p 6 = l.length ∧ CP h p l ∧ WL l
def inP (p : Nat) : Nat → Prop := fun j => p ≤ j ∧ j < p + 7
theorem PK.n {h : AH} {p : Nat} {l : List Cd} (a : PK h p l) : 0 ≤ hi h p 6 ∧ hi h p 6 ≤ 20 := by
  have h1 := a.1
  have h2 := a.2.2.1
  omega
section PO
variable {d p : Nat} {h : AH} {l : List Cd}
theorem c_cards (hL : QP h p) : AM d m_X1_cards [.inr (some p)] h (fun r h' => r = some (hi h p 6) ∧ h' = h) := vc_X1_cards hL ⟨rfl, rfl⟩
theorem c_isCard {x : Int} (hL : QP h p) (a : PK h p l) : AM d m_X1_isCard [.inr (some p), .inl x] h (fun r h' => r = some (if 0 ≤ x ∧ x < l.length then 1 else 0) ∧ h' = h) := by
  have hn := a.n
  have h6 := a.1
  refine vc_X1_isCard hL ⟨fun c => ⟨?_, rfl⟩, fun c => ⟨fun c2 => ⟨?_, rfl⟩, fun c2 => ⟨fun c3 => ⟨?_, rfl⟩, fun c3 => ⟨?_, rfl⟩⟩⟩⟩
  · rw [if_neg (by omega)]
  · rw [if_neg (by omega)]
  · rw [if_neg (by omega)]
  · rw [if_pos (by omega)]
theorem c_placeOf {x : Int} (hL : QP h p) (a : PK h p l) : AM d m_X1_placeOf [.inr (some p), .inl x] h (fun r h' => r = some (match ix l x with | none => -1 | some i => (i : Int)) ∧ h' = h) := by
  have h6 := a.1
  have h20 := a.2.2.1
  have loop : ∀ (n i : Nat), i + n = l.length → (∀ (k : Nat) (c : Cd), l[k]? = some c → k < i → c.1 ≠ x) → AW m_X1_placeOf d none (fun r h' => r = some (match ix l x with | none => -1 | some i => (i : Int)) ∧ h' = h) 2 [some (.inr (some p)), some (.inl x), some (.inl (i : Int))] [] h (0, 0) := by
    intro n
    induction n with
    | zero =>
      intro i hin hk
      have hnone : ix l x = none := ix_none.mpr (fun c hc => by
        obtain ⟨k, hk'⟩ := List.getElem?_of_mem hc
        exact hk k c hk' (by have := lt_len hk'; omega))
      refine vc_X1_placeOf_2 hL ⟨fun _ => ⟨by rw [hnone], rfl⟩, fun c => by omega⟩
    | succ n ih =>
      intro i hin hk
      obtain ⟨e, he⟩ := get_ex (l := l) (i := i) (by omega)
      refine vc_X1_placeOf_2 hL ⟨fun c => by omega, fun c => ⟨fun c2 => by omega, fun c2 => ⟨by omega, fun c3 => ⟨by omega, ?_⟩, fun c3 => ⟨?_, rfl⟩⟩⟩⟩
      · refine ih (i + 1) (by omega) (fun k c hkc hki => ?_)
        rcases Nat.lt_or_ge k i with q | q
        · exact hk k c hkc q
        · have : k = i := by omega
          subst this
          rw [he] at hkc
          cases hkc
          rw [← (a.2.1 _ _ he).1]
          exact c3
      · rw [(ix_some a.2.2).mpr ⟨e, he, by rw [← (a.2.1 _ _ he).1]; omega⟩]
  exact vc_X1_placeOf hL (loop l.length 0 (by omega) (fun k c _ q => by omega))
theorem get_i {l : List Cd} {x : Int} (h0 : 0 ≤ x) (h1 : x < l.length) : ∃ (i : Nat) (c : Cd), x = i ∧ l[i]? = some c := by
  obtain ⟨i, rfl⟩ : ∃ i : Nat, x = i := ⟨x.toNat, by omega⟩
  obtain ⟨c, hc⟩ := get_ex (l := l) (i := i) (by omega)
  exact ⟨i, c, rfl, hc⟩
theorem c_nameAt {i : Nat} {c : Cd} (hd : 1 ≤ d) (hL : QP h p) (a : PK h p l) (hc : l[i]? = some c) : AM d m_X1_nameAt [.inr (some p), .inl i] h (fun r h' => r = some c.1 ∧ h' = h) := by
  have hlt := lt_len hc
  have h20 := a.2.2.1
  refine vc_X1_nameAt hd hL (am_mono (c_isCard hL a) (fun r h' _ _ q => ?_))
  obtain ⟨rfl, rfl⟩ := q
  refine ⟨_, rfl, SS.rf, fun c1 => ?_, fun c1 => ⟨by omega, by rw [(a.2.1 _ _ hc).1], rfl⟩⟩
  rw [if_pos (by omega)] at c1
  omega
theorem c_isAwake {i : Nat} {c : Cd} (hd : 1 ≤ d) (hL : QP h p) (a : PK h p l) (hc : l[i]? = some c) : AM d m_X1_isAwake [.inr (some p), .inl i] h (fun r h' => r = some c.2.1 ∧ h' = h) := by
  have hlt := lt_len hc
  have h20 := a.2.2.1
  have haw := (a.2.2.w1 hc).2.1
  have h5 := (a.2.1 _ _ hc).2.1
  refine vc_X1_isAwake hd hL (am_mono (c_isCard hL a) (fun r h' _ _ q => ?_))
  obtain ⟨rfl, rfl⟩ := q
  rw [if_pos (by omega)]
  refine ⟨_, rfl, SS.rf, fun c1 => by omega, fun c1 => ⟨by omega, fun c2 => ⟨by rw [← h5, c2], rfl⟩, fun c2 => ⟨by rw [← h5]; congr 1; omega, rfl⟩⟩⟩
theorem c_asksToGo {i : Nat} {c : Cd} (hd : 1 ≤ d) (hL : QP h p) (a : PK h p l) (hc : l[i]? = some c) : AM d m_X1_asksToGo [.inr (some p), .inl i] h (fun r h' => r = some c.2.2.1 ∧ h' = h) := by
  have hlt := lt_len hc
  have h20 := a.2.2.1
  refine vc_X1_asksToGo hd hL (am_mono (c_isCard hL a) (fun r h' _ _ q => ?_))
  obtain ⟨rfl, rfl⟩ := q
  rw [if_pos (by omega)]
  exact ⟨_, rfl, SS.rf, fun c1 => by omega, fun c1 => ⟨by omega, by rw [(a.2.1 _ _ hc).2.2.1], rfl⟩⟩
theorem c_tellings {i : Nat} {c : Cd} (hd : 1 ≤ d) (hL : QP h p) (a : PK h p l) (hc : l[i]? = some c) : AM d m_X1_tellings [.inr (some p), .inl i] h (fun r h' => r = some c.2.2.2 ∧ h' = h) := by
  have hlt := lt_len hc
  have h20 := a.2.2.1
  refine vc_X1_tellings hd hL (am_mono (c_isCard hL a) (fun r h' _ _ q => ?_))
  obtain ⟨rfl, rfl⟩ := q
  rw [if_pos (by omega)]
  exact ⟨_, rfl, SS.rf, fun c1 => by omega, fun c1 => ⟨by omega, by rw [(a.2.1 _ _ hc).2.2.2], rfl⟩⟩
/-- a card is written at a place -/
theorem CP.cong {h' : AH} (a : CP h p l) (e : ∀ (i : Nat), i < l.length → hi h' (p + 1) i = hi h (p + 1) i ∧ hi h' (p + 5) i = hi h (p + 5) i ∧ hi h' (p + 2) i = hi h (p + 2) i ∧ hi h' (p + 3) i = hi h (p + 3) i) : CP h' p l := by
  intro i c hc
  obtain ⟨h1, h2, h3, h4⟩ := a i c hc
  obtain ⟨e1, e2, e3, e4⟩ := e i (lt_len hc)
  exact ⟨e1.trans h1, e2.trans h2, e3.trans h3, e4.trans h4⟩
theorem c_sleepAt {i : Nat} {c : Cd} (hd : 1 ≤ d) (hL : QP h p) (a : PK h p l) (hc : l[i]? = some c) : AM d m_X1_sleepAt [.inr (some p), .inl i] h (fun r h' => r = none ∧ h' = up h (p + 5) i 0) := by
  have hlt := lt_len hc
  have h20 := a.2.2.1
  refine vc_X1_sleepAt hd hL (am_mono (c_isCard hL a) (fun r h' _ _ q => ?_))
  obtain ⟨rfl, rfl⟩ := q
  rw [if_pos (by omega)]
  exact ⟨_, rfl, SS.rf, fun c1 => by omega, fun c1 => ⟨by omega, rfl, rfl⟩⟩
theorem c_leaveAt {i : Nat} {c : Cd} {v : Int} (hd : 1 ≤ d) (hL : QP h p) (a : PK h p l) (hc : l[i]? = some c) : AM d m_X1_leaveAt [.inr (some p), .inl i, .inl v] h (fun r h' => r = none ∧ h' = up h (p + 2) i v) := by
  have hlt := lt_len hc
  have h20 := a.2.2.1
  refine vc_X1_leaveAt hd hL (am_mono (c_isCard hL a) (fun r h' _ _ q => ?_))
  obtain ⟨rfl, rfl⟩ := q
  rw [if_pos (by omega)]
  exact ⟨_, rfl, SS.rf, fun c1 => by omega, fun c1 => ⟨by omega, rfl, rfl⟩⟩
theorem c_slotAt {i : Nat} {c : Cd} {v : Int} (hd : 1 ≤ d) (hL : QP h p) (a : PK h p l) (hc : l[i]? = some c) : AM d m_X1_slotAt [.inr (some p), .inl i, .inl v] h (fun r h' => r = none ∧ h' = up h (p + 4) i v) := by
  have hlt := lt_len hc
  have h20 := a.2.2.1
  refine vc_X1_slotAt hd hL (am_mono (c_isCard hL a) (fun r h' _ _ q => ?_))
  obtain ⟨rfl, rfl⟩ := q
  rw [if_pos (by omega)]
  exact ⟨_, rfl, SS.rf, fun c1 => by omega, fun c1 => ⟨by omega, rfl, rfl⟩⟩
/-- what a place gets when its card is moved -/
def mv (h : AH) (p : Nat) (a b : Int) : AH := up (up (up (up (up h (p + 1) b (hi h (p + 1) a)) (p + 2) b (hi h (p + 2) a)) (p + 3) b (hi h (p + 3) a)) (p + 4) b (hi h (p + 4) a)) (p + 5) b (hi h (p + 5) a)
theorem hi_mv {a b : Int} {j : Nat} {k : Int} : hi (mv h p a b) j k = if (p + 1 ≤ j ∧ j ≤ p + 5) ∧ k = b then hi h j a else hi h j k := by
  unfold mv
  simp only [hi_up]
  by_cases hk : k = b
  · by_cases h5 : j = p + 5
    · rw [if_pos ⟨h5, hk⟩, if_pos ⟨by omega, hk⟩, h5]
    · rw [if_neg (fun q => h5 q.1)]
      by_cases h4 : j = p + 4
      · rw [if_pos ⟨h4, hk⟩, if_pos ⟨by omega, hk⟩, h4]
      · rw [if_neg (fun q => h4 q.1)]
        by_cases h3 : j = p + 3
        · rw [if_pos ⟨h3, hk⟩, if_pos ⟨by omega, hk⟩, h3]
        · rw [if_neg (fun q => h3 q.1)]
          by_cases h2 : j = p + 2
          · rw [if_pos ⟨h2, hk⟩, if_pos ⟨by omega, hk⟩, h2]
          · rw [if_neg (fun q => h2 q.1)]
            by_cases h1 : j = p + 1
            · rw [if_pos ⟨h1, hk⟩, if_pos ⟨by omega, hk⟩, h1]
            · rw [if_neg (fun q => h1 q.1), if_neg (by omega)]
  · rw [if_neg (fun q => hk q.2), if_neg (fun q => hk q.2), if_neg (fun q => hk q.2), if_neg (fun q => hk q.2), if_neg (fun q => hk q.2), if_neg (fun q => hk q.2)]
theorem SS.mv {a b : Int} : SS h (mv h p a b) := SS.up (SS.up (SS.up (SS.up (SS.up SS.rf))))
theorem FX.mv {a b : Int} : FX h (mv h p a b) (inP p) := (((((FX.rf (S := inP p)).up ⟨by omega, by omega⟩).up ⟨by omega, by omega⟩).up ⟨by omega, by omega⟩).up ⟨by omega, by omega⟩).up ⟨by omega, by omega⟩
theorem c_moveCard {a b : Int} (hL : QP h p) (ha : 0 ≤ a ∧ a < 20) (hb : 0 ≤ b ∧ b < 20) (hw : hi h (p + 5) a = 0 ∨ hi h (p + 5) a = 1) : AM d m_X1_moveCard [.inr (some p), .inl a, .inl b] h (fun r h' => r = none ∧ h' = mv h p a b) :=
  vc_X1_moveCard hL ⟨fun c => by omega, fun c => ⟨fun c => by omega, fun c => ⟨fun c => by omega, fun c => ⟨fun c => ⟨ha, hb, hw, rfl, rfl⟩, fun c => by omega⟩⟩⟩⟩
end PO
