section TO
variable {d : Nat} {h : AH}
theorem c_copyPocket {p q : Nat} {l : List Cd} (hL : QP h p) (hL1 : QP h q) (hdj : p + 7 ≤ q ∨ q + 7 ≤ p) (a : PK h q l) : AM d m_X1_copyFrom [.inr (some p), .inr (some q)] h (fun r h' => r = none ∧ SS h h' ∧ FX h h' (inP p) ∧ PK h' p l) := by
  have h20 := a.2.2.1
  have h6 := a.1
  have loop : ∀ (n i : Nat) (h1 : AH), i + n = l.length → SS h h1 → FX h h1 (inP p) → hi h1 p 6 = l.length → (∀ (k : Nat) (c : Cd), l[k]? = some c → k < i → A4 h1 p k c) →
      AW m_X1_copyFrom d none (fun r h' => r = none ∧ SS h h' ∧ FX h h' (inP p) ∧ PK h' p l) 15 [some (.inr (some p)), some (.inr (some q)), some (.inl (i : Int))] [] h1 (0, 0) := by
    intro n
    induction n with
    | zero =>
      intro i h1 hin s f e6 hk
      exact vc_X1_copyFrom_15 (hL.ss s) (hL1.ss s) hdj ⟨fun c => ⟨rfl, s, f, e6, fun k c hc => hk k c hc (by have := lt_len hc; omega), a.2.2⟩, fun c => by omega⟩
    | succ n ih =>
      intro i h1 hin s f e6 hk
      obtain ⟨e, he⟩ := get_ex (l := l) (i := i) (by omega)
      obtain ⟨g1, g2, g3, g4⟩ := a.2.1 i e he
      have hw := (a.2.2.w1 he).2.1
      have nq : ∀ x, x ≤ 6 → ¬ inP p (q + x) := fun x hx z => by have := z.1; have := z.2; omega
      rw [← f.at (nq 1 (by omega))] at g1
      rw [← f.at (nq 5 (by omega))] at g2
      rw [← f.at (nq 2 (by omega))] at g3
      rw [← f.at (nq 3 (by omega))] at g4
      refine vc_X1_copyFrom_15 (hL.ss s) (hL1.ss s) hdj ⟨fun c => by omega, fun c => ⟨fun c2 => by omega, fun c2 => ⟨by omega, by rw [g2]; exact hw, ⟨by omega, by omega⟩, ?_⟩⟩⟩
      rw [g1, g2, g3, g4]
      refine ih (i + 1) _ (by omega) s.up.up.up.up ((((f.up ⟨by omega, by omega⟩).up ⟨by omega, by omega⟩).up ⟨by omega, by omega⟩).up ⟨by omega, by omega⟩) ?_ (fun k c hc hki => ?_)
      · simp only [hi_up]
        rw [if_neg (by omega), if_neg (by omega), if_neg (by omega), if_neg (by omega)]
        exact e6
      · have rd : A4 (up (up (up (up h1 (p + 1) i e.1) (p + 2) i e.2.2.1) (p + 3) i e.2.2.2) (p + 5) i e.2.1) p k c ↔ (if (k : Int) = i then e.1 else hi h1 (p + 1) k) = c.1 ∧ (if (k : Int) = i then e.2.1 else hi h1 (p + 5) k) = c.2.1 ∧ (if (k : Int) = i then e.2.2.1 else hi h1 (p + 2) k) = c.2.2.1 ∧ (if (k : Int) = i then e.2.2.2 else hi h1 (p + 3) k) = c.2.2.2 := by
          unfold A4
          simp only [hi_up]
          simp
        rw [rd]
        by_cases z : k = i
        · subst z
          rw [he] at hc
          cases hc
          rw [if_pos rfl, if_pos rfl, if_pos rfl, if_pos rfl]
          exact ⟨rfl, rfl, rfl, rfl⟩
        · have z2 : ¬ (k : Int) = i := by omega
          rw [if_neg z2, if_neg z2, if_neg z2, if_neg z2]
          exact hk k c hc (by omega)
  refine vc_X1_copyFrom hL hL1 hdj ?_
  exact loop l.length 0 _ (by omega) SS.rf.up (FX.rf.up ⟨by omega, by omega⟩) (by rw [hi_up, if_pos ⟨rfl, rfl⟩, h6]) (fun k c _ z => by omega)
/-! the list of those told -/
variable {t : Nat} {tl : List Int}
theorem c_names (hL : QT h t) (a : TK h t tl) : AM d m_X5_names [.inr (some t)] h (fun r h' => r = some (tl.length : Int) ∧ h' = h) := vc_X5_names hL ⟨by rw [a.1], rfl⟩
theorem c_toldAt {x : Int} (hL : QT h t) (a : TK h t tl) (h0 : 0 ≤ x) (h1 : x < tl.length) : AM d m_X5_nameAt [.inr (some t), .inl x] h (fun r h' => r = some (tl.getD x.toNat 0) ∧ h' = h) := by
  have e := a.1
  have e2 := a.2.2
  refine vc_X5_nameAt hL ⟨fun c => by omega, fun c => ⟨fun c => by omega, fun c => ⟨fun c => by omega, fun c => ⟨by omega, ?_, rfl⟩⟩⟩⟩
  obtain ⟨i, rfl⟩ : ∃ i : Nat, x = i := ⟨x.toNat, by omega⟩
  obtain ⟨v, hv⟩ := get_ex (l := tl) (i := i) (by omega)
  rw [a.2.1 i v hv]
  simp [hv]
def inT (t : Nat) : Nat → Prop := fun j => t ≤ j ∧ j < t + 2
theorem c_toldAdd {x : Int} (hd : 1 ≤ d) (hL : QT h t) (a : TK h t tl) : AM d m_X5_add [.inr (some t), .inl x] h (fun r h' => r = none ∧ SS h h' ∧ FX h h' (inT t) ∧ TK h' t (tad tl x)) := by
  have e := a.1
  have e2 := a.2.2
  have elen := tad_len (x := x) e2
  refine vc_X5_add hd hL ⟨fun c => ⟨fun c => by omega, fun c2 => ⟨by omega, ⟨by omega, by omega⟩, rfl, SS.rf.up.up, (FX.rf.up ⟨by omega, by omega⟩).up ⟨by omega, by omega⟩, ?_, fun i v hv => ?_, ?_⟩⟩, fun c => ⟨rfl, SS.rf.cpy.up.up.up, fun j hj => ?_, ?_, fun i v hv => ?_, ?_⟩⟩
  · rw [hi_up, if_pos ⟨rfl, rfl⟩, elen, if_neg (by omega)]
    omega
  · unfold tad at hv
    rw [if_neg (by omega)] at hv
    rw [hi_up, if_neg (by omega), hi_up]
    by_cases q : i < tl.length
    · rw [List.getElem?_append_left q] at hv
      rw [if_neg (by omega)]
      exact a.2.1 i v hv
    · rw [List.getElem?_append_right (by omega)] at hv
      have hz : i - tl.length < 1 := lt_len hv
      rw [show i - tl.length = 0 by omega] at hv
      cases hv
      rw [if_pos ⟨rfl, by omega⟩]
  · rw [elen, if_neg (by omega)]
    omega
  · have j1 : ¬ j = t := fun z => hj ⟨by omega, by omega⟩
    have j2 : ¬ j = t + 1 := fun z => hj ⟨by omega, by omega⟩
    funext k
    rw [hi_up, if_neg (fun z => j1 z.1), hi_up, if_neg (fun z => j2 z.1), hi_up, if_neg (fun z => j1 z.1), hi_cpy, if_neg (fun z => j2 z.1)]
  · rw [hi_up, if_pos ⟨rfl, rfl⟩, elen, if_pos (by omega)]
    rfl
  · unfold tad at hv
    rw [if_pos (by omega)] at hv
    rw [hi_up, if_neg (by omega), hi_up]
    by_cases q : i < 199
    · rw [List.getElem?_append_left (by rw [List.length_drop]; omega), List.getElem?_drop] at hv
      rw [if_neg (by omega), hi_up, if_neg (by omega), hi_cpy, if_pos (by omega)]
      have := a.2.1 _ _ hv
      rw [← this]
      congr 1
    · have hle := lt_len hv
      rw [List.length_append, List.length_drop] at hle
      have hl1 : ([x] : List Int).length = 1 := rfl
      rw [List.getElem?_append_right (by rw [List.length_drop]; omega)] at hv
      rw [show i - (tl.drop 1).length = 0 by rw [List.length_drop]; omega] at hv
      cases hv
      rw [if_pos ⟨rfl, by omega⟩]
  · rw [elen, if_pos (by omega)]
    omega
theorem c_toldEmpty (hL : QT h t) : AM d m_X5_empty [.inr (some t)] h (fun r h' => r = none ∧ SS h h' ∧ FX h h' (inT t) ∧ TK h' t []) := by
  refine vc_X5_empty hL ⟨rfl, SS.rf.up, FX.rf.up ⟨by omega, by omega⟩, ?_, fun i v hv => by simp at hv, by simp⟩
  rw [hi_up, if_pos ⟨rfl, rfl⟩]
  rfl
theorem c_copyTold {q : Nat} (hd : 1 ≤ d) (hL : QT h t) (hL1 : QT h q) (hdj : t + 2 ≤ q ∨ q + 2 ≤ t) (a : TK h q tl) : AM d m_X5_copyFrom [.inr (some t), .inr (some q)] h (fun r h' => r = none ∧ SS h h' ∧ FX h h' (inT t) ∧ TK h' t tl) := by
  have e2 := a.2.2
  refine vc_X5_copyFrom hd hL hL1 hdj ⟨rfl, SS.rf.cpy.up, fun j hj => ?_, ?_, fun i v hv => ?_, e2⟩
  · have j1 : ¬ j = t := fun z => hj ⟨by omega, by omega⟩
    have j2 : ¬ j = t + 1 := fun z => hj ⟨by omega, by omega⟩
    funext k
    rw [hi_up, if_neg (fun z => j1 z.1), hi_cpy, if_neg (fun z => j2 z.1)]
  · rw [hi_up, if_pos ⟨rfl, rfl⟩, a.1]
  · have := lt_len hv
    rw [hi_up, if_neg (by omega), hi_cpy, if_pos (by omega), ← a.2.1 i v hv]
    congr 1
    omega
/-! what is counted: by the numbers of 'total', from 5 on -/
def YK (h : AH) (y : Nat) (sc : Int → Int) : Prop := hi h y 0 = sc 5 ∧ hi h y 1 = sc 6 ∧ hi h y 2 = sc 7 ∧ hi h y 3 = sc 8 ∧ hi h y 4 = sc 9 ∧ hi h y 5 = sc 10 ∧ hi h y 6 = sc 11 ∧ hi h y 7 = sc 12
theorem c_copyTally {y q : Nat} {sc : Int → Int} (hL : QY h y) (hL1 : QY h q) (hdj : y + 1 ≤ q ∨ q + 1 ≤ y) (a : YK h q sc) : AM d m_X3_copyFrom [.inr (some y), .inr (some q)] h (fun r h' => r = none ∧ SS h h' ∧ FX h h' (fun j => j = y) ∧ YK h' y sc) := by
  obtain ⟨a0, a1, a2, a3, a4, a5, a6, a7⟩ := a
  refine vc_X3_copyFrom hL hL1 hdj ⟨rfl, SS.rf.up.up.up.up.up.up.up.up, FX.up (FX.up (FX.up (FX.up (FX.up (FX.up (FX.up (FX.up FX.rf rfl) rfl) rfl) rfl) rfl) rfl) rfl) rfl, ?_⟩
  unfold YK
  simp [hi_up, a0, a1, a2, a3, a4, a5, a6, a7]
theorem c_numberOf {y : Nat} {x : Int} {sc : Int → Int} (hL : QY h y) (a : YK h y sc) : AM d m_X3_numberOf [.inr (some y), .inl x] h (fun r h' => r = some (if 4 ≤ x ∧ x ≤ 10 then sc (x + 1) else if x = 14 then sc 12 else -2) ∧ h' = h) := by
  obtain ⟨a0, a1, a2, a3, a4, a5, a6, a7⟩ := a
  refine vc_X3_numberOf hL ⟨fun c => ⟨?_, rfl⟩, fun c => ⟨?_, rfl⟩, fun c => ⟨?_, rfl⟩, fun c => ⟨?_, rfl⟩, fun c => ⟨?_, rfl⟩, fun c => ⟨?_, rfl⟩, fun c => ⟨?_, rfl⟩, fun c => ⟨?_, rfl⟩, fun c => ⟨?_, rfl⟩⟩
  · rw [if_neg (by omega), if_neg (by omega)]
  all_goals subst c
  · rw [a0]; rfl
  · rw [a1]; rfl
  · rw [a2]; rfl
  · rw [a3]; rfl
  · rw [a4]; rfl
  · rw [a5]; rfl
  · rw [a6]; rfl
  · rw [a7]; rfl
end TO
