theorem SL_ex {h : AH} {p : Nat} {l : List Cd} (hw : WL l) : ∃ sl, SL h p l sl := by
  refine ⟨fun x => match ix l x with | none => 0 | some i => hi h (p + 4) i, fun i c hc => ?_⟩
  show _ = match ix l c.1 with | none => 0 | some i => hi h (p + 4) i
  rw [(ix_some hw).mpr ⟨c, hc, rfl⟩]
def TK (h : AH) (t : Nat) (tl : List Int) : Prop := hi h t 1 = tl.length ∧ (∀ (i : Nat) (v : Int), tl[i]? = some v → hi h (t + 1) i = v) ∧ tl.length ≤ 200
def tad (tl : List Int) (x : Int) : List Int := (if tl.length = 200 then tl.drop 1 else tl) ++ [x]
theorem tad_len {tl : List Int} {x : Int} (h : tl.length ≤ 200) : (tad tl x).length = (if tl.length = 200 then 200 else tl.length + 1) := by
  unfold tad
  split
  · next q => simp [q]
  · simp
section P4
variable {d p : Nat} {h : AH} {l : List Cd}
theorem c_removeAt {i0 : Nat} {c0 : Cd} (hd : 1 ≤ d) (hL : QP h p) (a : PK h p l) (hc : l[i0]? = some c0) : AM d m_X1_removeAt [.inr (some p), .inl (i0 : Int)] h (fun r h' => r = none ∧ SS h h' ∧ FX h h' (inP p) ∧ PK h' p (l.eraseIdx i0)) := by
  have h20 := a.2.2.1
  have h6 := a.1
  have hlt := lt_len hc
  have fin : ∀ (j : Nat) (h1 : AH), i0 ≤ j → j + 1 = l.length → SS h h1 → FX h h1 (inA p) → (∀ (i : Nat) (c : Cd), l[i]? = some c → i < i0 → A4 h1 p i c) → (∀ (i : Nat) (c : Cd), l[i + 1]? = some c → i0 ≤ i → i < j → A4 h1 p i c) →
      (none : Option Int) = none ∧ SS h (up h1 p 6 (hi h1 p 6 - 1)) ∧ FX h (up h1 p 6 (hi h1 p 6 - 1)) (inP p) ∧ PK (up h1 p 6 (hi h1 p 6 - 1)) p (l.eraseIdx i0) := by
    intro j h1 hj hjl s f hlo hmi
    have e6 : hi h1 p 6 = l.length := by rw [f.at (fun q => by have := q.1; omega)]; exact h6
    refine ⟨rfl, s.up, (f.wk (S' := inP p) (fun j q => ⟨by have := q.1; omega, by have := q.2; omega⟩)).up ⟨by omega, by omega⟩, ?_, ?_, a.2.2.erase i0⟩
    · rw [hi_up, if_pos ⟨rfl, rfl⟩, e6, List.length_eraseIdx_of_lt hlt]
      omega
    · intro i c hci
      have hA : A4 h1 p i c := by
        rw [List.getElem?_eraseIdx] at hci
        by_cases q : i < i0
        · rw [if_pos q] at hci
          exact hlo i c hci q
        · rw [if_neg q] at hci
          exact hmi i c hci (by omega) (by have := lt_len hci; omega)
      unfold A4
      simp only [hi_up]
      rw [if_neg (by omega), if_neg (by omega), if_neg (by omega), if_neg (by omega)]
      exact hA
  have loop : ∀ (n j : Nat) (h1 : AH), j + n + 1 = l.length → i0 ≤ j → SS h h1 → FX h h1 (inA p) → (∀ (i : Nat) (c : Cd), l[i]? = some c → i < i0 → A4 h1 p i c) → (∀ (i : Nat) (c : Cd), l[i + 1]? = some c → i0 ≤ i → i < j → A4 h1 p i c) → (∀ (i : Nat) (c : Cd), l[i]? = some c → j < i → A4 h1 p i c) →
      AW m_X1_removeAt d none (fun r h' => r = none ∧ SS h h' ∧ FX h h' (inP p) ∧ PK h' p (l.eraseIdx i0)) 11 [some (.inr (some p)), some (.inl (i0 : Int)), some (.inl (j : Int))] [] h1 (0, 0) := by
    intro n
    induction n with
    | zero =>
      intro j h1 hjl hj s f hlo hmi hhi
      have e6 : hi h1 p 6 = l.length := by rw [f.at (fun q => by have := q.1; omega)]; exact h6
      exact vc_X1_removeAt_11 hd (hL.ss s) ⟨⟨by omega, by omega⟩, fun c => ⟨⟨by omega, by omega⟩, fin j h1 hj hjl s f hlo hmi⟩, fun c => by omega⟩
    | succ n ih =>
      intro j h1 hjl hj s f hlo hmi hhi
      have e6 : hi h1 p 6 = l.length := by rw [f.at (fun q => by have := q.1; omega)]; exact h6
      obtain ⟨e, he⟩ := get_ex (l := l) (i := j + 1) (by omega)
      have hA := hhi (j + 1) e he (by omega)
      have hw := (a.2.2.w1 he).2.1
      have ej : ((j + 1 : Nat) : Int) = (j : Int) + 1 := by omega
      refine vc_X1_removeAt_11 hd (hL.ss s) ⟨⟨by omega, by omega⟩, fun c => by omega, fun c => ⟨fun c2 => by omega, fun c2 => ?_⟩⟩
      rw [ej] at hA
      refine am_mono (c_moveCard (hL.ss s) (by omega) (by omega) (by rw [hA.2.1]; exact hw)) (fun r h' _ _ q => ?_)
      obtain ⟨rfl, rfl⟩ := q
      refine ⟨rfl, SS.mv, ih (j + 1) _ (by omega) (by omega) (s.tr SS.mv) (f.tr mv_fxA) (fun i c hc hi' => A4.mv ?_) (fun i c hc hi0 hi' => A4.mv ?_) (fun i c hc hi' => A4.mv ?_)⟩
      · rw [if_neg (by omega)]
        exact hlo i c hc hi'
      · by_cases q : i = j
        · subst q
          rw [he] at hc
          cases hc
          rw [if_pos rfl]
          exact hA
        · rw [if_neg (by omega)]
          exact hmi i c hc hi0 (by omega)
      · rw [if_neg (by omega)]
        exact hhi i c hc (by omega)
  refine vc_X1_removeAt hd hL (am_mono (c_isCard hL a) (fun r h' _ _ q => ?_))
  obtain ⟨rfl, rfl⟩ := q
  rw [if_pos (by omega)]
  exact ⟨_, rfl, SS.rf, fun _ => loop (l.length - 1 - i0) i0 h' (by omega) (Nat.le_refl _) SS.rf FX.rf (fun i c hc _ => a.2.1 i c hc) (fun i c hc _ _ => by omega) (fun i c hc _ => a.2.1 i c hc), fun c => by omega⟩
def wake (c : Cd) : Cd := (c.1, 1, c.2.2)
theorem WL.wake (hw : WL l) : WL (l.map wake) := by
  refine ⟨by rw [List.length_map]; exact hw.1, fun x hx => ?_, ?_⟩
  · obtain ⟨c, hc, rfl⟩ := List.mem_map.mp hx
    have := hw.2.1 c hc
    exact ⟨this.1, Or.inr rfl, this.2.2⟩
  · rw [List.pairwise_map]
    exact hw.2.2
theorem c_wakeEach (hL : QP h p) (a : PK h p l) : AM d m_X1_wakeEach [.inr (some p)] h (fun r h' => r = none ∧ SS h h' ∧ FX h h' (inP p) ∧ PK h' p (l.map wake)) := by
  have h20 := a.2.2.1
  have h6 := a.1
  have loop : ∀ (n i : Nat) (h1 : AH), i + n = l.length → SS h h1 → FX h h1 (fun j => j = p + 5) → (∀ (k : Nat), k < i → hi h1 (p + 5) k = 1) →
      AW m_X1_wakeEach d none (fun r h' => r = none ∧ SS h h' ∧ FX h h' (inP p) ∧ PK h' p (l.map wake)) 2 [some (.inr (some p)), some (.inl (i : Int))] [] h1 (0, 0) := by
    intro n
    induction n with
    | zero =>
      intro i h1 hin s f hk
      have e6 : hi h1 p 6 = l.length := by rw [f.at (by omega)]; exact h6
      refine vc_X1_wakeEach_2 (hL.ss s) ⟨fun c => ⟨rfl, s, f.wk (fun j q => ⟨by omega, by omega⟩), ⟨by rw [e6, List.length_map], fun k c hkc => ?_, a.2.2.wake⟩⟩, fun c => by omega⟩
      rw [List.getElem?_map] at hkc
      cases hq : l[k]? with
      | none => rw [hq] at hkc; cases hkc
      | some e =>
        rw [hq] at hkc
        cases hkc
        obtain ⟨g1, g2, g3, g4⟩ := a.2.1 k e hq
        have := lt_len hq
        exact ⟨by rw [f.at (by omega)]; exact g1, hk k (by omega), by rw [f.at (by omega)]; exact g3, by rw [f.at (by omega)]; exact g4⟩
    | succ n ih =>
      intro i h1 hin s f hk
      have e6 : hi h1 p 6 = l.length := by rw [f.at (by omega)]; exact h6
      refine vc_X1_wakeEach_2 (hL.ss s) ⟨fun c => by omega, fun c => ⟨fun c2 => by omega, fun c2 => ⟨by omega, ⟨by omega, by omega⟩, ih (i + 1) _ (by omega) s.up (f.up rfl) (fun k hk' => ?_)⟩⟩⟩
      rw [hi_up]
      by_cases q : k = i
      · rw [if_pos ⟨rfl, by omega⟩]
      · rw [if_neg (by omega)]
        exact hk k (by omega)
  exact vc_X1_wakeEach hL (loop l.length 0 h (by omega) SS.rf FX.rf (fun k q => by omega))
theorem c_passAsk {sl : Int → Int} (hd : 1 ≤ d) (hL : QP h p) (a : PK h p l) (b : SL h p l sl) : AM d m_X1_passAsk [.inr (some p)] h (fun r h' => r = some ((l.length : Int) - (lg l).length) ∧ SS h h' ∧ FX h h' (inP p) ∧ PK h' p (lg l) ∧ SL h' p (lg l) sl) := by
  have h20 := a.2.2.1
  have h6 := a.1
  have lgs : ∀ {j : Nat} {e : Cd}, l[j]? = some e → lg (l.take (j + 1)) = lg (l.take j) ++ (lg1 e).toList := by
    intro j e he
    unfold lg
    rw [tk he, List.filterMap_append]
    rfl
  have lgl : ∀ j : Nat, (lg (l.take j)).length ≤ j := fun j => Nat.le_trans (List.length_filterMap_le ..) (by rw [List.length_take]; omega)
  have loop : ∀ (n j : Nat) (h1 : AH), j + n = l.length → SS h h1 → FX h h1 (inA p) → (∀ (i : Nat) (c : Cd), (lg (l.take j))[i]? = some c → A4 h1 p i c ∧ hi h1 (p + 4) i = sl c.1) → (∀ (i : Nat) (c : Cd), l[i]? = some c → j ≤ i → A4 h1 p i c ∧ hi h1 (p + 4) i = sl c.1) →
      AW m_X1_passAsk d none (fun r h' => r = some ((l.length : Int) - (lg l).length) ∧ SS h h' ∧ FX h h' (inP p) ∧ PK h' p (lg l) ∧ SL h' p (lg l) sl) 4 [some (.inr (some p)), some (.inl ((lg (l.take j)).length : Int)), some (.inl (j : Int)), none] [] h1 (0, 0) := by
    intro n
    induction n with
    | zero =>
      intro j h1 hin s f hk hr
      have e6 : hi h1 p 6 = l.length := by rw [f.at (fun q => by have := q.1; omega)]; exact h6
      have hj := lgl j
      have ht : l.take j = l := List.take_of_length_le (by omega)
      rw [ht] at hk hj ⊢
      refine vc_X1_passAsk_4 hd (hL.ss s) ⟨fun c => ⟨⟨by omega, by omega⟩, by congr 1; omega, s.up, (f.wk (S' := inP p) (fun j q => ⟨by have := q.1; omega, by have := q.2; omega⟩)).up ⟨by omega, by omega⟩, ⟨by rw [hi_up, if_pos ⟨rfl, rfl⟩], fun i c hc => ?_, a.2.2.lg⟩, fun i c hc => ?_⟩, fun c => by omega⟩
      · have := (hk i c hc).1
        unfold A4
        simp only [hi_up]
        rw [if_neg (by omega), if_neg (by omega), if_neg (by omega), if_neg (by omega)]
        exact this
      · rw [hi_up, if_neg (by omega)]
        exact (hk i c hc).2
    | succ n ih =>
      intro j h1 hin s f hk hr
      have e6 : hi h1 p 6 = l.length := by rw [f.at (fun q => by have := q.1; omega)]; exact h6
      have hj := lgl j
      obtain ⟨e, he⟩ := get_ex (l := l) (i := j) (by omega)
      obtain ⟨hA, hsl⟩ := hr j e he (Nat.le_refl _)
      have hw := a.2.2.w1 he
      have hwb := hw.2.2
      have hlv := hA.2.2.1
      have ls := lgs he
      -- a card e' stands at place j and is kept
      have keep : ∀ (h2 : AH) (e' : Cd), lg1 e = some e' → SS h h2 → FX h h2 (inA p) → A4 h2 p j e' → hi h2 (p + 4) j = sl e'.1 → (∀ (i : Nat) (c : Cd), (lg (l.take j))[i]? = some c → A4 h2 p i c ∧ hi h2 (p + 4) i = sl c.1) → (∀ (i : Nat) (c : Cd), l[i]? = some c → j + 1 ≤ i → A4 h2 p i c ∧ hi h2 (p + 4) i = sl c.1) →
          ((j : Int) ≤ (lg (l.take j)).length → AW m_X1_passAsk d none (fun r h' => r = some ((l.length : Int) - (lg l).length) ∧ SS h h' ∧ FX h h' (inP p) ∧ PK h' p (lg l) ∧ SL h' p (lg l) sl) 4 [some (.inr (some p)), some (.inl (((lg (l.take j)).length : Int) + 1)), some (.inl ((j : Int) + 1)), none] [] h2 (0, 0)) ∧
          (¬ (j : Int) ≤ (lg (l.take j)).length → AM (d - 1) m_X1_moveCard [.inr (some p), .inl (j : Int), .inl ((lg (l.take j)).length : Int)] h2 (fun r h3 => r = none ∧ SS h2 h3 ∧ rg (((lg (l.take j)).length : Int) + 1) ∧ rg ((j : Int) + 1) ∧
            AW m_X1_passAsk d none (fun r h' => r = some ((l.length : Int) - (lg l).length) ∧ SS h h' ∧ FX h h' (inP p) ∧ PK h' p (lg l) ∧ SL h' p (lg l) sl) 4 [some (.inr (some p)), some (.inl (((lg (l.take j)).length : Int) + 1)), some (.inl ((j : Int) + 1)), none] [] h3 (0, 0))) := by
        intro h2 e' hl1 s2 f2 hA2 hs2 hk2 hr2
        rw [hl1] at ls
        have ls' : lg (l.take (j + 1)) = lg (l.take j) ++ [e'] := ls
        have hlen : ((lg (l.take (j + 1))).length : Int) = ((lg (l.take j)).length : Int) + 1 := by rw [ls', List.length_append]; rfl
        have gt : ∀ (i : Nat) (c : Cd), (lg (l.take (j + 1)))[i]? = some c → (i < (lg (l.take j)).length ∧ (lg (l.take j))[i]? = some c) ∨ (i = (lg (l.take j)).length ∧ c = e') := by
          intro i c hc
          rw [ls'] at hc
          by_cases q : i < (lg (l.take j)).length
          · rw [List.getElem?_append_left q] at hc
            exact Or.inl ⟨q, hc⟩
          · rw [List.getElem?_append_right (by omega)] at hc
            have hz : i - (lg (l.take j)).length < 1 := lt_len hc
            rw [show i - (lg (l.take j)).length = 0 by omega] at hc
            cases hc
            exact Or.inr ⟨by omega, rfl⟩
        refine ⟨fun c => ?_, fun c => ?_⟩
        · have ejk : (lg (l.take j)).length = j := by omega
          have := ih (j + 1) h2 (by omega) s2 f2 (fun i c hc => ?_) (fun i c hc hi' => hr2 i c hc hi')
          · rw [hlen] at this
            exact this
          · rcases gt i c hc with ⟨-, q⟩ | ⟨q, rfl⟩
            · exact hk2 i c q
            · rw [q, ejk]
              exact ⟨hA2, hs2⟩
        · refine am_mono (c_moveCard (hL.ss s2) (by omega) (by omega) (by rw [hA2.2.1]; exact (((lg1_name hl1).2.2.2) hw).2.1)) (fun r h' _ _ q => ?_)
          obtain ⟨rfl, rfl⟩ := q
          have := ih (j + 1) (mv h2 p j (lg (l.take j)).length) (by omega) (s2.tr SS.mv) (f2.tr mv_fxA) (fun i c hc => ?_) (fun i c hc hi' => ?_)
          · rw [hlen] at this
            exact ⟨rfl, SS.mv, ⟨by omega, by omega⟩, ⟨by omega, by omega⟩, this⟩
          · rcases gt i c hc with ⟨q0, q⟩ | ⟨q, rfl⟩
            · refine ⟨A4.mv ?_, ?_⟩
              · rw [if_neg (by omega)]
                exact (hk2 i c q).1
              · rw [hi_mv, if_neg (by omega)]
                exact (hk2 i c q).2
            · refine ⟨A4.mv ?_, ?_⟩
              · rw [if_pos (by omega)]
                exact hA2
              · rw [hi_mv, if_pos ⟨by omega, by omega⟩]
                exact hs2
          · refine ⟨A4.mv ?_, ?_⟩
            · rw [if_neg (by omega)]
              exact (hr2 i c hc hi').1
            · rw [hi_mv, if_neg (by omega)]
              exact (hr2 i c hc hi').2
      have hupA : ∀ (v : Int) (i : Nat) (c : Cd), (i : Int) ≠ j → A4 h1 p i c → A4 (up h1 (p + 2) j v) p i c := by
        intro v i c hne hA'
        unfold A4
        simp only [hi_up]
        rw [if_neg (by omega), if_neg (by omega), if_neg (fun q => hne q.2), if_neg (by omega)]
        exact hA'
      have hkj : ∀ (i : Nat) (c : Cd), (lg (l.take j))[i]? = some c → (i : Int) ≠ j := fun i c hc => by have := lt_len hc; omega
      refine vc_X1_passAsk_4 hd (hL.ss s) ⟨fun c => by omega, fun c => ⟨fun c2 => by omega, fun c2 => ⟨by omega, fun c3 => ?_, fun c3 => ⟨⟨by omega, by omega⟩, fun c4 => ?_, fun c4 => ?_⟩⟩⟩⟩
      · have hl1 : lg1 e = some e := by unfold lg1; rw [if_neg (by omega)]
        obtain ⟨k1, k2⟩ := keep h1 e hl1 s f hA hsl hk (fun i c hc hi' => hr i c hc (by omega))
        exact ⟨fun q => ⟨⟨by omega, by omega⟩, ⟨by omega, by omega⟩, k1 q⟩, k2⟩
      · have hl1 : lg1 e = none := by unfold lg1; rw [if_pos (by omega), if_pos (by omega)]
        rw [hl1] at ls
        have ls' : lg (l.take (j + 1)) = lg (l.take j) := by rw [ls]; simp
        have := ih (j + 1) (up h1 (p + 2) j (hi h1 (p + 2) j - 1)) (by omega) s.up (f.up ⟨by omega, by omega⟩) (fun i c hc => ?_) (fun i c hc hi' => ?_)
        · rw [ls'] at this
          exact ⟨⟨by omega, by omega⟩, this⟩
        · rw [ls'] at hc
          refine ⟨hupA _ i c (hkj i c hc) (hk i c hc).1, ?_⟩
          rw [hi_up, if_neg (by omega)]
          exact (hk i c hc).2
        · refine ⟨hupA _ i c (by omega) (hr i c hc (by omega)).1, ?_⟩
          rw [hi_up, if_neg (by omega)]
          exact (hr i c hc (by omega)).2
      · have hl1 : lg1 e = some (e.1, e.2.1, e.2.2.1 - 1, e.2.2.2) := by unfold lg1; rw [if_pos (by omega), if_neg (by omega)]
        have hA2 : A4 (up h1 (p + 2) j (hi h1 (p + 2) j - 1)) p j (e.1, e.2.1, e.2.2.1 - 1, e.2.2.2) := by
          unfold A4
          simp only [hi_up]
          rw [if_neg (by omega), if_neg (by omega), if_pos (by simp), if_neg (by omega)]
          exact ⟨hA.1, hA.2.1, by rw [hlv], hA.2.2.2⟩
        obtain ⟨k1, k2⟩ := keep (up h1 (p + 2) j (hi h1 (p + 2) j - 1)) _ hl1 s.up (f.up ⟨by omega, by omega⟩) hA2 (by rw [hi_up, if_neg (by omega)]; exact hsl)
          (fun i c hc => ⟨hupA _ i c (hkj i c hc) (hk i c hc).1, by rw [hi_up, if_neg (by omega)]; exact (hk i c hc).2⟩)
          (fun i c hc hi' => ⟨hupA _ i c (by omega) (hr i c hc (by omega)).1, by rw [hi_up, if_neg (by omega)]; exact (hr i c hc (by omega)).2⟩)
        exact ⟨fun q => ⟨⟨by omega, by omega⟩, ⟨by omega, by omega⟩, k1 q⟩, k2⟩
  have := loop l.length 0 h (by omega) SS.rf FX.rf (fun i c hc => by simp [lg] at hc) (fun i c hc _ => ⟨a.2.1 i c hc, b i c hc⟩)
  exact vc_X1_passAsk hd hL this
end P4
