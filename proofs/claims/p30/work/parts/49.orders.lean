/-! the text: all orders read; letters typed -/
def allP (tx : List Int) : Nat → Int → List Od → Int × List Od
  | 0, p, os => (p, os)
  | k + 1, p, os => if (ordP tx p).1.isSome then (if (tx.length : Int) ≤ (ordP tx p).2 then (-1, app os (ordP tx p).1) else if chr tx (ordP tx p).2 = 59 then allP tx k ((ordP tx p).2 + 1) (app os (ordP tx p).1) else ((ordP tx p).2, app os (ordP tx p).1)) else ((ordP tx p).2, app os (ordP tx p).1)
/-- an order as the text may hold it -/
def okO (o : Od) : Prop := 0 ≤ o.2 ∧ o.2 ≤ 255 ∧ (o.1 = 102 → 1 ≤ o.2 ∧ o.2 ≤ 64) ∧ (o.1 = 43 ∨ o.1 = 45 ∨ o.1 = 122 ∨ o.1 = 102 ∨ o.1 = 119 ∨ o.1 = 118 ∨ o.1 = 97)
theorem numO_b {k p : Int} {tx : List Int} {x1 x2 : Int} (h1 : 0 ≤ x1) (h2 : 9 ≤ x2) : p ≤ (numO k (numP tx x1 x2 p) p).2 ∧ ∀ o, (numO k (numP tx x1 x2 p) p).1 = some o → o.1 = k ∧ x1 ≤ o.2 ∧ o.2 ≤ x2 := by
  cases e : numP tx x1 x2 p with
  | none => exact ⟨Int.le_refl _, fun o ho => by cases ho⟩
  | some nq =>
    obtain ⟨n, q⟩ := nq
    have := numP_b h2 h1 e
    refine ⟨?_, fun o ho => ?_⟩
    · show p ≤ q
      omega
    · have e2 : some (k, n) = some o := ho
      cases e2
      exact ⟨rfl, this.1, this.2.1⟩
theorem ordP_b {tx : List Int} {p : Int} : p ≤ (ordP tx p).2 ∧ ∀ o, (ordP tx p).1 = some o → okO o := by
  unfold ordP
  by_cases c : chr tx p = 43 ∨ chr tx p = 45 ∨ chr tx p = 122
  · rw [if_pos c]
    have := numO_b (k := chr tx p) (p := p + 1) (tx := tx) (x1 := 0) (x2 := 255) (by omega) (by omega)
    refine ⟨by omega, fun o ho => ?_⟩
    have := this.2 o ho
    exact ⟨by omega, by omega, fun z => by omega, by omega⟩
  · rw [if_neg c]
    by_cases c2 : chr tx p = 102
    · rw [if_pos c2]
      have := numO_b (k := chr tx p) (p := p + 1) (tx := tx) (x1 := 1) (x2 := 64) (by omega) (by omega)
      refine ⟨by omega, fun o ho => ?_⟩
      have := this.2 o ho
      exact ⟨by omega, by omega, fun z => by omega, by omega⟩
    · rw [if_neg c2]
      by_cases c3 : chr tx p = 119 ∨ chr tx p = 118 ∨ chr tx p = 97
      · rw [if_pos c3]
        refine ⟨by show p ≤ p + 1; omega, fun o ho => ?_⟩
        cases ho
        exact ⟨Int.le_refl 0, (by decide : (0 : Int) ≤ 255), fun z => absurd z c2, by show chr tx p = 43 ∨ _; omega⟩
      · rw [if_neg c3]
        exact ⟨Int.le_refl _, fun o ho => by cases ho⟩
theorem allP_ok {tx : List Int} : ∀ (k : Nat) (p : Int) (os : List Od), (∀ o ∈ os, okO o) → ∀ o ∈ (allP tx k p os).2, okO o := by
  intro k
  induction k with
  | zero => intro p os h; exact h
  | succ k ih =>
    intro p os h
    have hb := (ordP_b (tx := tx) (p := p)).2
    have h2 : ∀ o ∈ app os (ordP tx p).1, okO o := by
      cases e : (ordP tx p).1 with
      | none => exact h
      | some v =>
        intro o ho
        unfold app at ho
        simp only at ho
        split at ho
        · rcases List.mem_append.mp ho with g | g
          · exact h o g
          · have := List.mem_singleton.mp g
            subst this
            exact hb _ e
        · exact h o ho
    simp only [allP]
    split
    · split
      · exact h2
      · split
        · exact ih _ _ h2
        · exact h2
    · exact h2
section ORDS
variable {d t : Nat} {h : AH} {tx : List Int} {os : List Od}
theorem c_rdLoop (hd : 5 ≤ d) : ∀ (k : Nat) (x1 : Int) (h0 : AH) (os : List Od) (Q : Option Int → AH → Prop), (k : Int) = 31 - x1 → 0 ≤ x1 → QX h0 t → TXK h0 t tx → OK h0 t os → 0 ≤ hi h0 t 5 → hi h0 t 5 ≤ 60 →
    (∀ h', SS h0 h' → FX h0 h' (inX t) → TXK h' t tx → OK h' t (allP tx k (hi h0 t 5) os).2 → Q (some (allP tx k (hi h0 t 5) os).1) h') →
    AW m_X4_readOrders d none Q 12 [some (.inr (some t)), some (.inl x1)] [] h0 (0, 0) := by
  intro k
  induction k with
  | zero =>
    intro x1 h0 os Q hk h1 hL a b p1 p2 q
    exact vc_X4_readOrders_12 (by omega) hL ⟨fun c => q h0 SS.rf FX.rf a b, fun c => by omega⟩
  | succ k ih =>
    intro x1 h0 os Q hk h1 hL a b p1 p2 q
    refine vc_X4_readOrders_12 (by omega) hL ⟨fun c => by omega, fun c => am_mono (c_readOrder (by omega) hL a b p1 p2) (fun r h2 _ _ z => ?_)⟩
    obtain ⟨rfl, s2, f2, a2, e5, b2⟩ := z
    have hb := (ordP_b (tx := tx) (p := hi h0 t 5)).1
    generalize hp : hi h0 t 5 = p at *
    simp only [allP] at q
    refine ⟨_, rfl, s2, fun c1 => ?_, fun c1 => ?_⟩
    · have hs : (ordP tx p).1.isSome = true := by
        cases e : (ordP tx p).1.isSome with
        | true => rfl
        | false => rw [e] at c1; exact absurd rfl c1
      rw [if_pos hs] at q
      refine ⟨fun c2 => ?_, fun c2 => ?_⟩
      · rw [a2.1, e5] at c2
        rw [if_neg (by omega)] at q
        refine am_mono (c_characterAt (x := hi h2 t 5) (hL.ss s2) a2) (fun r h6 _ _ z => ?_)
        obtain ⟨rfl, rfl⟩ := z
        have tl := a2.2.1
        refine ⟨_, rfl, SS.rf, fun c3 => ?_, fun c3 => ?_⟩
        · rw [e5] at c3 ⊢
          rw [if_pos c3] at q
          refine ⟨by unfold rg; omega, by unfold rg; omega, ?_⟩
          have r5 : hi (up h6 t 5 ((ordP tx p).2 + 1)) t 5 = (ordP tx p).2 + 1 := by rw [hi_up, if_pos ⟨rfl, rfl⟩]
          refine ih (x1 + 1) _ (app os (ordP tx p).1) Q (by omega) (by omega) ((hL.ss s2).ss SS.rf.up) (a2.reg (by decide)) (b2.reg (by decide)) (by rw [r5]; omega) (by rw [r5]; omega) (fun h' s' f' a' b' => ?_)
          rw [r5] at b' ⊢
          exact q h' (s2.tr (SS.rf.up.tr s')) (f2.tr ((FX.rf.up ⟨by omega, by omega⟩).tr f')) a' b'
        · rw [e5] at c3 ⊢
          rw [if_neg c3] at q
          exact q h6 s2 f2 a2 b2
      · rw [a2.1, e5] at c2
        rw [if_pos (by omega)] at q
        exact q h2 s2 f2 a2 b2
    · have hs : ¬ (ordP tx p).1.isSome = true := fun e => by
        rw [if_pos e] at c1
        exact c1 (by decide)
      rw [if_neg hs] at q
      rw [e5]
      exact q h2 s2 f2 a2 b2
theorem c_readOrders (hd : 6 ≤ d) (hL : QX h t) (a : TXK h t tx) : AM d m_X4_readOrders [.inr (some t)] h (fun r h' => r = some (allP tx 31 0 []).1 ∧ SS h h' ∧ FX h h' (inX t) ∧ TXK h' t tx ∧ OK h' t (allP tx 31 0 []).2) := by
  refine vc_X4_readOrders (by omega) hL ?_
  have r5 : hi (up (up h t 4 0) t 5 0) t 5 = 0 := by rw [hi_up, if_pos ⟨rfl, rfl⟩]
  have b0 : OK (up (up h t 4 0) t 5 0) t [] := OK.reg ⟨by rw [hi_up, if_pos ⟨rfl, rfl⟩]; rfl, by decide, fun i o ho => by cases ho⟩ (by decide)
  refine c_rdLoop (by omega) 31 0 _ [] _ (by omega) (by omega) (hL.ss SS.rf.up.up) ((a.reg (by decide)).reg (by decide)) b0 (by rw [r5]; omega) (by rw [r5]; omega) (fun h' s' f' a' b' => ?_)
  rw [r5] at b' ⊢
  exact ⟨rfl, SS.rf.up.up.tr s', ((FX.rf.up ⟨by omega, by omega⟩).up ⟨by omega, by omega⟩).tr f', a', b'⟩
theorem c_kindAt {i : Nat} {o : Od} (hL : QX h t) (b : OK h t os) (ho : os[i]? = some o) (hr2 : 0 ≤ o.1 ∧ o.1 < 65536) : AM d m_X4_kindAt [.inr (some t), .inl (i : Int)] h (fun r h' => r = some o.1 ∧ h' = h) := by
  have hl := lt_len ho
  have b2 := b.2.1
  have e := b.2.2 i o ho
  exact vc_X4_kindAt hL ⟨fun c => by omega, fun c => ⟨fun c2 => by omega, fun c2 => ⟨⟨by omega, by omega⟩, by rw [e.1]; exact hr2, by rw [e.1], rfl⟩⟩⟩
theorem c_numberAt {i : Nat} {o : Od} (hL : QX h t) (b : OK h t os) (ho : os[i]? = some o) : AM d m_X4_numberAt [.inr (some t), .inl (i : Int)] h (fun r h' => r = some o.2 ∧ h' = h) := by
  have hl := lt_len ho
  have b2 := b.2.1
  have e := b.2.2 i o ho
  exact vc_X4_numberAt hL ⟨fun c => by omega, fun c => ⟨fun c2 => by omega, fun c2 => ⟨⟨by omega, by omega⟩, by rw [e.2], rfl⟩⟩⟩
def typeO (x : Int) (tx : List Int) : Int × List Int := if tx.length < 60 then ((tx.length : Int) + 1, tx ++ [x]) else (-3, tx)
theorem c_empty (hL : QX h t) (a : TXK h t tx) : AM d m_X4_empty [.inr (some t)] h (fun r h' => r = some (tx.length : Int) ∧ SS h h' ∧ FX h h' (inX t) ∧ TXK h' t []) := by
  refine vc_X4_empty hL ⟨by rw [a.1], SS.rf.up, FX.rf.up ⟨by omega, by omega⟩, ?_, by decide, fun i v hv => by cases hv⟩
  rw [hi_up, if_pos ⟨rfl, rfl⟩]
  rfl
end ORDS
