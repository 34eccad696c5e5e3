/-! the text: an order read -/
abbrev Od : Type := Int × Int
def numO (k : Int) (o : Option (Int × Int)) (p : Int) : Option Od × Int := match o with
  | none => (none, p)
  | some (n, q) => (some (k, n), q)
def ordP (tx : List Int) (p : Int) : Option Od × Int :=
  if chr tx p = 43 ∨ chr tx p = 45 ∨ chr tx p = 122 then numO (chr tx p) (numP tx 0 255 (p + 1)) (p + 1)
  else if chr tx p = 102 then numO (chr tx p) (numP tx 1 64 (p + 1)) (p + 1)
  else if chr tx p = 119 ∨ chr tx p = 118 ∨ chr tx p = 97 then (some (chr tx p, 0), p + 1)
  else (none, p)
def RN (h : AH) (t : Nat) (o : Option (Int × Int)) (r : Option Int) (h' : AH) : Prop := (o = none → r = some 0 ∧ h' = h) ∧ ∀ n q, o = some (n, q) → r = some 1 ∧ h' = up (up h t 6 n) t 5 q
def OK (h : AH) (t : Nat) (os : List Od) : Prop := hi h t 4 = os.length ∧ os.length ≤ 30 ∧ ∀ (i : Nat) (o : Od), os[i]? = some o → hi h (t + 2) i = o.1 ∧ hi h (t + 3) i = o.2
def app (os : List Od) (o : Option Od) : List Od := match o with
  | none => os
  | some o => if os.length < 30 then os ++ [o] else os
theorem numL_b {tx : List Int} {most least : Int} (hm : 9 ≤ most) : ∀ (k : Nat) (n p : Int), 0 ≤ n → least ≤ n → n ≤ most → 0 ≤ p → p ≤ tx.length → least ≤ (numL tx most k n p).1 ∧ (numL tx most k n p).1 ≤ most ∧ p ≤ (numL tx most k n p).2 ∧ (numL tx most k n p).2 ≤ tx.length := by
  intro k
  induction k with
  | zero => intro n p h0 h1 h2 h3 h4; exact ⟨h1, h2, Int.le_refl _, h4⟩
  | succ k ih =>
    intro n p h0 h1 h2 h3 h4
    simp only [numL]
    split
    · exact ⟨h1, h2, Int.le_refl _, h4⟩
    · have pin := dig_in (tx := tx) (x := p) (by omega)
      have := ih (10 * n + dig tx p) (p + 1) (by omega) (by omega) (by omega) (by omega) (by omega)
      omega
theorem numP_b {tx : List Int} {least most p n q : Int} (hm : 9 ≤ most) (hl : 0 ≤ least) (e : numP tx least most p = some (n, q)) : least ≤ n ∧ n ≤ most ∧ p < q ∧ q ≤ tx.length := by
  unfold numP at e
  by_cases c : dig tx p < 0 ∨ dig tx p < least
  · rw [if_pos c] at e; cases e
  · rw [if_neg c] at e
    have dl := dig_le (tx := tx) (x := p)
    have pin := dig_in (tx := tx) (x := p) (by omega)
    have b := numL_b (tx := tx) (least := least) hm 2 (dig tx p) (p + 1) (by omega) (by omega) (by omega) (by omega) (by omega)
    have e' := Option.some.inj e
    rw [e'] at b
    simp only at b
    omega
section ORD
variable {d t : Nat} {h : AH} {tx : List Int} {os : List Od}
theorem up_65 {h : AH} {u v x y : Int} : up (up (up (up h t 6 x) t 5 y) t 6 u) t 5 v = up (up h t 6 u) t 5 v := by
  refine ah_ext rfl rfl rfl ?_
  funext j m
  show (if j = t ∧ m = 5 then v else if j = t ∧ m = 6 then u else if j = t ∧ m = 5 then y else if j = t ∧ m = 6 then x else h.2.2.2 j m) = (if j = t ∧ m = 5 then v else if j = t ∧ m = 6 then u else h.2.2.2 j m)
  by_cases g1 : j = t ∧ m = 5
  · simp only [if_pos g1]
  · by_cases g2 : j = t ∧ m = 6
    · simp only [if_neg g1, if_pos g2]
    · simp only [if_neg g1, if_neg g2]
theorem c_readNumber {x1 x2 : Int} (hd : 3 ≤ d) (hL : QX h t) (a : TXK h t tx) (h1 : 0 ≤ x1) (hm : 9 ≤ x2) (h2 : x2 ≤ 255) (p1 : 0 ≤ hi h t 5) (p2 : hi h t 5 ≤ 60) : AM d m_X4_readNumber [.inr (some t), .inl x1, .inl x2] h (RN h t (numP tx x1 x2 (hi h t 5))) := by
  refine vc_X4_readNumber (by omega) hL (am_mono (c_digitAt (x := hi h t 5) (by omega) hL a) (fun r h1 _ _ z => ?_))
  obtain ⟨rfl, rfl⟩ := z
  have dl := dig_le (tx := tx) (x := hi h1 t 5)
  have no : dig tx (hi h1 t 5) < 0 ∨ dig tx (hi h1 t 5) < x1 → RN h1 t (numP tx x1 x2 (hi h1 t 5)) (some 0) h1 := fun c => by
    unfold numP
    rw [if_pos c]
    exact ⟨fun _ => ⟨rfl, rfl⟩, fun n q e => by cases e⟩
  refine ⟨_, rfl, SS.rf, fun c => no (Or.inl c), fun c => ⟨fun c2 => ?_, fun c2 => no (Or.inr (by omega))⟩⟩
  have pin := dig_in (tx := tx) (x := hi h1 t 5) (by omega)
  have tl := a.2.1
  refine ⟨by unfold rg; omega, ?_⟩
  have r6 : hi (up (up h1 t 6 (dig tx (hi h1 t 5))) t 5 (hi h1 t 5 + 1)) t 6 = dig tx (hi h1 t 5) := by rw [hi_up, if_neg (fun z => absurd z.2 (by decide)), hi_up, if_pos ⟨rfl, rfl⟩]
  have r5 : hi (up (up h1 t 6 (dig tx (hi h1 t 5))) t 5 (hi h1 t 5 + 1)) t 5 = hi h1 t 5 + 1 := by rw [hi_up, if_pos ⟨rfl, rfl⟩]
  refine c_numL (tx := tx) (by omega) h2 2 1 _ _ (by omega) (by omega) (hL.ss SS.rf.up.up) ((a.reg (by decide)).reg (by decide)) (by rw [r6]; omega) (by rw [r6]; omega) (by rw [r5]; omega) (by rw [r5]; omega) ?_
  rw [r6, r5, up_65]
  unfold numP
  rw [if_neg (by omega)]
  refine ⟨fun e => (by cases e), fun n q e => ?_⟩
  have e' := Option.some.inj e
  rw [e']
  exact ⟨rfl, rfl⟩
theorem OK.reg {k v : Int} (a : OK h t os) (hk : k ≠ 4) : OK (up h t k v) t os := ⟨by rw [hi_up, if_neg (fun z => hk z.2.symm)]; exact a.1, a.2.1, fun i u hu => by rw [up_ne (by omega), up_ne (by omega)]; exact a.2.2 i u hu⟩
/-- what is left behind a read order -/
def RO (h : AH) (t : Nat) (tx : List Int) (os : List Od) (r : Option Od × Int) (x : Option Int) (h' : AH) : Prop := x = some (if r.1.isSome then 1 else 0) ∧ SS h h' ∧ FX h h' (inX t) ∧ TXK h' t tx ∧ hi h' t 5 = r.2 ∧ OK h' t (app os r.1)
theorem st_ok {h2 : AH} {kd n q o : Int} (s2 : SS h h2) (f2 : FX h h2 (inX t)) (a : TXK h2 t tx) (b : OK h2 t os) (ho : o = hi h2 t 4) (hq : hi h2 t 5 = q) (hlt : os.length < 30) :
    RO h t tx os (some (kd, n), q) (some 1) (up (up (up h2 (t + 2) o kd) (t + 3) o n) t 4 (o + 1)) := by
  have hl : (os ++ [(kd, n)]).length = os.length + 1 := by simp
  subst ho
  refine ⟨rfl, s2.tr SS.rf.up.up.up, f2.tr (((FX.rf.up ⟨by omega, by omega⟩).up ⟨by omega, by omega⟩).up ⟨by omega, by omega⟩), ?_, ?_, ?_⟩
  · exact TXK.reg (a.same (by rw [up_ne (by omega), up_ne (by omega)]) (by rw [up_ne (by omega), up_ne (by omega)])) (by decide)
  · rw [hi_up, if_neg (fun z => absurd z.2 (by decide)), up_ne (by omega), up_ne (by omega)]
    exact hq
  · unfold app
    simp only
    rw [if_pos hlt]
    refine ⟨by rw [hi_up, if_pos ⟨rfl, rfl⟩, b.1, hl]; rfl, by omega, fun i u hu => ?_⟩
    have hi2 := lt_len hu
    by_cases c : i < os.length
    · rw [List.getElem?_append_left c] at hu
      have := b.2.2 i u hu
      have b1 := b.1
      refine ⟨?_, ?_⟩
      · rw [up_ne (by omega), up_ne (by omega), hi_up, if_neg (by omega)]
        exact this.1
      · rw [up_ne (by omega), hi_up, if_neg (by omega), up_ne (by omega)]
        exact this.2
    · have hk2 : i = os.length := by omega
      subst hk2
      rw [List.getElem?_append_right (by omega), Nat.sub_self] at hu
      cases hu
      have b1 := b.1
      refine ⟨?_, ?_⟩
      · rw [up_ne (by omega), up_ne (by omega), hi_up, if_pos ⟨rfl, by omega⟩]
      · rw [up_ne (by omega), hi_up, if_pos ⟨rfl, by omega⟩]
end ORD
