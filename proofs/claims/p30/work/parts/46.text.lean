/-! the text: characters, digits, numbers -/
def chr (tx : List Int) (i : Int) : Int := if i < 0 then 0 else tx.getD i.toNat 0
def dig (tx : List Int) (i : Int) : Int := if chr tx i < 48 ∨ 57 < chr tx i then -1 else chr tx i - 48
def numL (tx : List Int) (most : Int) : Nat → Int → Int → Int × Int
  | 0, n, p => (n, p)
  | k + 1, n, p => if dig tx p < 0 ∨ n = 0 ∨ most < 10 * n + dig tx p then (n, p) else numL tx most k (10 * n + dig tx p) (p + 1)
def numP (tx : List Int) (least most p : Int) : Option (Int × Int) := if dig tx p < 0 ∨ dig tx p < least then none else some (numL tx most 2 (dig tx p) (p + 1))
def TXK (h : AH) (t : Nat) (tx : List Int) : Prop := hi h t 1 = tx.length ∧ tx.length ≤ 60 ∧ ∀ (i : Nat) (v : Int), tx[i]? = some v → hi h (t + 1) i = v ∧ 0 ≤ v ∧ v < 65536
theorem chr_out {tx : List Int} {x : Int} (h : x < 0 ∨ (tx.length : Int) ≤ x) : chr tx x = 0 := by
  unfold chr
  split
  · rfl
  · rw [List.getD_eq_getElem?_getD, List.getElem?_eq_none (by omega)]
    rfl
theorem chr_in {tx : List Int} {x : Int} (h0 : 0 ≤ x) (h1 : x < tx.length) : tx[x.toNat]? = some (chr tx x) := by
  unfold chr
  rw [if_neg (by omega), List.getD_eq_getElem?_getD, List.getElem?_eq_getElem (by omega)]
  rfl
theorem dig_le {tx : List Int} {x : Int} : -1 ≤ dig tx x ∧ dig tx x ≤ 9 := by
  unfold dig
  split
  · omega
  · omega
theorem dig_in {tx : List Int} {x : Int} (h : 0 ≤ dig tx x) : 0 ≤ x ∧ x < tx.length := by
  by_cases c : x < 0 ∨ (tx.length : Int) ≤ x
  · have e := chr_out c
    unfold dig at h
    rw [e, if_pos (by omega)] at h
    omega
  · omega
theorem ah_ext {h h' : AH} (e1 : h'.1 = h.1) (e2 : h'.2.1 = h.2.1) (e3 : h'.2.2.1 = h.2.2.1) (e4 : h'.2.2.2 = h.2.2.2) : h' = h := Prod.ext e1 (Prod.ext e2 (Prod.ext e3 e4))
theorem up_id {h : AH} {j : Nat} {k : Int} : up h j k (hi h j k) = h := by
  refine ah_ext rfl rfl rfl ?_
  funext a b
  show (if a = j ∧ b = k then hi h j k else h.2.2.2 a b) = h.2.2.2 a b
  split
  · next c => rw [c.1, c.2]; rfl
  · rfl
section TEXT
variable {d t : Nat} {h : AH} {tx : List Int}
theorem TXK.reg {k v : Int} (a : TXK h t tx) (hk : k ≠ 1) : TXK (up h t k v) t tx := ⟨by rw [hi_up, if_neg (fun z => hk z.2.symm)]; exact a.1, a.2.1, fun i u hu => by rw [up_ne (by omega)]; exact a.2.2 i u hu⟩
theorem TXK.same {h' : AH} (a : TXK h t tx) (e : hi h' t = hi h t) (e1 : hi h' (t + 1) = hi h (t + 1)) : TXK h' t tx := ⟨by rw [e]; exact a.1, a.2.1, fun i u hu => by rw [e1]; exact a.2.2 i u hu⟩
theorem c_characterAt {x : Int} (hL : QX h t) (a : TXK h t tx) : AM d m_X4_characterAt [.inr (some t), .inl x] h (fun r h' => r = some (chr tx x) ∧ h' = h) := by
  obtain ⟨a1, a2, a3⟩ := id a
  refine vc_X4_characterAt hL ⟨fun c => ⟨by rw [chr_out (Or.inl c)], rfl⟩, fun c => ⟨fun c2 => ⟨by rw [chr_out (Or.inr (by omega))], rfl⟩, fun c2 => ⟨fun c3 => by omega, fun c3 => ?_⟩⟩⟩
  have e := a3 _ _ (chr_in (tx := tx) (x := x) (by omega) (by omega))
  have ex : ((x.toNat : Nat) : Int) = x := by omega
  rw [ex] at e
  exact ⟨⟨by omega, by omega⟩, ⟨by omega, by omega⟩, by rw [e.1], rfl⟩
theorem c_digitAt {x : Int} (hd : 1 ≤ d) (hL : QX h t) (a : TXK h t tx) : AM d m_X4_digitAt [.inr (some t), .inl x] h (fun r h' => r = some (dig tx x) ∧ h' = h) := by
  refine vc_X4_digitAt hd hL (am_mono (c_characterAt hL a) (fun r h1 _ _ z => ?_))
  obtain ⟨rfl, rfl⟩ := z
  refine ⟨_, rfl, SS.rf, fun c => ⟨?_, rfl⟩, fun c => ⟨fun c2 => ⟨?_, rfl⟩, fun c2 => ⟨by unfold rg; omega, ?_, rfl⟩⟩⟩
  · unfold dig; rw [if_pos (Or.inl c)]
  · unfold dig; rw [if_pos (Or.inr c2)]
  · unfold dig; rw [if_neg (by omega)]
def inX (t : Nat) : Nat → Prop := fun j => t ≤ j ∧ j < t + 4
theorem c_numL {x1 x2 x3 : Int} (hd : 2 ≤ d) (h2 : x2 ≤ 255) : ∀ (k : Nat) (x4 : Int) (h0 : AH) (Q : Option Int → AH → Prop), (k : Int) = 3 - x4 → 0 ≤ x4 → QX h0 t → TXK h0 t tx → 0 ≤ hi h0 t 6 → hi h0 t 6 ≤ 255 → 0 ≤ hi h0 t 5 → hi h0 t 5 ≤ 60 →
    Q (some 1) (up (up h0 t 6 (numL tx x2 k (hi h0 t 6) (hi h0 t 5)).1) t 5 (numL tx x2 k (hi h0 t 6) (hi h0 t 5)).2) →
    AW m_X4_readNumber d none Q 38 [some (.inr (some t)), some (.inl x1), some (.inl x2), some (.inl x3), some (.inl x4), none] [] h0 (0, 0) := by
  intro k
  induction k with
  | zero =>
    intro x4 h0 Q hk h4 hL a b1 b2 p1 p2 q
    refine vc_X4_readNumber_38 (by omega) hL ⟨fun c => ?_, fun c => by omega⟩
    have e : up (up h0 t 6 (hi h0 t 6)) t 5 (hi h0 t 5) = h0 := by rw [up_id, up_id]
    simp only [numL] at q
    rw [e] at q
    exact q
  | succ k ih =>
    intro x4 h0 Q hk h4 hL a b1 b2 p1 p2 q
    refine vc_X4_readNumber_38 (by omega) hL ⟨fun c => by omega, fun c => am_mono (c_digitAt (x := hi h0 t 5) (by omega) hL a) (fun r h7 _ _ z => ?_)⟩
    obtain ⟨rfl, rfl⟩ := z
    have e : up (up h7 t 6 (hi h7 t 6)) t 5 (hi h7 t 5) = h7 := by rw [up_id, up_id]
    have dl := dig_le (tx := tx) (x := hi h7 t 5)
    have stop : (dig tx (hi h7 t 5) < 0 ∨ hi h7 t 6 = 0 ∨ x2 < 10 * hi h7 t 6 + dig tx (hi h7 t 5)) → Q (some 1) h7 := fun c => by
      simp only [numL] at q
      rw [if_pos c, e] at q
      exact q
    refine ⟨_, rfl, SS.rf, fun c1 => stop (Or.inl c1), fun c1 => ⟨fun c2 => stop (Or.inr (Or.inl c2)), fun c2 => ⟨by unfold rg; omega, by unfold rg; omega, fun c3 => ?_, fun c3 => stop (Or.inr (Or.inr (by omega)))⟩⟩⟩
    have pin := dig_in (tx := tx) (x := hi h7 t 5) (by omega)
    have tl := a.2.1
    refine ⟨by unfold rg; omega, by unfold rg; omega, ?_⟩
    have r6 : hi (up (up h7 t 6 (10 * hi h7 t 6 + dig tx (hi h7 t 5))) t 5 (hi h7 t 5 + 1)) t 6 = 10 * hi h7 t 6 + dig tx (hi h7 t 5) := by rw [hi_up, if_neg (fun z => absurd z.2 (by decide)), hi_up, if_pos ⟨rfl, rfl⟩]
    have r5 : hi (up (up h7 t 6 (10 * hi h7 t 6 + dig tx (hi h7 t 5))) t 5 (hi h7 t 5 + 1)) t 5 = hi h7 t 5 + 1 := by rw [hi_up, if_pos ⟨rfl, rfl⟩]
    refine ih (x4 + 1) _ Q (by omega) (by omega) (hL.ss SS.rf.up.up) ((a.reg (by decide)).reg (by decide)) (by rw [r6]; omega) (by rw [r6]; omega) (by rw [r5]; omega) (by rw [r5]; omega) ?_
    rw [r6, r5]
    simp only [numL] at q
    rw [if_neg (by omega)] at q
    have eu : ∀ (u v x y : Int), up (up (up (up h7 t 6 x) t 5 y) t 6 u) t 5 v = up (up h7 t 6 u) t 5 v := fun u v x y => by
      refine ah_ext rfl rfl rfl ?_
      funext j m
      show (if j = t ∧ m = 5 then v else if j = t ∧ m = 6 then u else if j = t ∧ m = 5 then y else if j = t ∧ m = 6 then x else h7.2.2.2 j m) = (if j = t ∧ m = 5 then v else if j = t ∧ m = 6 then u else h7.2.2.2 j m)
      by_cases g1 : j = t ∧ m = 5
      · simp only [if_pos g1]
      · by_cases g2 : j = t ∧ m = 6
        · simp only [if_neg g1, if_pos g2]
        · simp only [if_neg g1, if_neg g2]
    rw [eu]
    exact q
end TEXT
