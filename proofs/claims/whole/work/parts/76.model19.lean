/-! the model: the text read -/
def sR (j : Nat) (m : Int) : Prop := (j = 104 ∧ 18 ≤ m ∧ m ≤ 19) ∨ j = 113 ∨ j = 114
theorem sR_P {j : Nat} {m : Int} (q : sR j m) : sP j m := by unfold sR at q; unfold sP; omega
/-- the rows hold the orders -/
def OZ (h : AH) (os : List Od) : Prop := hi h 104 18 = os.length ∧ ∀ (i : Nat) (o : Od), os[i]? = some o → hi h 113 i = o.1 ∧ hi h 114 i = o.2
def apz (os : List Od) (o : Option Od) : List Od := match o with
  | none => os
  | some o => os ++ [o]
def RZ (h : AH) (tx : List Int) (os : List Od) (v : Option Od × Int) (r : Option Int) (h' : AH) : Prop := r = some (if v.1.isSome then 1 else 0) ∧ SS h h' ∧ FM h h' sR ∧ TZ h' tx ∧ hi h' 104 19 = v.2 ∧ OZ h' (apz os v.1)
theorem ordP_lt {tx : List Int} {p : Int} {o : Od} (h : (ordP tx p).1 = some o) : p + 1 ≤ (ordP tx p).2 ∧ 0 ≤ p ∧ p < tx.length := by
  have hin : chr tx p ≠ 0 → 0 ≤ p ∧ p < tx.length := fun hc => by
    by_cases c : p < 0 ∨ (tx.length : Int) ≤ p
    · exact absurd (chr_out c) hc
    · omega
  unfold ordP at h ⊢
  by_cases c : chr tx p = 43 ∨ chr tx p = 45 ∨ chr tx p = 122
  · rw [if_pos c] at h ⊢
    exact ⟨(numO_b (by omega) (by omega)).1, hin (by omega)⟩
  · rw [if_neg c] at h ⊢
    by_cases c2 : chr tx p = 102
    · rw [if_pos c2] at h ⊢
      exact ⟨(numO_b (by omega) (by omega)).1, hin (by omega)⟩
    · rw [if_neg c2] at h ⊢
      by_cases c3 : chr tx p = 119 ∨ chr tx p = 118 ∨ chr tx p = 97
      · rw [if_pos c3] at h ⊢
        exact ⟨Int.le_refl _, hin (by omega)⟩
      · rw [if_neg c3] at h
        cases h
section MODEL20
variable {d : Nat} {h h1 : AH} {tx : List Int} {os : List Od} {p : Int}
theorem up_up {j : Nat} {k u v : Int} : up (up h j k u) j k v = up h j k v := by
  refine ah_ext rfl rfl rfl ?_
  funext a b
  show (if a = j ∧ b = k then v else if a = j ∧ b = k then u else h.2.2.2 a b) = (if a = j ∧ b = k then v else h.2.2.2 a b)
  split <;> rfl
theorem TZ.at (a : TZ h tx) (h0 : 0 ≤ p) (h2 : p < tx.length) : hi h 109 p = chr tx p ∧ 0 ≤ chr tx p ∧ chr tx p < 65536 := by
  have c := chr_in h0 h2
  have := a.2.2 p.toNat (chr tx p) c
  rw [Int.toNat_of_nonneg h0] at this
  exact ⟨this.1, this.2⟩
theorem TZ.fm {S : Nat → Int → Prop} (a : TZ h tx) (f : FM h h1 S) (n : ∀ j m, (j = 109 ∨ (j = 104 ∧ m = 7)) → ¬ S j m) : TZ h1 tx := a.same (f 104 7 (n _ _ (Or.inr ⟨rfl, rfl⟩))) (f.row (fun m => n _ _ (Or.inl rfl)))
theorem TZ.up19 (a : TZ h tx) {v : Int} : TZ (up h 104 19 v) tx := a.same (by rw [hi_up, if_neg (by decide)]) (up_ne (by decide))
theorem OZ.up19 (a : OZ h os) {v : Int} : OZ (up h 104 19 v) os := ⟨by rw [hi_up, if_neg (by decide)]; exact a.1, fun i o ho => by rw [up_ne (by decide), up_ne (by decide)]; exact a.2 i o ho⟩
theorem z_sees {x1 x2 : Int} (hd : 1 ≤ d) (hL : QZ h) (a : TZ h tx) (hp : hi h 104 19 = p) (h0 : 0 ≤ p) : AM d m_X7_sees [.inr (some 104), .inl x1, .inl x2] h (fun r h' => r = some (if p < tx.length ∧ x1 ≤ chr tx p ∧ chr tx p ≤ x2 then 1 else 0) ∧ h' = h) := by
  have a7 := a.1
  have a60 := a.2.1
  refine vc_X7_sees (by omega) hL ?_
  rw [hp, a7]
  refine ⟨fun c => ⟨by rw [if_neg (by omega)], rfl⟩, fun c => ⟨⟨by omega, by omega⟩, am_mono z_in (fun r h1 _ _ z => ?_)⟩⟩
  obtain ⟨rfl, rfl⟩ := z
  rw [(a.at h0 (by omega)).1]
  refine ⟨_, rfl, SS.rf, fun c2 => ⟨?_, rfl⟩, fun c2 => ⟨?_, rfl⟩⟩
  · by_cases c3 : x1 ≤ chr tx p ∧ chr tx p ≤ x2
    · rw [if_pos c3] at c2
      exact absurd c2 (by decide)
    · rw [if_neg (fun q => c3 q.2)]
  · by_cases c3 : x1 ≤ chr tx p ∧ chr tx p ≤ x2
    · rw [if_pos ⟨by omega, c3⟩]
    · rw [if_neg c3] at c2
      exact absurd rfl c2
theorem dig_yes (h0 : 0 ≤ p) : (p < tx.length ∧ 48 ≤ chr tx p ∧ chr tx p ≤ 57) ↔ 0 ≤ dig tx p := by
  constructor
  · intro q
    unfold dig
    rw [if_neg (by omega)]
    omega
  · intro q
    have := dig_in q
    unfold dig at q
    by_cases c : chr tx p < 48 ∨ 57 < chr tx p
    · rw [if_pos c] at q
      omega
    · omega
theorem dig_chr (h : 0 ≤ dig tx p) : chr tx p = dig tx p + 48 := by
  unfold dig at *
  by_cases c : chr tx p < 48 ∨ 57 < chr tx p
  · rw [if_pos c] at h
    omega
  · rw [if_neg c]
    omega
theorem z_numL {x1 x2 : Int} {Q : Option Int → AH → Prop} (hd : 2 ≤ d) (hL : QZ h) (a : TZ h tx) (h2 : x2 ≤ 255) : ∀ (k : Nat) (n p : Int), 0 ≤ n → n ≤ 255 → (k = 0 → n = 0 ∨ 100 ≤ n) → (k = 1 → n = 0 ∨ 10 ≤ n) → k ≤ 2 → 0 ≤ p → Q (some (numL tx x2 k n p).1) (up h 104 19 (numL tx x2 k n p).2) →
    AW m_X7_number d none Q 39 [some (.inr (some 104)), some (.inl x1), some (.inl x2), some (.inl n)] [] (up h 104 19 p) (0, 0) := by
  intro k
  induction k with
  | zero =>
    intro n p n0 n1 k0 k1 k2 p0 K
    have a7 := a.up19 (v := p)
    have e19 : hi (up h 104 19 p) 104 19 = p := by rw [hi_up, if_pos ⟨rfl, rfl⟩]
    refine vc_X7_number_39 (by omega) (hL.ss SS.rf.up) ⟨fun _ => K, fun c => am_mono (z_sees (by omega) (hL.ss SS.rf.up) a7 e19 p0) (fun r h3 _ _ z => ?_)⟩
    obtain ⟨rfl, rfl⟩ := z
    rw [e19]
    refine ⟨_, rfl, SS.rf, fun _ => K, fun c2 => ?_⟩
    by_cases cd : p < tx.length ∧ 48 ≤ chr tx p ∧ chr tx p ≤ 57
    · have ca := a7.at p0 cd.1
      have a60 := a.2.1
      have k0' := k0 rfl
      rw [ca.1]
      exact ⟨by unfold rg; omega, ⟨by omega, by omega⟩, by unfold rg; omega, by unfold rg; omega, fun _ => K, fun c3 => by omega⟩
    · rw [if_neg cd] at c2
      exact absurd rfl c2
  | succ k ih =>
    intro n p n0 n1 k0 k1 k2 p0 K
    have a7 := a.up19 (v := p)
    have e19 : hi (up h 104 19 p) 104 19 = p := by rw [hi_up, if_pos ⟨rfl, rfl⟩]
    have en : numL tx x2 (k + 1) n p = if dig tx p < 0 ∨ n = 0 ∨ x2 < 10 * n + dig tx p then (n, p) else numL tx x2 k (10 * n + dig tx p) (p + 1) := rfl
    have stop : (dig tx p < 0 ∨ n = 0 ∨ x2 < 10 * n + dig tx p) → Q (some n) (up h 104 19 p) := fun c => by
      rw [en, if_pos c] at K
      exact K
    refine vc_X7_number_39 (by omega) (hL.ss SS.rf.up) ⟨fun c => stop (by omega), fun c => am_mono (z_sees (by omega) (hL.ss SS.rf.up) a7 e19 p0) (fun r h3 _ _ z => ?_)⟩
    obtain ⟨rfl, rfl⟩ := z
    rw [e19]
    refine ⟨_, rfl, SS.rf, fun c2 => ?_, fun c2 => ?_⟩
    · by_cases cd : p < tx.length ∧ 48 ≤ chr tx p ∧ chr tx p ≤ 57
      · rw [if_pos cd] at c2
        exact absurd c2 (by decide)
      · have : ¬ 0 ≤ dig tx p := fun q => cd ((dig_yes (tx := tx) p0).mpr q)
        exact stop (by omega)
    · by_cases cd : p < tx.length ∧ 48 ≤ chr tx p ∧ chr tx p ≤ 57
      · have ca := a7.at p0 cd.1
        have a60 := a.2.1
        have hd0 := (dig_yes (tx := tx) p0).mp cd
        have hd9 := dig_le (tx := tx) (x := p)
        have hc := dig_chr hd0
        rw [ca.1, hc]
        have ev : 10 * n + (dig tx p + 48) - 48 = 10 * n + dig tx p := by omega
        rw [ev]
        refine ⟨by unfold rg; omega, ⟨by omega, by omega⟩, by unfold rg; omega, by unfold rg; omega, fun c3 => stop (by omega), fun c3 => ⟨by unfold rg; omega, ?_⟩⟩
        rw [up_up]
        rw [en, if_neg (by omega)] at K
        exact ih (10 * n + dig tx p) (p + 1) (by omega) (by omega) (fun q => by omega) (fun q => by omega) (by omega) (by omega) K
      · rw [if_neg cd] at c2
        exact absurd rfl c2
theorem z_number {x1 x2 : Int} (hd : 3 ≤ d) (hL : QZ h) (a : TZ h tx) (h1 : 0 ≤ x1) (h1b : x1 ≤ 9) (h2 : x2 ≤ 255) (hp : hi h 104 19 = p) (p0 : 0 ≤ p) : AM d m_X7_number [.inr (some 104), .inl x1, .inl x2] h (fun r h' => match numP tx x1 x2 p with
    | none => r = some (-5) ∧ h' = h
    | some (n, q) => r = some n ∧ h' = up h 104 19 q) := by
  have a60 := a.2.1
  have hle := dig_le (tx := tx) (x := p)
  by_cases c : dig tx p < 0 ∨ dig tx p < x1
  · have e : numP tx x1 x2 p = none := by unfold numP; rw [if_pos c]
    rw [e]
    refine vc_X7_number (by omega) hL ⟨by unfold rg; omega, am_mono (z_sees (by omega) hL a hp p0) (fun r h3 _ _ z => ?_)⟩
    obtain ⟨rfl, rfl⟩ := z
    refine ⟨_, rfl, SS.rf, fun c2 => ?_, fun _ => ⟨rfl, rfl⟩⟩
    by_cases cd : p < tx.length ∧ 48 + x1 ≤ chr tx p ∧ chr tx p ≤ 57
    · have hd0 := (dig_yes (tx := tx) p0).mp ⟨cd.1, by omega, cd.2.2⟩
      have hc := dig_chr hd0
      omega
    · rw [if_neg cd] at c2
      exact absurd rfl c2
  · have e : numP tx x1 x2 p = some (numL tx x2 2 (dig tx p) (p + 1)) := by unfold numP; rw [if_neg c]
    rw [e]
    have hd0 : 0 ≤ dig tx p := by omega
    have hin := dig_in hd0
    have hc := dig_chr hd0
    refine vc_X7_number (by omega) hL ⟨by unfold rg; omega, am_mono (z_sees (by omega) hL a hp p0) (fun r h3 _ _ z => ?_)⟩
    obtain ⟨rfl, rfl⟩ := z
    refine ⟨_, rfl, SS.rf, fun _ => ?_, fun c2 => absurd (by rw [if_pos ⟨hin.2, by omega, by omega⟩]; decide) c2⟩
    rw [hp, (a.at p0 hin.2).1, hc]
    have ev : dig tx p + 48 - 48 = dig tx p := by omega
    rw [ev]
    exact ⟨⟨by omega, by omega⟩, by unfold rg; omega, by unfold rg; omega, z_numL (by omega) hL a h2 2 (dig tx p) (p + 1) hd0 (by omega) (fun q => by omega) (fun q => by omega) (by omega) (by omega) ⟨rfl, rfl⟩⟩
theorem z_store {hq : AH} {c n : Int} (t : SS h hq) (f : FM h hq sR) (a : TZ hq tx) (b : OZ hq os) (hl : os.length < 31) (e19 : hi hq 104 19 = p) : (0 ≤ hi hq 104 18 ∧ hi hq 104 18 < 31) ∧ rg (hi hq 104 18 + 1) ∧ RZ h tx os (some (c, n), p) (some 1) (up (up (up hq 113 (hi hq 104 18) c) 114 (hi hq 104 18) n) 104 18 (hi hq 104 18 + 1)) := by
  have b18 := b.1
  rw [b18]
  refine ⟨⟨by omega, by omega⟩, by unfold rg; omega, rfl, t.up.up.up, ((f.up (Or.inr (Or.inl rfl))).up (Or.inr (Or.inr rfl))).up (Or.inl ⟨rfl, by decide, by decide⟩), ?_, ?_, ?_, fun i o ho => ?_⟩
  · refine a.same ?_ ?_
    · rw [hi_up, if_neg (by omega), hi_up, if_neg (by omega), hi_up, if_neg (by omega)]
    · rw [up_ne (by decide), up_ne (by decide), up_ne (by decide)]
  · rw [hi_up, if_neg (by omega), hi_up, if_neg (by omega), hi_up, if_neg (by omega)]
    exact e19
  · rw [hi_up, if_pos ⟨rfl, rfl⟩]
    show (os.length : Int) + 1 = ((os ++ [(c, n)]).length : Int)
    rw [List.length_append]
    rfl
  · have ho' : (os ++ [(c, n)])[i]? = some o := ho
    by_cases q : i < os.length
    · rw [List.getElem?_append_left q] at ho'
      have b2 := b.2 i o ho'
      exact ⟨by rw [hi_up, if_neg (by omega), hi_up, if_neg (by omega), hi_up, if_neg (by omega)]; exact b2.1, by rw [hi_up, if_neg (by omega), hi_up, if_neg (by omega), hi_up, if_neg (by omega)]; exact b2.2⟩
    · have h3 := lt_len ho'
      rw [List.length_append] at h3
      have h4 : i = os.length := by
        have : [(c, n)].length = 1 := rfl
        omega
      subst h4
      rw [List.getElem?_append_right (Nat.le_refl _), Nat.sub_self] at ho'
      cases ho'
      exact ⟨by rw [hi_up, if_neg (by omega), hi_up, if_neg (by omega), hi_up, if_pos ⟨rfl, rfl⟩], by rw [hi_up, if_neg (by omega), hi_up, if_pos ⟨rfl, rfl⟩]⟩
set_option maxHeartbeats 1000000 in
theorem z_readOrder (hd : 4 ≤ d) (hL : QZ h) (a : TZ h tx) (b : OZ h os) (hp : hi h 104 19 = p) (p0 : 0 ≤ p) (p1 : p ≤ 100) (hl : os.length < 31) : AM d m_X7_readOrder [.inr (some 104)] h (RZ h tx os (ordP tx p)) := by
  have a7 := a.1
  have a60 := a.2.1
  have no : ordP tx p = (none, p) → RZ h tx os (ordP tx p) (some 0) h := fun e => by
    rw [e]
    exact ⟨rfl, SS.rf, FM.rf, a, hp, b⟩
  refine vc_X7_readOrder (by omega) hL ?_
  rw [a7, hp]
  refine ⟨fun c => no ?_, fun c => ⟨⟨by omega, by omega⟩, ?_⟩⟩
  · have e := chr_out (tx := tx) (x := p) (Or.inr (by omega))
    unfold ordP
    rw [if_neg (by omega), if_neg (by omega), if_neg (by omega)]
  · rw [(a.at p0 (by omega)).1]
    have fU : FM h (up h 104 19 (p + 1)) sR := FM.rf.up (Or.inl ⟨rfl, by decide, by decide⟩)
    have eU : hi (up h 104 19 (p + 1)) 104 19 = p + 1 := by rw [hi_up, if_pos ⟨rfl, rfl⟩]
    have num : ∀ (x1 x2 : Int), 0 ≤ x1 → x1 ≤ 9 → 9 ≤ x2 → x2 ≤ 255 → ordP tx p = numO (chr tx p) (numP tx x1 x2 (p + 1)) (p + 1) →
        AM (d - 1) m_X7_number [(.inr (some 104)), (.inl x1), (.inl x2)] (up h 104 19 (p + 1)) (fun r h15 => 
          ∃ v16, r = some v16 ∧ SS (up h 104 19 (p + 1)) h15 ∧
          ((¬ v16 = -5 → (
            (0 ≤ hi h15 104 18 ∧ hi h15 104 18 < 31) ∧
            (rg ((hi h15 104 18) + 1)) ∧
            RZ h tx os (ordP tx p) (some 1) (up (up (up h15 113 (hi h15 104 18) (chr tx p)) 114 (hi h15 104 18) v16) 104 18 ((hi h15 104 18) + 1))
          )) ∧
          (¬ (¬ v16 = -5) → (
            RZ h tx os (ordP tx p) (some 0) h15
          )))) := by
      intro x1 x2 h1 h1b h9 h2 e
      refine am_mono (z_number (by omega) (hL.ss SS.rf.up) a.up19 h1 h1b h2 eU (by omega)) (fun r h3 _ _ z => ?_)
      cases hN : numP tx x1 x2 (p + 1) with
      | none =>
        rw [hN] at z
        have z' : r = some (-5) ∧ h3 = up h 104 19 (p + 1) := z
        obtain ⟨rfl, rfl⟩ := z'
        rw [hN] at e
        have e' : ordP tx p = (none, p + 1) := e
        rw [e']
        exact ⟨_, rfl, SS.rf, fun c2 => absurd rfl c2, fun _ => ⟨rfl, SS.rf.up, fU, a.up19, eU, b.up19⟩⟩
      | some nq =>
        obtain ⟨n, q⟩ := nq
        rw [hN] at z
        have z' : r = some n ∧ h3 = up (up h 104 19 (p + 1)) 104 19 q := z
        obtain ⟨rfl, rfl⟩ := z'
        have hb := numP_b h9 h1 hN
        rw [hN] at e
        have e' : ordP tx p = (some (chr tx p, n), q) := e
        rw [e']
        exact ⟨_, rfl, SS.rf.up, fun _ => z_store SS.rf.up.up (fU.up (Or.inl ⟨rfl, by decide, by decide⟩)) a.up19.up19 b.up19.up19 hl (by rw [hi_up, if_pos ⟨rfl, rfl⟩]), fun c2 => absurd (show ¬ n = -5 by omega) c2⟩
    have bare : ordP tx p = (some (chr tx p, 0), p + 1) → (rg (p + 1)) ∧ (0 ≤ hi h 104 18 ∧ hi h 104 18 < 31) ∧ (rg ((hi h 104 18) + 1)) ∧ RZ h tx os (ordP tx p) (some 1) (up (up (up (up h 104 19 (p + 1)) 113 (hi h 104 18) (chr tx p)) 114 (hi h 104 18) 0) 104 18 ((hi h 104 18) + 1)) := by
      intro e
      rw [e]
      have e18 : hi (up h 104 19 (p + 1)) 104 18 = hi h 104 18 := by rw [hi_up, if_neg (by decide)]
      have r := z_store (c := chr tx p) (n := 0) SS.rf.up fU a.up19 b.up19 hl eU
      rw [e18] at r
      exact ⟨by unfold rg; omega, r⟩
    refine ⟨fun c1 => ⟨by unfold rg; omega, num 0 255 (by omega) (by omega) (by omega) (by omega) ?_⟩, fun c1 => ⟨fun c2 => ⟨by unfold rg; omega, num 0 255 (by omega) (by omega) (by omega) (by omega) ?_⟩, fun c2 => ⟨fun c3 => ⟨fun c4 => bare ?_, fun c4 => ⟨fun c5 => bare ?_, fun c5 => ⟨fun c6 => bare ?_, fun c6 => ⟨fun c7 => ⟨by unfold rg; omega, num 1 64 (by omega) (by omega) (by omega) (by omega) ?_⟩, fun c7 => no ?_⟩⟩⟩⟩, fun c3 => ⟨by unfold rg; omega, num 0 255 (by omega) (by omega) (by omega) (by omega) ?_⟩⟩⟩⟩
    · unfold ordP
      rw [if_pos (by omega)]
    · unfold ordP
      rw [if_pos (by omega)]
    · unfold ordP
      rw [if_neg (by omega), if_neg (by omega), if_pos (by omega)]
    · unfold ordP
      rw [if_neg (by omega), if_neg (by omega), if_pos (by omega)]
    · unfold ordP
      rw [if_neg (by omega), if_neg (by omega), if_pos (by omega)]
    · unfold ordP
      rw [if_neg (by omega), if_pos (by omega)]
    · unfold ordP
      rw [if_neg (by omega), if_neg (by omega), if_neg (by omega)]
    · unfold ordP
      rw [if_pos (by omega)]
theorem app_z {o : Option Od} (hl : os.length < 30) : app os o = apz os o := by
  cases o with
  | none => rfl
  | some o =>
    show (if os.length < 30 then os ++ [o] else os) = os ++ [o]
    rw [if_pos hl]
theorem TZ.up18 (a : TZ h tx) {v : Int} : TZ (up h 104 18 v) tx := a.same (by rw [hi_up, if_neg (by decide)]) (up_ne (by decide))
/-- what reading leaves -/
def RT (h : AH) (tx : List Int) (v : Int × List Od) (r : Option Int) (h' : AH) : Prop := SS h h' ∧ FM h h' sR ∧ TZ h' tx ∧ (v.1 = -1 → r = some 1 ∧ OZ h' v.2) ∧ (v.1 ≠ -1 → r = some 0 ∧ hi h' 104 19 = v.1)
theorem z_readText (hd : 6 ≤ d) (hL : QZ h) (a : TZ h tx) : AM d m_X7_readText [.inr (some 104)] h (RT h tx (allP tx 31 0 [])) := by
  have a60 := a.2.1
  have lp : ∀ (k : Nat) (p : Int) (os : List Od) (h1 : AH), k + 1 + os.length = 31 → 2 * (os.length : Int) ≤ p → p ≤ 100 → SS h h1 → FM h h1 sR → TZ h1 tx → hi h1 104 19 = (ordP tx p).2 → OZ h1 (apz os (ordP tx p).1) →
      (∀ v, v = allP tx (k + 1) p os → v = allP tx 31 0 []) →
      AW m_X7_readText d none (RT h tx (allP tx 31 0 [])) 15 [some (.inr (some 104)), some (.inl (if (ordP tx p).1.isSome then 1 else 0))] [] h1 (0, 0) := by
    intro k
    induction k with
    | zero =>
      intro p os h1 hk h2p hp1 t f a1 e19 b K
      cases ho : (ordP tx p).1 with
      | none =>
        have ev : allP tx (0 + 1) p os = ((ordP tx p).2, app os (ordP tx p).1) := by
          show (if (ordP tx p).1.isSome then _ else ((ordP tx p).2, app os (ordP tx p).1)) = _
          rw [ho]
          rfl
        have hx := K _ ev.symm
        have hb := (ordP_b (tx := tx) (p := p)).1
        refine vc_X7_readText_15 (by omega) (hL.ss t) ⟨fun _ => ⟨Or.inl rfl, ?_⟩, fun c => absurd rfl c⟩
        rw [← hx]
        exact ⟨t, f, a1, fun q => absurd q (show ¬ (ordP tx p).2 = -1 by omega), fun _ => ⟨rfl, e19⟩⟩
      | some o =>
        have := ordP_lt ho
        omega
    | succ k ih =>
      intro p os h1 hk h2p hp1 t f a1 e19 b K
      cases ho : (ordP tx p).1 with
      | none =>
        have ev : allP tx (k + 1 + 1) p os = ((ordP tx p).2, app os (ordP tx p).1) := by
          show (if (ordP tx p).1.isSome then _ else ((ordP tx p).2, app os (ordP tx p).1)) = _
          rw [ho]
          rfl
        have hx := K _ ev.symm
        have hb := (ordP_b (tx := tx) (p := p)).1
        refine vc_X7_readText_15 (by omega) (hL.ss t) ⟨fun _ => ⟨Or.inl rfl, ?_⟩, fun c => absurd rfl c⟩
        rw [← hx]
        exact ⟨t, f, a1, fun q => absurd q (show ¬ (ordP tx p).2 = -1 by omega), fun _ => ⟨rfl, e19⟩⟩
      | some o =>
        have hlt := ordP_lt ho
        have hl30 : os.length < 30 := by omega
        have hbd := ordP_u (tx := tx) (p := p)
        have ev : allP tx (k + 1 + 1) p os = if (tx.length : Int) ≤ (ordP tx p).2 then (-1, apz os (ordP tx p).1) else if chr tx (ordP tx p).2 = 59 then allP tx (k + 1) ((ordP tx p).2 + 1) (apz os (ordP tx p).1) else ((ordP tx p).2, apz os (ordP tx p).1) := by
          rw [← app_z hl30]
          show (if (ordP tx p).1.isSome then _ else _) = _
          rw [if_pos (by rw [ho]; rfl)]
        have a7 := a1.1
        refine vc_X7_readText_15 (by omega) (hL.ss t) ⟨fun c => absurd (show (1 : Int) = 0 from c) (by decide), fun _ => ?_⟩
        rw [a7, e19]
        refine ⟨fun c => ⟨Or.inr rfl, ?_⟩, fun c => ?_⟩
        · rw [if_pos c] at ev
          rw [← K _ ev.symm]
          exact ⟨t, f, a1, fun _ => ⟨rfl, b⟩, fun q => absurd rfl q⟩
        · rw [if_neg c] at ev
          refine vc_X7_takes (by omega) (hL.ss t) (am_mono (z_sees (by omega) (hL.ss t) a1 e19 (by omega)) (fun r h2 _ _ z => ?_))
          obtain ⟨rfl, rfl⟩ := z
          rw [e19]
          by_cases c59 : chr tx (ordP tx p).2 = 59
          · rw [if_pos c59] at ev
            rw [if_pos (⟨by omega, by omega, by omega⟩ : (ordP tx p).2 < (tx.length : Int) ∧ 59 ≤ chr tx (ordP tx p).2 ∧ chr tx (ordP tx p).2 ≤ 59)]
            have hal : (apz os (ordP tx p).1).length = os.length + 1 := by
              rw [ho]
              show (os ++ [o]).length = _
              rw [List.length_append]
              rfl
            have e19' : hi (up h2 104 19 ((ordP tx p).2 + 1)) 104 19 = (ordP tx p).2 + 1 := by rw [hi_up, if_pos ⟨rfl, rfl⟩]
            refine ⟨_, rfl, SS.rf, fun c3 => absurd c3 (by decide), fun _ => ⟨by unfold rg; omega, Or.inr rfl, _, rfl, SS.rf.up, fun c3 => absurd c3 (by decide), fun _ => am_mono (z_readOrder (by omega) (hL.ss t.up) a1.up19 b.up19 e19' (by omega) (by omega) (by omega)) (fun r h3 _ _ z => ?_)⟩⟩
            obtain ⟨rfl, t3, f3, a3, e3, b3⟩ := z
            have r := ih ((ordP tx p).2 + 1) (apz os (ordP tx p).1) h3 (by omega) (by omega) (by omega) (t.up.tr t3) ((f.up (Or.inl ⟨rfl, by decide, by decide⟩)).tr f3) a3 e3 b3 (fun v hv => K v (by rw [hv, ev]))
            refine ⟨_, rfl, t3, fun c4 => ?_, fun c4 => ?_⟩
            · rw [c4] at r
              exact r
            · have c5 : (if (ordP tx ((ordP tx p).2 + 1)).1.isSome = true then (1 : Int) else 0) = 1 := by
                by_cases q : (ordP tx ((ordP tx p).2 + 1)).1.isSome = true
                · rw [if_pos q]
                · rw [if_neg q] at c4
                  exact absurd rfl c4
              rw [c5] at r
              exact r
          · rw [if_neg c59] at ev
            rw [if_neg (show ¬ ((ordP tx p).2 < (tx.length : Int) ∧ 59 ≤ chr tx (ordP tx p).2 ∧ chr tx (ordP tx p).2 ≤ 59) from fun q => c59 (by omega))]
            have hx := K _ ev.symm
            refine ⟨_, rfl, SS.rf, fun _ => ⟨by unfold rg; omega, Or.inl rfl, _, rfl, SS.rf.up, fun _ => ?_, fun c3 => absurd rfl c3⟩, fun c3 => absurd rfl c3⟩
            refine vc_X7_readText_15 (by omega) (hL.ss t.up) ⟨fun _ => ⟨Or.inl rfl, ?_⟩, fun c3 => absurd rfl c3⟩
            rw [← hx]
            exact ⟨t.up, f.up (Or.inl ⟨rfl, by decide, by decide⟩), a1.up19, fun q => absurd q (show ¬ (ordP tx p).2 = -1 by omega), fun _ => ⟨rfl, by rw [hi_up, if_pos ⟨rfl, rfl⟩, Int.add_zero]⟩⟩
  have eB : hi (up (up h 104 19 0) 104 18 0) 104 19 = 0 := by rw [hi_up, if_neg (by decide), hi_up, if_pos ⟨rfl, rfl⟩]
  have fB : FM h (up (up h 104 19 0) 104 18 0) sR := (FM.rf.up (Or.inl ⟨rfl, by decide, by decide⟩)).up (Or.inl ⟨rfl, by decide, by decide⟩)
  have bB : OZ (up (up h 104 19 0) 104 18 0) [] := ⟨by rw [hi_up, if_pos ⟨rfl, rfl⟩]; rfl, fun i o ho => by simp at ho⟩
  refine vc_X7_readText (by omega) hL (am_mono (z_readOrder (os := []) (by omega) (hL.ss SS.rf.up.up) a.up19.up18 bB eB (by omega) (by omega) (by decide)) (fun r h1 _ _ z => ?_))
  obtain ⟨rfl, t1, f1, a1, e1, b1⟩ := z
  exact ⟨_, rfl, t1, lp 30 0 [] h1 (by decide) (by decide) (by decide) (SS.rf.up.up.tr t1) (fB.tr f1) a1 e1 b1 (fun v hv => hv)⟩
end MODEL20
