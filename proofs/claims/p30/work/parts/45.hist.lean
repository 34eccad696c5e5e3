/-! the history: added to, gone back; an order carried out -/
section HIST
variable {d b : Nat} {h : AH} {s : Ms} {L : List Ms}
def push (s : Ms) (L : List Ms) : List Ms := (if L.length < 4 then L else L.drop 1) ++ [s]
theorem RS_lo {q : Nat} (h : RS q) : 52 ≤ q ∧ q ≤ 88 := by unfold RS at h; omega
theorem HK_put {h7 : AH} {f : Nat → Nat} (w1 : RW h f) (n1 : hi h 50 1 = L.length) (n4 : L.length < 4) (e : ∀ (k : Nat) (v : Ms), L[k]? = some v → ES h (f k) v) (s7 : SS h h7) (f7 : FX h h7 (inS (f L.length))) (a7 : ES h7 (f L.length) s) : HK (up h7 50 1 (hi h7 50 1 + 1)) (L ++ [s]) := by
  have q := w1.2.1 _ n4
  have q' := RS_lo q
  have z : hi h7 50 = hi h 50 := f7 50 (fun z => by have := z.1; omega)
  have hl : (L ++ [s]).length = L.length + 1 := by simp
  refine ⟨?_, by omega, f, RW.ss w1 (SS.up s7), fun k v hv => ?_⟩
  · rw [hi_up, if_pos ⟨rfl, rfl⟩, z, n1, hl]
    rfl
  · have hk := lt_len hv
    have qk := w1.2.1 k (by omega)
    have qk' := RS_lo qk
    by_cases c : k < L.length
    · rw [List.getElem?_append_left c] at hv
      refine ((e k v hv).same (fun j g1 g2 => f7 j (fun z => ?_))).same (fun j g1 g2 => up_ne (by omega))
      have z1 := z.1
      have z2 := z.2
      have ne : f k ≠ f L.length := fun e => by have := w1.2.2 k _ (by omega) n4 e; omega
      unfold RS at q qk
      omega
    · have hk2 : k = L.length := by omega
      subst hk2
      rw [List.getElem?_append_right (by omega), Nat.sub_self] at hv
      cases hv
      exact a7.same (fun j g1 g2 => up_ne (by omega))
theorem c_add (hd : 3 ≤ d) (hL : LH h) (hL1 : QS h 14) (hH : HK h L) (a : ES h 14 s) : AM d m_X0_add [.inr (some 50), .inr (some 14)] h (fun r h' => r = none ∧ SW h h' ∧ FX h h' inH ∧ HK h' (push s L)) := by
  obtain ⟨n1, n4, f, w1, e⟩ := id hH
  refine vc_X0_add (by omega) hL.1 hL1 ⟨fun c => ⟨fun c2 => by omega, fun c2 => ?_⟩, fun c => ?_⟩
  · have hl : L.length < 4 := by omega
    have q := w1.2.1 _ hl
    have q' := RS_lo q
    have e1 : hr h (50 + 1) (hi h 50 1) = some (f L.length) := by rw [n1]; exact w1.1 _ hl
    refine ⟨⟨by omega, by omega⟩, f L.length, e1, hL.2 _ q, f L.length, e1, hL.2 _ q, am_mono (c_copyState (by omega) (hL.2 _ q) hL1 (by omega) a) (fun r h7 _ _ z => ?_)⟩
    obtain ⟨rfl, s7, f7, a7⟩ := z
    have z : hi h7 50 = hi h 50 := f7 50 (fun z => by have := z.1; omega)
    refine ⟨rfl, s7, ?_, rfl, s7.up.w, fun j hj => ?_, ?_⟩
    · rw [z, n1]; unfold rg; omega
    · rw [up_ne (fun z => hj ⟨by omega, by omega⟩)]
      exact f7 j (fun z => hj ⟨by have := z.1; omega, by have := z.2; omega⟩)
    · unfold push
      rw [if_pos hl]
      exact HK_put w1 n1 hl e s7 f7 a7
  · refine am_mono (c_dropOldest hL w1) (fun r h9 _ _ z => ?_)
    obtain ⟨rfl, s9, f9, m9, w9⟩ := z
    have hl : (L.drop 1).length = 3 := by rw [List.length_drop]; omega
    have hl3 : (L.drop 1).length < 4 := by omega
    have q := w9.2.1 _ hl3
    have q' := RS_lo q
    have n9 : hi h9 50 1 = ((L.drop 1).length : Int) := by rw [m9, hl]; rfl
    have e1 : hr h9 (50 + 1) (hi h9 50 1) = some (rot f (L.drop 1).length) := by rw [n9]; exact w9.1 _ hl3
    have a9 : ES h9 14 s := a.same (fun j g1 g2 => f9 j (by omega))
    have e9 : ∀ (k : Nat) (v : Ms), (L.drop 1)[k]? = some v → ES h9 (rot f k) v := fun k v hv => by
      have hk := lt_len hv
      rw [List.getElem?_drop] at hv
      have ek : rot f k = f (1 + k) := by unfold rot; rw [if_pos (by omega)]; congr 1; omega
      rw [ek]
      have := RS_lo (w1.2.1 (1 + k) (by omega))
      exact (e _ v hv).same (fun j g1 g2 => f9 j (by omega))
    refine ⟨rfl, s9, fun c2 => by omega, fun c2 => ⟨fun c3 => by omega, fun c3 => ?_⟩⟩
    have hL9 := hL.sw s9
    refine ⟨⟨by omega, by omega⟩, _, e1, hL9.2 _ q, _, e1, hL9.2 _ q, am_mono (c_copyState (by omega) (hL9.2 _ q) (hL1.sw s9) (by omega) a9) (fun r h7 _ _ z => ?_)⟩
    obtain ⟨rfl, s7, f7, a7⟩ := z
    have z : hi h7 50 = hi h9 50 := f7 50 (fun z => by have := z.1; omega)
    refine ⟨rfl, s7, ?_, rfl, s9.tr s7.up.w, fun j hj => ?_, ?_⟩
    · rw [z, m9]; unfold rg; omega
    · rw [up_ne (fun z => hj ⟨by omega, by omega⟩), f7 j (fun z => hj ⟨by have := z.1; omega, by have := z.2; omega⟩)]
      exact f9 j (fun z => hj ⟨by omega, by omega⟩)
    · unfold push
      rw [if_neg (by omega)]
      exact HK_put w9 n9 hl3 e9 s7 f7 a7
def undoO (L : List Ms) (s : Ms) : Int × Ms × List Ms := match L.getLast? with
  | none => (-5, s, L)
  | some v => ((L.length : Int) - 1, v, L.dropLast)
theorem c_backTo (hd : 3 ≤ d) (hL : LH h) (hL1 : QS h 2) (hH : HK h L) (a : ES h 2 s) : AM d m_X0_backTo [.inr (some 50), .inr (some 2)] h (fun r h' => r = some (undoO L s).1 ∧ SS h h' ∧ FX h h' (fun j => j = 50 ∨ inS 2 j) ∧ ES h' 2 (undoO L s).2.1 ∧ HK h' (undoO L s).2.2) := by
  obtain ⟨n1, n4, f, w1, e⟩ := id hH
  refine vc_X0_backTo (by omega) hL.1 hL1 ⟨fun c => ?_, fun c => ⟨fun c2 => ?_, fun c2 => by omega⟩⟩
  · have hn : L = [] := List.eq_nil_of_length_eq_zero (by omega)
    subst hn
    exact ⟨rfl, SS.rf, FX.rf, a, hH⟩
  · have hl : 0 < L.length := by omega
    obtain ⟨v, hv⟩ : ∃ v, L[L.length - 1]? = some v := ⟨_, List.getElem?_eq_getElem (by omega)⟩
    have eu : undoO L s = ((L.length : Int) - 1, v, L.dropLast) := by
      unfold undoO
      rw [List.getLast?_eq_getElem?, hv]
    rw [eu]
    have q := w1.2.1 (L.length - 1) (by omega)
    have q' := RS_lo q
    have en : hi h 50 1 - 1 = ((L.length - 1 : Nat) : Int) := by omega
    have e1 : hr (up h 50 1 (hi h 50 1 - 1)) (50 + 1) (hi h 50 1 - 1) = some (f (L.length - 1)) := hrU (by rw [en]; exact w1.1 _ (by omega))
    have su1 : SS h (up h 50 1 (hi h 50 1 - 1)) := SS.rf.up
    have av : ES (up h 50 1 (hi h 50 1 - 1)) (f (L.length - 1)) v := (e _ v hv).same (fun j g1 g2 => up_ne (by omega))
    refine ⟨by unfold rg; omega, ⟨by omega, by omega⟩, _, e1, hL.2 _ q, am_mono (c_copyState (by omega) (hL1.ss su1) ((hL.2 _ q).ss su1) (by omega) av) (fun r h6 _ _ z => ?_)⟩
    obtain ⟨rfl, s6, f6, a6⟩ := z
    have z : hi h6 50 1 = hi h 50 1 - 1 := by rw [f6 50 (fun z => by have := z.2; omega), hi_up, if_pos ⟨rfl, rfl⟩]
    refine ⟨rfl, s6, by rw [z, n1], su1.tr s6, fun j hj => ?_, a6, (?_ : HK h6 L.dropLast)⟩
    · rw [f6 j (fun z => hj (Or.inr z)), up_ne (fun z => hj (Or.inl z))]
    · have hdl : L.dropLast.length = L.length - 1 := by simp
      refine ⟨by rw [z, hdl]; omega, by omega, f, w1.ss (su1.tr s6), fun k u hu => ?_⟩
      have hk := lt_len hu
      have qk := RS_lo (w1.2.1 k (by omega))
      have hu2 : L[k]? = some u := by
        rw [List.getElem?_dropLast, if_pos (by omega)] at hu
        exact hu
      exact (e k u hu2).same (fun j g1 g2 => by rw [f6 j (fun z => by have := z.2; omega), up_ne (by omega)])
theorem c_valueOf {x : Int} (hL : QS h b) (a : ES h b s) : AM d m_X2_valueOf [.inr (some b), .inl x] h (fun r h' => r = some (if x < 0 ∨ 2 ≤ x then 0 else s.2.2 (2 + x)) ∧ h' = h) := by
  refine vc_X2_valueOf hL ⟨fun c => ⟨by rw [if_pos (Or.inl c)], rfl⟩, fun c => ⟨fun c2 => ⟨by rw [if_pos (Or.inr c2)], rfl⟩, fun c2 => ⟨⟨by omega, by omega⟩, ?_, rfl⟩⟩⟩
  rw [if_neg (by omega)]
  have h1 : x = 0 ∨ x = 1 := by omega
  rcases h1 with rfl | rfl
  · rw [a.2.2.2.1]; rfl
  · rw [a.2.2.2.2.1]; rfl
end HIST
