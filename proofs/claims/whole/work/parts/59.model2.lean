/-! the model: a card found by its name -/
section MODEL2
variable {d : Nat} {h : AH} {s : Ms}
theorem EZ.nm (a : EZ h s) {i : Nat} {c : Cd} (hc : s.1[i]? = some c) : hi h 105 (13 + 4 * (i : Int) + 0) = c.1 := (a.2.2.2.1 i c hc).1
theorem c_with (hd : 2 ≤ d) (hL : QZ h) (a : EZ h s) {x : Int} : ∀ (k i : Nat) (b : Int) (Q : Option Int → AH → Prop), k + i = s.1.length → (∀ j c, j < i → s.1[j]? = some c → c.1 = x → b = (j : Int)) → ((∀ j c, j < i → s.1[j]? = some c → c.1 ≠ x) → b = -5) →
    (∀ b', (∀ (j : Nat) (c : Cd), s.1[j]? = some c → c.1 = x → b' = (j : Int)) → ((∀ (j : Nat) (c : Cd), s.1[j]? = some c → c.1 ≠ x) → b' = -5) → Q (some b') h) →
    AW m_X7_cardWith d none Q 5 [some (.inr (some 104)), some (.inl x), some (.inl b), some (.inl (i : Int))] [] h (0, 0) := by
  have a0 : hi h 105 0 = (s.1.length : Int) := a.1
  have hw : WL s.1 := a.2.2.2.2.2.1
  intro k
  induction k with
  | zero =>
    intro i b Q hk h1 h2 q
    refine vc_X7_cardWith_5 (by omega) hL ⟨fun c => q b (fun j c hc e => h1 j c (by have := lt_len hc; omega) hc e) (fun z => h2 (fun j c _ hc => z j c hc)), fun c => by omega⟩
  | succ k ih =>
    intro i b Q hk h1 h2 q
    have hl := hw.1
    have hi1 : i < s.1.length := by omega
    have hc := List.getElem?_eq_getElem hi1
    refine vc_X7_cardWith_5 (by omega) hL ⟨fun c => by omega, fun c => am_mono (z_of (x := (i : Int)) (k := 0) hL (by omega) (by omega) (by omega) (by omega)) (fun r h2' _ _ z => ?_)⟩
    obtain ⟨rfl, rfl⟩ := z
    have en := a.nm hc
    rw [en]
    refine ⟨_, rfl, SS.rf, fun c1 => ⟨by unfold rg; omega, ?_⟩, fun c1 => ⟨by unfold rg; omega, ?_⟩⟩
    · refine ih (i + 1) b Q (by omega) (fun j c hj hcj e => ?_) (fun z => h2 (fun j c hj hcj => z j c (by omega) hcj)) q
      by_cases g : j = i
      · subst g
        rw [hc] at hcj
        cases hcj
        exact absurd e c1
      · exact h1 j c (by omega) hcj e
    · refine ih (i + 1) (i : Int) Q (by omega) (fun j c hj hcj e => ?_) (fun z => absurd (Classical.byContradiction c1) (z i _ (by omega) hc)) q
      have := hw.inj hcj hc (e.trans (Classical.byContradiction c1).symm)
      omega
theorem z_with {x : Int} (hd : 3 ≤ d) (hL : QZ h) (a : EZ h s) : AM d m_X7_cardWith [.inr (some 104), .inl x] h (fun r h' => r = some (match ix s.1 x with | none => -5 | some i => (i : Int)) ∧ h' = h) := by
  refine vc_X7_cardWith (by omega) hL (c_with (s := s) (by omega) hL a s.1.length 0 (-5) _ (by omega) (fun j c hj => by omega) (fun _ => rfl) (fun b' h1 h2 => ⟨?_, rfl⟩))
  have hw : WL s.1 := a.2.2.2.2.2.1
  cases hx : ix s.1 x with
  | none => rw [h2 (fun j c hc => ix_none.mp hx c (List.mem_of_getElem? hc))]
  | some i =>
    obtain ⟨c, hc, e⟩ := (ix_some hw).mp hx
    rw [h1 i c hc e]
end MODEL2
