/-! the text: an order read, all orders read -/
section ORD2
variable {d t : Nat} {h : AH} {tx : List Int} {os : List Od}
theorem no_ok {h2 : AH} {kd n q : Int} (s2 : SS h h2) (f2 : FX h h2 (inX t)) (a : TXK h2 t tx) (b : OK h2 t os) (hq : hi h2 t 5 = q) (hlt : ¬ os.length < 30) : RO h t tx os (some (kd, n), q) (some 1) h2 := by
  refine ⟨rfl, s2, f2, a, hq, ?_⟩
  unfold app
  simp only
  rw [if_neg hlt]
  exact b
theorem c_readOrder (hd : 4 ≤ d) (hL : QX h t) (a : TXK h t tx) (b : OK h t os) (p1 : 0 ≤ hi h t 5) (p2 : hi h t 5 ≤ 60) : AM d m_X4_readOrder [.inr (some t)] h (RO h t tx os (ordP tx (hi h t 5))) := by
  refine vc_X4_readOrder (by omega) hL (am_mono (c_characterAt (x := hi h t 5) hL a) (fun r h1 _ _ z => ?_))
  obtain ⟨rfl, rfl⟩ := z
  generalize hp : hi h1 t 5 = p at p1 p2 ⊢
  have tl := a.2.1
  have b1 := b.1
  have b2 := b.2.1
  have hc : 0 ≤ chr tx p ∧ chr tx p < 65536 := by
    by_cases c : p < tx.length
    · have := a.2.2 _ _ (chr_in (tx := tx) p1 c)
      omega
    · rw [chr_out (Or.inr (by omega))]
      decide
  have hin : chr tx p ≠ 0 → p < tx.length := fun z => by
    by_cases c : p < tx.length
    · exact c
    · exact absurd (chr_out (Or.inr (by omega))) z
  have numb : ∀ (x1 x2 : Int), 0 ≤ x1 → 9 ≤ x2 → x2 ≤ 255 → chr tx p ≠ 0 → ordP tx p = numO (chr tx p) (numP tx x1 x2 (p + 1)) (p + 1) →
      rg (p + 1) ∧ AM (d - 1) m_X4_readNumber [.inr (some t), .inl x1, .inl x2] (up (up h1 t 5 (p + 1)) t 6 0) (fun r h11 => ∃ v12, r = some v12 ∧ SS (up (up h1 t 5 (p + 1)) t 6 0) h11 ∧
        ((¬ v12 = 0 → ((hi h11 t 4 < 0 → RO h1 t tx os (ordP tx p) (some 1) h11) ∧ (¬ (hi h11 t 4 < 0) → ((30 ≤ hi h11 t 4 → RO h1 t tx os (ordP tx p) (some 1) h11) ∧ (¬ (30 ≤ hi h11 t 4) →
          ((0 ≤ hi h11 t 4 ∧ hi h11 t 4 < 30) ∧ (0 ≤ chr tx p ∧ chr tx p < 65536) ∧ rg (hi h11 t 4 + 1) ∧ RO h1 t tx os (ordP tx p) (some 1) (up (up (up h11 (t + 2) (hi h11 t 4) (chr tx p)) (t + 3) (hi h11 t 4) (hi h11 t 6)) t 4 (hi h11 t 4 + 1)))))))) ∧
        (¬ (¬ v12 = 0) → RO h1 t tx os (ordP tx p) (some 0) h11))) := by
    intro x1 x2 g1 g2 g3 g4 eo
    have pl := hin g4
    have r5 : hi (up (up h1 t 5 (p + 1)) t 6 0) t 5 = p + 1 := by rw [hi_up, if_neg (fun z => absurd z.2 (by decide)), hi_up, if_pos ⟨rfl, rfl⟩]
    have a0 : TXK (up (up h1 t 5 (p + 1)) t 6 0) t tx := (a.reg (by decide)).reg (by decide)
    have b0 : OK (up (up h1 t 5 (p + 1)) t 6 0) t os := (b.reg (by decide)).reg (by decide)
    have f0 : FX h1 (up (up h1 t 5 (p + 1)) t 6 0) (inX t) := (FX.rf.up ⟨by omega, by omega⟩).up ⟨by omega, by omega⟩
    refine ⟨by unfold rg; omega, am_mono (c_readNumber (tx := tx) (by omega) (hL.ss SS.rf.up.up) a0 g1 g2 g3 (by rw [r5]; omega) (by rw [r5]; omega)) (fun r h11 _ _ z => ?_)⟩
    rw [r5] at z
    cases hN : numP tx x1 x2 (p + 1) with
    | none =>
      obtain ⟨rfl, rfl⟩ := z.1 hN
      refine ⟨0, rfl, SS.rf, fun c => absurd rfl c, fun _ => ?_⟩
      rw [eo, hN]
      exact ⟨rfl, SS.rf.up.up, f0, a0, r5, b0⟩
    | some nq =>
      obtain ⟨n, q⟩ := nq
      obtain ⟨rfl, rfl⟩ := z.2 n q hN
      have a1 : TXK (up (up (up (up h1 t 5 (p + 1)) t 6 0) t 6 n) t 5 q) t tx := (a0.reg (by decide)).reg (by decide)
      have b3 : OK (up (up (up (up h1 t 5 (p + 1)) t 6 0) t 6 n) t 5 q) t os := (b0.reg (by decide)).reg (by decide)
      have f1 : FX h1 (up (up (up (up h1 t 5 (p + 1)) t 6 0) t 6 n) t 5 q) (inX t) := (f0.up ⟨by omega, by omega⟩).up ⟨by omega, by omega⟩
      have q5 : hi (up (up (up (up h1 t 5 (p + 1)) t 6 0) t 6 n) t 5 q) t 5 = q := by rw [hi_up, if_pos ⟨rfl, rfl⟩]
      have q6 : hi (up (up (up (up h1 t 5 (p + 1)) t 6 0) t 6 n) t 5 q) t 6 = n := by rw [hi_up, if_neg (fun z => absurd z.2 (by decide)), hi_up, if_pos ⟨rfl, rfl⟩]
      have b4 := b3.1
      refine ⟨1, rfl, SS.rf.up.up, fun _ => ?_, fun c => absurd (by decide) c⟩
      rw [eo, hN, q6]
      refine ⟨fun c => by omega, fun c => ⟨fun c2 => ?_, fun c2 => ⟨⟨by omega, by omega⟩, hc, by unfold rg; omega, ?_⟩⟩⟩
      · exact no_ok SS.rf.up.up.up.up f1 a1 b3 q5 (by omega)
      · exact st_ok SS.rf.up.up.up.up f1 a1 b3 rfl q5 (by omega)
  have bare : chr tx p ≠ 0 → ordP tx p = (some (chr tx p, 0), p + 1) →
      rg (p + 1) ∧ ((hi h1 t 4 < 0 → RO h1 t tx os (ordP tx p) (some 1) (up (up h1 t 5 (p + 1)) t 6 0)) ∧ (¬ (hi h1 t 4 < 0) → ((30 ≤ hi h1 t 4 → RO h1 t tx os (ordP tx p) (some 1) (up (up h1 t 5 (p + 1)) t 6 0)) ∧ (¬ (30 ≤ hi h1 t 4) →
        ((0 ≤ hi h1 t 4 ∧ hi h1 t 4 < 30) ∧ (0 ≤ chr tx p ∧ chr tx p < 65536) ∧ rg (hi h1 t 4 + 1) ∧ RO h1 t tx os (ordP tx p) (some 1) (up (up (up (up (up h1 t 5 (p + 1)) t 6 0) (t + 2) (hi h1 t 4) (chr tx p)) (t + 3) (hi h1 t 4) 0) t 4 (hi h1 t 4 + 1))))))) := by
    intro g4 eo
    have r5 : hi (up (up h1 t 5 (p + 1)) t 6 0) t 5 = p + 1 := by rw [hi_up, if_neg (fun z => absurd z.2 (by decide)), hi_up, if_pos ⟨rfl, rfl⟩]
    have r4 : hi h1 t 4 = hi (up (up h1 t 5 (p + 1)) t 6 0) t 4 := by rw [hi_up, if_neg (fun z => absurd z.2 (by decide)), hi_up, if_neg (fun z => absurd z.2 (by decide))]
    have a0 : TXK (up (up h1 t 5 (p + 1)) t 6 0) t tx := (a.reg (by decide)).reg (by decide)
    have b0 : OK (up (up h1 t 5 (p + 1)) t 6 0) t os := (b.reg (by decide)).reg (by decide)
    have f0 : FX h1 (up (up h1 t 5 (p + 1)) t 6 0) (inX t) := (FX.rf.up ⟨by omega, by omega⟩).up ⟨by omega, by omega⟩
    rw [eo]
    refine ⟨by unfold rg; omega, fun c => by omega, fun c => ⟨fun c2 => ?_, fun c2 => ⟨⟨by omega, by omega⟩, hc, by unfold rg; omega, ?_⟩⟩⟩
    · exact no_ok SS.rf.up.up f0 a0 b0 r5 (by omega)
    · exact st_ok SS.rf.up.up f0 a0 b0 r4 r5 (by omega)
  refine ⟨_, rfl, SS.rf, fun c => ?_, fun c => ⟨fun c1 => ?_, fun c1 => ⟨fun c2 => ⟨fun c3 => ⟨fun c4 => ?_, fun c4 => ⟨fun c5 => ?_, fun c5 => ⟨fun c6 => ?_, fun c6 => ?_⟩⟩⟩, fun c3 => ?_⟩, fun c2 => ?_⟩⟩⟩
  · exact numb 0 255 (by omega) (by omega) (by omega) (by omega) (by unfold ordP; rw [if_pos (Or.inl c)])
  · exact numb 0 255 (by omega) (by omega) (by omega) (by omega) (by unfold ordP; rw [if_pos (Or.inr (Or.inl c1))])
  · exact bare (by omega) (by unfold ordP; rw [if_neg (by omega), if_neg (by omega), if_pos (Or.inl c4)])
  · exact bare (by omega) (by unfold ordP; rw [if_neg (by omega), if_neg (by omega), if_pos (Or.inr (Or.inl c5))])
  · have e : ordP tx p = (none, p) := by unfold ordP; rw [if_neg (by omega), if_neg (by omega), if_neg (by omega)]
    rw [e]
    exact ⟨rfl, SS.rf, FX.rf, a, hp, b⟩
  · exact bare (by omega) (by unfold ordP; rw [if_neg (by omega), if_neg (by omega), if_pos (Or.inr (Or.inr (by omega)))])
  · exact numb 1 64 (by omega) (by omega) (by omega) (by omega) (by unfold ordP; rw [if_neg (by omega), if_pos (by omega)])
  · exact numb 0 255 (by omega) (by omega) (by omega) (by omega) (by unfold ordP; rw [if_pos (by omega)])
end ORD2
