/-! walks -/
theorem stem_in {x : Int} {t : Nat} (hx : 0 ≤ x ∧ x ≤ 255) (ht : t ≤ 8) : 0 ≤ sr x (8 - (t : Int)) ∧ sr x (8 - (t : Int)) < 2 ^ t := by
  have e : ∀ k : Int, 0 ≤ k → k < 32 → sr x k = x / 2 ^ k.toNat := fun k a b => sr_eq ⟨by omega, by omega⟩ a b
  have hc : t = 0 ∨ t = 1 ∨ t = 2 ∨ t = 3 ∨ t = 4 ∨ t = 5 ∨ t = 6 ∨ t = 7 ∨ t = 8 := by omega
  rcases hc with rfl | rfl | rfl | rfl | rfl | rfl | rfl | rfl | rfl
  · rw [show (8 : Int) - ((0 : Nat) : Int) = 8 from rfl, e 8 (by decide) (by decide)]; show 0 ≤ x / 256 ∧ x / 256 < 1; omega
  · rw [show (8 : Int) - ((1 : Nat) : Int) = 7 from rfl, e 7 (by decide) (by decide)]; show 0 ≤ x / 128 ∧ x / 128 < 2; omega
  · rw [show (8 : Int) - ((2 : Nat) : Int) = 6 from rfl, e 6 (by decide) (by decide)]; show 0 ≤ x / 64 ∧ x / 64 < 4; omega
  · rw [show (8 : Int) - ((3 : Nat) : Int) = 5 from rfl, e 5 (by decide) (by decide)]; show 0 ≤ x / 32 ∧ x / 32 < 8; omega
  · rw [show (8 : Int) - ((4 : Nat) : Int) = 4 from rfl, e 4 (by decide) (by decide)]; show 0 ≤ x / 16 ∧ x / 16 < 16; omega
  · rw [show (8 : Int) - ((5 : Nat) : Int) = 3 from rfl, e 3 (by decide) (by decide)]; show 0 ≤ x / 8 ∧ x / 8 < 32; omega
  · rw [show (8 : Int) - ((6 : Nat) : Int) = 2 from rfl, e 2 (by decide) (by decide)]; show 0 ≤ x / 4 ∧ x / 4 < 64; omega
  · rw [show (8 : Int) - ((7 : Nat) : Int) = 1 from rfl, e 1 (by decide) (by decide)]; show 0 ≤ x / 2 ∧ x / 2 < 128; omega
  · rw [show (8 : Int) - ((8 : Nat) : Int) = 0 from rfl, e 0 (by decide) (by decide)]; show 0 ≤ x / 1 ∧ x / 1 < 256; omega
theorem fo_7 {x : Int} (h0 : 0 < x) : fo x ≤ 7 := by
  unfold fo
  repeat' split
  all_goals omega
def fnm (f : Cd → Bool) (l : List Cd) : Int := match l.filter f with
  | [] => 0
  | c :: _ => c.1
/-- a clash: two cards, the first's name, the clash bit -/
theorem clash_of {f : Cd → Bool} {l : List Cd} (hw : WL l) (h : 400 ≤ hearR f l) : ∃ c e t, l.filter f = c :: e :: t ∧ fnm f l = c.1 ∧ c ∈ l ∧ e ∈ l ∧ f c = true ∧ f e = true ∧ c.1 < e.1 ∧ hearR f l = 400 + fo (dfs f c.1 l) ∧ 0 < dfs f c.1 l ∧ dfs f c.1 l < 256 := by
  unfold hearR at h
  cases he : l.filter f with
  | nil => rw [he] at h; exact absurd h (show ¬ (400 : Int) ≤ 300 by decide)
  | cons c t =>
    have hc := List.mem_filter.mp (show c ∈ l.filter f from he ▸ List.mem_cons_self)
    have hn := nm_of hw hc.1
    cases t with
    | nil => rw [he] at h; simp only at h; omega
    | cons e t =>
      have hem := List.mem_filter.mp (show e ∈ l.filter f from he ▸ List.mem_cons_of_mem _ List.mem_cons_self)
      have hp : (l.filter f).Pairwise (fun a b => a.1 < b.1) := hw.2.2.sublist (List.filter_sublist ..)
      rw [he] at hp
      have h1 := (List.pairwise_cons.mp hp).1 e List.mem_cons_self
      have hd := dfs_in (f := f) hw hc.1
      have hone := one_of hw he
      have hne : dfs f c.1 l ≠ 0 := fun q => by have := hone.mp q; cases this
      refine ⟨c, e, t, rfl, ?_, hc.1, hem.1, hc.2, hem.2, h1, ?_, by omega, by omega⟩
      · unfold fnm; rw [he]
      · unfold hearR; rw [he]
/-- to where the beginning grows behind a clash -/
def wto (skips : Int) (len r : Int) : Int := if skips = 0 then len else if len < r - 400 then r - 400 else len
noncomputable def wk (skips : Int) : Nat → Int × Ms → Int → Int → Int × Ms
  | 0, gs, _, _ => gs
  | f + 1, gs, len, bits =>
    if askR len bits gs.2 < 400 then (if gs.1 < len then len else gs.1, askS len bits gs.2)
    else wk skips f (wk skips f (if gs.1 < len then len else gs.1, askS len bits gs.2) (wto skips len (askR len bits gs.2) + 1) (2 * sr (fnm (pa len bits) gs.2.1) (8 - wto skips len (askR len bits gs.2)))) (wto skips len (askR len bits gs.2) + 1) (2 * sr (fnm (pa len bits) gs.2.1) (8 - wto skips len (askR len bits gs.2)) + 1)
theorem wto_in {s : Ms} {len bits skips : Int} (hw : WL s.1) (h0 : 0 ≤ len) (h8 : len ≤ 8) (hr : 400 ≤ askR len bits s) : len ≤ wto skips len (askR len bits s) ∧ wto skips len (askR len bits s) ≤ 7 := by
  obtain ⟨c, e, t, he, -, hc, hem, fc, fe, hlt, hR, hd0, hd1⟩ := clash_of hw hr
  have h7 := fo_7 hd0
  have hR' : askR len bits s = 400 + fo (dfs (pa len bits) c.1 s.1) := hR
  have hl7 : len ≤ 7 := by
    rcases Int.lt_or_le 7 len with q | q
    · exfalso
      have : len = 8 := by omega
      subst this
      simp only [pa, Bool.and_eq_true, decide_eq_true_eq] at fc fe
      have e0 : ∀ x : Int, 0 ≤ x ∧ x ≤ 255 → sr x (8 - 8) = x := fun x hx => by
        show sr x 0 = x
        rw [sr_eq ⟨by omega, by omega⟩ (by decide) (by decide)]
        show x / 1 = x
        omega
      have g1 := fc.2
      have g2 := fe.2
      rw [e0 _ (nm_of hw hc)] at g1
      rw [e0 _ (nm_of hw hem)] at g2
      omega
    · exact q
  unfold wto
  split
  · omega
  · split <;> omega
section WK
variable {d b : Nat} {h : AH}
theorem c_isBeginning {len bits : Int} : AM d m_X6_isBeginning [.inl len, .inl bits] h (fun r h' => r = some (if 0 ≤ len ∧ len ≤ 8 ∧ 0 ≤ bits ∧ bits < 2 ^ len.toNat then 1 else 0) ∧ h' = h) := by
  have e : 0 ≤ len → len ≤ 8 → sl 1 len = 2 ^ len.toNat := fun h0 h8 => by
    obtain ⟨n, rfl⟩ : ∃ n : Nat, len = n := ⟨len.toNat, by omega⟩
    exact sl_1 n (by omega)
  refine vc_X6_isBeginning ⟨fun c => ⟨by rw [if_neg (by omega)], rfl⟩, fun c => ⟨fun c2 => ⟨by rw [if_neg (by omega)], rfl⟩, fun c2 => ⟨fun c3 => ⟨by rw [if_neg (by omega)], rfl⟩, fun c3 => ⟨fun c4 => ⟨?_, rfl⟩, fun c4 => ⟨?_, rfl⟩⟩⟩⟩⟩
  · rw [e (by omega) (by omega)] at c4
    rw [if_neg (fun q => by have := q.2.2.2; omega)]
  · rw [e (by omega) (by omega)] at c4
    rw [if_pos ⟨by omega, by omega, by omega, by omega⟩]
theorem ES.sc4 {s : Ms} (a : ES h b s) {v : Int} : ES (up h b 5 v) b s := by
  obtain ⟨aP, aT, aY, a2, a3, a4, aW⟩ := a
  exact ⟨aP.same (fun j h1 h2 => up_ne (by omega)), aT.same (fun j h1 h2 => up_ne (by omega)), aY.same (up_ne (by omega)), by rw [up_ne (by omega)]; exact a2, by rw [up_ne (by omega)]; exact a3, by rw [hi_up, if_neg (by omega)]; exact a4, aW⟩
theorem c_walkFrom {skips : Int} : ∀ (f d : Nat) (h : AH) (s : Ms) (len : Nat) (bits : Int), 4 + f ≤ d → 9 ≤ len + f → len ≤ 8 → 0 ≤ bits → bits < 2 ^ len → QS h b → ES h b s →
    AM d m_X2_walkFrom [.inr (some b), .inl (len : Int), .inl bits, .inl skips] h (fun r h' => r = none ∧ SS h h' ∧ FX h h' (inS b) ∧ ES h' b (wk skips f (hi h b 5, s) len bits).2 ∧ hi h' b 5 = (wk skips f (hi h b 5, s) len bits).1) := by
  intro f
  induction f with
  | zero => intro d h s len bits _ h9 h8; omega
  | succ f ih =>
    intro d h s len bits hd h9 h8 hb0 hb1 hL a
    refine vc_X2_walkFrom (by omega) hL (am_mono c_isBeginning (fun r h' _ _ q => ?_))
    obtain ⟨rfl, rfl⟩ := q
    rw [if_pos ⟨by omega, by omega, hb0, by rw [Int.toNat_natCast]; exact hb1⟩]
    refine ⟨_, rfl, SS.rf, fun _ => ?_, fun c => by omega⟩
    refine am_mono (c_askFor (by omega) (hL.ss SS.rf.up) a.sc4 (by omega) (by omega)) (fun r h1 _ _ q => ?_)
    obtain ⟨rfl, s1, f1, a1, e5, e6⟩ := q
    rw [hi_up, if_pos ⟨rfl, rfl⟩] at e5
    have hw := a.1.2.2
    have s01 : SS h' h1 := SS.tr SS.rf.up s1
    have f01 : FX h' h1 (inS b) := FX.tr (FX.rf.up ⟨by omega, by omega⟩) f1
    have ewk : ∀ g : Int, wk skips (f + 1) (g, s) len bits = if askR len bits s < 400 then (if g < len then (len : Int) else g, askS len bits s) else wk skips f (wk skips f (if g < len then (len : Int) else g, askS len bits s) (wto skips len (askR len bits s) + 1) (2 * sr (fnm (pa len bits) s.1) (8 - wto skips len (askR len bits s)))) (wto skips len (askR len bits s) + 1) (2 * sr (fnm (pa len bits) s.1) (8 - wto skips len (askR len bits s)) + 1) := fun g => rfl
    rw [ewk]
    refine ⟨_, rfl, s1, fun c1 => ?_, fun c1 => ?_⟩
    · rw [if_neg (by omega)]
      have hto := wto_in (skips := skips) hw (len := (len : Int)) (bits := bits) (by omega) (by omega) c1
      obtain ⟨c, e, t, he, hfn, hcm, -, -, -, -, -, -, -⟩ := clash_of hw c1
      have h6 := e6 c (e :: t) he c1
      rw [hfn]
      have hstep : ∀ to : Int, to = wto skips len (askR len bits s) → AM (d - 1) m_X6_firstBits [.inl (hi h1 b 6), .inl to] h1 (fun r h8 => ∃ v9, r = some v9 ∧ SS h1 h8 ∧ rg (to + 1) ∧ rg (2 * v9) ∧ AM (d - 1) m_X2_walkFrom [.inr (some b), .inl (to + 1), .inl (2 * v9), .inl skips] h8 (fun r h12 => r = none ∧ SS h8 h12 ∧ rg (2 * v9 + 1) ∧
          AM (d - 1) m_X2_walkFrom [.inr (some b), .inl (to + 1), .inl (2 * v9 + 1), .inl skips] h12 (fun r h14 => r = none ∧ SS h12 h14 ∧ ((none : Option Int) = none ∧ SS h' h14 ∧ FX h' h14 (inS b) ∧ ES h14 b (wk skips f (wk skips f (if hi h' b 5 < len then (len : Int) else hi h' b 5, askS len bits s) (to + 1) (2 * sr c.1 (8 - to))) (to + 1) (2 * sr c.1 (8 - to) + 1)).2 ∧ hi h14 b 5 = (wk skips f (wk skips f (if hi h' b 5 < len then (len : Int) else hi h' b 5, askS len bits s) (to + 1) (2 * sr c.1 (8 - to))) (to + 1) (2 * sr c.1 (8 - to) + 1)).1)))) := by
        intro to hto'
        rw [← hto'] at hto
        obtain ⟨t8, rfl⟩ : ∃ t8 : Nat, to = t8 := ⟨to.toNat, by omega⟩
        refine am_mono (c_firstBits (by omega) (by omega)) (fun r h8' _ _ q => ?_)
        obtain ⟨rfl, rfl⟩ := q
        rw [h6]
        have hst := stem_in (nm_of hw hcm) (t := t8) (by omega)
        have hp2 : (2 : Int) ^ (t8 + 1) = 2 ^ t8 * 2 := Int.pow_succ 2 t8
        have hp8 : (2 : Int) ^ t8 ≤ 128 := by
          have := Nat.pow_le_pow_right (show 0 < 2 by decide) (show t8 ≤ 7 by omega)
          have h2 : ((2 ^ t8 : Nat) : Int) ≤ ((2 ^ 7 : Nat) : Int) := Int.ofNat_le.mpr this
          rw [Int.natCast_pow] at h2
          exact h2
        refine ⟨_, rfl, SS.rf, ⟨by omega, by omega⟩, ⟨by omega, by omega⟩, ?_⟩
        have r1 := ih (d - 1) h8' (askS len bits s) (t8 + 1) (2 * sr c.1 (8 - (t8 : Int))) (by omega) (by omega) (by omega) (by omega) (by rw [hp2]; omega) (hL.ss s01) a1
        refine am_mono r1 (fun r h9' _ _ q => ?_)
        obtain ⟨rfl, s2, f2, a2, g2⟩ := q
        rw [e5] at a2 g2
        refine ⟨rfl, s2, ⟨by omega, by omega⟩, ?_⟩
        have r2 := ih (d - 1) h9' _ (t8 + 1) (2 * sr c.1 (8 - (t8 : Int)) + 1) (by omega) (by omega) (by omega) (by omega) (by rw [hp2]; omega) ((hL.ss s01).ss s2) a2
        refine am_mono r2 (fun r h10 _ _ q => ?_)
        obtain ⟨rfl, s3, f3, a3, g3⟩ := q
        rw [g2] at a3 g3
        exact ⟨rfl, s3, rfl, (s01.tr s2).tr s3, (f01.tr f2).tr f3, a3, g3⟩
      refine ⟨fun c2 => ?_, fun c2 => ⟨⟨by have := fo_in (dfs (pa len bits) c.1 s.1); omega, ?_⟩, ?_⟩⟩
      · have et : wto skips len (askR len bits s) = len := by unfold wto; rw [if_pos c2]
        rw [et]
        exact hstep len et.symm
      · have := hto.2
        unfold wto at this
        rw [if_neg c2] at this
        split at this <;> omega
      · have et : wto skips len (askR len bits s) = if (len : Int) < askR len bits s - 400 then askR len bits s - 400 else len := by unfold wto; rw [if_neg c2]
        rw [et]
        exact hstep _ et.symm
    · rw [if_pos (by omega)]
      exact ⟨rfl, s01, f01, a1, e5⟩
noncomputable def wkS (skips : Int) (s : Ms) : Int × Ms := wk skips 9 (0, s) 0 0
theorem c_makeWalk {skips : Int} {s : Ms} (hd : 14 ≤ d) (hL : QS h b) (a : ES h b s) : AM d m_X2_makeWalk [.inr (some b), .inl skips] h (fun r h' => r = some (w ((wkS skips s).2.2.2 8 - s.2.2 8)) ∧ SS h h' ∧ FX h h' (inS b) ∧ ES h' b (wkS skips s).2 ∧ hi h' b 5 = (wkS skips s).1) := by
  refine vc_X2_makeWalk (by omega) hL ?_
  have r1 := c_walkFrom (b := b) (skips := skips) 9 (d - 1) (up h b 5 0) s 0 0 (by omega) (by omega) (by omega) (by omega) (by decide) (hL.ss SS.rf.up) a.sc4
  rw [hi_up, if_pos ⟨rfl, rfl⟩] at r1
  refine am_mono r1 (fun r h1 _ _ q => ?_)
  obtain ⟨rfl, s1, f1, a1, g1⟩ := q
  refine ⟨rfl, s1, ?_, SS.tr SS.rf.up s1, FX.tr (FX.rf.up ⟨by omega, by omega⟩) f1, a1, g1⟩
  rw [a1.2.2.1.2.2.2.1, a.2.2.1.2.2.2.1]
  rfl
end WK
