/-! the model: walks -/
theorem dv_pos {x y : Int} (h0 : 0 ≤ x) (h1 : x < 2147483648) (g0 : 0 < y) (g1 : y < 2147483648) : dv x y = x / y := by
  obtain ⟨n, rfl⟩ : ∃ n : Nat, x = n := ⟨x.toNat, by omega⟩
  obtain ⟨m, rfl⟩ : ∃ m : Nat, y = m := ⟨y.toNat, by omega⟩
  have hle : n / m ≤ n := Nat.div_le_self n m
  unfold dv
  rw [b2_def]
  show (Int32.ofInt (n : Int) / Int32.ofInt (m : Int)).toInt = _
  rw [nI_ofInt, nI_ofInt, pk_div (by omega) (by omega) (by omega), nI_toInt (by omega)]
  exact Int.natCast_ediv n m
theorem rm_pos {x y : Int} (h0 : 0 ≤ x) (h1 : x < 2147483648) (g0 : 0 < y) (g1 : y < 2147483648) : rm x y = x % y := by
  have hd := dv_pos h0 h1 g0 g1
  unfold dv at hd
  have hq : 0 ≤ x / y := Int.ediv_nonneg h0 (by omega)
  have hm : 0 ≤ x % y ∧ x % y < y := ⟨Int.emod_nonneg x (by omega), Int.emod_lt_of_pos x g0⟩
  have e := Int.mul_ediv_add_emod x y
  have hxy : x / y * y = y * (x / y) := Int.mul_comm _ _
  have o := b2_of (fun a b => a / b) x y
  rw [hd] at o
  unfold rm
  rw [b2_def]
  show (Int32.ofInt x - Int32.ofInt x / Int32.ofInt y * Int32.ofInt y).toInt = _
  rw [← o, ← Int32.ofInt_mul, ← Int32.ofInt_sub, ti ⟨by omega, by omega⟩]
  omega
theorem sr_n {x : Int} (hx : 0 ≤ x ∧ x ≤ 255) {t : Nat} (ht : t ≤ 8) : sr x (8 - (t : Int)) = ((x.toNat / 2 ^ (8 - t) : Nat) : Int) := by
  rw [sr_eq ⟨by omega, by omega⟩ (by omega) (by omega)]
  have e1 : (8 - (t : Int)).toNat = 8 - t := by omega
  obtain ⟨n, rfl⟩ : ∃ n : Nat, x = n := ⟨x.toNat, by omega⟩
  rw [e1, Int.toNat_natCast, Int.natCast_ediv, Int.natCast_pow]
  rfl
theorem fo_lt {x : Int} {t : Nat} (h1 : x < 256) (ht : t ≤ 8) (hf : (t : Int) ≤ fo x) : x < 2 ^ (8 - t) := by
  have hc : t = 0 ∨ t = 1 ∨ t = 2 ∨ t = 3 ∨ t = 4 ∨ t = 5 ∨ t = 6 ∨ t = 7 ∨ t = 8 := by omega
  unfold fo at hf
  rcases hc with rfl | rfl | rfl | rfl | rfl | rfl | rfl | rfl | rfl
  · show x < 256; omega
  · show x < 128; repeat' split at hf
    all_goals omega
  · show x < 64; repeat' split at hf
    all_goals omega
  · show x < 32; repeat' split at hf
    all_goals omega
  · show x < 16; repeat' split at hf
    all_goals omega
  · show x < 8; repeat' split at hf
    all_goals omega
  · show x < 4; repeat' split at hf
    all_goals omega
  · show x < 2; repeat' split at hf
    all_goals omega
  · show x < 1; repeat' split at hf
    all_goals omega
theorem fo_ge {x : Int} {t : Nat} (ht : t ≤ 8) (hx : x < 2 ^ (8 - t)) : (t : Int) ≤ fo x := by
  have hc : t = 0 ∨ t = 1 ∨ t = 2 ∨ t = 3 ∨ t = 4 ∨ t = 5 ∨ t = 6 ∨ t = 7 ∨ t = 8 := by omega
  unfold fo
  rcases hc with rfl | rfl | rfl | rfl | rfl | rfl | rfl | rfl | rfl
  · have h : x < 256 := hx
    repeat' split
    all_goals omega
  · have h : x < 128 := hx
    repeat' split
    all_goals omega
  · have h : x < 64 := hx
    repeat' split
    all_goals omega
  · have h : x < 32 := hx
    repeat' split
    all_goals omega
  · have h : x < 16 := hx
    repeat' split
    all_goals omega
  · have h : x < 8 := hx
    repeat' split
    all_goals omega
  · have h : x < 4 := hx
    repeat' split
    all_goals omega
  · have h : x < 2 := hx
    repeat' split
    all_goals omega
  · have h : x < 1 := hx
    repeat' split
    all_goals omega
theorem orN_lt2 {f k : Nat} : ∀ (A : List Nat) (acc : Nat), acc < 2 ^ k → (∀ e ∈ A, e / 2 ^ k = f / 2 ^ k) → orN A f acc < 2 ^ k
  | [], acc, ha, _ => ha
  | e :: t, acc, ha, hA => by
    have h0 : (e ^^^ f) / 2 ^ k = 0 := by
      have h1 := hA e List.mem_cons_self
      rw [← Nat.shiftRight_eq_div_pow, ← Nat.shiftRight_eq_div_pow] at h1
      rw [← Nat.shiftRight_eq_div_pow, Nat.shiftRight_xor_distrib, h1, Nat.xor_self]
    have hx : e ^^^ f < 2 ^ k := (Nat.div_eq_zero_iff_lt (Nat.two_pow_pos k)).mp h0
    exact orN_lt2 t (acc ||| (e ^^^ f)) (Nat.or_lt_two_pow ha hx) (fun x hx => hA x (List.mem_cons_of_mem _ hx))
/-- behind a clash: the last that answered and the first are alike ahead of the clash bit, which is not ahead of the beginning's end -/
theorem clash_more {len : Nat} {bits : Int} {s : Ms} (hw : WL s.1) (h8 : len ≤ 8) (hr : 400 ≤ askR len bits s) : (len : Int) ≤ askR len bits s - 400 ∧ askR len bits s - 400 ≤ 7 ∧ ∃ c A', s.1.filter (pa len bits) = A' ++ [c] ∧ ∀ t : Nat, (t : Int) ≤ askR len bits s - 400 → sr c.1 (8 - (t : Int)) = sr (fnm (pa len bits) s.1) (8 - (t : Int)) := by
  obtain ⟨c, e, tl, he, hfn, hcm, -, -, -, -, hR, hd0, hd1⟩ := clash_of hw hr
  have hR' : askR len bits s = 400 + fo (dfs (pa len bits) c.1 s.1) := hR
  have h7 := fo_7 hd0
  have hA : ∀ x ∈ c :: e :: tl, x ∈ s.1 ∧ pa len bits x = true := fun x hx => List.mem_filter.mp (by rw [he]; exact hx)
  have hn : ∀ x ∈ c :: e :: tl, 0 ≤ x.1 ∧ x.1 ≤ 255 := fun x hx => nm_of hw (hA x hx).1
  have hdf : dfs (pa len bits) c.1 s.1 = ((orN ((c :: e :: tl).map fun e => e.1.toNat) c.1.toNat 0 : Nat) : Int) := by
    rw [dfs_filter, he]
    exact orF_cons hn
  have hcn := hn c List.mem_cons_self
  refine ⟨?_, by omega, ?_⟩
  · rw [hR']
    have hb : orN ((c :: e :: tl).map fun e => e.1.toNat) c.1.toNat 0 < 2 ^ (8 - len) := orN_lt2 _ _ (Nat.two_pow_pos _) (fun x hx => by
      obtain ⟨u, hu, rfl⟩ := List.mem_map.mp hx
      have p1 := (hA u hu).2
      have p2 := (hA c List.mem_cons_self).2
      simp only [pa, Bool.and_eq_true, decide_eq_true_eq] at p1 p2
      have q1 := p1.2
      have q2 := p2.2
      rw [sr_n (hn u hu) h8] at q1
      rw [sr_n hcn h8] at q2
      omega)
    have := fo_ge (x := dfs (pa len bits) c.1 s.1) h8 (by
      rw [hdf]
      have h2 := Int.ofNat_lt.mpr hb
      rw [Int.natCast_pow] at h2
      exact h2)
    omega
  · have hne : c :: e :: tl ≠ [] := fun q => by cases q
    refine ⟨(c :: e :: tl).getLast hne, (c :: e :: tl).dropLast, by rw [he]; exact (List.dropLast_concat_getLast hne).symm, fun t ht => ?_⟩
    have hm := List.getLast_mem hne
    rw [hR'] at ht
    have hlt := fo_lt (t := t) hd1 (by omega) (by omega)
    rw [hdf] at hlt
    have hlt2 : orN ((c :: e :: tl).map fun e => e.1.toNat) c.1.toNat 0 < 2 ^ (8 - t) := by
      apply Int.ofNat_lt.mp
      rw [Int.natCast_pow]
      exact hlt
    rw [hfn, sr_n (hn _ hm) (by omega), sr_n hcn (by omega), orN_sub (List.mem_map.mpr ⟨_, hm, rfl⟩) hlt2]
def sW (j : Nat) (m : Int) : Prop := j = 105 ∨ (j = 104 ∧ 8 ≤ m ∧ m ≤ 13) ∨ j = 110
theorem sA_W {j : Nat} {m : Int} (q : sA j m) : sW j m := by unfold sA at q; unfold sW; omega
theorem sW_P {j : Nat} {m : Int} (q : sW j m) : sP j m := by unfold sW at q; unfold sP; omega
section MODEL16
variable {d : Nat} {h : AH} {s : Ms} {g : Gs}
theorem z_wk {skips : Int} {Q : Option Int → AH → Prop} (hd : 6 ≤ d) : ∀ (f n len : Nat) (bits : Int) (h1 : AH) (s1 : Ms), 9 ≤ len + f → len ≤ 8 → n ≤ len → 0 ≤ bits → bits < 2 ^ len → QZ h1 → EZ h1 s1 → hi h1 110 n = 256 * (len : Int) + bits →
    (∀ h', SS h1 h' → FM h1 h' sW → (∀ m : Int, m < n → hi h' 110 m = hi h1 110 m) → EZ h' (wk skips f (hi h1 104 13, s1) len bits).2 → hi h' 104 13 = (wk skips f (hi h1 104 13, s1) len bits).1 →
      AW m_X7_walkNow d none Q 14 [some (.inr (some 104)), some (.inl skips), some (.inl (n : Int)), none, none, none, none, none] [] h' (0, 0)) →
    AW m_X7_walkNow d none Q 14 [some (.inr (some 104)), some (.inl skips), some (.inl ((n : Int) + 1)), none, none, none, none, none] [] h1 (0, 0) := by
  intro f
  induction f with
  | zero => intro n len bits h1 s1 h9 h8; omega
  | succ f ih =>
    intro n len bits h1 s1 h9 h8 hn hb0 hb1 hL a hst K
    have hw := a.wl
    have hb2 : (2 : Int) ^ len ≤ 256 := (two_in len (by omega)).2
    have ex : (n : Int) + 1 - 1 = n := by omega
    have edv : dv (256 * (len : Int) + bits) 256 = len := by rw [dv_pos (by omega) (by omega) (by decide) (by decide)]; omega
    have erm : rm (256 * (len : Int) + bits) 256 = (if len = 8 then bits else bits) := by
      rw [ite_self, rm_pos (by omega) (by omega) (by decide) (by decide)]
      omega
    rw [ite_self] at erm
    have ewk : ∀ g : Int, wk skips (f + 1) (g, s1) len bits = if askR len bits s1 < 400 then (if g < len then (len : Int) else g, askS len bits s1) else wk skips f (wk skips f (if g < len then (len : Int) else g, askS len bits s1) (wto skips len (askR len bits s1) + 1) (2 * sr (fnm (pa len bits) s1.1) (8 - wto skips len (askR len bits s1)))) (wto skips len (askR len bits s1) + 1) (2 * sr (fnm (pa len bits) s1.1) (8 - wto skips len (askR len bits s1)) + 1) := fun g => rfl
    rw [ewk] at K
    -- behind the greatest length
    have main : ∀ (g : Int) (hA : AH), g = (if hi h1 104 13 < len then (len : Int) else hi h1 104 13) → hA = up h1 104 13 g → AM (d - 1) m_X7_askNow [(.inr (some 104)), (.inl (len : Int)), (.inl bits)] hA (fun r h5 => 
          ∃ v6, r = some v6 ∧ SS hA h5 ∧
          ((v6 < 400 → (
            AW m_X7_walkNow d none Q 14 [some (.inr (some 104)), some (.inl skips), some (.inl (n : Int)), none, none, none, none, none] [] h5 (0, 0)
          )) ∧
          (¬ (v6 < 400) → (
            ((skips = 0 → (
              (rg (8 - (len : Int))) ∧
              (rg ((len : Int) + 1)) ∧
              (rg (256 * ((len : Int) + 1))) ∧
              (rg (2 * (sr (hi h5 104 10) (8 - (len : Int))))) ∧
              (rg ((256 * ((len : Int) + 1)) + (2 * (sr (hi h5 104 10) (8 - (len : Int)))))) ∧
              (rg (((256 * ((len : Int) + 1)) + (2 * (sr (hi h5 104 10) (8 - (len : Int))))) + 1)) ∧
              (rg ((n : Int) + 1)) ∧
              (0 ≤ (n : Int) + 1 ∧ (n : Int) + 1 < 20) ∧
              (rg ((n : Int) + 2)) ∧
              AW m_X7_walkNow d none Q 14 [some (.inr (some 104)), some (.inl skips), some (.inl ((n : Int) + 2)), none, none, none, none, none] [] (up (up h5 110 (n : Int) (((256 * ((len : Int) + 1)) + (2 * (sr (hi h5 104 10) (8 - (len : Int))))) + 1)) 110 ((n : Int) + 1) ((256 * ((len : Int) + 1)) + (2 * (sr (hi h5 104 10) (8 - (len : Int)))))) (0, 0)
            )) ∧
            (¬ (skips = 0) → (
              (rg (v6 - 400)) ∧
              (rg (8 - (v6 - 400))) ∧
              (rg ((v6 - 400) + 1)) ∧
              (rg (256 * ((v6 - 400) + 1))) ∧
              (rg (2 * (sr (hi h5 104 10) (8 - (v6 - 400))))) ∧
              (rg ((256 * ((v6 - 400) + 1)) + (2 * (sr (hi h5 104 10) (8 - (v6 - 400)))))) ∧
              (rg (((256 * ((v6 - 400) + 1)) + (2 * (sr (hi h5 104 10) (8 - (v6 - 400))))) + 1)) ∧
              (rg ((n : Int) + 1)) ∧
              (0 ≤ (n : Int) + 1 ∧ (n : Int) + 1 < 20) ∧
              (rg ((n : Int) + 2)) ∧
              AW m_X7_walkNow d none Q 14 [some (.inr (some 104)), some (.inl skips), some (.inl ((n : Int) + 2)), none, none, none, none, none] [] (up (up h5 110 (n : Int) (((256 * ((v6 - 400) + 1)) + (2 * (sr (hi h5 104 10) (8 - (v6 - 400))))) + 1)) 110 ((n : Int) + 1) ((256 * ((v6 - 400) + 1)) + (2 * (sr (hi h5 104 10) (8 - (v6 - 400)))))) (0, 0)
            )))
          )))) := by
      intro g hA hg eA
      rw [← hg] at K
      have tA : SS h1 hA := by rw [eA]; exact SS.rf.up
      have fA : FM h1 hA sW := by rw [eA]; exact FM.rf.up (Or.inr (Or.inl ⟨rfl, by decide, by decide⟩))
      have gA : hi hA 104 13 = g := by rw [eA, hi_up, if_pos ⟨rfl, rfl⟩]
      have rA : ∀ m, hi hA 110 m = hi h1 110 m := fun m => by rw [eA, hi_up, if_neg (by omega)]
      have aA : EZ hA s1 := a.row (by rw [eA]; exact up_ne (by decide))
      refine am_mono (z_askNow (by omega) (hL.ss tA) aA (by omega) (by omega)) (fun r h5 _ _ z => ?_)
      obtain ⟨rfl, t5, f5, e5, l5⟩ := z
      have t15 := tA.tr t5
      have f15 : FM h1 h5 sW := fA.tr (f5.wk (fun _ _ => sA_W))
      have g5 : hi h5 104 13 = g := (f5 104 13 (by unfold sA; omega)).trans gA
      have r5 : ∀ m, hi h5 110 m = hi h1 110 m := fun m => (f5 110 m (by unfold sA; omega)).trans (rA m)
      refine ⟨_, rfl, t5, fun c => ?_, fun c => ?_⟩
      · rw [if_pos c] at K
        exact K h5 t15 f15 (fun m _ => r5 m) e5 g5
      · rw [if_neg c] at K
        obtain ⟨m1, m2, cl, A', hcl, hsr⟩ := clash_more (bits := bits) hw h8 (by omega)
        have h10 := l5 cl A' hcl
        have hfnm : 0 ≤ fnm (pa len bits) s1.1 ∧ fnm (pa len bits) s1.1 ≤ 255 := by
          obtain ⟨c2, e2, t2, he2, hfn2, hcm2, -⟩ := clash_of hw (show 400 ≤ hearR (pa len bits) s1.1 from by have : ¬ hearR (pa len bits) s1.1 < 400 := c; omega)
          rw [hfn2]
          exact nm_of hw hcm2
        have hstep : ∀ to : Nat, (to : Int) = wto skips len (askR len bits s1) → len ≤ to → (to : Int) ≤ askR len bits s1 - 400 →
            (rg (2 * (sr (hi h5 104 10) (8 - (to : Int))))) ∧
            (rg ((256 * ((to : Int) + 1)) + (2 * (sr (hi h5 104 10) (8 - (to : Int)))))) ∧
            (rg (((256 * ((to : Int) + 1)) + (2 * (sr (hi h5 104 10) (8 - (to : Int))))) + 1)) ∧
            (rg ((n : Int) + 1)) ∧
            (0 ≤ (n : Int) + 1 ∧ (n : Int) + 1 < 20) ∧
            (rg ((n : Int) + 2)) ∧
            AW m_X7_walkNow d none Q 14 [some (.inr (some 104)), some (.inl skips), some (.inl ((n : Int) + 2)), none, none, none, none, none] [] (up (up h5 110 (n : Int) (((256 * ((to : Int) + 1)) + (2 * (sr (hi h5 104 10) (8 - (to : Int))))) + 1)) 110 ((n : Int) + 1) ((256 * ((to : Int) + 1)) + (2 * (sr (hi h5 104 10) (8 - (to : Int)))))) (0, 0) := by
          intro to hto hlt hle
          rw [← hto] at K
          rw [h10, hsr to hle]
          have hs := stem_in hfnm (t := to) (by omega)
          have hp2 : (2 : Int) ^ (to + 1) = 2 ^ to * 2 := Int.pow_succ 2 to
          have hp8 := (two_in to (by omega)).2
          refine ⟨by unfold rg; omega, by unfold rg; omega, by unfold rg; omega, by unfold rg; omega, ⟨by omega, by omega⟩, by unfold rg; omega, ?_⟩
          generalize hstem : sr (fnm (pa len bits) s1.1) (8 - (to : Int)) = stem at hs K ⊢
          have en2 : (n : Int) + 2 = ((n + 1 : Nat) : Int) + 1 := by omega
          have en1 : (n : Int) + 1 = ((n + 1 : Nat) : Int) := by omega
          have et1 : (to : Int) + 1 = ((to + 1 : Nat) : Int) := by omega
          have eB : EZ (up (up h5 110 (n : Int) (256 * ((to : Int) + 1) + 2 * stem + 1)) 110 ((n : Int) + 1) (256 * ((to : Int) + 1) + 2 * stem)) (askS len bits s1) := e5.row (by rw [up_ne (by decide), up_ne (by decide)])
          have gB : hi (up (up h5 110 (n : Int) (256 * ((to : Int) + 1) + 2 * stem + 1)) 110 ((n : Int) + 1) (256 * ((to : Int) + 1) + 2 * stem)) 104 13 = g := by
            rw [hi_up, if_neg (by omega), hi_up, if_neg (by omega)]
            exact g5
          have fB : FM h5 (up (up h5 110 (n : Int) (256 * ((to : Int) + 1) + 2 * stem + 1)) 110 ((n : Int) + 1) (256 * ((to : Int) + 1) + 2 * stem)) sW := (FM.rf.up (Or.inr (Or.inr rfl))).up (Or.inr (Or.inr rfl))
          rw [en2]
          refine ih (n + 1) (to + 1) (2 * stem) _ _ (by omega) (by omega) (by omega) (by omega) (by rw [hp2]; omega) (hL.ss (t15.up.up)) eB ?_ (fun h6 t6 f6 r6 e6 g6 => ?_)
          · rw [hi_up, if_pos ⟨rfl, by omega⟩]
            omega
          · rw [gB, ← et1] at e6 g6
            have e6n : hi h6 110 (n : Int) = 256 * ((to : Int) + 1) + 2 * stem + 1 := by
              rw [r6 n (by omega), hi_up, if_neg (by omega), hi_up, if_pos ⟨rfl, rfl⟩]
            rw [← en1]
            refine ih n (to + 1) (2 * stem + 1) h6 _ (by omega) (by omega) (by omega) (by omega) (by rw [hp2]; omega) ((hL.ss t15.up.up).ss t6) e6 (by rw [e6n]; omega) (fun h7 t7 f7 r7 e7 g7 => ?_)
            rw [g6, ← et1] at e7 g7
            refine K h7 ((t15.up.up.tr t6).tr t7) (((f15.tr fB).tr f6).tr f7) (fun m hm => ?_) e7 g7
            rw [r7 m hm, r6 m (by omega), hi_up, if_neg (by omega), hi_up, if_neg (by omega)]
            exact r5 m
        refine ⟨fun c2 => ⟨by unfold rg; omega, by unfold rg; omega, by unfold rg; omega, ?_⟩, fun c2 => ⟨by unfold rg; omega, by unfold rg; omega, by unfold rg; omega, by unfold rg; omega, ?_⟩⟩
        · exact hstep len (by unfold wto; rw [if_pos c2]) (Nat.le_refl _) m1
        · obtain ⟨to, hto⟩ : ∃ to : Nat, (to : Int) = askR len bits s1 - 400 := ⟨(askR len bits s1 - 400).toNat, by omega⟩
          rw [← hto]
          refine hstep to ?_ (by omega) (by omega)
          unfold wto
          rw [if_neg c2]
          split <;> omega
    refine vc_X7_walkNow_14 (by omega) hL ⟨fun c => by omega, fun _ => ⟨by unfold rg; omega, ⟨by omega, by omega⟩, ?_⟩⟩
    rw [ex, hst, edv, erm]
    exact ⟨fun c => main _ _ (by rw [if_neg (by omega)]) rfl, fun c => main _ _ (by rw [if_pos (by omega)]) rfl⟩
theorem z_walkNow {skips : Int} (hd : 6 ≤ d) (hL : QZ h) (a : EZ h s) : AM d m_X7_walkNow [.inr (some 104), .inl skips] h (fun r h' => r = none ∧ SS h h' ∧ FM h h' sW ∧ EZ h' (wkS skips s).2 ∧ hi h' 104 13 = (wkS skips s).1) := by
  have eB : EZ (up (up h 110 0 0) 104 13 0) s := a.row (by rw [up_ne (by decide), up_ne (by decide)])
  have gB : hi (up (up h 110 0 0) 104 13 0) 104 13 = 0 := by rw [hi_up, if_pos ⟨rfl, rfl⟩]
  have fB : FM h (up (up h 110 0 0) 104 13 0) sW := (FM.rf.up (Or.inr (Or.inr rfl))).up (Or.inr (Or.inl ⟨rfl, by decide, by decide⟩))
  have r := z_wk (skips := skips) (Q := fun r h' => r = none ∧ SS h h' ∧ FM h h' sW ∧ EZ h' (wkS skips s).2 ∧ hi h' 104 13 = (wkS skips s).1) hd 9 0 0 0 (up (up h 110 0 0) 104 13 0) s (by omega) (by omega) (by omega) (by omega) (by decide) (hL.ss SS.rf.up.up) eB (by rw [hi_up, if_neg (by decide), hi_up, if_pos ⟨rfl, rfl⟩]; rfl) (fun h' t f _ e g => by
    rw [gB] at e g
    exact vc_X7_walkNow_14 (by omega) (hL.ss (SS.rf.up.up.tr t)) ⟨fun _ => ⟨rfl, SS.rf.up.up.tr t, fB.tr f, e, g⟩, fun c => absurd (by decide) c⟩)
  exact vc_X7_walkNow (by omega) hL r
end MODEL16
