section HR1
variable {d b : Nat} {h : AH} {s : Ms}
theorem nm_of {l : List Cd} (hw : WL l) {c : Cd} (hc : c ∈ l) : 0 ≤ c.1 ∧ c.1 ≤ 255 := (hw.2.1 c hc).1
theorem one_of {f : Cd → Bool} {l : List Cd} (hw : WL l) {c : Cd} {t : List Cd} (he : l.filter f = c :: t) : dfs f c.1 l = 0 ↔ t = [] := by
  have hc : c ∈ l := (List.mem_filter.mp (he ▸ List.mem_cons_self)).1
  rw [(dfs_in hw hc).2, he]
  constructor
  · intro q
    cases t with
    | nil => rfl
    | cons e t =>
      have hp : (l.filter f).Pairwise (fun a b => a.1 < b.1) := hw.2.2.sublist (List.filter_sublist ..)
      rw [he] at hp
      have h1 := (List.pairwise_cons.mp hp).1 e List.mem_cons_self
      have h2 := q e (List.mem_cons_of_mem _ List.mem_cons_self)
      omega
  · intro q e hm
    rw [q] at hm
    rw [List.mem_singleton.mp hm]
theorem set_CP {p : Nat} {l : List Cd} {i : Nat} {e : Cd} {h1 : AH} (a : CP h p l) (hi' : i < l.length) (hA : A4 h1 p i e) (ho : ∀ (k : Nat) (c : Cd), k ≠ i → A4 h p k c → A4 h1 p k c) : CP h1 p (l.set i e) := by
  intro k c hc
  rw [List.getElem?_set] at hc
  by_cases q : i = k
  · subst q
    rw [if_pos rfl, if_pos hi'] at hc
    cases hc
    exact hA
  · rw [if_neg q] at hc
    exact ho k c (fun z => q z.symm) (a k c hc)
theorem SL_map {p : Nat} {l : List Cd} {sl : Int → Int} {g : Cd → Cd} (a : SL h p l sl) (hg : ∀ c, (g c).1 = c.1) : SL h p (l.map g) sl := by
  intro i c hc
  rw [List.getElem?_map] at hc
  cases hq : l[i]? with
  | none => rw [hq] at hc; cases hc
  | some e =>
    rw [hq] at hc
    cases hc
    rw [hg]
    exact a i e hq
theorem tellC_1 {slp x : Int} (c : Cd) : (tellC slp x c).1 = c.1 := by
  unfold tellC
  split <;> rfl
theorem c_hear {f : Cd → Bool} (hd : 2 ≤ d) (hL : QS h b) (a : ES h b s) (m : MK h (b + 1) s.1 f) :
    AM d m_X2_hear [.inr (some b)] h (fun r h' => r = some (hearR f s.1) ∧ SS h h' ∧ FX h h' (inS b) ∧ ES h' b (hearS f s) ∧ (∀ sl, SL h (b + 1) s.1 sl → SL h' (b + 1) (hearS f s).1 sl) ∧ hi h' b 5 = hi h b 5 ∧ (∀ c t, s.1.filter f = c :: t → 400 ≤ hearR f s.1 → hi h' b 6 = c.1)) := by
  obtain ⟨aP, aT, aY, a2, a3, a4, aW⟩ := a
  obtain ⟨l, tl, sc⟩ := s
  have hf := first_of (f := f) (l := l)
  have hw := aP.2.2
  have hlen := hw.1
  refine vc_X2_hear (by omega) hL (am_mono (c_firstAnswering hL.2.2.1 aP m) (fun r h' _ _ q => ?_))
  obtain ⟨rfl, rfl⟩ := q
  refine ⟨_, rfl, SS.rf, fun c1 => ?_, fun c1 => ?_⟩
  · cases hfi : l.findIdx? f with
    | none => simp only [hfi] at c1; exact absurd trivial c1
    | some i =>
      rw [hfi] at hf
      obtain ⟨c, t, hc, he, hfc⟩ := hf
      have hcm : c ∈ l := List.mem_of_getElem? hc
      have hone := one_of hw he
      simp only [hfi]
      refine am_mono (c_nameAt (by omega) hL.2.2.1 aP hc) (fun r h' _ _ q => ?_)
      obtain ⟨rfl, rfl⟩ := q
      refine ⟨_, rfl, SS.rf, am_mono (c_differencesFrom hL.2.2.1 aP m) (fun r h' _ _ q => ?_)⟩
      obtain ⟨rfl, rfl⟩ := q
      refine ⟨_, rfl, SS.rf, fun c2 => ?_, fun c2 => ?_⟩
      · -- one answers
        have ht := hone.mp c2
        subst ht
        have eR : hearR f l = c.1 := by unfold hearR; rw [he]
        have eS : hearS f (l, tl, sc) = (l.map (tellC (sc 2) c.1), tad tl c.1, su sc 8 (w (sc 8 + 1))) := by unfold hearS; simp only [he]
        obtain ⟨y0, y1, y2, y3, y4, y5, y6, y7⟩ := aY
        rw [y3, eR, eS]
        have f1 : ∀ j, j ≠ b + 10 → hi (up h' (b + 10) 3 (w (sc 8 + 1))) j = hi h' j := fun j hj => up_ne hj
        refine am_mono (c_toldAdd (by omega) (hL.2.2.2.2.1.ss SS.rf.up) (aT.same (fun j h1 h2 => f1 j (by omega)))) (fun r h2 _ _ q => ?_)
        obtain ⟨rfl, s2, x2, T2⟩ := q
        have s2' : SS h' h2 := SS.tr SS.rf.up s2
        have o2 : ∀ j, ¬ inT (b + 8) j → j ≠ b + 10 → hi h2 j = hi h' j := fun j h1 h2' => (x2 j h1).trans (f1 j h2')
        have P2 : PK h2 (b + 1) l := aP.same (fun j h1 h2' => o2 j (fun z => by have := z.1; omega) (by omega))
        refine ⟨rfl, s2, am_mono (c_tellAt (by omega) (hL.2.2.1.ss s2') P2 hc) (fun r h3 _ _ q => ?_)⟩
        obtain ⟨rfl, rfl⟩ := q
        have e11 : hi (up h2 (b + 1 + 3) i (w (c.2.2.2 + 1))) (b + 11) 0 = sc 2 := by rw [hi_up, if_neg (by omega), o2 (b + 11) (fun z => by have := z.2; omega) (by omega)]; exact a2
        have e12 : hi h2 (b + 11) 1 = sc 3 := by rw [o2 (b + 11) (fun z => by have := z.2; omega) (by omega)]; exact a3
        have e4 : hi h2 b 4 = sc 4 := by rw [o2 b (fun z => by have := z.1; omega) (by omega)]; exact a4
        have e5 : hi h2 b 5 = hi h' b 5 := by rw [o2 b (fun z => by have := z.1; omega) (by omega)]
        have yk : ∀ k : Int, hi h2 (b + 10) k = if k = 3 then w (sc 8 + 1) else hi h' (b + 10) k := by
          intro k
          rw [x2 (b + 10) (fun z => by have := z.2; omega), hi_up]
          by_cases q : k = 3
          · rw [if_pos ⟨rfl, q⟩, if_pos q]
          · rw [if_neg (fun z => q z.2), if_neg q]
        -- the end, with the card's awake as it is then
        have fin : ∀ (h4 : AH) (aw : Int), aw = (if sc 2 = 0 then c.2.1 else 0) → SS h2 h4 → (∀ j, j ≠ b + 1 + 3 → j ≠ b + 1 + 5 → hi h4 j = hi h2 j) → (∀ k : Int, hi h4 (b + 1 + 3) k = if k = i then w (c.2.2.2 + 1) else hi h2 (b + 1 + 3) k) → (∀ k : Int, hi h4 (b + 1 + 5) k = if k = i then aw else hi h2 (b + 1 + 5) k) →
            some c.1 = some c.1 ∧ SS h' h4 ∧ FX h' h4 (inS b) ∧ ES h4 b (l.map (tellC (sc 2) c.1), tad tl c.1, su sc 8 (w (sc 8 + 1))) ∧ (∀ sl, SL h' (b + 1) l sl → SL h4 (b + 1) (l.map (tellC (sc 2) c.1)) sl) ∧ hi h4 b 5 = hi h' b 5 ∧ (∀ c' t, l.filter f = c' :: t → 400 ≤ c.1 → hi h4 b 6 = c'.1) := by
          intro h4 aw haw s4 o4 k3 k5
          have hwe : wc (c.1, aw, c.2.2.1, w (c.2.2.2 + 1)) := by
            have := hw.w1 hc
            refine ⟨this.1, ?_, this.2.2⟩
            show aw = 0 ∨ aw = 1
            rw [haw]
            split
            · exact this.2.1
            · exact Or.inl rfl
          have hin : 0 ≤ c.1 ∧ c.1 ≤ 255 := nm_of hw hcm
          refine ⟨rfl, s2'.tr s4, fun j hj => ?_, ⟨?_, ?_, ?_, ?_, ?_, ?_, aW.su (by decide)⟩, fun sl hsl => SL_map (hsl.same ?_) (fun c => tellC_1 c), ?_, fun c' t _ q => by omega⟩
          · rw [o4 j (fun z => hj ⟨by omega, by omega⟩) (fun z => hj ⟨by omega, by omega⟩)]
            exact o2 j (fun z => hj ⟨by have := z.1; omega, by have := z.2; omega⟩) (fun z => hj ⟨by omega, by omega⟩)
          · have hms := map_set hw hc (sc 2)
            rw [← haw] at hms
            show PK h4 (b + 1) (l.map (tellC (sc 2) c.1))
            rw [hms]
            refine ⟨?_, ?_, hw.set hc rfl hwe⟩
            · rw [o4 (b + 1) (by omega) (by omega), List.length_set]
              exact P2.1
            · have hA := P2.2.1 i c hc
              refine set_CP P2.2.1 (lt_len hc) ⟨?_, ?_, ?_, ?_⟩ (fun k e hk he' => ⟨?_, ?_, ?_, ?_⟩)
              · rw [o4 _ (by omega) (by omega)]; exact hA.1
              · rw [k5, if_pos rfl]
              · rw [o4 _ (by omega) (by omega)]; exact hA.2.2.1
              · rw [k3, if_pos rfl]
              · rw [o4 _ (by omega) (by omega)]; exact he'.1
              · rw [k5, if_neg (by omega)]; exact he'.2.1
              · rw [o4 _ (by omega) (by omega)]; exact he'.2.2.1
              · rw [k3, if_neg (by omega)]; exact he'.2.2.2
          · exact T2.same (fun j h1 h2' => o4 j (by omega) (by omega))
          · have e := o4 (b + 10) (by omega) (by omega)
            show YK h4 (b + 10) (su sc 8 (w (sc 8 + 1)))
            unfold YK
            rw [e]
            simp only [yk]
            simp [su, y0, y1, y2, y3, y4, y5, y6, y7]
          · show hi h4 (b + 11) 0 = su sc 8 (w (sc 8 + 1)) 2
            rw [o4 (b + 11) (by omega) (by omega), su_ne (by decide), ← e11, hi_up, if_neg (by omega)]
          · show hi h4 (b + 11) 1 = su sc 8 (w (sc 8 + 1)) 3
            rw [o4 (b + 11) (by omega) (by omega), su_ne (by decide)]
            exact e12
          · show hi h4 b 4 = su sc 8 (w (sc 8 + 1)) 4
            rw [o4 b (by omega) (by omega), su_ne (by decide)]
            exact e4
          · show hi h4 (b + 1 + 4) = hi h' (b + 1 + 4)
            rw [o4 _ (by omega) (by omega), o2 _ (fun z => by have := z.1; omega) (by omega)]
          · rw [o4 b (by omega) (by omega)]
            exact e5
        refine ⟨rfl, SS.rf.up, fun c3 => ?_, fun c3 => ?_⟩
        · rw [e11] at c3
          refine fin _ c.2.1 (by rw [if_pos c3]) SS.rf.up (fun j h1 _ => up_ne h1) (fun k => ?_) (fun k => ?_)
          · rw [hi_up]
            by_cases q : k = i
            · rw [if_pos ⟨rfl, q⟩, if_pos q]
            · rw [if_neg (fun z => q z.2), if_neg q]
          · rw [hi_up, if_neg (by omega)]
            by_cases q : k = i
            · rw [if_pos q, q]
              exact (P2.2.1 i c hc).2.1
            · rw [if_neg q]
        · rw [e11] at c3
          have P3 : PK (up h2 (b + 1 + 3) i (w (c.2.2.2 + 1))) (b + 1) (l.set i (c.1, c.2.1, c.2.2.1, w (c.2.2.2 + 1))) := by
            have hA := P2.2.1 i c hc
            refine ⟨by rw [hi_up, if_neg (by omega), List.length_set]; exact P2.1, set_CP P2.2.1 (lt_len hc) ⟨?_, ?_, ?_, ?_⟩ (fun k e hk he' => ⟨?_, ?_, ?_, ?_⟩), hw.set hc rfl ⟨(hw.w1 hc).1, (hw.w1 hc).2.1, (hw.w1 hc).2.2⟩⟩
            · rw [hi_up, if_neg (by omega)]; exact hA.1
            · rw [hi_up, if_neg (by omega)]; exact hA.2.1
            · rw [hi_up, if_neg (by omega)]; exact hA.2.2.1
            · rw [hi_up, if_pos ⟨rfl, rfl⟩]
            · rw [hi_up, if_neg (by omega)]; exact he'.1
            · rw [hi_up, if_neg (by omega)]; exact he'.2.1
            · rw [hi_up, if_neg (by omega)]; exact he'.2.2.1
            · rw [hi_up, if_neg (by omega)]; exact he'.2.2.2
          refine am_mono (c_sleepAt (by omega) ((hL.2.2.1.ss s2').ss SS.rf.up) P3 (by rw [List.getElem?_set_self (lt_len hc)])) (fun r h4 _ _ q => ?_)
          obtain ⟨rfl, rfl⟩ := q
          refine ⟨rfl, SS.rf.up, fin _ 0 (by rw [if_neg c3]) SS.rf.up.up (fun j h1 h2' => (up_ne h2').trans (up_ne h1)) (fun k => ?_) (fun k => ?_)⟩
          · rw [hi_up, if_neg (by omega), hi_up]
            by_cases q : k = i
            · rw [if_pos ⟨rfl, q⟩, if_pos q]
            · rw [if_neg (fun z => q z.2), if_neg q]
          · rw [hi_up]
            by_cases q : k = i
            · rw [if_pos ⟨rfl, q⟩, if_pos q]
            · rw [if_neg (fun z => q z.2), if_neg q, hi_up, if_neg (by omega)]
      · -- a clash
        have ht : t ≠ [] := fun q => c2 (hone.mpr q)
        obtain ⟨e, t', rfl⟩ : ∃ e t', t = e :: t' := by
          cases t with
          | nil => exact absurd rfl ht
          | cons e t' => exact ⟨e, t', rfl⟩
        have eR : hearR f l = 400 + fo (dfs f c.1 l) := by unfold hearR; rw [he]
        have eS : hearS f (l, tl, sc) = (l, tl, su sc 9 (w (sc 9 + 1))) := by unfold hearS; simp only [he]
        obtain ⟨y0, y1, y2, y3, y4, y5, y6, y7⟩ := aY
        rw [y4, eR, eS]
        have hf8 : 0 ≤ fo (dfs f c.1 ((l, tl, sc) : Ms).1) ∧ fo (dfs f c.1 ((l, tl, sc) : Ms).1) ≤ 8 := fo_in (dfs f c.1 l)
        have o3 : ∀ j, j ≠ b → j ≠ b + 10 → hi (up (up h' b 6 c.1) (b + 10) 4 (w (sc 9 + 1))) j = hi h' j := fun j h1 h2 => (up_ne h2).trans (up_ne h1)
        refine am_mono (c_firstOne (dfs_in hw hcm).1) (fun r h3 _ _ q => ?_)
        obtain ⟨rfl, rfl⟩ := q
        refine ⟨_, rfl, SS.rf, ⟨by omega, by omega⟩, rfl, SS.rf.up.up, fun j hj => o3 j (fun z => hj ⟨by omega, by omega⟩) (fun z => hj ⟨by omega, by omega⟩), ⟨?_, ?_, ?_, ?_, ?_, ?_, aW.su (by decide)⟩, fun sl hsl => hsl.same (o3 _ (by omega) (by omega)), ?_, fun c' t hct _ => ?_⟩
        · exact aP.same (fun j h1 h2 => o3 j (by omega) (by omega))
        · exact aT.same (fun j h1 h2 => o3 j (by omega) (by omega))
        · show YK _ (b + 10) (su sc 9 (w (sc 9 + 1)))
          unfold YK
          simp [hi_up, su, y0, y1, y2, y3, y4, y5, y6, y7]
        · show hi _ (b + 11) 0 = su sc 9 (w (sc 9 + 1)) 2
          rw [o3 (b + 11) (by omega) (by omega), su_ne (by decide)]
          exact a2
        · show hi _ (b + 11) 1 = su sc 9 (w (sc 9 + 1)) 3
          rw [o3 (b + 11) (by omega) (by omega), su_ne (by decide)]
          exact a3
        · show hi _ b 4 = su sc 9 (w (sc 9 + 1)) 4
          rw [hi_up, if_neg (by omega), hi_up, if_neg (by omega), su_ne (by decide)]
          exact a4
        · rw [hi_up, if_neg (by omega), hi_up, if_neg (by omega)]
        · rw [hi_up, if_neg (by omega), hi_up, if_pos ⟨rfl, rfl⟩]
          have := he.symm.trans hct
          cases this
          rfl
  · cases hfi : l.findIdx? f with
    | some i =>
      have c1' : ¬ ¬ ((i : Int) = -1) := by
        rw [show ((l, tl, sc) : Ms).1 = l from rfl, hfi] at c1
        exact c1
      omega
    | none =>
      rw [hfi] at hf
      have hf' : l.filter f = [] := hf
      have eR : hearR f l = 300 := by unfold hearR; rw [hf']
      have eS : hearS f (l, tl, sc) = (l, tl, su sc 7 (w (sc 7 + 1))) := by unfold hearS; simp only [hf']
      obtain ⟨y0, y1, y2, y3, y4, y5, y6, y7⟩ := aY
      rw [y2, eR, eS]
      have o3 : ∀ j, j ≠ b + 10 → hi (up h' (b + 10) 2 (w (sc 7 + 1))) j = hi h' j := fun j h1 => up_ne h1
      refine ⟨rfl, SS.rf.up, fun j hj => o3 j (fun z => hj ⟨by omega, by omega⟩), ⟨?_, ?_, ?_, ?_, ?_, ?_, aW.su (by decide)⟩, fun sl hsl => hsl.same (o3 _ (by omega)), ?_, fun c' t hct _ => ?_⟩
      · exact aP.same (fun j h1 h2 => o3 j (by omega))
      · exact aT.same (fun j h1 h2 => o3 j (by omega))
      · show YK _ (b + 10) (su sc 7 (w (sc 7 + 1)))
        unfold YK
        simp [hi_up, su, y0, y1, y2, y3, y4, y5, y6, y7]
      · show hi _ (b + 11) 0 = su sc 7 (w (sc 7 + 1)) 2
        rw [o3 (b + 11) (by omega), su_ne (by decide)]
        exact a2
      · show hi _ (b + 11) 1 = su sc 7 (w (sc 7 + 1)) 3
        rw [o3 (b + 11) (by omega), su_ne (by decide)]
        exact a3
      · show hi _ b 4 = su sc 7 (w (sc 7 + 1)) 4
        rw [o3 b (by omega), su_ne (by decide)]
        exact a4
      · rw [o3 b (by omega)]
      · rw [hf'] at hct
        cases hct
end HR1
