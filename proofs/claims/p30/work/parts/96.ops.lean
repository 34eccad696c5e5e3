/-! the orders, each: what is asked of its answer, the state behind it -/
def OP (T : Int) (s : Ms) (o : Int × Ms) : Prop := -9 < o.1 ∧ (o.1 < 0 → o.2 = s) ∧ (0 ≤ o.1 → IV (T + 23200) o.2)
section OPM
variable {T : Int} {s : Ms}
theorem OP.no {v : Int} (h1 : -9 < v) (h2 : v < 0) : OP T s (v, s) := ⟨h1, fun _ => rfl, fun h => absurd h (by show ¬ 0 ≤ v; omega)⟩
theorem OP.yes {v : Int} {s' : Ms} (h1 : 0 ≤ v) (h2 : IV (T + 23200) s') : OP T s (v, s') := ⟨by show -9 < v; omega, fun h => absurd h (by show ¬ v < 0; omega), fun _ => h2⟩
theorem of_none {l : List Cd} {x : Int} (h : ix l x = none) (k : Int) : ofO x k l = -1 := by simp [ofO, h]
theorem of_some {l : List Cd} {x : Int} {i : Nat} (h : ix l x = some i) : ofO x 0 l = (cat l i).2.1 ∧ ofO x 1 l = (cat l i).2.2.1 ∧ ofO x 2 l = (cat l i).2.2.2 ∧ ofO x 3 l = shb (cat l i).1 l := by
  refine ⟨?_, ?_, ?_, ?_⟩ <;> simp [ofO, h]
theorem of_mem {l : List Cd} (hw : WL l) {c : Cd} (hc : c ∈ l) : ofO c.1 0 l = c.2.1 ∧ ofO c.1 1 l = c.2.2.1 ∧ ofO c.1 2 l = c.2.2.2 ∧ ofO c.1 3 l = shb c.1 l := by
  obtain ⟨i, hi⟩ := List.getElem?_of_mem hc
  have h := of_some ((ix_some hw).mpr ⟨c, hi, rfl⟩)
  rw [cat_eq hi] at h
  exact h
theorem IVd.cards {e : Int} (a : IVd e T s) {l : List Cd} (hw : WL l) (h5 : ∀ c ∈ l, 0 ≤ c.2.2.2 ∧ c.2.2.2 ≤ s.2.2 8) : IVd e T (l, s.2) := ⟨hw, a.2.1, a.2.2.1, a.2.2.2.1, a.2.2.2.2.1, a.2.2.2.2.2.1, a.2.2.2.2.2.2.1, a.2.2.2.2.2.2.2.1, h5⟩
theorem IVd.nums {e : Int} (a : IVd e T s) {sc : Int → Int} (hs : WS sc) (h : ∀ j : Int, 5 ≤ j → sc j = s.2.2 j) : IVd e T (s.1, s.2.1, sc) := by
  obtain ⟨hw, -, hl, h0, h1, h2, h3, h4, h5⟩ := a
  exact IVd.of hw hs hl _ _ _ _ _ _ _ (h 5 (by decide)) (h 6 (by decide)) (h 7 (by decide)) (h 8 (by decide)) (h 9 (by decide)) (h 10 (by decide)) (h 11 (by decide)) h0 h1 h2 h3 h4 h5
theorem ins_self {x : Int} : ∀ l : List Cd, (x, 1, 0, 0) ∈ ins x l
  | [] => List.mem_cons_self
  | c :: t => by
    rw [ins]
    split
    · exact List.mem_cons_of_mem _ (ins_self t)
    · exact List.mem_cons_self
theorem nAw_cons (a : Cd) (t : List Cd) : (nAw (a :: t) : Int) = (if a.2.1 = 1 then 1 else 0) + nAw t := by
  unfold nAw
  rw [List.filter_cons]
  by_cases q : a.2.1 = 1
  · simp [q]; omega
  · simp [q]
theorem nAw_set : ∀ {l : List Cd} {i : Nat} {c e : Cd}, l[i]? = some c → (nAw (l.set i e) : Int) = nAw l - (if c.2.1 = 1 then 1 else 0) + (if e.2.1 = 1 then 1 else 0)
  | [], i, c, e, h => by simp at h
  | a :: t, 0, c, e, h => by
    have : a = c := by simpa using h
    subst this
    rw [List.set_cons_zero, nAw_cons, nAw_cons]
    omega
  | a :: t, i + 1, c, e, h => by
    rw [List.set_cons_succ, nAw_cons, nAw_cons, nAw_set (by simpa using h)]
    omega
theorem nAw_wake : ∀ l : List Cd, nAw (l.map wake) = l.length
  | [] => rfl
  | a :: t => by
    have h1 := nAw_cons (wake a) (t.map wake)
    rw [nAw_wake t, if_pos (show (wake a).2.1 = 1 from rfl)] at h1
    rw [List.map_cons, List.length_cons]
    omega
theorem nAw_le (l : List Cd) : nAw l ≤ l.length := List.length_filter_le ..
theorem put_no {x : Int} (h : x < 0 ∨ 255 < x) : putO x s = (-2, s) := by unfold putO; rw [if_pos h]
theorem put_cases {x : Int} (a : IV T s) (hx : 0 ≤ x ∧ x ≤ 255) : (0 ≤ ofO x 0 s.1 ∧ putO x s = (-4, s)) ∨ (ofO x 0 s.1 = -1 ∧ (s.1.length : Int) = 20 ∧ putO x s = (-3, s)) ∨ (ofO x 0 s.1 = -1 ∧ (s.1.length : Int) < 20 ∧ putO x s = ((s.1.length : Int) + 1, (ins x s.1, s.2)) ∧ ofO x 0 (ins x s.1) = 1 ∧ ofO x 1 (ins x s.1) = 0 ∧ ofO x 2 (ins x s.1) = 0 ∧ IV T (ins x s.1, s.2)) := by
  have hw : WL s.1 := a.1
  have h20 := hw.1
  cases hi : ix s.1 x with
  | some i =>
    obtain ⟨c, hc, rfl⟩ := (ix_some hw).mp hi
    refine Or.inl ⟨?_, by unfold putO; rw [if_neg (by omega), hi]⟩
    rw [(of_mem hw (List.mem_of_getElem? hc)).1]
    have := (hw.w1 hc).2.1
    omega
  | none =>
    have hn := ix_none.mp hi
    by_cases q : 20 ≤ s.1.length
    · exact Or.inr (Or.inl ⟨of_none hi 0, by omega, by unfold putO; rw [if_neg (by omega), hi]; simp only; rw [if_pos q]⟩)
    · have hw2 := hw.ins (by omega) hx hn
      have hm := of_mem hw2 (ins_self s.1)
      refine Or.inr (Or.inr ⟨of_none hi 0, by omega, by unfold putO; rw [if_neg (by omega), hi]; simp only; rw [if_neg q], hm.1, hm.2.1, hm.2.2.1, a.cards hw2 (fun c hc => ?_)⟩)
      have p8 := a.2.2.2.1.2.2.2.1
      rcases ins_mem hc with r | r
      · rw [r]
        exact ⟨Int.le_refl 0, p8⟩
      · exact a.2.2.2.2.2.2.2.2 c r
theorem take_cases {x : Int} (a : IV T s) : (ofO x 0 s.1 = -1 ∧ takeO x s = (-1, s)) ∨ (0 ≤ ofO x 0 s.1 ∧ ∃ l, takeO x s = ((s.1.length : Int) - 1, (l, s.2)) ∧ 1 ≤ (s.1.length : Int) ∧ ofO x 0 l = -1 ∧ IV T (l, s.2)) := by
  have hw : WL s.1 := a.1
  cases hi : ix s.1 x with
  | none => exact Or.inl ⟨of_none hi 0, by unfold takeO; rw [hi]⟩
  | some i =>
    obtain ⟨c, hc, rfl⟩ := (ix_some hw).mp hi
    have hl := lt_len hc
    refine Or.inr ⟨?_, s.1.eraseIdx i, by unfold takeO; rw [hi], by omega, of_none (ix_none.mpr fun e he => ?_) 0, a.cards (hw.erase i) (fun e he => a.2.2.2.2.2.2.2.2 e (List.mem_of_mem_eraseIdx he))⟩
    · rw [(of_mem hw (List.mem_of_getElem? hc)).1]
      have := (hw.w1 hc).2.1
      omega
    · obtain ⟨j, hj⟩ := List.getElem?_of_mem he
      intro q
      rw [List.getElem?_eraseIdx] at hj
      split at hj
      · have := hw.inj hj hc q
        omega
      · have := hw.inj hj hc q
        omega
theorem sleep_cases {x : Int} (a : IV T s) : (ofO x 0 s.1 = -1 ∧ sleepO x s = (-1, s)) ∨ (ofO x 0 s.1 = 0 ∧ sleepO x s = (-5, s)) ∨ (ofO x 0 s.1 = 1 ∧ ∃ l, sleepO x s = ((nAw s.1 : Int) - 1, (l, s.2)) ∧ 1 ≤ (nAw s.1 : Int) ∧ ofO x 0 l = 0 ∧ IV T (l, s.2)) := by
  have hw : WL s.1 := a.1
  cases hi : ix s.1 x with
  | none => exact Or.inl ⟨of_none hi 0, by unfold sleepO; rw [hi]⟩
  | some i =>
    obtain ⟨c, hc, rfl⟩ := (ix_some hw).mp hi
    have hm := of_mem hw (List.mem_of_getElem? hc)
    have hcat := cat_eq hc
    have hq := hw.w1 hc
    by_cases q : c.2.1 = 0
    · exact Or.inr (Or.inl ⟨by rw [hm.1, q], by unfold sleepO; rw [hi]; simp only; rw [hcat, if_pos q]⟩)
    · have q1 : c.2.1 = 1 := by have := hq.2.1; omega
      have e : slp s.1 i = s.1.set i (c.1, 0, c.2.2) := by unfold slp; rw [hcat]
      have hw2 : WL (slp s.1 i) := by rw [e]; exact hw.set hc rfl ⟨hq.1, Or.inl rfl, hq.2.2⟩
      have hn : (nAw (slp s.1 i) : Int) = nAw s.1 - 1 := by
        rw [e, nAw_set hc, if_pos q1, if_neg (show ¬ (0 : Int) = 1 by decide)]
        omega
      have hin : (c.1, 0, c.2.2) ∈ slp s.1 i := by
        rw [e]
        exact List.mem_of_getElem? (i := i) (by rw [List.getElem?_set_self (lt_len hc)])
      refine Or.inr (Or.inr ⟨by rw [hm.1, q1], slp s.1 i, by unfold sleepO; rw [hi]; simp only; rw [hcat, if_neg q, hn], by omega, (of_mem hw2 hin).1, a.cards hw2 (fun y hy => ?_)⟩)
      rw [e] at hy
      rcases List.mem_or_eq_of_mem_set hy with r | r
      · exact a.2.2.2.2.2.2.2.2 y r
      · rw [r]
        exact a.2.2.2.2.2.2.2.2 c (List.mem_of_getElem? hc)
theorem wake_cases (a : IV T s) : ((nAw s.1 : Int) = s.1.length ∧ wakeO s = (-5, s)) ∨ ((nAw s.1 : Int) < s.1.length ∧ wakeO s = ((s.1.length : Int) - nAw s.1, (s.1.map wake, s.2)) ∧ IV T (s.1.map wake, s.2) ∧ nAw (s.1.map wake) = s.1.length) := by
  have hw : WL s.1 := a.1
  have hn := nAw_le s.1
  by_cases q : (s.1.length : Int) - nAw s.1 = 0
  · exact Or.inl ⟨by omega, by unfold wakeO; rw [if_pos q]⟩
  · refine Or.inr ⟨by omega, by unfold wakeO; rw [if_neg q], a.cards (WL.wake hw) (fun c hc => ?_), nAw_wake _⟩
    obtain ⟨y, hy, rfl⟩ := List.mem_map.mp hc
    exact a.2.2.2.2.2.2.2.2 y hy
theorem leave_cases {x y : Int} (a : IV T s) (hy : 0 ≤ y ∧ y ≤ 200) : (ofO x 0 s.1 = -1 ∧ leaveO x y s = (-1, s)) ∨ (0 ≤ ofO x 0 s.1 ∧ ofO x 1 s.1 = y ∧ leaveO x y s = (-5, s)) ∨ (0 ≤ ofO x 0 s.1 ∧ ofO x 1 s.1 ≠ y ∧ 0 ≤ ofO x 1 s.1 ∧ ∃ l, leaveO x y s = (ofO x 1 s.1, (l, s.2)) ∧ ofO x 1 l = y ∧ IV T (l, s.2)) := by
  have hw : WL s.1 := a.1
  cases hi : ix s.1 x with
  | none => exact Or.inl ⟨of_none hi 0, by unfold leaveO; rw [hi]⟩
  | some i =>
    obtain ⟨c, hc, rfl⟩ := (ix_some hw).mp hi
    have hm := of_mem hw (List.mem_of_getElem? hc)
    have hcat := cat_eq hc
    have hq := hw.w1 hc
    have h0 : 0 ≤ ofO c.1 0 s.1 := by rw [hm.1]; have := hq.2.1; omega
    by_cases q : c.2.2.1 = y
    · exact Or.inr (Or.inl ⟨h0, by rw [hm.2.1, q], by unfold leaveO; rw [hi]; simp only; rw [hcat, if_neg (by omega), if_pos q]⟩)
    · have hw2 : WL (s.1.set i (c.1, c.2.1, y, c.2.2.2)) := hw.set hc rfl ⟨hq.1, hq.2.1, hy⟩
      have hin : (c.1, c.2.1, y, c.2.2.2) ∈ s.1.set i (c.1, c.2.1, y, c.2.2.2) := List.mem_of_getElem? (i := i) (by rw [List.getElem?_set_self (lt_len hc)])
      refine Or.inr (Or.inr ⟨h0, by rw [hm.2.1]; exact q, by rw [hm.2.1]; exact hq.2.2.1, _, by unfold leaveO; rw [hi]; simp only; rw [hcat, if_neg (by omega), if_neg q, hm.2.1], (of_mem hw2 hin).2.1, a.cards hw2 (fun y hy => ?_)⟩)
      rcases List.mem_or_eq_of_mem_set hy with r | r
      · exact a.2.2.2.2.2.2.2.2 y r
      · rw [r]
        exact a.2.2.2.2.2.2.2.2 c (List.mem_of_getElem? hc)
theorem set_cases {k v : Int} (a : IV T s) (hk : k = 0 ∨ k = 1) (hv : 0 ≤ v ∧ v ≤ 1 + k) : (s.2.2 (2 + k) = v ∧ setO k v s = (-5, s)) ∨ (s.2.2 (2 + k) ≠ v ∧ 0 ≤ s.2.2 (2 + k) ∧ setO k v s = (s.2.2 (2 + k), (s.1, s.2.1, su s.2.2 (2 + k) v)) ∧ IV T (s.1, s.2.1, su s.2.2 (2 + k) v)) := by
  by_cases q : s.2.2 (2 + k) = v
  · exact Or.inl ⟨q, by unfold setO; rw [if_neg (by omega), if_neg (by omega), if_pos q]⟩
  · obtain ⟨w1, w2, w3⟩ := a.2.1
    refine Or.inr ⟨q, ?_, by unfold setO; rw [if_neg (by omega), if_neg (by omega), if_neg q], a.nums ?_ (fun j hj => su_ne (by omega))⟩
    · rcases hk with rfl | rfl
      · show 0 ≤ s.2.2 2; omega
      · show 0 ≤ s.2.2 3; omega
    · unfold WS
      simp only [su]
      rcases hk with rfl | rfl
      · rw [if_pos (by omega), if_neg (by omega), if_neg (by omega)]
        exact ⟨by omega, w2, w3⟩
      · rw [if_neg (by omega), if_pos (by omega), if_neg (by omega)]
        exact ⟨w1, by omega, w3⟩
theorem shuf_cases {x : Int} (a : IV T s) (hx : 0 ≤ x ∧ x < 2147483648) : (s.2.2 4 = x ∧ shufO x s = (-5, s)) ∨ (s.2.2 4 ≠ x ∧ 0 ≤ s.2.2 4 ∧ shufO x s = (s.2.2 4, (s.1, s.2.1, su s.2.2 4 x)) ∧ IV T (s.1, s.2.1, su s.2.2 4 x)) := by
  by_cases q : s.2.2 4 = x
  · exact Or.inl ⟨q, by unfold shufO; rw [if_neg (by omega), if_pos q]⟩
  · obtain ⟨w1, w2, w3⟩ := a.2.1
    refine Or.inr ⟨q, w3.1, by unfold shufO; rw [if_neg (by omega), if_neg q], a.nums ?_ (fun j hj => su_ne (by omega))⟩
    unfold WS
    rw [su_ne (by decide), su_ne (by decide), su_at]
    exact ⟨w1, w2, hx⟩
theorem forg_cases (a : IV T s) : ((s.2.1.length : Int) = 0 ∧ forgO s = (-5, s)) ∨ ((s.2.1.length : Int) ≠ 0 ∧ forgO s = ((s.2.1.length : Int), (s.1, [], s.2.2)) ∧ IV T (s.1, [], s.2.2)) := by
  by_cases q : s.2.1.length = 0
  · exact Or.inl ⟨by omega, by unfold forgO; rw [if_pos q]⟩
  · obtain ⟨hw, hs, hl, h0, h1, h2, h3, h4, h5⟩ := a
    exact Or.inr ⟨by omega, by unfold forgO; rw [if_neg q], hw, hs, Nat.zero_le _, h0, h1, h0.2.2.2.1, h3, h4, h5⟩
theorem walk_cases {x : Int} (a : IV T s) (hT : T ≤ 1800000000) : 0 ≤ (walkO x s).1 ∧ (walkO x s).2.2.2 8 = s.2.2 8 + (walkO x s).1 ∧ IV (T + 23200) (walkO x s).2 := by
  have e9 : (2 : Int) ^ 9 = 512 := rfl
  obtain ⟨a1, b1⟩ := wk_iv (skips := x) 9 (0, s) 0 0 T a (by rw [e9]; omega) (by omega) (by omega)
  rw [e9] at a1
  have p8 := a.2.2.2.1.2.2.2.1
  have q8 : (wk x 9 (0, s) 0 0).2.2.2 8 ≤ T + 14 * (512 - 1) := by
    obtain ⟨hw, hs, hl, ⟨p5, p6, p7, p8, p9, p11⟩, h1, h2, h3, h4, h5⟩ := a1
    omega
  have b1' : s.2.2 8 ≤ (wk x 9 (0, s) 0 0).2.2.2 8 := b1
  have e : (walkO x s).1 = (wk x 9 (0, s) 0 0).2.2.2 8 - s.2.2 8 := w_id ⟨by show -2147483648 ≤ (wk x 9 (0, s) 0 0).2.2.2 8 - s.2.2 8; omega, by show (wk x 9 (0, s) 0 0).2.2.2 8 - s.2.2 8 < 2147483648; omega⟩
  have e2 : (walkO x s).2 = (wk x 9 (0, s) 0 0).2 := rfl
  rw [e, e2]
  exact ⟨by omega, by omega, a1.up (by omega)⟩
theorem frame_cases {x : Int} (a : IV T s) (hT : T ≤ 1800000000) (hx : 1 ≤ x ∧ x ≤ 64) : 0 ≤ (frameO x s).1 ∧ (frameO x s).2.2.2 11 = s.2.2 11 + 1 ∧ IV (T + 23200) (frameO x s).2 := by
  obtain ⟨m, rfl⟩ := Int.eq_ofNat_of_zero_le (a := x) (by omega)
  have e : frameO (m : Int) s = (frR m s, frS m s) := by unfold frameO; rw [if_pos hx]; rfl
  obtain ⟨a1, b1, c1⟩ := frS_iv (m := m) a (by omega) (by omega)
  have p8 := a.2.2.2.1.2.2.2.1
  have q8 : (frS m s).2.2 8 ≤ T + 580 := by
    obtain ⟨hw, hs, hl, ⟨p5, p6, p7, p8, p9, p11⟩, h1, h2, h3, h4, h5⟩ := a1
    omega
  have e1 : frR m s = (frS m s).2.2 8 - s.2.2 8 := w_id ⟨by omega, by omega⟩
  rw [e]
  exact ⟨by show 0 ≤ frR m s; omega, c1, a1.up (by omega)⟩
theorem rounds_cases {x : Int} (a : IV T s) (hT : T ≤ 1800000000) (hx : 1 ≤ x ∧ x ≤ 64) : 0 ≤ (roundsO x s).1 ∧ (roundsO x s).2.2.2 11 = s.2.2 11 + (roundsO x s).1 ∧ IV (T + 23200) (roundsO x s).2 := by
  have e : roundsO x s = rdS x 40 x.toNat 0 s := by unfold roundsO; rw [if_pos hx]
  obtain ⟨a1, b1, c1, d1⟩ := rd_iv (first := x) 40 x.toNat 0 a (by omega) (by omega) (by omega)
  rw [e]
  exact ⟨b1, by omega, a1.up (by omega)⟩
theorem hearR_0 {f : Cd → Bool} {l : List Cd} (hw : WL l) : 0 ≤ hearR f l := by
  unfold hearR
  split
  · decide
  · next c he =>
    have hc := List.mem_filter.mp (show c ∈ l.filter f from he ▸ List.mem_cons_self)
    exact (nm_of hw hc.1).1
  · next c e t he =>
    have := (fo_in (dfs f c.1 l)).1
    omega
theorem put_op {x : Int} (a : IV T s) (hx : 0 ≤ x ∧ x ≤ 255) : OP T s (putO x s) := by
  rcases put_cases a hx with ⟨-, e⟩ | ⟨-, -, e⟩ | ⟨-, -, e, -, -, -, a1⟩
  · rw [e]; exact OP.no (by decide) (by decide)
  · rw [e]; exact OP.no (by decide) (by decide)
  · rw [e]; exact OP.yes (by omega) (a1.up (by omega))
theorem take_op {x : Int} (a : IV T s) : OP T s (takeO x s) := by
  rcases take_cases (x := x) a with ⟨-, e⟩ | ⟨-, l, e, h, -, a1⟩
  · rw [e]; exact OP.no (by decide) (by decide)
  · rw [e]; exact OP.yes (by omega) (a1.up (by omega))
theorem sleep_op {x : Int} (a : IV T s) : OP T s (sleepO x s) := by
  rcases sleep_cases (x := x) a with ⟨-, e⟩ | ⟨-, e⟩ | ⟨-, l, e, h, -, a1⟩
  · rw [e]; exact OP.no (by decide) (by decide)
  · rw [e]; exact OP.no (by decide) (by decide)
  · rw [e]; exact OP.yes (by omega) (a1.up (by omega))
theorem wake_op (a : IV T s) : OP T s (wakeO s) := by
  rcases wake_cases a with ⟨-, e⟩ | ⟨h, e, a1, -⟩
  · rw [e]; exact OP.no (by decide) (by decide)
  · rw [e]; exact OP.yes (by omega) (a1.up (by omega))
theorem leave_op {x y : Int} (a : IV T s) (hy : 0 ≤ y ∧ y ≤ 200) : OP T s (leaveO x y s) := by
  rcases leave_cases (x := x) a hy with ⟨-, e⟩ | ⟨-, -, e⟩ | ⟨-, -, h, l, e, -, a1⟩
  · rw [e]; exact OP.no (by decide) (by decide)
  · rw [e]; exact OP.no (by decide) (by decide)
  · rw [e]; exact OP.yes h (a1.up (by omega))
theorem set_op {k v : Int} (a : IV T s) (hk : k = 0 ∨ k = 1) (hv : 0 ≤ v ∧ v ≤ 1 + k) : OP T s (setO k v s) := by
  rcases set_cases a hk hv with ⟨-, e⟩ | ⟨-, h, e, a1⟩
  · rw [e]; exact OP.no (by decide) (by decide)
  · rw [e]; exact OP.yes h (a1.up (by omega))
theorem shuf_op {x : Int} (a : IV T s) (hx : 0 ≤ x ∧ x < 2147483648) : OP T s (shufO x s) := by
  rcases shuf_cases a hx with ⟨-, e⟩ | ⟨-, h, e, a1⟩
  · rw [e]; exact OP.no (by decide) (by decide)
  · rw [e]; exact OP.yes h (a1.up (by omega))
theorem forg_op (a : IV T s) : OP T s (forgO s) := by
  rcases forg_cases a with ⟨-, e⟩ | ⟨h, e, a1⟩
  · rw [e]; exact OP.no (by decide) (by decide)
  · rw [e]; exact OP.yes (by omega) (a1.up (by omega))
theorem ask_op {len bits : Int} (a : IV T s) (hT : T ≤ 1800000000) (h0 : 0 ≤ len) (h8 : len ≤ 8) : OP T s (askR len bits s, askS len bits s) :=
  OP.yes (hearR_0 a.1) ((ask_iv a (by omega) h0 h8).1.up (by omega))
end OPM
