/-! the small methods of the law: cell, put, seen, change, act -/
section TOT
variable {g : Gs}
theorem tot_0 : totO 0 g = (g.1.1.length : Int) := by simp [totO]
theorem tot_1 : totO 1 g = (nAw g.1.1 : Int) := by simp [totO]
theorem tot_2 : totO 2 g = (nLv g.1.1 : Int) := by simp [totO]
theorem tot_3 : totO 3 g = (g.1.2.1.length : Int) := by simp [totO]
theorem tot_4 : totO 4 g = g.1.2.2 5 := by simp [totO]
theorem tot_5 : totO 5 g = g.1.2.2 6 := by simp [totO]
theorem tot_6 : totO 6 g = g.1.2.2 7 := by simp [totO]
theorem tot_7 : totO 7 g = g.1.2.2 8 := by simp [totO]
theorem tot_8 : totO 8 g = g.1.2.2 9 := by simp [totO]
theorem tot_9 : totO 9 g = g.1.2.2 10 := by simp [totO]
theorem tot_10 : totO 10 g = g.1.2.2 11 := by simp [totO]
theorem tot_11 : totO 11 g = g.1.2.2 2 := by simp [totO]
theorem tot_12 : totO 12 g = g.1.2.2 3 := by simp [totO]
theorem tot_13 : totO 13 g = g.1.2.2 4 := by simp [totO]
theorem tot_15 : totO 15 g = (g.2.1.length : Int) := by simp [totO]
theorem tot_17 : totO 17 g = -2 := by simp [totO]
theorem tot_m : totO (-1) g = -2 := by simp [totO]
theorem recG_no {v : Int} (h : v < 0) : recG (v, g.1) g = (v, g) := by
  show (v, g.1, (if v < 0 then g.2.1 else push g.1 g.2.1), g.2.2) = (v, g)
  rw [if_pos h]
end TOT
section LSM
variable {d : Nat} {g : Gs} {T : Int}
/-- the answer and the state are those of o -/
abbrev PO (o : Int × Gs) : Int → Gs → Prop := fun v g' => v = o.1 ∧ g' = o.2
theorem l_put {x : Int} (hd : 20 ≤ d) (a : IV T g.1) (hx : 0 ≤ x ∧ x ≤ 255) : LM d m_L_put [.inr (some 1), .inl x] g (PO (recG (putO x g.1) g)) := by
  refine lm_body mo_L_put (Nat.le_of_ble_eq_true rfl) (by intro q; cases q) ?_
  show LW m_L_put d none _ 0 [some (.inr (some 1)), some (.inl x), none, none, none, none] [] g (0, 0)
  have h20 := a.1.1
  refine lc_put hd ?_
  rcases put_cases a hx with ⟨h0, e⟩ | ⟨h0, hl, e⟩ | ⟨h0, hl, e, f0, f1, f2, -⟩
  · intro v1 r_v1 e_v1
    replace e_v1 := e_v1.trans tot_0
    intro v2 r_v2 e_v2
    refine ⟨fun c3 => ?_, fun c3 => ?_⟩
    · intro v4 g5 r_v4 e_v4 f_v4
      have q_v4 : v4 = -4 := by rw [e_v4, e]; rfl
      refine ⟨fun c7 => ?_, fun c7 => ?_⟩
      · refine ⟨by unfold rg; omega, ?_⟩
        refine ⟨fun c9 => ?_, fun c9 => ?_⟩
        · exfalso; omega
        · refine ⟨fun c11 => ?_, fun c11 => ?_⟩
          · exact ⟨e_v4, f_v4⟩
          · intro v13 r_v13 e_v13
            refine ⟨fun c14 => ?_, fun c14 => ?_⟩
            · exfalso; omega
            · intro v16 r_v16 e_v16
              refine ⟨fun c17 => ?_, fun c17 => ?_⟩
              · exfalso; omega
              · intro v19 r_v19 e_v19
                refine ⟨fun c20 => ?_, fun c20 => ?_⟩
                · exfalso; omega
                · exact ⟨e_v4, f_v4⟩
      · refine ⟨fun c23 => ?_, fun c23 => ?_⟩
        · exfalso; omega
        · exact ⟨e_v4, f_v4⟩
    · intro v27 g28 r_v27 e_v27 f_v27
      have q_v27 : v27 = -4 := by rw [e_v27, e]; rfl
      refine ⟨fun c30 => ?_, fun c30 => ?_⟩
      · exfalso; omega
      · exact ⟨e_v27, f_v27⟩
  · intro v1 r_v1 e_v1
    replace e_v1 := e_v1.trans tot_0
    intro v2 r_v2 e_v2
    refine ⟨fun c3 => ?_, fun c3 => ?_⟩
    · intro v4 g5 r_v4 e_v4 f_v4
      have q_v4 : v4 = -3 := by rw [e_v4, e]; rfl
      refine ⟨fun c7 => ?_, fun c7 => ?_⟩
      · refine ⟨by unfold rg; omega, ?_⟩
        refine ⟨fun c9 => ?_, fun c9 => ?_⟩
        · exfalso; omega
        · refine ⟨fun c11 => ?_, fun c11 => ?_⟩
          · exact ⟨e_v4, f_v4⟩
          · intro v13 r_v13 e_v13
            refine ⟨fun c14 => ?_, fun c14 => ?_⟩
            · exfalso; omega
            · intro v16 r_v16 e_v16
              refine ⟨fun c17 => ?_, fun c17 => ?_⟩
              · exfalso; omega
              · intro v19 r_v19 e_v19
                refine ⟨fun c20 => ?_, fun c20 => ?_⟩
                · exfalso; omega
                · exact ⟨e_v4, f_v4⟩
      · refine ⟨fun c23 => ?_, fun c23 => ?_⟩
        · exfalso; omega
        · exact ⟨e_v4, f_v4⟩
    · intro v27 g28 r_v27 e_v27 f_v27
      have q_v27 : v27 = -3 := by rw [e_v27, e]; rfl
      refine ⟨fun c30 => ?_, fun c30 => ?_⟩
      · exfalso; omega
      · exact ⟨e_v27, f_v27⟩
  · intro v1 r_v1 e_v1
    replace e_v1 := e_v1.trans tot_0
    intro v2 r_v2 e_v2
    refine ⟨fun c3 => ?_, fun c3 => ?_⟩
    · intro v4 g5 r_v4 e_v4 f_v4
      have q_v4 : v4 = (g.1.1.length : Int) + 1 := by rw [e_v4, e]; rfl
      have q_l : g5.1.1 = ins x g.1.1 := by rw [f_v4, e]; rfl
      refine ⟨fun c7 => ?_, fun c7 => ?_⟩
      · refine ⟨by unfold rg; omega, ?_⟩
        refine ⟨fun c9 => ?_, fun c9 => ?_⟩
        · exfalso; omega
        · refine ⟨fun c11 => ?_, fun c11 => ?_⟩
          · exact ⟨e_v4, f_v4⟩
          · intro v13 r_v13 e_v13
            rw [q_l, f0] at e_v13
            refine ⟨fun c14 => ?_, fun c14 => ?_⟩
            · exfalso; omega
            · intro v16 r_v16 e_v16
              rw [q_l, f1] at e_v16
              refine ⟨fun c17 => ?_, fun c17 => ?_⟩
              · exfalso; omega
              · intro v19 r_v19 e_v19
                rw [q_l, f2] at e_v19
                refine ⟨fun c20 => ?_, fun c20 => ?_⟩
                · exfalso; omega
                · exact ⟨e_v4, f_v4⟩
      · refine ⟨fun c23 => ?_, fun c23 => ?_⟩
        · exfalso; omega
        · exact ⟨e_v4, f_v4⟩
    · intro v27 g28 r_v27 e_v27 f_v27
      have q_v27 : v27 = (g.1.1.length : Int) + 1 := by rw [e_v27, e]; rfl
      have q_l : g28.1.1 = ins x g.1.1 := by rw [f_v27, e]; rfl
      refine ⟨fun c30 => ?_, fun c30 => ?_⟩
      · exfalso; omega
      · exact ⟨e_v27, f_v27⟩
theorem b2_and {y : Int} : 0 ≤ an y 2147483647 := by
  unfold an
  rw [b2_def]
  show 0 ≤ (Int32.ofInt y &&& Int32.ofInt 2147483647).toInt
  have e : Int32.ofInt y &&& Int32.ofInt 2147483647 = Int32.ofBitVec ((Int32.ofInt y).toBitVec &&& (Int32.ofInt 2147483647).toBitVec) := rfl
  rw [e]
  show 0 ≤ ((Int32.ofInt y).toBitVec &&& 2147483647#32).toInt
  rw [BitVec.toInt_eq_toNat_of_lt]
  · omega
  · rw [BitVec.toNat_and]
    have := @Nat.and_le_right (Int32.ofInt y).toBitVec.toNat (2147483647#32).toNat
    have h2 : (2147483647#32).toNat = 2147483647 := rfl
    omega
theorem l_cell {q : Nat × (Nat → Int)} {n : Int} (hd : 20 ≤ d) (hn : 0 ≤ n) (hq : q.1 < 2147483648) : LX d m_L_cell q [.inr (some 0), .inl n] g (fun v g' => 0 ≤ v ∧ v < 2147483648 ∧ g' = g) := by
  refine lx_body mo_L_cell (Nat.le_of_ble_eq_true rfl) rfl ?_
  show LW m_L_cell d (some (some q, [], [])) _ 0 [some (.inr (some 0)), some (.inl n)] [] g (0, 0)
  refine lc_cell hd ?_
  refine ⟨fun c1 => ?_, fun c1 => ?_⟩
  · exact ⟨b2_and, (b2_rg _ _ _).2, rfl⟩
  · refine ⟨by omega, ?_⟩
    exact ⟨b2_and, (b2_rg _ _ _).2, rfl⟩
noncomputable def snT (s : Ms) : Nat → Int → Int64 → Int64
  | 0, _, h => h
  | n + 1, k, h => snT s n (k + 1) (31 * h + i64 (totO k (s, [], none, [])))
noncomputable def snC (l : List Cd) : Nat → Int → Int64 → Int64
  | 0, _, h => h
  | n + 1, k, h => snC l n (k + 1) (31 * (31 * (31 * (31 * (31 * h + i64 (cardO k l)) + i64 (ofO (cardO k l) 0 l)) + i64 (ofO (cardO k l) 1 l)) + i64 (ofO (cardO k l) 2 l)) + i64 (ofO (cardO k l) 3 l))
noncomputable def snL (tl : List Int) : Nat → Int → Int64 → Int64
  | 0, _, h => h
  | n + 1, k, h => snL tl n (k + 1) (31 * h + i64 (toldO k tl))
/-- all that is told of a state, as one number -/
noncomputable def seenF (s : Ms) : Int64 := snL s.2.1 s.2.1.length 0 (snC s.1 s.1.length 0 (snT s 15 0 89))
theorem tot_s {k : Int} (h0 : 0 ≤ k) (h1 : k < 15) : totO k g = totO k (g.1, [], none, []) := by
  unfold totO
  rw [if_neg (show ¬ k = 15 by omega), if_neg (show ¬ k = 16 by omega), if_neg (show ¬ k = 15 by omega), if_neg (show ¬ k = 16 by omega)]
abbrev PS (g : Gs) : Int → Gs → Prop := fun v g' => Int64.ofInt v = seenF g.1 ∧ g' = g
theorem l_seen121 (hd : 20 ≤ d) (hl : g.1.2.1.length ≤ 200) : ∀ (n : Nat) (k : Int) (z : Int64), 0 ≤ k → k + (n : Int) = (g.1.2.1.length : Int) → snL g.1.2.1 n k z = seenF g.1 → LW m_L_seen d (some (none, [], [(1, z)])) (PS g) 121 [some (.inr (some 1)), none, none, some (.inl k), none] [] g (0, 0) := by
  intro n
  induction n with
  | zero =>
    intro k z h0 hk e
    refine lc_seen_121 hd ?_
    intro v1 r_v1 e_v1
    replace e_v1 := e_v1.trans tot_3
    refine ⟨fun c2 => ?_, fun c2 => ?_⟩
    · exact ⟨by rw [Int64.ofInt_toInt]; exact e, rfl⟩
    · intro v3 r_v3 e_v3
      refine ⟨by unfold rg; omega, ?_⟩
      exfalso; omega
  | succ n ih =>
    intro k z h0 hk e
    refine lc_seen_121 hd ?_
    intro v1 r_v1 e_v1
    replace e_v1 := e_v1.trans tot_3
    refine ⟨fun c2 => ?_, fun c2 => ?_⟩
    · exfalso; omega
    · intro v3 r_v3 e_v3
      refine ⟨by unfold rg; omega, ?_⟩
      refine ih (k + 1) _ (by omega) (by omega) ?_
      rw [← e]
      rw [e_v3]
      rfl
theorem l_seen33 (hd : 20 ≤ d) (hl : g.1.2.1.length ≤ 200) (hc : g.1.1.length ≤ 20) : ∀ (n : Nat) (k : Int) (z : Int64), 0 ≤ k → k + (n : Int) = (g.1.1.length : Int) → snL g.1.2.1 g.1.2.1.length 0 (snC g.1.1 n k z) = seenF g.1 → LW m_L_seen d (some (none, [], [(1, z)])) (PS g) 33 [some (.inr (some 1)), none, none, some (.inl k), none] [] g (0, 0) := by
  intro n
  induction n with
  | zero =>
    intro k z h0 hk e
    refine lc_seen_33 hd ?_
    intro v1 r_v1 e_v1
    replace e_v1 := e_v1.trans tot_0
    refine ⟨fun c2 => ?_, fun c2 => ?_⟩
    · exact l_seen121 hd hl g.1.2.1.length 0 z (by omega) (by omega) e
    · intro v3 r_v3 e_v3
      intro v4 r_v4 e_v4
      intro v5 r_v5 e_v5
      intro v6 r_v6 e_v6
      intro v7 r_v7 e_v7
      refine ⟨by unfold rg; omega, ?_⟩
      exfalso; omega
  | succ n ih =>
    intro k z h0 hk e
    refine lc_seen_33 hd ?_
    intro v1 r_v1 e_v1
    replace e_v1 := e_v1.trans tot_0
    refine ⟨fun c2 => ?_, fun c2 => ?_⟩
    · exfalso; omega
    · intro v3 r_v3 e_v3
      intro v4 r_v4 e_v4
      intro v5 r_v5 e_v5
      intro v6 r_v6 e_v6
      intro v7 r_v7 e_v7
      refine ⟨by unfold rg; omega, ?_⟩
      refine ih (k + 1) _ (by omega) (by omega) ?_
      rw [← e]
      rw [e_v7, e_v6, e_v5, e_v4, e_v3]
      rfl
theorem l_seen6 (hd : 20 ≤ d) (hl : g.1.2.1.length ≤ 200) (hc : g.1.1.length ≤ 20) : ∀ (n : Nat) (k : Int) (z : Int64), 0 ≤ k → k + (n : Int) = 15 → snL g.1.2.1 g.1.2.1.length 0 (snC g.1.1 g.1.1.length 0 (snT g.1 n k z)) = seenF g.1 → LW m_L_seen d (some (none, [], [(1, z)])) (PS g) 6 [some (.inr (some 1)), none, none, some (.inl k), none] [] g (0, 0) := by
  intro n
  induction n with
  | zero =>
    intro k z h0 hk e
    refine lc_seen_6 hd ?_
    refine ⟨fun c1 => ?_, fun c1 => ?_⟩
    · exact l_seen33 hd hl hc g.1.1.length 0 z (by omega) (by omega) e
    · intro v2 r_v2 e_v2
      refine ⟨by unfold rg; omega, ?_⟩
      exfalso; omega
  | succ n ih =>
    intro k z h0 hk e
    refine lc_seen_6 hd ?_
    refine ⟨fun c1 => ?_, fun c1 => ?_⟩
    · exfalso; omega
    · intro v2 r_v2 e_v2
      refine ⟨by unfold rg; omega, ?_⟩
      refine ih (k + 1) _ (by omega) (by omega) ?_
      rw [← e]
      rw [e_v2, tot_s h0 (by omega)]
      rfl
theorem l_seen (hd : 20 ≤ d) (hl : g.1.2.1.length ≤ 200) (hc : g.1.1.length ≤ 20) : LJ d m_L_seen [.inr (some 1)] g (fun x g' => x = seenF g.1 ∧ g' = g) := by
  refine lj_body mo_L_seen (Nat.le_of_ble_eq_true rfl) rfl ?_
  show LW m_L_seen d (some (none, [], [])) (PS g) 0 [some (.inr (some 1)), none, none, none, none] [] g (0, 0)
  exact lc_seen hd (l_seen6 hd hl hc 15 0 89 (by omega) (by omega) rfl)
/-! what the law asks of a change, in numbers -/
theorem take_fact {x : Int} (a : IV T g.1) : (ofO x 0 g.1.1 = -1 ∧ (recG (takeO x g.1) g).1 = -1 ∧ ofO x 0 (recG (takeO x g.1) g).2.1.1 = -1) ∨ (0 ≤ ofO x 0 g.1.1 ∧ (recG (takeO x g.1) g).1 = (g.1.1.length : Int) - 1 ∧ ofO x 0 (recG (takeO x g.1) g).2.1.1 = -1) := by
  rcases take_cases (x := x) a with ⟨h, e⟩ | ⟨h, l, e, h1, h2, -⟩
  · rw [e]; exact Or.inl ⟨h, rfl, h⟩
  · rw [e]; exact Or.inr ⟨h, rfl, h2⟩
theorem sleep_fact {x : Int} (a : IV T g.1) : (ofO x 0 g.1.1 = -1 ∧ (recG (sleepO x g.1) g).1 = -1 ∧ ofO x 0 (recG (sleepO x g.1) g).2.1.1 = -1) ∨ (ofO x 0 g.1.1 = 0 ∧ (recG (sleepO x g.1) g).1 = -5 ∧ ofO x 0 (recG (sleepO x g.1) g).2.1.1 = 0) ∨ (ofO x 0 g.1.1 = 1 ∧ (recG (sleepO x g.1) g).1 = (nAw g.1.1 : Int) - 1 ∧ ofO x 0 (recG (sleepO x g.1) g).2.1.1 = 0) := by
  rcases sleep_cases (x := x) a with ⟨h, e⟩ | ⟨h, e⟩ | ⟨h, l, e, h1, h2, -⟩
  · rw [e]; exact Or.inl ⟨h, rfl, h⟩
  · rw [e]; exact Or.inr (Or.inl ⟨h, rfl, h⟩)
  · rw [e]; exact Or.inr (Or.inr ⟨h, rfl, h2⟩)
theorem wake_fact (a : IV T g.1) : ((nAw g.1.1 : Int) = g.1.1.length ∧ (recG (wakeO g.1) g).1 = -5 ∧ (nAw (recG (wakeO g.1) g).2.1.1 : Int) = g.1.1.length) ∨ ((nAw g.1.1 : Int) < g.1.1.length ∧ (recG (wakeO g.1) g).1 = (g.1.1.length : Int) - nAw g.1.1 ∧ (nAw (recG (wakeO g.1) g).2.1.1 : Int) = g.1.1.length) := by
  rcases wake_cases a with ⟨h, e⟩ | ⟨h, e, -, h2⟩
  · rw [e]; exact Or.inl ⟨h, rfl, h⟩
  · rw [e]; exact Or.inr ⟨h, rfl, congrArg Int.ofNat h2⟩
theorem leave_fact {x y : Int} (a : IV T g.1) (hy : 0 ≤ y ∧ y ≤ 200) : (ofO x 0 g.1.1 = -1 ∧ (recG (leaveO x y g.1) g).1 = -1) ∨ (0 ≤ ofO x 0 g.1.1 ∧ ofO x 1 g.1.1 = y ∧ (recG (leaveO x y g.1) g).1 = -5 ∧ ofO x 1 (recG (leaveO x y g.1) g).2.1.1 = y) ∨ (0 ≤ ofO x 0 g.1.1 ∧ ofO x 1 g.1.1 ≠ y ∧ (recG (leaveO x y g.1) g).1 = ofO x 1 g.1.1 ∧ ofO x 1 (recG (leaveO x y g.1) g).2.1.1 = y) := by
  rcases leave_cases (x := x) a hy with ⟨h, e⟩ | ⟨h, h1, e⟩ | ⟨h, h1, h2, l, e, h3, -⟩
  · rw [e]; exact Or.inl ⟨h, rfl⟩
  · rw [e]; exact Or.inr (Or.inl ⟨h, h1, rfl, h1⟩)
  · rw [e]; exact Or.inr (Or.inr ⟨h, h1, rfl, h3⟩)
theorem set_fact {k v : Int} (a : IV T g.1) (hk : k = 0 ∨ k = 1) (hv : 0 ≤ v ∧ v ≤ 1 + k) : (totO (11 + k) g = v ∧ (recG (setO k v g.1) g).1 = -5 ∧ totO (11 + k) (recG (setO k v g.1) g).2 = v) ∨ (totO (11 + k) g ≠ v ∧ (recG (setO k v g.1) g).1 = totO (11 + k) g ∧ totO (11 + k) (recG (setO k v g.1) g).2 = v) := by
  have e0 : ∀ g : Gs, totO (11 + k) g = g.1.2.2 (2 + k) := by
    intro g
    rcases hk with rfl | rfl
    · exact tot_11
    · exact tot_12
  rw [e0, e0]
  rcases set_cases a hk hv with ⟨h, e⟩ | ⟨h, h1, e, -⟩
  · rw [e]; exact Or.inl ⟨h, rfl, h⟩
  · rw [e]; exact Or.inr ⟨h, rfl, su_at⟩
theorem shuf_fact {x : Int} (a : IV T g.1) (hx : 0 ≤ x ∧ x < 2147483648) : (totO 13 g = x ∧ (recG (shufO x g.1) g).1 = -5 ∧ totO 13 (recG (shufO x g.1) g).2 = x) ∨ (totO 13 g ≠ x ∧ (recG (shufO x g.1) g).1 = totO 13 g ∧ totO 13 (recG (shufO x g.1) g).2 = x) := by
  rw [tot_13, tot_13]
  rcases shuf_cases a hx with ⟨h, e⟩ | ⟨h, h1, e, -⟩
  · rw [e]; exact Or.inl ⟨h, rfl, h⟩
  · rw [e]; exact Or.inr ⟨h, rfl, su_at (f := g.1.2.2) (k := 4) (v := x)⟩
theorem forg_fact (a : IV T g.1) : (totO 3 g = 0 ∧ (recG (forgO g.1) g).1 = -5 ∧ totO 3 (recG (forgO g.1) g).2 = 0) ∨ (totO 3 g ≠ 0 ∧ (recG (forgO g.1) g).1 = totO 3 g ∧ totO 3 (recG (forgO g.1) g).2 = 0) := by
  rw [tot_3, tot_3]
  rcases forg_cases a with ⟨h, e⟩ | ⟨h, e, -⟩
  · rw [e]; exact Or.inl ⟨h, rfl, h⟩
  · rw [e]; exact Or.inr ⟨h, rfl, rfl⟩
theorem walk_fact {x : Int} (a : IV T g.1) (hT : T ≤ 1800000000) : 0 ≤ (recG (walkO x g.1) g).1 ∧ totO 7 (recG (walkO x g.1) g).2 = totO 7 g + (recG (walkO x g.1) g).1 := by
  have h := walk_cases (x := x) a hT
  rw [tot_7, tot_7]
  exact ⟨h.1, h.2.1⟩
theorem frame_fact {x : Int} (a : IV T g.1) (hT : T ≤ 1800000000) (hx : 1 ≤ x ∧ x ≤ 64) : 0 ≤ (recG (frameO x g.1) g).1 ∧ totO 10 (recG (frameO x g.1) g).2 = totO 10 g + 1 := by
  have h := frame_cases (x := x) a hT hx
  rw [tot_10, tot_10]
  exact ⟨h.1, h.2.1⟩
theorem rounds_fact {x : Int} (a : IV T g.1) (hT : T ≤ 1800000000) (hx : 1 ≤ x ∧ x ≤ 64) : 0 ≤ (recG (roundsO x g.1) g).1 ∧ totO 10 (recG (roundsO x g.1) g).2 = totO 10 g + (recG (roundsO x g.1) g).1 := by
  have h := rounds_cases (x := x) a hT hx
  rw [tot_10, tot_10]
  exact ⟨h.1, h.2.1⟩
/-- a change of the law: an order, recorded -/
def PA (T : Int) (g : Gs) : Int → Gs → Prop := fun v g' => ∃ o : Int × Ms, OP T g.1 o ∧ v = (recG o g).1 ∧ g' = (recG o g).2
theorem card_in {l : List Cd} (hw : WL l) {i : Int} (h0 : 0 ≤ i) (h1 : i < l.length) : ∃ c, l[i.toNat]? = some c ∧ cardO i l = c.1 ∧ 0 ≤ c.1 ∧ c.1 ≤ 255 := by
  obtain ⟨c, hc⟩ := get_ex (l := l) (i := i.toNat) (by omega)
  have hn := nm_of hw (List.mem_of_getElem? hc)
  exact ⟨c, hc, by unfold cardO; rw [if_neg (by omega), if_neg (by omega), cat_eq hc], hn.1, hn.2⟩
theorem l_ch254 {x y n m u b had u0 : Int} (hd : 20 ≤ d) (a : IV T g.1) (hy : 0 ≤ u0 ∧ u0 ≤ 200) (hb : b = ofO u 0 g.1.1) (hh : had = ofO u 1 g.1.1) : LW m_L_change d none (PA T g) 254 [some (.inr (some 1)), some (.inl x), some (.inl y), some (.inl n), some (.inl m), some (.inl u), some (.inl b), some (.inl had), none, none] [.inl u0] g (0, 0) := by
  refine lc_change_254 hd ?_
  intro v1 g2 r_v1 e_v1 f_v1
  subst f_v1
  have k_v1 := leave_fact (x := u) a hy
  refine ⟨fun c3 => ?_, fun c3 => ?_⟩
  · refine ⟨fun c4 => ?_, fun c4 => ?_⟩
    · refine ⟨fun c5 => ?_, fun c5 => ?_⟩
      · exfalso; omega
      · intro v7 r_v7 e_v7
        refine ⟨fun c8 => ?_, fun c8 => ?_⟩
        · exfalso; omega
        · exact ⟨_, leave_op a hy, e_v1, rfl⟩
    · refine ⟨fun c9 => ?_, fun c9 => ?_⟩
      · exfalso; omega
      · intro v11 r_v11 e_v11
        refine ⟨fun c12 => ?_, fun c12 => ?_⟩
        · exfalso; omega
        · exact ⟨_, leave_op a hy, e_v1, rfl⟩
  · refine ⟨fun c13 => ?_, fun c13 => ?_⟩
    · exfalso; omega
    · exact ⟨_, leave_op a hy, e_v1, rfl⟩
theorem l_ch42 {x y u : Int} (hd : 20 ≤ d) (a : IV T g.1) (hx : 0 ≤ x ∧ x < 4) (hy : 0 ≤ y ∧ y < 2147483648) : LW m_L_change d none (PA T g) 42 [some (.inr (some 1)), some (.inl x), some (.inl y), some (.inl (g.1.1.length : Int)), some (.inl (nAw g.1.1 : Int)), none, none, none, none, none] [.inl u] g (0, 0) := by
  have h20 := a.1.1
  have hnA := nAw_le g.1.1
  refine lc_change_42 hd ?_
  intro v1 r_v1 e_v1
  refine ⟨fun c2 => ?_, fun c2 => ?_⟩
  · refine ⟨fun c3 => ?_, fun c3 => ?_⟩
    · refine ⟨fun c4 => ?_, fun c4 => ?_⟩
      · intro v5 r_v5 e_v5
        refine ⟨by omega, ?_⟩
        refine ⟨by omega, ?_⟩
        refine ⟨fun c8 => ?_, fun c8 => ?_⟩
        · refine ⟨by omega, ?_⟩
          exact l_ch254 hd a (by omega) (by assumption) (by assumption)
        · refine ⟨by omega, ?_⟩
          exact l_ch254 hd a (by omega) (by assumption) (by assumption)
      · intro v11 g12 r_v11 e_v11 f_v11
        subst f_v11
        have k_v11 := wake_fact a
        refine ⟨fun c13 => ?_, fun c13 => ?_⟩
        · refine ⟨by unfold rg; omega, ?_⟩
          refine ⟨fun c15 => ?_, fun c15 => ?_⟩
          · exfalso; omega
          · intro v16 r_v16 e_v16
            replace e_v16 := e_v16.trans tot_1
            refine ⟨fun c17 => ?_, fun c17 => ?_⟩
            · exfalso; omega
            · first | exact ⟨_, take_op a, e_v11, rfl⟩ | exact ⟨_, sleep_op a, e_v11, rfl⟩ | exact ⟨_, wake_op a, e_v11, rfl⟩
        · refine ⟨fun c18 => ?_, fun c18 => ?_⟩
          · exfalso; omega
          · intro v19 r_v19 e_v19
            replace e_v19 := e_v19.trans tot_1
            refine ⟨fun c20 => ?_, fun c20 => ?_⟩
            · exfalso; omega
            · first | exact ⟨_, take_op a, e_v11, rfl⟩ | exact ⟨_, sleep_op a, e_v11, rfl⟩ | exact ⟨_, wake_op a, e_v11, rfl⟩
    · intro v21 g22 r_v21 e_v21 f_v21
      subst f_v21
      have k_v21 := sleep_fact (x := u) a
      refine ⟨fun c23 => ?_, fun c23 => ?_⟩
      · refine ⟨fun c24 => ?_, fun c24 => ?_⟩
        · refine ⟨by unfold rg; omega, ?_⟩
          refine ⟨fun c26 => ?_, fun c26 => ?_⟩
          · exfalso; omega
          · intro v27 r_v27 e_v27
            refine ⟨fun c29 => ?_, fun c29 => ?_⟩
            · exfalso; omega
            · first | exact ⟨_, take_op a, e_v21, rfl⟩ | exact ⟨_, sleep_op a, e_v21, rfl⟩ | exact ⟨_, wake_op a, e_v21, rfl⟩
        · refine ⟨fun c30 => ?_, fun c30 => ?_⟩
          · exfalso; omega
          · intro v31 r_v31 e_v31
            refine ⟨fun c33 => ?_, fun c33 => ?_⟩
            · exfalso; omega
            · first | exact ⟨_, take_op a, e_v21, rfl⟩ | exact ⟨_, sleep_op a, e_v21, rfl⟩ | exact ⟨_, wake_op a, e_v21, rfl⟩
      · refine ⟨fun c34 => ?_, fun c34 => ?_⟩
        · exfalso; omega
        · intro v35 r_v35 e_v35
          refine ⟨fun c37 => ?_, fun c37 => ?_⟩
          · exfalso; omega
          · first | exact ⟨_, take_op a, e_v21, rfl⟩ | exact ⟨_, sleep_op a, e_v21, rfl⟩ | exact ⟨_, wake_op a, e_v21, rfl⟩
  · intro v38 g39 r_v38 e_v38 f_v38
    subst f_v38
    have k_v38 := take_fact (x := u) a
    refine ⟨fun c40 => ?_, fun c40 => ?_⟩
    · refine ⟨by unfold rg; omega, ?_⟩
      refine ⟨fun c42 => ?_, fun c42 => ?_⟩
      · exfalso; omega
      · intro v43 r_v43 e_v43
        refine ⟨fun c44 => ?_, fun c44 => ?_⟩
        · exfalso; omega
        · first | exact ⟨_, take_op a, e_v38, rfl⟩ | exact ⟨_, sleep_op a, e_v38, rfl⟩ | exact ⟨_, wake_op a, e_v38, rfl⟩
    · refine ⟨fun c45 => ?_, fun c45 => ?_⟩
      · exfalso; omega
      · intro v46 r_v46 e_v46
        refine ⟨fun c47 => ?_, fun c47 => ?_⟩
        · exfalso; omega
        · first | exact ⟨_, take_op a, e_v38, rfl⟩ | exact ⟨_, sleep_op a, e_v38, rfl⟩ | exact ⟨_, wake_op a, e_v38, rfl⟩
theorem l_change {x y : Int} (hd : 20 ≤ d) (a : IV T g.1) (hx : 0 ≤ x ∧ x < 4) (hy : 0 ≤ y ∧ y < 2147483648) : LM d m_L_change [.inr (some 1), .inl x, .inl y] g (PA T g) := by
  refine lm_body mo_L_change (Nat.le_of_ble_eq_true rfl) (by intro q; cases q) ?_
  show LW m_L_change d none _ 0 [some (.inr (some 1)), some (.inl x), some (.inl y), none, none, none, none, none, none, none] [] g (0, 0)
  have h20 := a.1.1
  refine lc_change hd ?_
  intro v1 r_v1 e_v1
  replace e_v1 := e_v1.trans tot_0
  intro v2 r_v2 e_v2
  replace e_v2 := e_v2.trans tot_1
  refine ⟨fun c3 => ?_, fun c3 => ?_⟩
  · refine ⟨by omega, ?_⟩
    refine ⟨by omega, ?_⟩
    subst e_v1 e_v2
    exact l_ch42 hd a hx hy
  · refine ⟨by omega, ?_⟩
    refine ⟨fun c7 => ?_, fun c7 => ?_⟩
    · refine ⟨by omega, ?_⟩
      subst e_v1 e_v2
      exact l_ch42 hd a hx hy
    · refine ⟨by omega, ?_⟩
      refine ⟨by omega, ?_⟩
      intro v11 r_v11 e_v11
      subst e_v1 e_v2
      exact l_ch42 hd a hx hy
end LSM
