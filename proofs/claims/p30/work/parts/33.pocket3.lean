theorem tk {α : Type} {l : List α} {i : Nat} {e : α} (h : l[i]? = some e) : l.take (i + 1) = l.take i ++ [e] := by
  rw [List.take_succ, h]
  rfl
def nAw (l : List Cd) : Nat := (l.filter (fun c => decide (c.2.1 = 1))).length
def nLv (l : List Cd) : Nat := (l.filter (fun c => decide (0 < c.2.2.1))).length
noncomputable def dfs (f : Cd → Bool) (name : Int) (l : List Cd) : Int := l.foldl (fun acc c => if f c = true then orr acc (xr c.1 name) else acc) 0
noncomputable def shb (name : Int) (l : List Cd) : Int := l.foldl (fun m c => if c.1 = name then m else if m < fo (xr c.1 name) then fo (xr c.1 name) else m) (-5)
theorem nI_ofInt (n : Nat) : Int32.ofInt (n : Int) = nI n := by
  apply Int32.toInt_inj.mp
  show (Int32.ofInt (n : Int)).toInt = (Int32.ofNat n).toInt
  rfl
theorem xr_nat {a b : Nat} (ha : a < 256) (hb : b < 256) : xr a b = ((a ^^^ b : Nat) : Int) := by
  have hx : a ^^^ b < 256 := Nat.xor_lt_two_pow (n := 8) ha hb
  unfold xr
  rw [b2_def, nI_ofInt, nI_ofInt]
  have e : nI a ^^^ nI b = nI (a ^^^ b) := by
    apply Int32.toBitVec_inj.mp
    show (nI a).toBitVec ^^^ (nI b).toBitVec = (nI (a ^^^ b)).toBitVec
    apply BitVec.eq_of_toNat_eq
    rw [BitVec.toNat_xor, pk_tn (by omega), pk_tn (by omega), pk_tn (by omega)]
  show (nI a ^^^ nI b).toInt = _
  rw [e, nI_toInt (by omega)]
theorem orr_nat {a b : Nat} (ha : a < 256) (hb : b < 256) : orr a b = ((a ||| b : Nat) : Int) := by
  have hx : a ||| b < 256 := Nat.or_lt_two_pow (n := 8) ha hb
  unfold orr
  rw [b2_def, nI_ofInt, nI_ofInt]
  have e : nI a ||| nI b = nI (a ||| b) := by
    apply Int32.toBitVec_inj.mp
    show (nI a).toBitVec ||| (nI b).toBitVec = (nI (a ||| b)).toBitVec
    apply BitVec.eq_of_toNat_eq
    rw [BitVec.toNat_or, pk_tn (by omega), pk_tn (by omega), pk_tn (by omega)]
  show (nI a ||| nI b).toInt = _
  rw [e, nI_toInt (by omega)]
theorem nat_of {x : Int} (h : 0 ≤ x ∧ x ≤ 255) : ∃ n : Nat, x = n ∧ n < 256 := ⟨x.toNat, by omega, by omega⟩
theorem xr_in {x y : Int} (hx : 0 ≤ x ∧ x ≤ 255) (hy : 0 ≤ y ∧ y ≤ 255) : 0 ≤ xr x y ∧ xr x y < 256 := by
  obtain ⟨a, rfl, ha⟩ := nat_of hx
  obtain ⟨b, rfl, hb⟩ := nat_of hy
  rw [xr_nat ha hb]
  have hx : a ^^^ b < 256 := Nat.xor_lt_two_pow (n := 8) ha hb
  omega
section P3
variable {d p : Nat} {h : AH} {l : List Cd}
theorem c_differencesFrom {f : Cd → Bool} {name : Int} (hL : QP h p) (a : PK h p l) (b : MK h p l f) : AM d m_X1_differencesFrom [.inr (some p), .inl name] h (fun r h' => r = some (dfs f name l) ∧ h' = h) := by
  have h20 := a.2.2.1
  have h6 := a.1
  have loop : ∀ (n i : Nat), i + n = l.length → AW m_X1_differencesFrom d none (fun r h' => r = some (dfs f name l) ∧ h' = h) 4 [some (.inr (some p)), some (.inl name), some (.inl (dfs f name (l.take i))), some (.inl (i : Int))] [] h (0, 0) := by
    intro n
    induction n with
    | zero =>
      intro i hin
      exact vc_X1_differencesFrom_4 hL ⟨fun c => ⟨by rw [List.take_of_length_le (by omega)], rfl⟩, fun c => by omega⟩
    | succ n ih =>
      intro i hin
      obtain ⟨e, he⟩ := get_ex (l := l) (i := i) (by omega)
      have hm := b _ _ he
      have hn := (a.2.1 _ _ he).1
      have hs : dfs f name (l.take (i + 1)) = if f e = true then orr (dfs f name (l.take i)) (xr e.1 name) else dfs f name (l.take i) := by
        unfold dfs
        rw [tk he, List.foldl_append]
        rfl
      have st := ih (i + 1) (by omega)
      rw [hs] at st
      refine vc_X1_differencesFrom_4 hL ⟨fun c => by omega, fun c => ⟨fun c2 => by omega, fun c2 => ⟨by omega, fun c3 => ⟨⟨by omega, by omega⟩, ?_⟩, fun c3 => ⟨⟨by omega, by omega⟩, ?_⟩⟩⟩⟩
      · rw [if_neg (fun q => by rw [if_pos q] at hm; omega)] at st
        exact st
      · have hfe : f e = true := by
          cases hfe : f e with
          | true => rfl
          | false => rw [hfe] at hm; simp at hm; omega
        rw [if_pos hfe] at st
        rw [hn]
        exact st
  exact vc_X1_differencesFrom hL (loop l.length 0 (by omega))
theorem c_awakeWith {len bits : Int} (hd : 1 ≤ d) (hL : QP h p) (a : PK h p l) (h0 : 0 ≤ len) (h8 : len ≤ 8) : AM d m_X1_awakeWith [.inr (some p), .inl len, .inl bits] h (fun r h' => r = some (((l.filter (pa len bits)).length : Nat) : Int) ∧ h' = h) := by
  have h20 := a.2.2.1
  have h6 := a.1
  have loop : ∀ (n i : Nat), i + n = l.length → AW m_X1_awakeWith d none (fun r h' => r = some (((l.filter (pa len bits)).length : Nat) : Int) ∧ h' = h) 5 [some (.inr (some p)), some (.inl len), some (.inl bits), some (.inl ((((l.take i).filter (pa len bits)).length : Nat) : Int)), some (.inl (i : Int))] [] h (0, 0) := by
    intro n
    induction n with
    | zero =>
      intro i hin
      exact vc_X1_awakeWith_5 hd hL ⟨fun c => ⟨by rw [List.take_of_length_le (by omega)], rfl⟩, fun c => by omega⟩
    | succ n ih =>
      intro i hin
      obtain ⟨e, he⟩ := get_ex (l := l) (i := i) (by omega)
      obtain ⟨hn, haw, -, -⟩ := a.2.1 _ _ he
      have hw := (a.2.2.w1 he).2.1
      have hs : ((l.take (i + 1)).filter (pa len bits)).length = ((l.take i).filter (pa len bits)).length + (if pa len bits e = true then 1 else 0) := by
        rw [tk he, List.filter_append, List.length_append]
        congr 1
        by_cases q : pa len bits e = true
        · simp [q]
        · simp [q]
      have hle : ((l.take i).filter (pa len bits)).length ≤ 20 := Nat.le_trans (List.length_filter_le ..) (by rw [List.length_take]; omega)
      have st := ih (i + 1) (by omega)
      rw [hs] at st
      refine vc_X1_awakeWith_5 hd hL ⟨fun c => by omega, fun c => ⟨fun c2 => by omega, fun c2 => ⟨by omega, fun c3 => ⟨⟨by omega, by omega⟩, ?_⟩, fun c3 => am_mono (c_firstBits h0 h8) (fun r h' _ _ q => ?_)⟩⟩⟩
      · rw [if_neg (by simp only [pa, Bool.and_eq_true, decide_eq_true_eq]; omega)] at st
        exact st
      · obtain ⟨rfl, rfl⟩ := q
        rw [hn]
        refine ⟨_, rfl, SS.rf, fun c4 => ⟨⟨by omega, by omega⟩, ?_⟩, fun c4 => ⟨⟨by omega, by omega⟩, ⟨by omega, by omega⟩, ?_⟩⟩
        · rw [if_neg (by simp only [pa, Bool.and_eq_true, decide_eq_true_eq]; exact fun q => c4 q.2)] at st
          exact st
        · rw [if_pos (by simp only [pa, Bool.and_eq_true, decide_eq_true_eq]; exact ⟨by omega, Classical.byContradiction c4⟩)] at st
          exact st
  exact vc_X1_awakeWith hd hL (loop l.length 0 (by omega))
theorem pa00 {c : Cd} (hw : wc c) : pa 0 0 c = decide (c.2.1 = 1) := by
  have h1 := hw.1
  have e : sr c.1 (8 - 0) = 0 := by
    show sr c.1 8 = 0
    rw [sr_eq ⟨by omega, by omega⟩ (by decide) (by decide)]
    show c.1 / 256 = 0
    omega
  unfold pa
  rw [e]
  simp
theorem nAw_eq (hw : WL l) : (l.filter (pa 0 0)).length = nAw l := by
  unfold nAw
  congr 1
  exact List.filter_congr (fun c hc => pa00 (hw.2.1 c hc))
theorem c_awakeCards (hd : 2 ≤ d) (hL : QP h p) (a : PK h p l) : AM d m_X1_awakeCards [.inr (some p)] h (fun r h' => r = some (nAw l : Int) ∧ h' = h) := by
  refine vc_X1_awakeCards (by omega) hL (am_mono (c_awakeWith (by omega) hL a (by decide) (by decide)) (fun r h' _ _ q => ?_))
  obtain ⟨rfl, rfl⟩ := q
  exact ⟨_, rfl, SS.rf, by rw [nAw_eq a.2.2], rfl⟩
theorem c_leavingCards (hL : QP h p) (a : PK h p l) : AM d m_X1_leavingCards [.inr (some p)] h (fun r h' => r = some (nLv l : Int) ∧ h' = h) := by
  have h20 := a.2.2.1
  have h6 := a.1
  have loop : ∀ (n i : Nat), i + n = l.length → AW m_X1_leavingCards d none (fun r h' => r = some (nLv l : Int) ∧ h' = h) 4 [some (.inr (some p)), some (.inl (nLv (l.take i) : Int)), some (.inl (i : Int))] [] h (0, 0) := by
    intro n
    induction n with
    | zero =>
      intro i hin
      exact vc_X1_leavingCards_4 hL ⟨fun c => ⟨by rw [List.take_of_length_le (by omega)], rfl⟩, fun c => by omega⟩
    | succ n ih =>
      intro i hin
      obtain ⟨e, he⟩ := get_ex (l := l) (i := i) (by omega)
      obtain ⟨-, -, hlv, -⟩ := a.2.1 _ _ he
      have hs : nLv (l.take (i + 1)) = nLv (l.take i) + (if 0 < e.2.2.1 then 1 else 0) := by
        unfold nLv
        rw [tk he, List.filter_append, List.length_append]
        congr 1
        by_cases q : 0 < e.2.2.1
        · simp [q]
        · simp [q]
      have hle : nLv (l.take i) ≤ 20 := Nat.le_trans (List.length_filter_le ..) (by rw [List.length_take]; omega)
      have st := ih (i + 1) (by omega)
      rw [hs] at st
      refine vc_X1_leavingCards_4 hL ⟨fun c => by omega, fun c => ⟨fun c2 => by omega, fun c2 => ⟨by omega, fun c3 => ⟨⟨by omega, by omega⟩, ?_⟩, fun c3 => ⟨⟨by omega, by omega⟩, ⟨by omega, by omega⟩, ?_⟩⟩⟩⟩
      · rw [if_neg (by omega)] at st
        exact st
      · rw [if_pos (by omega)] at st
        exact st
  exact vc_X1_leavingCards hL (loop l.length 0 (by omega))
theorem c_sharedBits {i0 : Nat} {c0 : Cd} (hd : 1 ≤ d) (hL : QP h p) (a : PK h p l) (hc : l[i0]? = some c0) : AM d m_X1_sharedBits [.inr (some p), .inl (i0 : Int)] h (fun r h' => r = some (shb c0.1 l) ∧ h' = h) := by
  have h20 := a.2.2.1
  have h6 := a.1
  have hlt := lt_len hc
  have hn0 := (a.2.1 _ _ hc).1
  have loop : ∀ (n i : Nat), i + n = l.length → AW m_X1_sharedBits d none (fun r h' => r = some (shb c0.1 l) ∧ h' = h) 16 [some (.inr (some p)), some (.inl (i0 : Int)), some (.inl (shb c0.1 (l.take i))), some (.inl (i : Int))] [] h (0, 0) := by
    intro n
    induction n with
    | zero =>
      intro i hin
      exact vc_X1_sharedBits_16 hd hL ⟨fun c => ⟨by rw [List.take_of_length_le (by omega)], rfl⟩, fun c => by omega⟩
    | succ n ih =>
      intro i hin
      obtain ⟨e, he⟩ := get_ex (l := l) (i := i) (by omega)
      have hn := (a.2.1 _ _ he).1
      have hs : shb c0.1 (l.take (i + 1)) = if e.1 = c0.1 then shb c0.1 (l.take i) else if shb c0.1 (l.take i) < fo (xr e.1 c0.1) then fo (xr e.1 c0.1) else shb c0.1 (l.take i) := by
        unfold shb
        rw [tk he, List.foldl_append]
        rfl
      have st := ih (i + 1) (by omega)
      rw [hs] at st
      refine vc_X1_sharedBits_16 hd hL ⟨fun c => by omega, fun c => ⟨fun c2 => by omega, fun c2 => ⟨fun c3 => ⟨⟨by omega, by omega⟩, ?_⟩, fun c3 => ⟨by omega, by omega, ?_⟩⟩⟩⟩
      · have : i = i0 := by omega
        subst this
        rw [hc] at he
        cases he
        rw [if_pos rfl] at st
        exact st
      · rw [hn, hn0]
        refine am_mono (c_firstOne (xr_in (a.2.2.w1 he).1 (a.2.2.w1 hc).1)) (fun r h' _ _ q => ?_)
        obtain ⟨rfl, rfl⟩ := q
        have hne : ¬ e.1 = c0.1 := fun q => c3 (by rw [a.2.2.inj he hc q])
        rw [if_neg hne] at st
        exact ⟨_, rfl, SS.rf, ⟨by omega, by omega⟩, st⟩
  refine vc_X1_sharedBits hd hL (am_mono (c_isCard hL a) (fun r h' _ _ q => ?_))
  obtain ⟨rfl, rfl⟩ := q
  rw [if_pos (by omega)]
  exact ⟨_, rfl, SS.rf, fun _ => loop l.length 0 (by omega), fun c => by omega⟩
def inA (p : Nat) : Nat → Prop := fun j => p + 1 ≤ j ∧ j ≤ p + 5
theorem mv_fxA {a b : Int} : FX h (mv h p a b) (inA p) := (((((FX.rf (S := inA p)).up ⟨by omega, by omega⟩).up ⟨by omega, by omega⟩).up ⟨by omega, by omega⟩).up ⟨by omega, by omega⟩).up ⟨by omega, by omega⟩
theorem A4.mv {a b i : Int} {c : Cd} (hA : A4 h p (if i = b then a else i) c) : A4 (mv h p a b) p i c := by
  unfold A4
  rw [hi_mv, hi_mv, hi_mv, hi_mv]
  by_cases q : i = b
  · rw [if_pos q] at hA
    rw [if_pos ⟨by omega, q⟩, if_pos ⟨by omega, q⟩, if_pos ⟨by omega, q⟩, if_pos ⟨by omega, q⟩]
    exact hA
  · rw [if_neg q] at hA
    rw [if_neg (fun z => q z.2), if_neg (fun z => q z.2), if_neg (fun z => q z.2), if_neg (fun z => q z.2)]
    exact hA
theorem mid {α : Type} {l : List α} {j : Nat} {n : α} (hj : j ≤ l.length) {i : Nat} : (l.take j ++ n :: l.drop j)[i]? = if i < j then l[i]? else if i = j then some n else l[i - 1]? := by
  by_cases q : i < j
  · rw [if_pos q, List.getElem?_append_left (by rw [List.length_take]; omega), List.getElem?_take_of_lt q]
  · rw [if_neg q, List.getElem?_append_right (by rw [List.length_take]; omega), List.length_take, Nat.min_eq_left hj]
    by_cases q2 : i = j
    · rw [if_pos q2, q2, Nat.sub_self]
      rfl
    · rw [if_neg q2]
      obtain ⟨m, hm⟩ : ∃ m, i = j + m + 1 := ⟨i - j - 1, by omega⟩
      rw [show i - j = m + 1 by omega, List.getElem?_cons_succ, List.getElem?_drop]
      congr 1
      omega
theorem c_insert {x : Int} (hd : 1 ≤ d) (hL : QP h p) (a : PK h p l) (hl : l.length < 20) (hx : 0 ≤ x ∧ x ≤ 255) (hn : ix l x = none) : AM d m_X1_insert [.inr (some p), .inl x] h (fun r h' => r = none ∧ SS h h' ∧ FX h h' (inP p) ∧ PK h' p (ins x l)) := by
  have h6 := a.1
  have hne := ix_none.mp hn
  have fin : ∀ (j : Nat) (h1 : AH), j ≤ l.length → SS h h1 → FX h h1 (inA p) → (∀ (i : Nat) (c : Cd), l[i]? = some c → i < j → A4 h1 p i c) → (∀ (i : Nat) (c : Cd), l[i]? = some c → j ≤ i → A4 h1 p ((i : Int) + 1) c ∧ x < c.1) → (∀ c : Cd, 0 < j → l[j - 1]? = some c → c.1 ≤ x) →
      (none : Option Int) = none ∧ SS h (up (up (up (up (up (up h1 (p + 1) j x) (p + 2) j 0) (p + 3) j 0) (p + 4) j (-1)) (p + 5) j 1) p 6 ((hi h1 p 6) + 1)) ∧ FX h (up (up (up (up (up (up h1 (p + 1) j x) (p + 2) j 0) (p + 3) j 0) (p + 4) j (-1)) (p + 5) j 1) p 6 ((hi h1 p 6) + 1)) (inP p) ∧ PK (up (up (up (up (up (up h1 (p + 1) j x) (p + 2) j 0) (p + 3) j 0) (p + 4) j (-1)) (p + 5) j 1) p 6 ((hi h1 p 6) + 1)) p (ins x l) := by
    intro j h1 hj s f hlo hhi hle
    have e6 : hi h1 p 6 = l.length := by rw [f.at (fun q => by have := q.1; omega)]; exact h6
    have hins := ins_at j a.2.2.2.2 hj (fun i c hc hi' => (hhi i c hc hi').2) hle
    refine ⟨rfl, SS.up (SS.up (SS.up (SS.up (SS.up (SS.up s))))), ((((((f.wk (S' := inP p) (fun j q => ⟨by have := q.1; omega, by have := q.2; omega⟩)).up ⟨by omega, by omega⟩).up ⟨by omega, by omega⟩).up ⟨by omega, by omega⟩).up ⟨by omega, by omega⟩).up ⟨by omega, by omega⟩).up ⟨by omega, by omega⟩, ?_, ?_, a.2.2.ins hl hx hne⟩
    · rw [hi_up, if_pos ⟨rfl, rfl⟩, e6, ins_len]
      omega
    · rw [← hins]
      intro i c hc
      rw [mid hj] at hc
      have rd : ∀ (y : Nat) (v : Int), A4 (up (up (up (up (up (up h1 (p + 1) j x) (p + 2) j 0) (p + 3) j 0) (p + 4) j (-1)) (p + 5) j 1) p 6 ((hi h1 p 6) + 1)) p i c ↔ (if (i : Int) = j then x else hi h1 (p + 1) i) = c.1 ∧ (if (i : Int) = j then 1 else hi h1 (p + 5) i) = c.2.1 ∧ (if (i : Int) = j then 0 else hi h1 (p + 2) i) = c.2.2.1 ∧ (if (i : Int) = j then 0 else hi h1 (p + 3) i) = c.2.2.2 := by
        intro _ _
        unfold A4
        simp only [hi_up]
        simp
      rw [rd 0 0]
      by_cases q : i < j
      · rw [if_pos q] at hc
        have hne2 : ¬ (i : Int) = j := by omega
        rw [if_neg hne2, if_neg hne2, if_neg hne2, if_neg hne2]
        exact hlo i c hc q
      · rw [if_neg q] at hc
        by_cases q2 : i = j
        · rw [if_pos q2] at hc
          cases hc
          have he2 : (i : Int) = j := by omega
          rw [if_pos he2, if_pos he2, if_pos he2, if_pos he2]
          exact ⟨rfl, rfl, rfl, rfl⟩
        · rw [if_neg q2] at hc
          have hne2 : ¬ (i : Int) = j := by omega
          rw [if_neg hne2, if_neg hne2, if_neg hne2, if_neg hne2]
          have := (hhi (i - 1) c hc (by omega)).1
          rw [show (((i - 1 : Nat) : Int) + 1) = i by omega] at this
          exact this
  have loop : ∀ (j : Nat) (h1 : AH), j ≤ l.length → SS h h1 → FX h h1 (inA p) → (∀ (i : Nat) (c : Cd), l[i]? = some c → i < j → A4 h1 p i c) → (∀ (i : Nat) (c : Cd), l[i]? = some c → j ≤ i → A4 h1 p ((i : Int) + 1) c ∧ x < c.1) →
      AW m_X1_insert d none (fun r h' => r = none ∧ SS h h' ∧ FX h h' (inP p) ∧ PK h' p (ins x l)) 22 [some (.inr (some p)), some (.inl x), some (.inl (j : Int))] [] h1 (0, 0) := by
    intro j
    induction j with
    | zero =>
      intro h1 hj s f hlo hhi
      have e6 : hi h1 p 6 = l.length := by rw [f.at (fun q => by have := q.1; omega)]; exact h6
      exact vc_X1_insert_22 hd (hL.ss s) ⟨fun c => ⟨by omega, ⟨by omega, by omega⟩, fin 0 h1 hj s f hlo hhi (fun c q => by omega)⟩, fun c => by omega⟩
    | succ j ih =>
      intro h1 hj s f hlo hhi
      have e6 : hi h1 p 6 = l.length := by rw [f.at (fun q => by have := q.1; omega)]; exact h6
      obtain ⟨e, he⟩ := get_ex (l := l) (i := j) (by omega)
      have hA := hlo j e he (by omega)
      have hw := (a.2.2.w1 he).2.1
      have ej : ((j + 1 : Nat) : Int) - 1 = j := by omega
      refine vc_X1_insert_22 hd (hL.ss s) ⟨fun c => by omega, fun c => ⟨⟨by omega, by omega⟩, by omega, fun c2 => ⟨by omega, ⟨by omega, by omega⟩, fin (j + 1) h1 hj s f hlo hhi (fun c q hc => ?_)⟩, fun c2 => ?_⟩⟩
      · rw [show j + 1 - 1 = j by omega, he] at hc
        cases hc
        rw [ej, hA.1] at c2
        exact c2
      · rw [ej, hA.1] at c2
        rw [ej]
        refine am_mono (c_moveCard (hL.ss s) (by omega) (by omega) (by rw [hA.2.1]; exact hw)) (fun r h' _ _ q => ?_)
        obtain ⟨rfl, rfl⟩ := q
        refine ⟨rfl, SS.mv, ih _ (by omega) (s.tr SS.mv) (f.tr mv_fxA) (fun i c hc hi' => A4.mv ?_) (fun i c hc hi' => ?_)⟩
        · rw [if_neg (by omega)]
          exact hlo i c hc (by omega)
        · by_cases q : i = j
          · subst q
            rw [he] at hc
            cases hc
            refine ⟨A4.mv ?_, by omega⟩
            rw [if_pos (by omega)]
            exact hA
          · refine ⟨A4.mv ?_, (hhi i c hc (by omega)).2⟩
            rw [if_neg (by omega)]
            exact (hhi i c hc (by omega)).1
  refine vc_X1_insert hd hL ⟨fun c => by omega, fun c => ⟨fun c2 => ?_, fun c2 => by omega⟩⟩
  rw [h6]
  exact loop l.length h (Nat.le_refl _) SS.rf FX.rf (fun i c hc _ => a.2.1 i c hc) (fun i c hc q => by have := lt_len hc; omega)
end P3
