/-! the law: refuses, the loop -/
section LAWL
variable {d : Nat} {g : Gs} {T : Int}
def GI (T : Int) (g : Gs) : Prop := IV T g.1 ∧ (∀ s ∈ g.2.1, IV T s) ∧ (∀ s, g.2.2.1 = some s → IV T s) ∧ g.2.2.2 = [] ∧ g.2.1.length ≤ 4
theorem GI.up {T' : Int} (G : GI T g) (h : T ≤ T') : GI T' g := ⟨G.1.up h, fun s hs => (G.2.1 s hs).up h, fun s hs => (G.2.2.1 s hs).up h, G.2.2.2.1, G.2.2.2.2⟩
theorem l_refuses {x : Int} (hd : 21 ≤ d) (a : IV T g.1) (ht : g.2.2.2 = []) (hx : 0 ≤ x ∧ x < 2147483648) : LM d m_L_refuses [.inr (some 1), .inl x] g (P1 g) := by
  refine lm_body mo_L_refuses (Nat.le_of_ble_eq_true rfl) (by intro q; cases q) ?_
  show LW m_L_refuses d none _ 0 [some (.inr (some 1)), some (.inl x), none, none, none] [] g (0, 0)
  refine lw_none ?_
  refine lc_refuses (by omega) ?_
  refine lj_mono (l_seen (by omega) a.2.2.1 a.1.1) (fun y3 g2 z_y3 => ?_)
  obtain ⟨q_y3, f_y3⟩ := z_y3
  subst f_y3
  intro v4 r_v4 e_v4
  replace e_v4 := e_v4.trans tot_15
  refine lm_mono (l_refusesAny (by omega) a ht hx) (fun v5 g6 z_v5 => ?_)
  obtain ⟨q_v5, f_v5⟩ := z_v5
  subst f_v5
  refine ⟨fun c7 => ?_, fun c7 => ?_⟩
  · exfalso; omega
  · refine lj_mono (l_seen (by omega) a.2.2.1 a.1.1) (fun y10 g9 z_y10 => ?_)
    obtain ⟨q_y10, f_y10⟩ := z_y10
    subst f_y10
    refine ⟨by rw [q_y10, q_y3], ?_⟩
    intro v13 r_v13 e_v13
    replace e_v13 := e_v13.trans tot_15
    refine ⟨fun c14 => ?_, fun c14 => ?_⟩
    · exfalso; omega
    · exact ⟨rfl, rfl⟩
theorem push_len {s : Ms} {L : List Ms} (hL : L.length ≤ 4) : ((push s L).length : Int) = if (L.length : Int) < 4 then (L.length : Int) + 1 else 4 := by
  unfold push
  rw [List.length_append]
  by_cases q : L.length < 4
  · rw [if_pos q, if_pos (by omega)]; simp
  · rw [if_neg q, if_neg (by omega), List.length_drop]; simp; omega
theorem push_mem {s x : Ms} {L : List Ms} (h : x ∈ push s L) : x ∈ L ∨ x = s := by
  unfold push at h
  rcases List.mem_append.mp h with h | h
  · split at h
    · exact Or.inl h
    · exact Or.inl (List.mem_of_mem_drop h)
  · exact Or.inr (List.mem_singleton.mp h)
/-- behind a change -/
theorem act_f {g' : Gs} {v : Int} (G : GI T g) (z : PA T g v g') : GI (T + 23200) g' ∧ g'.2.2 = g.2.2 ∧ -9 < v ∧ (v < 0 → seenF g'.1 = seenF g.1) ∧ ((v < 0 ∧ (g'.2.1.length : Int) = g.2.1.length) ∨ (0 ≤ v ∧ ((g.2.1.length : Int) < 4 ∧ (g'.2.1.length : Int) = g.2.1.length + 1 ∨ 4 ≤ (g.2.1.length : Int) ∧ (g'.2.1.length : Int) = 4))) ∧ (0 ≤ v → g'.2.1 = push g.1 g.2.1) := by
  obtain ⟨o, ⟨h1, h2, h3⟩, rfl, rfl⟩ := z
  obtain ⟨G1, G2, G3, G4, G5⟩ := id G
  have ev : (recG o g).1 = o.1 := rfl
  have es : (recG o g).2.1 = o.2 := rfl
  have el : (recG o g).2.2.1 = if o.1 < 0 then g.2.1 else push g.1 g.2.1 := rfl
  have er : (recG o g).2.2.2 = g.2.2 := rfl
  by_cases q : o.1 < 0
  · rw [if_pos q] at el
    have e2 : (recG o g).2 = g := by
      have e3 : (recG o g).2 = (o.2, (recG o g).2.2.1, g.2.2) := rfl
      rw [e3, el, h2 q]
    rw [e2, ev]
    exact ⟨G.up (by omega), rfl, h1, fun _ => rfl, Or.inl ⟨q, rfl⟩, fun z => absurd z (by omega)⟩
  · rw [if_neg q] at el
    have hp := push_len (s := g.1) G5
    refine ⟨⟨h3 (by omega), fun s hs => ?_, fun s hs => (G3 s hs).up (by omega), G4, ?_⟩, er, by rw [ev]; exact h1, fun z => absurd z (by rw [ev]; exact q), Or.inr ⟨by rw [ev]; omega, ?_⟩, fun _ => el⟩
    · rw [el] at hs
      rcases push_mem hs with r | r
      · exact (G2 s r).up (by omega)
      · rw [r]; exact G1.up (by omega)
    · rw [el]
      split at hp <;> omega
    · rw [el, hp]
      split <;> omega
theorem push_last {s : Ms} {L : List Ms} : (push s L).getLast? = some s := by
  unfold push
  rw [List.getLast?_append]
  rfl
/-- gone back -/
theorem undo_f {s : Ms} {L : List Ms} (G : GI T g) (h : g.2.1 = push s L) (hL : L.length ≤ 4) : GI T (undoG g).2 ∧ (undoG g).2.2.2 = g.2.2 ∧ (undoG g).2.1 = s ∧ ((L.length : Int) < 4 ∧ (undoG g).1 = L.length ∨ 4 ≤ (L.length : Int) ∧ (undoG g).1 = 3) := by
  have hp := push_len (s := s) hL
  have hu : undoO g.2.1 g.1 = ((g.2.1.length : Int) - 1, s, g.2.1.dropLast) := by
    unfold undoO
    rw [h, push_last]
  have e : undoG g = ((g.2.1.length : Int) - 1, s, g.2.1.dropLast, g.2.2) := by
    unfold undoG
    rw [hu]
  rw [e]
  have hs : s ∈ g.2.1 := by rw [h]; exact List.mem_of_getLast? push_last
  refine ⟨⟨G.2.1 s hs, fun x hx => G.2.1 x ((List.dropLast_sublist _).subset hx), G.2.2.1, G.2.2.2.1, ?_⟩, rfl, rfl, ?_⟩
  · show g.2.1.dropLast.length ≤ 4
    rw [List.length_dropLast]
    have := G.2.2.2.2
    omega
  · show (L.length : Int) < 4 ∧ (g.2.1.length : Int) - 1 = L.length ∨ 4 ≤ (L.length : Int) ∧ (g.2.1.length : Int) - 1 = 3
    rw [h, hp]
    split <;> omega
/-- the snapshot taken back -/
theorem rest_f {sk : Ms} (G : GI T g) (h : g.2.2.1 = some sk) : (restG g).1 = (sk.1.length : Int) ∧ (restG g).2.1 = sk ∧ (restG g).2.2.1 = push g.1 g.2.1 ∧ GI T (restG g).2 ∧ (restG g).2.2.2 = g.2.2 := by
  have e : restG g = ((sk.1.length : Int), sk, push g.1 g.2.1, g.2.2) := by unfold restG; rw [h]
  rw [e]
  have hp := push_len (s := g.1) G.2.2.2.2
  refine ⟨rfl, rfl, rfl, ⟨G.2.2.1 sk h, fun x hx => ?_, G.2.2.1, G.2.2.2.1, ?_⟩, rfl⟩
  · rcases push_mem hx with r | r
    · exact G.2.1 x r
    · rw [r]; exact G.1
  · show (push g.1 g.2.1).length ≤ 4
    split at hp <;> omega
theorem keep_f (G : GI T g) : (keepG g).1 = (g.1.1.length : Int) ∧ GI T (keepG g).2 ∧ (keepG g).2.2.2.1 = some g.1 :=
  ⟨rfl, ⟨G.1, G.2.1, fun s hs => by
    have hs' : some g.1 = some s := hs
    cases hs'
    exact G.1, G.2.2.2.1, G.2.2.2.2⟩, rfl⟩
abbrev PL : Int → Gs → Prop := fun v _ => v = 1
/-- the snapshot as the law has it -/
def SN (g : Gs) (z : Int64) (c : Int) : Prop := ∃ sk, g.2.2.1 = some sk ∧ z = seenF sk ∧ c = (sk.1.length : Int)
theorem l_seenG (hd : 20 ≤ d) (a : IV T g.1) : LJ d m_L_seen [.inr (some 1)] g (fun x g' => x = seenF g.1 ∧ g' = g) := l_seen hd a.2.2.1 a.1.1
/-- what is left to show at the loop's head -/
def IH (d : Nat) (q : Nat × (Nat → Int)) (k : Int) : Prop := ∀ (g : Gs) (c is : Int) (z : Int64), is = 1 → GI (23200 * k) g → SN g z c → LW m_L_law d (some (some q, [], [(3, z)])) PL 105 [some (.inr (some 0)), some (.inr (some 1)), some (.inl is), none, none, some (.inl c), some (.inl k), none, none, none, none, none, none, none, none, none] [] g (103, 2908)
theorem l_law294 {q : Nat × (Nat → Int)} {k c is x had v st : Int} {z3 z8 : Int64} (hd : 24 ≤ d) (hk : 0 ≤ k ∧ k < 64) (ih : IH d q (k + 1)) (his : is = 1) (G : GI (23200 * (k + 1)) g) (hS : SN g z3 c) : LW m_L_law d (some (some q, [], [(3, z3), (8, z8)])) PL 294 [some (.inr (some 0)), some (.inr (some 1)), some (.inl is), none, none, some (.inl c), some (.inl k), some (.inl x), none, none, some (.inl had), some (.inl v), some (.inl st), none, none, none] [] g (103, 2908) := by
  obtain ⟨sk, hsk, hz3, hc⟩ := id hS
  have q_z3 := hz3
  have GG := G
  have hk1 : rg (k + 1) := by unfold rg; omega
  refine lc_law_294 (by omega) ?_
  refine ⟨fun c1 => ?_, fun c1 => ?_⟩
  · refine ⟨by unfold rg; omega, ?_⟩
    exact ih _ _ _ _ his G hS
  · refine ⟨by omega, ?_⟩
    refine ⟨fun c4 => ?_, fun c4 => ?_⟩
    · refine ⟨by unfold rg; omega, ?_⟩
      exact ih _ _ _ _ his G hS
    · refine lj_mono (l_seenG (by omega) G.1) (fun y8 g7 z_y8 => ?_)
      obtain ⟨q_y8, f_y8⟩ := z_y8
      subst f_y8
      intro v9 r_v9 e_v9
      replace e_v9 := e_v9.trans tot_0
      intro v10 g11 r_v10 e_v10 f_v10
      obtain ⟨r1, r2, r3, r4, r5⟩ := rest_f G hsk
      have hst : ∀ s, s = (restG g7).2.1 → s = sk := fun s h => h.trans r2
      rw [← f_v10] at r2 r3 r4 r5
      refine ⟨fun c12 => ?_, fun c12 => ?_⟩
      · exfalso; omega
      · refine lj_mono (l_seenG (by omega) r4.1) (fun y15 g14 z_y15 => ?_)
        obtain ⟨q_y15, f_y15⟩ := z_y15
        subst f_y15
        refine ⟨by rw [q_y15, r2, q_z3], ?_⟩
        intro v18 g19 r_v18 e_v18 f_v18
        obtain ⟨u1, u2, u3, u4⟩ := undo_f r4 r3 G.2.2.2.2
        rw [← f_v18] at u1 u2 u3
        refine ⟨fun c20 => ?_, fun c20 => ?_⟩
        · exfalso; omega
        · refine lj_mono (l_seenG (by omega) u1.1) (fun y23 g22 z_y23 => ?_)
          obtain ⟨q_y23, f_y23⟩ := z_y23
          subst f_y23
          refine ⟨by rw [q_y23, u3, q_y8], ?_⟩
          intro v26 g27 r_v26 e_v26 f_v26
          obtain ⟨k1, k2, k3⟩ := keep_f u1
          rw [u3] at k1
          rw [← f_v26] at k2 k3
          refine ⟨fun c28 => ?_, fun c28 => ?_⟩
          · exfalso; omega
          · refine ⟨by unfold rg; omega, ?_⟩
            exact ih _ _ _ _ rfl k2 ⟨_, k3, by rw [q_y8, ← u3], by rw [e_v9, ← u3]⟩
theorem l_law240 {q : Nat × (Nat → Int)} {k c is x had v st : Int} {z3 z8 : Int64} (hd : 24 ≤ d) (hk : 0 ≤ k ∧ k < 64) (ih : IH d q (k + 1)) (his : is = 1) (G : GI (23200 * (k + 1)) g) (hS : SN g z3 c) (hx : 0 ≤ x ∧ x < 2147483648) (hu : 0 ≤ v → ∃ s L, g.2.1 = push s L ∧ z8 = seenF s ∧ had = (L.length : Int) ∧ L.length ≤ 4) : LW m_L_law d (some (some q, [], [(3, z3), (8, z8)])) PL 240 [some (.inr (some 0)), some (.inr (some 1)), some (.inl is), none, none, some (.inl c), some (.inl k), some (.inl x), none, none, some (.inl had), some (.inl v), some (.inl st), none, none, none] [] g (103, 2908) := by
  refine lc_law_240 (by omega) ?_
  refine ⟨fun c1 => ?_, fun c1 => ?_⟩
  · exact l_law294 hd hk ih his G hS
  · refine ⟨fun c2 => ?_, fun c2 => ?_⟩
    · exact l_law294 hd hk ih his G hS
    · refine ⟨by omega, ?_⟩
      refine ⟨by omega, ?_⟩
      refine ⟨fun c5 => ?_, fun c5 => ?_⟩
      · exact l_law294 hd hk ih his G hS
      · intro v6 g7 r_v6 e_v6 f_v6
        obtain ⟨s, L, hp, hz8, hhad, hL4⟩ := hu (by omega)
        obtain ⟨u1, u2, u3, u4⟩ := undo_f G hp hL4
        rw [← f_v6] at u1 u2 u3
        have hS2 : SN g7 z3 c := by obtain ⟨sk, h1, h2, h3⟩ := hS; exact ⟨sk, by rw [u2]; exact h1, h2, h3⟩
        refine ⟨fun c8 => ?_, fun c8 => ?_⟩
        · refine ⟨fun c9 => ?_, fun c9 => ?_⟩
          · exfalso; omega
          · refine lj_mono (l_seenG (by omega) u1.1) (fun y12 g11 z_y12 => ?_)
            obtain ⟨q_y12, f_y12⟩ := z_y12
            subst f_y12
            refine ⟨by rw [q_y12, u3, hz8], ?_⟩
            exact l_law294 hd hk ih rfl u1 hS2
        · refine ⟨fun c15 => ?_, fun c15 => ?_⟩
          · exfalso; omega
          · refine lj_mono (l_seenG (by omega) u1.1) (fun y18 g17 z_y18 => ?_)
            obtain ⟨q_y18, f_y18⟩ := z_y18
            subst f_y18
            refine ⟨by rw [q_y18, u3, hz8], ?_⟩
            exact l_law294 hd hk ih rfl u1 hS2
theorem l_law105 {q : Nat × (Nat → Int)} (hd : 24 ≤ d) (hq : q.1 < 2147483648) : ∀ (n : Nat) (k : Int), k + (n : Int) = 64 → 0 ≤ k → IH d q k := by
  intro n
  induction n with
  | zero =>
    intro k hk h0 g c is z3 his G hS
    refine lc_law_105 (by omega) ?_
    exact ⟨fun c1 => ⟨by omega, his⟩, fun c1 => absurd (by omega) c1⟩
  | succ n ihn =>
    intro k hk h0 g c is z3 his G hS
    have ih : IH d q (k + 1) := ihn (k + 1) (by omega) (by omega)
    have hk64 : 0 ≤ k ∧ k < 64 := by omega
    refine lc_law_105 (by omega) ?_
    refine ⟨fun c1 => ?_, fun c1 => ?_⟩
    · refine ⟨by omega, ?_⟩
      exact his
    · refine ⟨fun c3 => ?_, fun c3 => ?_⟩
      · refine ⟨by omega, ?_⟩
        exact his
      · refine lx_mono (l_cell (by omega) h0 hq) (fun v5 g6 z_v5 => ?_)
        obtain ⟨lo_v5, up_v5, f_v5⟩ := z_v5
        subst f_v5
        refine lj_mono (l_seenG (by omega) G.1) (fun y9 g8 z_y9 => ?_)
        obtain ⟨q_y9, f_y9⟩ := z_y9
        subst f_y9
        intro v10 r_v10 e_v10
        replace e_v10 := e_v10.trans tot_15
        refine lm_mono (l_act (by omega) G.1 (by omega) ⟨by omega, by omega⟩) (fun v11 g12 z_v11 => ?_)
        obtain ⟨G2, hsn, hv9, hsame, hlen, hpush⟩ := act_f G z_v11
        have hS2 : SN g12 z3 c := by obtain ⟨sk, h1, h2, h3⟩ := hS; exact ⟨sk, by rw [hsn]; exact h1, h2, h3⟩
        intro v13 r_v13 e_v13
        replace e_v13 := e_v13.trans tot_15
        refine ⟨fun c14 => ?_, fun c14 => ?_⟩
        · exfalso; omega
        · refine ⟨fun c15 => ?_, fun c15 => ?_⟩
          · refine ⟨fun c16 => ?_, fun c16 => ?_⟩
            · refine ⟨fun c17 => ?_, fun c17 => ?_⟩
              · exfalso; omega
              · refine lm_mono (l_isWhole (by omega) G2.1 (by omega)) (fun v18 g19 z_v18 => ?_)
                obtain ⟨q_v18, f_v18⟩ := z_v18
                subst f_v18
                refine ⟨fun c20 => ?_, fun c20 => ?_⟩
                · exfalso; omega
                · refine ⟨by omega, ?_⟩
                  refine ⟨fun c22 => ?_, fun c22 => ?_⟩
                  · exact l_law240 hd hk64 ih rfl (G2.up (by omega)) hS2 ⟨by omega, by omega⟩ (fun h => ⟨_, _, hpush h, q_y9, by omega, G.2.2.2.2⟩)
                  · refine ⟨by omega, ?_⟩
                    refine lm_mono (l_refuses (by omega) G2.1 G2.2.2.2.1 (by omega)) (fun v24 g25 z_v24 => ?_)
                    obtain ⟨q_v24, f_v24⟩ := z_v24
                    subst f_v24
                    refine ⟨fun c26 => ?_, fun c26 => ?_⟩
                    · exfalso; omega
                    · exact l_law240 hd hk64 ih rfl (G2.up (by omega)) hS2 ⟨by omega, by omega⟩ (fun h => ⟨_, _, hpush h, q_y9, by omega, G.2.2.2.2⟩)
            · refine ⟨by unfold rg; omega, ?_⟩
              refine ⟨fun c28 => ?_, fun c28 => ?_⟩
              · exfalso; omega
              · refine lm_mono (l_isWhole (by omega) G2.1 (by omega)) (fun v29 g30 z_v29 => ?_)
                obtain ⟨q_v29, f_v29⟩ := z_v29
                subst f_v29
                refine ⟨fun c31 => ?_, fun c31 => ?_⟩
                · exfalso; omega
                · refine ⟨by omega, ?_⟩
                  refine ⟨fun c33 => ?_, fun c33 => ?_⟩
                  · exact l_law240 hd hk64 ih rfl (G2.up (by omega)) hS2 ⟨by omega, by omega⟩ (fun h => ⟨_, _, hpush h, q_y9, by omega, G.2.2.2.2⟩)
                  · refine ⟨by omega, ?_⟩
                    refine lm_mono (l_refuses (by omega) G2.1 G2.2.2.2.1 (by omega)) (fun v35 g36 z_v35 => ?_)
                    obtain ⟨q_v35, f_v35⟩ := z_v35
                    subst f_v35
                    refine ⟨fun c37 => ?_, fun c37 => ?_⟩
                    · exfalso; omega
                    · exact l_law240 hd hk64 ih rfl (G2.up (by omega)) hS2 ⟨by omega, by omega⟩ (fun h => ⟨_, _, hpush h, q_y9, by omega, G.2.2.2.2⟩)
          · refine ⟨fun c38 => ?_, fun c38 => ?_⟩
            · exfalso; omega
            · refine lj_mono (l_seenG (by omega) G2.1) (fun y41 g40 z_y41 => ?_)
              obtain ⟨q_y41, f_y41⟩ := z_y41
              subst f_y41
              refine ⟨by rw [q_y41, hsame (by omega), q_y9], ?_⟩
              refine lm_mono (l_isWhole (by omega) G2.1 (by omega)) (fun v44 g45 z_v44 => ?_)
              obtain ⟨q_v44, f_v44⟩ := z_v44
              subst f_v44
              refine ⟨fun c46 => ?_, fun c46 => ?_⟩
              · exfalso; omega
              · refine ⟨by omega, ?_⟩
                refine ⟨fun c48 => ?_, fun c48 => ?_⟩
                · exact l_law240 hd hk64 ih rfl (G2.up (by omega)) hS2 ⟨by omega, by omega⟩ (fun h => ⟨_, _, hpush h, q_y9, by omega, G.2.2.2.2⟩)
                · refine ⟨by omega, ?_⟩
                  refine lm_mono (l_refuses (by omega) G2.1 G2.2.2.2.1 (by omega)) (fun v50 g51 z_v50 => ?_)
                  obtain ⟨q_v50, f_v50⟩ := z_v50
                  subst f_v50
                  refine ⟨fun c52 => ?_, fun c52 => ?_⟩
                  · exfalso; omega
                  · exact l_law240 hd hk64 ih rfl (G2.up (by omega)) hS2 ⟨by omega, by omega⟩ (fun h => ⟨_, _, hpush h, q_y9, by omega, G.2.2.2.2⟩)
theorem undo_no (h : g.2.1 = []) : undoG g = (-5, g) := by
  unfold undoG undoO
  rw [h]
  obtain ⟨s, L, r⟩ := g
  have h' : L = [] := h
  subst h'
  rfl
theorem rest_no (h : g.2.2.1 = none) : restG g = (-5, g) := by unfold restG; rw [h]
theorem l_law8 {q : Nat × (Nat → Int)} (hd : 24 ≤ d) (hq : q.1 < 2147483648) (G : GI 0 g) (hh : g.2.1 = []) (hs : g.2.2.1 = none) (hl : g.1.1 = []) (h2 : g.1.2.2 2 = 1) (h3 : g.1.2.2 3 = 0) (h4 : g.1.2.2 4 = 1) : LW m_L_law d (some (some q, [], [])) PL 8 [some (.inr (some 0)), some (.inr (some 1)), none, none, none, none, none, none, none, none, none, none, none, none, none, none] [] g (103, 2908) := by
  have hc0 : cardO 0 g.1.1 = -5 := by rw [hl]; rfl
  have hl0 : (g.1.1.length : Int) = 0 := by rw [hl]; rfl
  refine lc_law_8 (by omega) ?_
  intro v1 g2 r_v1 e_v1 f_v1
  rw [undo_no hh] at e_v1 f_v1
  replace e_v1 : v1 = -5 := e_v1
  replace f_v1 : g2 = g := f_v1
  subst f_v1
  refine ⟨fun c3 => ?_, fun c3 => ?_⟩
  · exfalso; omega
  · intro v4 g5 r_v4 e_v4 f_v4
    rw [rest_no hs] at e_v4 f_v4
    replace e_v4 : v4 = -5 := e_v4
    replace f_v4 : g5 = g2 := f_v4
    subst f_v4
    refine ⟨fun c6 => ?_, fun c6 => ?_⟩
    · exfalso; omega
    · intro v7 r_v7 e_v7
      replace e_v7 := e_v7.trans tot_11
      refine ⟨fun c8 => ?_, fun c8 => ?_⟩
      · exfalso; omega
      · intro v9 r_v9 e_v9
        replace e_v9 := e_v9.trans tot_12
        refine ⟨fun c10 => ?_, fun c10 => ?_⟩
        · exfalso; omega
        · intro v11 r_v11 e_v11
          replace e_v11 := e_v11.trans tot_13
          refine ⟨fun c12 => ?_, fun c12 => ?_⟩
          · exfalso; omega
          · intro v13 r_v13 e_v13
            rw [hc0] at e_v13
            refine ⟨fun c14 => ?_, fun c14 => ?_⟩
            · exfalso; omega
            · refine lm_mono (l_refuses (by omega) G.1 G.2.2.2.1 (by omega)) (fun v15 g16 z_v15 => ?_)
              obtain ⟨q_v15, f_v15⟩ := z_v15
              subst f_v15
              refine ⟨fun c17 => ?_, fun c17 => ?_⟩
              · exfalso; omega
              · refine lm_mono (l_refuses (by omega) G.1 G.2.2.2.1 (by omega)) (fun v18 g19 z_v18 => ?_)
                obtain ⟨q_v18, f_v18⟩ := z_v18
                subst f_v18
                refine ⟨fun c20 => ?_, fun c20 => ?_⟩
                · exfalso; omega
                · intro v21 g22 r_v21 e_v21 f_v21
                  obtain ⟨k1, k2, k3⟩ := keep_f G
                  rw [← f_v21] at k2 k3
                  refine ⟨fun c23 => ?_, fun c23 => ?_⟩
                  · exfalso; omega
                  · refine lj_mono (l_seenG (by omega) k2.1) (fun y26 g25 z_y26 => ?_)
                    obtain ⟨q_y26, f_y26⟩ := z_y26
                    rw [f_y26]
                    refine l_law105 hd hq 64 0 (by omega) (by omega) _ _ _ _ rfl k2 ⟨_, k3, ?_, hl0.symm⟩
                    rw [q_y26, f_v21]
                    rfl
end LAWL
