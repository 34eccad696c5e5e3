def nx (x : Int) : Int := (x * 1103515245 + 12345) % 2147483648
noncomputable def dn (x m : Int) : Int := rm (dv x 65536) m
theorem nx_in (x : Int) : 0 ≤ nx x ∧ nx x < 2147483648 := by unfold nx; omega
theorem an_x (x : Int) : an (w (w (x * 1103515245) + 12345)) 2147483647 = nx x := by
  unfold an
  rw [b2_def]
  have e : Int32.ofInt (w (w (x * 1103515245) + 12345)) = Int32.ofInt (x * 1103515245 + 12345) := by
    rw [w_of, Int32.ofInt_add, w_of, ← Int32.ofInt_add]
  show (Int32.ofInt (w (w (x * 1103515245) + 12345)) &&& Int32.ofInt 2147483647).toInt = nx x
  rw [e, pk_and _ 31 (m := Int32.ofInt 2147483647) (by decide +kernel)]
  have h2 : (Int32.ofInt (x * 1103515245 + 12345)).toBitVec = BitVec.ofInt 32 (x * 1103515245 + 12345) := rfl
  rw [h2, BitVec.toNat_ofInt, nI_toInt (Nat.mod_lt _ (by decide))]
  unfold nx
  omega
/-- slots are drawn: a table of names and slots, and x -/
noncomputable def dst (m : Int) (acc : List (Int × Int) × Int) (c : Cd) : List (Int × Int) × Int := if c.2.1 = 1 then (acc.1 ++ [(c.1, dn (nx acc.2) m)], nx acc.2) else acc
noncomputable def drs (m : Int) (l : List Cd) (x : Int) : List (Int × Int) × Int := l.foldl (dst m) ([], x)
def slF (tb : List (Int × Int)) (y : Int) : Int := match tb.find? (fun q => decide (q.1 = y)) with
  | some q => q.2
  | none => -1
theorem drs_s {m x : Int} {l : List Cd} {j : Nat} {e : Cd} (he : l[j]? = some e) : drs m (l.take (j + 1)) x = dst m (drs m (l.take j) x) e := by
  unfold drs
  rw [tk he, List.foldl_append]
  rfl
theorem dst_mem {m : Int} : ∀ (l : List Cd) (acc : List (Int × Int) × Int) (q : Int × Int), q ∈ (l.foldl (dst m) acc).1 → q ∈ acc.1 ∨ ∃ c ∈ l, c.1 = q.1
  | [], acc, q, h => Or.inl h
  | c :: t, acc, q, h => by
    rcases dst_mem t (dst m acc c) q h with g | ⟨e, he, g⟩
    · unfold dst at g
      split at g
      · rcases List.mem_append.mp g with g | g
        · exact Or.inl g
        · rw [List.mem_singleton.mp g]
          exact Or.inr ⟨c, List.mem_cons_self, rfl⟩
      · exact Or.inl g
    · exact Or.inr ⟨e, List.mem_cons_of_mem _ he, g⟩
theorem drs_mem {m x : Int} {l : List Cd} {q : Int × Int} (h : q ∈ (drs m l x).1) : ∃ c ∈ l, c.1 = q.1 := by
  rcases dst_mem l ([], x) q h with g | g
  · cases g
  · exact g
theorem slF_none {tb : List (Int × Int)} {y : Int} (h : ∀ q ∈ tb, q.1 ≠ y) : slF tb y = -1 := by
  unfold slF
  rw [List.find?_eq_none.mpr (fun q hq => by simpa using h q hq)]
theorem slF_app1 {tb : List (Int × Int)} {y z v : Int} (h : z ≠ y) : slF (tb ++ [(z, v)]) y = slF tb y := by
  unfold slF
  rw [List.find?_append]
  cases hq : tb.find? (fun q => decide (q.1 = y)) with
  | some q => rfl
  | none =>
    have : ([(z, v)] : List (Int × Int)).find? (fun q => decide (q.1 = y)) = none := by simp [h]
    rw [this]
    rfl
theorem slF_app2 {tb : List (Int × Int)} {y v : Int} (h : ∀ q ∈ tb, q.1 ≠ y) : slF (tb ++ [(y, v)]) y = v := by
  unfold slF
  rw [List.find?_append, List.find?_eq_none.mpr (fun q hq => by simpa using h q hq)]
  simp
noncomputable def slotS (sl : Int → Int) (k : Nat) (s : Ms) : Ms := lgS (cntD 6 (if hearR (fun c => decide (sl c.1 = k)) s.1 = 300 then 1 else 9) (hearS (fun c => decide (sl c.1 = k)) s))
noncomputable def slotsS (sl : Int → Int) : Nat → Ms → Ms
  | 0, s => s
  | n + 1, s => slotS sl n (slotsS sl n s)
/-- a frame begins: one more, four units of time, slots are drawn -/
noncomputable def frB (m : Int) (s : Ms) : Ms := (s.1, s.2.1, su (su (su s.2.2 11 (w (s.2.2 11 + 1))) 10 (w (s.2.2 10 + 4))) 4 (drs m s.1 (s.2.2 4)).2)
noncomputable def frS (m : Nat) (s : Ms) : Ms := slotsS (slF (drs m s.1 (s.2.2 4)).1) m (frB m s)
noncomputable def frR (m : Nat) (s : Ms) : Int := w ((frS m s).2.2 8 - s.2.2 8)
section FRM
variable {d b : Nat} {h : AH} {s : Ms}
theorem c_isFrameSize {x : Int} : AM d m_X6_isFrameSize [.inl x] h (fun r h' => r = some (if 1 ≤ x ∧ x ≤ 64 then 1 else 0) ∧ h' = h) :=
  vc_X6_isFrameSize ⟨fun c => ⟨by rw [if_neg (by omega)], rfl⟩, fun c => ⟨fun c2 => ⟨by rw [if_neg (by omega)], rfl⟩, fun c2 => ⟨by rw [if_pos (by omega)], rfl⟩⟩⟩
theorem c_draw {m : Int} (hL : QS h b) (hm : 1 ≤ m) : AM d m_X2_draw [.inr (some b), .inl m] h (fun r h' => r = some (dn (nx (hi h b 4)) m) ∧ h' = up h b 4 (nx (hi h b 4))) := by
  refine vc_X2_draw hL ⟨fun c => ⟨by omega, ?_, ?_⟩, fun c => by omega⟩
  · rw [an_x]
    rfl
  · rw [an_x]
theorem c_drawSlots {m : Int} (hd : 2 ≤ d) (hL : QS h b) (aP : PK h (b + 1) s.1) (hm : 1 ≤ m) : AM d m_X2_drawSlots [.inr (some b), .inl m] h (fun r h' => r = none ∧ SS h h' ∧ (∀ j, j ≠ b → j ≠ b + 1 + 4 → hi h' j = hi h j) ∧ (∀ k, k ≠ 4 → hi h' b k = hi h b k) ∧ hi h' b 4 = (drs m s.1 (hi h b 4)).2 ∧ SL h' (b + 1) s.1 (slF (drs m s.1 (hi h b 4)).1)) := by
  have hw := aP.2.2
  have h20 := hw.1
  have loop : ∀ (n j : Nat) (h1 : AH), j + n = s.1.length → SS h h1 → (∀ i, i ≠ b → i ≠ b + 1 + 4 → hi h1 i = hi h i) → (∀ k, k ≠ 4 → hi h1 b k = hi h b k) → hi h1 b 4 = (drs m (s.1.take j) (hi h b 4)).2 → (∀ (i : Nat) (c : Cd), s.1[i]? = some c → i < j → hi h1 (b + 1 + 4) i = slF (drs m (s.1.take j) (hi h b 4)).1 c.1) →
      AW m_X2_drawSlots d none (fun r h' => r = none ∧ SS h h' ∧ (∀ j, j ≠ b → j ≠ b + 1 + 4 → hi h' j = hi h j) ∧ (∀ k, k ≠ 4 → hi h' b k = hi h b k) ∧ hi h' b 4 = (drs m s.1 (hi h b 4)).2 ∧ SL h' (b + 1) s.1 (slF (drs m s.1 (hi h b 4)).1)) 10 [some (.inr (some b)), some (.inl m), some (.inl (s.1.length : Int)), some (.inl (j : Int))] [] h1 (0, 0) := by
    intro n
    induction n with
    | zero =>
      intro j h1 hj s1 o ob e4 hs
      have ht : s.1.take j = s.1 := List.take_of_length_le (by omega)
      rw [ht] at e4 hs
      exact vc_X2_drawSlots_10 (by omega) (hL.ss s1) ⟨fun c => ⟨rfl, s1, o, ob, e4, fun i c hc => hs i c hc (by have := lt_len hc; omega)⟩, fun c => by omega⟩
    | succ n ih =>
      intro j h1 hj s1 o ob e4 hs
      obtain ⟨e, he⟩ := get_ex (l := s.1) (i := j) (by omega)
      have hwe := (hw.w1 he).2.1
      have P1 : PK h1 (b + 1) s.1 := ⟨by rw [o _ (by omega) (by omega)]; exact aP.1, aP.2.1.cong (fun i _ => ⟨by rw [o _ (by omega) (by omega)], by rw [o _ (by omega) (by omega)], by rw [o _ (by omega) (by omega)], by rw [o _ (by omega) (by omega)]⟩), hw⟩
      have hnm : ∀ (i : Nat) (c : Cd), s.1[i]? = some c → i < j → c.1 ≠ e.1 := fun i c hc hij q => by have := hw.inj hc he q; omega
      have htb : ∀ q ∈ (drs m (s.1.take j) (hi h b 4)).1, q.1 ≠ e.1 := by
        intro q hq
        obtain ⟨c, hc, hcq⟩ := drs_mem hq
        obtain ⟨i, hi'⟩ := List.getElem?_of_mem hc
        have hij : i < j := by have := lt_len hi'; rw [List.length_take] at this; omega
        rw [List.getElem?_take_of_lt hij] at hi'
        rw [← hcq]
        exact hnm i c hi' hij
      refine vc_X2_drawSlots_10 (by omega) (hL.ss s1) ⟨fun c => by omega, fun c => am_mono (c_isAwake (by omega) (hL.ss s1).2.2.1 P1 he) (fun r h' _ _ q => ?_)⟩
      obtain ⟨rfl, rfl⟩ := q
      refine ⟨_, rfl, SS.rf, fun c1 => ?_, fun c1 => ?_⟩
      · refine am_mono (c_slotAt (by omega) (hL.ss s1).2.2.1 P1 he) (fun r h2 _ _ q => ?_)
        obtain ⟨rfl, rfl⟩ := q
        have hs2 : drs m (s.1.take (j + 1)) (hi h b 4) = drs m (s.1.take j) (hi h b 4) := by rw [drs_s he]; unfold dst; rw [if_neg (by omega)]
        refine ⟨rfl, SS.rf.up, ⟨by omega, by omega⟩, ih (j + 1) _ (by omega) s1.up (fun i h1' h2' => (up_ne h2').trans (o i h1' h2')) (fun k hk => by rw [hi_up, if_neg (by omega)]; exact ob k hk) (by rw [hi_up, if_neg (by omega), hs2]; exact e4) (fun i c hc hij => ?_)⟩
        rw [hs2, hi_up]
        by_cases q : i = j
        · subst q
          rw [he] at hc
          cases hc
          rw [if_pos ⟨rfl, rfl⟩, slF_none htb]
        · rw [if_neg (by omega)]
          exact hs i c hc (by omega)
      · refine am_mono (c_draw (hL.ss s1) hm) (fun r h2 _ _ q => ?_)
        obtain ⟨rfl, rfl⟩ := q
        have P2 : PK (up h' b 4 (nx (hi h' b 4))) (b + 1) s.1 := P1.same (fun i h1' h2' => up_ne (by omega))
        refine ⟨_, rfl, SS.rf.up, am_mono (c_slotAt (by omega) ((hL.ss s1).ss SS.rf.up).2.2.1 P2 he) (fun r h3 _ _ q => ?_)⟩
        obtain ⟨rfl, rfl⟩ := q
        have hs2 : drs m (s.1.take (j + 1)) (hi h b 4) = ((drs m (s.1.take j) (hi h b 4)).1 ++ [(e.1, dn (nx (hi h' b 4)) m)], nx (hi h' b 4)) := by rw [drs_s he, e4]; unfold dst; rw [if_pos (by omega)]
        refine ⟨rfl, SS.rf.up, ⟨by omega, by omega⟩, ih (j + 1) _ (by omega) s1.up.up (fun i h1' h2' => ((up_ne h2').trans (up_ne h1')).trans (o i h1' h2')) (fun k hk => by rw [hi_up, if_neg (by omega), hi_up, if_neg (fun z => hk z.2)]; exact ob k hk) (by rw [hi_up, if_neg (by omega), hi_up, if_pos ⟨rfl, rfl⟩, hs2]) (fun i c hc hij => ?_)⟩
        rw [hs2, hi_up]
        by_cases q : i = j
        · subst q
          rw [he] at hc
          cases hc
          rw [if_pos ⟨rfl, rfl⟩, slF_app2 htb]
        · rw [if_neg (by omega), hi_up, if_neg (by omega), slF_app1 (fun z => hnm i c hc (by omega) z.symm)]
          exact hs i c hc (by omega)
  refine vc_X2_drawSlots (by omega) hL (am_mono (c_cards hL.2.2.1) (fun r h' _ _ q => ?_))
  obtain ⟨rfl, rfl⟩ := q
  refine ⟨_, rfl, SS.rf, ?_⟩
  rw [aP.1]
  exact loop s.1.length 0 h' (by omega) SS.rf (fun _ _ _ => rfl) (fun _ _ => rfl) rfl (fun i c _ z => by omega)
end FRM
