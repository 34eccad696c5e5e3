/-! a state copied; the history -/
section CST
variable {d b : Nat} {h : AH} {s : Ms}
theorem ES.same {h' : AH} (a : ES h b s) (e : ∀ j, b ≤ j → j < b + 12 → hi h' j = hi h j) : ES h' b s := by
  obtain ⟨aP, aT, aY, a2, a3, a4, aW⟩ := a
  exact ⟨aP.same (fun j h1 h2 => e j (by omega) (by omega)), aT.same (fun j h1 h2 => e j (by omega) (by omega)), aY.same (e _ (by omega) (by omega)), by rw [e _ (by omega) (by omega)]; exact a2, by rw [e _ (by omega) (by omega)]; exact a3, by rw [e _ (by omega) (by omega)]; exact a4, aW⟩
theorem c_copyState {q : Nat} (hd : 2 ≤ d) (hL : QS h b) (hL1 : QS h q) (hdj : b + 12 ≤ q ∨ q + 12 ≤ b) (a : ES h q s) : AM d m_X2_copyFrom [.inr (some b), .inr (some q)] h (fun r h' => r = none ∧ SS h h' ∧ FX h h' (inS b) ∧ ES h' b s) := by
  refine vc_X2_copyFrom (by omega) hL hL1 (am_mono (c_copyPocket hL.2.2.1 hL1.2.2.1 (by omega) a.1) (fun r h1 _ _ z => ?_))
  obtain ⟨rfl, s1, f1, p1⟩ := z
  have a1 : ES h1 q s := a.same (fun j g1 g2 => f1 j (fun z => by have := z.1; have := z.2; omega))
  have hL' := hL.ss s1
  have hL1' := hL1.ss s1
  refine ⟨rfl, s1, am_mono (c_copyTold (by omega) hL'.2.2.2.2.1 hL1'.2.2.2.2.1 (by omega) a1.2.1) (fun r h2 _ _ z => ?_)⟩
  obtain ⟨rfl, s2, f2, t2⟩ := z
  have a2 : ES h2 q s := a1.same (fun j g1 g2 => f2 j (fun z => by have := z.1; have := z.2; omega))
  have hL2 := hL'.ss s2
  have hL12 := hL1'.ss s2
  have p2 : PK h2 (b + 1) s.1 := p1.same (fun j g1 g2 => f2 j (fun z => by have := z.1; omega))
  refine ⟨rfl, s2, am_mono (c_copyTally hL2.2.2.2.2.2.2.1 hL12.2.2.2.2.2.2.1 (by omega) a2.2.2.1) (fun r h3 _ _ z => ?_)⟩
  obtain ⟨rfl, s3, f3, y3⟩ := z
  have a3 : ES h3 q s := a2.same (fun j g1 g2 => f3 j (by omega))
  have p3 : PK h3 (b + 1) s.1 := p2.same (fun j g1 g2 => f3 j (by omega))
  have t3 : TK h3 (b + 8) s.2.1 := t2.same (fun j g1 g2 => f3 j (by omega))
  have cN : ∀ j, ¬ j = b + 11 → hi (cpy h3 (q + 11) (b + 11) 0 0 2) j = hi h3 j := fun j hj => by
    funext k
    rw [hi_cpy, if_neg (fun z => hj z.1)]
  have uN : ∀ (v : Int) j, ¬ j = b + 11 → ¬ j = b → hi (up (cpy h3 (q + 11) (b + 11) 0 0 2) b 4 v) j = hi h3 j := fun v j hj hj2 => by
    rw [up_ne hj2, cN j hj]
  refine ⟨rfl, s3, rfl, ((s1.tr s2).tr s3).tr SS.rf.cpy.up, fun j hj => ?_, p3.same (fun j g1 g2 => uN _ j (by omega) (by omega)), t3.same (fun j g1 g2 => uN _ j (by omega) (by omega)), y3.same (uN _ _ (by omega) (by omega)), ?_, ?_, ?_, a3.2.2.2.2.2.2⟩
  · have j1 : ¬ j = b + 11 := fun z => hj ⟨by omega, by omega⟩
    have j2 : ¬ j = b := fun z => hj ⟨by omega, by omega⟩
    rw [uN _ j j1 j2, f3 j (fun z => hj ⟨by omega, by omega⟩), f2 j (fun z => hj ⟨by have := z.1; omega, by have := z.2; omega⟩), f1 j (fun z => hj ⟨by have := z.1; omega, by have := z.2; omega⟩)]
  · rw [up_ne (by omega), hi_cpy, if_pos ⟨rfl, by omega, by omega⟩]
    exact a3.2.2.2.1
  · rw [up_ne (by omega), hi_cpy, if_pos ⟨rfl, by omega, by omega⟩]
    exact a3.2.2.2.2.1
  · rw [hi_up, if_pos ⟨rfl, rfl⟩, cN _ (by omega)]
    exact a3.2.2.2.2.2.1
def RS (q : Nat) : Prop := q = 52 ∨ q = 64 ∨ q = 76 ∨ q = 88
def RW (h : AH) (f : Nat → Nat) : Prop := (∀ k : Nat, k < 4 → hr h 51 (k : Int) = some (f k)) ∧ (∀ k, k < 4 → RS (f k)) ∧ ∀ i j, i < 4 → j < 4 → f i = f j → i = j
def HK (h : AH) (L : List Ms) : Prop := hi h 50 1 = L.length ∧ L.length ≤ 4 ∧ ∃ f, RW h f ∧ ∀ (k : Nat) (s : Ms), L[k]? = some s → ES h (f k) s
def LH (h : AH) : Prop := QH h 50 ∧ ∀ q, RS q → QS h q
theorem LH.sw {h' : AH} (a : LH h) (s : SW h h') : LH h' := ⟨a.1.sw s, fun q hq => (a.2 q hq).sw s⟩
theorem RW.ss {h' : AH} {f : Nat → Nat} (a : RW h f) (s : SS h h') : RW h' f := ⟨fun k hk => (s.2.2 _ _).trans (a.1 k hk), a.2⟩
def inH : Nat → Prop := fun j => 50 ≤ j ∧ j < 100
theorem HK.same {h' : AH} {L : List Ms} (a : HK h L) (s : SS h h') (x : ∀ j, 50 ≤ j → j < 100 → hi h' j = hi h j) : HK h' L := by
  obtain ⟨a1, a2, f, w, e⟩ := a
  refine ⟨by rw [x _ (by omega) (by omega)]; exact a1, a2, f, w.ss s, fun k v hv => (e k v hv).same (fun j g1 g2 => x j ?_ ?_)⟩
  · have hk := lt_len hv
    have := w.2.1 k (by omega)
    unfold RS at this
    omega
  · have hk := lt_len hv
    have := w.2.1 k (by omega)
    unfold RS at this
    omega
def rot (f : Nat → Nat) : Nat → Nat := fun k => if k < 3 then f (k + 1) else f 0
theorem c_dropOldest {f : Nat → Nat} (hL : LH h) (w : RW h f) : AM d m_X0_dropOldest [.inr (some 50)] h (fun r h' => r = none ∧ SW h h' ∧ FX h h' (fun j => j = 50) ∧ hi h' 50 1 = 3 ∧ RW h' (rot f)) := by
  obtain ⟨w1, w2, w3⟩ := id w
  have q := fun k hk => hL.2 (f k) (w2 k hk)
  refine vc_X0_dropOldest hL.1 ⟨f 0, w1 0 (by omega), q 0 (by omega), ?_⟩
  have k0 : hk h (50 + 1) = (4, 4) := hL.1.2.2
  have e1 : SW h (ur h (50 + 1) (1 - 1) (some (f 1))) := SW.ur SS.rf.w k0
  have e2 : SW h (ur (ur h (50 + 1) (1 - 1) (some (f 1))) (50 + 1) (1 + 1 - 1) (some (f 2))) := SW.ur e1 k0
  have e3 : SW h (ur (ur (ur h (50 + 1) (1 - 1) (some (f 1))) (50 + 1) (1 + 1 - 1) (some (f 2))) (50 + 1) (1 + 1 + 1 - 1) (some (f 3))) := SW.ur e2 k0
  have r2 : hr (ur h (50 + 1) (1 - 1) (some (f 1))) (50 + 1) (1 + 1) = some (f 2) := by
    rw [hr_ur, if_neg (by omega)]
    exact w1 2 (by omega)
  have r3 : hr (ur (ur h (50 + 1) (1 - 1) (some (f 1))) (50 + 1) (1 + 1 - 1) (some (f 2))) (50 + 1) (1 + 1 + 1) = some (f 3) := by
    rw [hr_ur, if_neg (by omega), hr_ur, if_neg (by omega)]
    exact w1 3 (by omega)
  refine vc_X0_dropOldest_9 hL.1 (q 0 (by omega)) ⟨fun c => absurd c (by decide), fun _ => ⟨(by decide), by decide, f 1, w1 1 (by omega), q 1 (by omega), by decide, (by decide), ?_⟩⟩
  refine vc_X0_dropOldest_9 (hL.1.sw e1) ((q 0 (by omega)).sw e1) ⟨fun c => absurd c (by decide), fun _ => ⟨(by decide), by decide, f 2, r2, (q 2 (by omega)).sw e1, by decide, (by decide), ?_⟩⟩
  refine vc_X0_dropOldest_9 (hL.1.sw e2) ((q 0 (by omega)).sw e2) ⟨fun c => absurd c (by decide), fun _ => ⟨(by decide), by decide, f 3, r3, (q 3 (by omega)).sw e2, by decide, (by decide), ?_⟩⟩
  refine vc_X0_dropOldest_9 (hL.1.sw e3) ((q 0 (by omega)).sw e3) ⟨fun _ => ⟨rfl, ?_, fun j hj => ?_, hiE, ?_⟩, fun c => absurd (by decide) c⟩
  · exact SW.tr (SW.ur e3 k0) SS.rf.up.w
  · rw [up_ne hj]
    rfl
  · refine ⟨fun k hk => ?_, fun k hk => ?_, fun i j hi' hj => ?_⟩
    · rw [hrU rfl]
      have h1 : k = 0 ∨ k = 1 ∨ k = 2 ∨ k = 3 := by omega
      rcases h1 with rfl | rfl | rfl | rfl
      · rw [hr_ur, if_neg (by omega), hr_ur, if_neg (by omega), hr_ur, if_neg (by omega), hr_ur, if_pos ⟨rfl, by decide⟩]; rfl
      · rw [hr_ur, if_neg (by omega), hr_ur, if_neg (by omega), hr_ur, if_pos ⟨rfl, by decide⟩]; rfl
      · rw [hr_ur, if_neg (by omega), hr_ur, if_pos ⟨rfl, by decide⟩]; rfl
      · rw [hr_ur, if_pos ⟨rfl, by decide⟩]; rfl
    · unfold rot
      split
      · exact w2 _ (by omega)
      · exact w2 _ (by omega)
    · unfold rot
      split <;> split <;> intro e
      · have := w3 _ _ (by omega) (by omega) e; omega
      · have := w3 _ _ (by omega) (by omega) e; omega
      · have := w3 _ _ (by omega) (by omega) e; omega
      · omega
end CST
