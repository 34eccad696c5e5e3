/-- what stays: the kinds of all, all references -/
def SS (h h' : AH) : Prop := h'.1 = h.1 ∧ hk h' = hk h ∧ ∀ (j : Nat) (x : Int), hr h' j x = hr h j x
/-- the same, but for the rows of references -/
def SW (h h' : AH) : Prop := h'.1 = h.1 ∧ hk h' = hk h ∧ ∀ (j : Nat) (x : Int), (hk h j).1 = 0 → hr h' j x = hr h j x
theorem SS.w {h h1 : AH} (a : SS h h1) : SW h h1 := ⟨a.1, a.2.1, fun j x _ => a.2.2 j x⟩
theorem SW.tr {h h1 h2 : AH} (a : SW h h1) (b : SW h1 h2) : SW h h2 := ⟨b.1.trans a.1, b.2.1.trans a.2.1, fun j x q => (b.2.2 j x (by rw [a.2.1]; exact q)).trans (a.2.2 j x q)⟩
theorem SW.ur {h h1 : AH} {j n : Nat} {x : Int} {v : Option Nat} (a : SW h h1) (hj : hk h j = (4, n)) : SW h (ur h1 j x v) := ⟨a.1, a.2.1, fun i y q => by rw [hr_ur, if_neg (fun z => by rw [z.1, hj] at q; cases q)]; exact a.2.2 i y q⟩
theorem SS.rf {h : AH} : SS h h := ⟨rfl, rfl, fun _ _ => rfl⟩
theorem SS.tr {h h1 h2 : AH} (a : SS h h1) (b : SS h1 h2) : SS h h2 := ⟨b.1.trans a.1, b.2.1.trans a.2.1, fun j x => (b.2.2 j x).trans (a.2.2 j x)⟩
theorem SS.up {h h1 : AH} {j : Nat} {x v : Int} (a : SS h h1) : SS h (up h1 j x v) := ⟨a.1, a.2.1, a.2.2⟩
theorem SS.cpy {h h1 : AH} {js jd : Nat} {x v n : Int} (a : SS h h1) : SS h (cpy h1 js jd x v n) := ⟨a.1, a.2.1, a.2.2⟩
theorem hkU {h : AH} {j a : Nat} {k v : Int} {x : Nat × Nat} (e : hk h a = x) : hk (up h j k v) a = x := e
theorem hrU {h : AH} {j a : Nat} {k v b : Int} {x : Option Nat} (e : hr h a b = x) : hr (up h j k v) a b = x := e
theorem hkC {h : AH} {js jd a : Nat} {k v n : Int} {x : Nat × Nat} (e : hk h a = x) : hk (cpy h js jd k v n) a = x := e
theorem hrC {h : AH} {js jd a : Nat} {k v n b : Int} {x : Option Nat} (e : hr h a b = x) : hr (cpy h js jd k v n) a b = x := e
theorem hkR {h : AH} {j a : Nat} {k : Int} {v : Option Nat} {x : Nat × Nat} (e : hk h a = x) : hk (ur h j k v) a = x := e
theorem hrR {h : AH} {j a : Nat} {k b : Int} {v x : Option Nat} (n : a ≠ j) (e : hr h a b = x) : hr (ur h j k v) a b = x := by rw [hr_ur, if_neg (fun z => n z.1)]; exact e
theorem hiN {h : AH} {j a : Nat} {k x b v : Int} (n : a ≠ j ∨ b ≠ k) (e : hi h a b = v) : hi (up h j k x) a b = v := by rw [hi_up, if_neg (fun z => n.elim (fun q => q z.1) (fun q => q z.2))]; exact e
theorem hiE {h : AH} {j : Nat} {k x : Int} : hi (up h j k x) j k = x := by rw [hi_up, if_pos ⟨rfl, rfl⟩]
theorem hiU {h : AH} {j a : Nat} {k b v : Int} {x : Option Nat} (e : hi h a b = v) : hi (ur h j k x) a b = v := e
theorem hiC {h : AH} {js jd a : Nat} {k y n b v : Int} (n0 : a ≠ jd) (e : hi h a b = v) : hi (cpy h js jd k y n) a b = v := by rw [hi_cpy, if_neg (fun z => n0 z.1)]; exact e
def QP (h : AH) (p : Nat) : Prop := hk h p = (0, 1) ∧ hr h p 0 = some (p + 1) ∧ hk h (p + 1) = (1, 20) ∧ hr h p 1 = some (p + 2) ∧ hk h (p + 2) = (1, 20) ∧ hr h p 2 = some (p + 3) ∧ hk h (p + 3) = (1, 20) ∧ hr h p 3 = some (p + 4) ∧ hk h (p + 4) = (1, 20) ∧ hr h p 4 = some (p + 5) ∧ hk h (p + 5) = (2, 20) ∧ hr h p 5 = some (p + 6) ∧ hk h (p + 6) = (2, 20)
theorem QP.sw {h h' : AH} {p : Nat} (a : QP h p) (s : SW h h') : QP h' p := ⟨by rw [s.2.1]; exact a.1, (s.2.2 _ _ (by rw [a.1])).trans a.2.1, by rw [s.2.1]; exact a.2.2.1, (s.2.2 _ _ (by rw [a.1])).trans a.2.2.2.1, by rw [s.2.1]; exact a.2.2.2.2.1, (s.2.2 _ _ (by rw [a.1])).trans a.2.2.2.2.2.1, by rw [s.2.1]; exact a.2.2.2.2.2.2.1, (s.2.2 _ _ (by rw [a.1])).trans a.2.2.2.2.2.2.2.1, by rw [s.2.1]; exact a.2.2.2.2.2.2.2.2.1, (s.2.2 _ _ (by rw [a.1])).trans a.2.2.2.2.2.2.2.2.2.1, by rw [s.2.1]; exact a.2.2.2.2.2.2.2.2.2.2.1, (s.2.2 _ _ (by rw [a.1])).trans a.2.2.2.2.2.2.2.2.2.2.2.1, by rw [s.2.1]; exact a.2.2.2.2.2.2.2.2.2.2.2.2⟩
theorem QP.ss {h h' : AH} {p : Nat} (a : QP h p) (s : SS h h') : QP h' p := a.sw s.w
def QT (h : AH) (t : Nat) : Prop := hk h t = (0, 5) ∧ hr h t 0 = some (t + 1) ∧ hk h (t + 1) = (1, 200)
theorem QT.sw {h h' : AH} {t : Nat} (a : QT h t) (s : SW h h') : QT h' t := ⟨by rw [s.2.1]; exact a.1, (s.2.2 _ _ (by rw [a.1])).trans a.2.1, by rw [s.2.1]; exact a.2.2⟩
theorem QT.ss {h h' : AH} {t : Nat} (a : QT h t) (s : SS h h') : QT h' t := a.sw s.w
def QY (h : AH) (y : Nat) : Prop := hk h y = (0, 3)
theorem QY.sw {h h' : AH} {y : Nat} (a : QY h y) (s : SW h h') : QY h' y := by unfold QY at *; rw [s.2.1]; exact a
theorem QY.ss {h h' : AH} {y : Nat} (a : QY h y) (s : SS h h') : QY h' y := a.sw s.w
def QS (h : AH) (b : Nat) : Prop := hk h b = (0, 2) ∧ hr h b 0 = some (b + 1) ∧ QP h (b + 1) ∧ hr h b 1 = some (b + 8) ∧ QT h (b + 8) ∧ hr h b 2 = some (b + 10) ∧ QY h (b + 10) ∧ hr h b 3 = some (b + 11) ∧ hk h (b + 11) = (1, 2)
theorem QS.sw {h h' : AH} {b : Nat} (a : QS h b) (s : SW h h') : QS h' b := ⟨by rw [s.2.1]; exact a.1, (s.2.2 _ _ (by rw [a.1])).trans a.2.1, (a.2.2.1).sw s, (s.2.2 _ _ (by rw [a.1])).trans a.2.2.2.1, (a.2.2.2.2.1).sw s, (s.2.2 _ _ (by rw [a.1])).trans a.2.2.2.2.2.1, (a.2.2.2.2.2.2.1).sw s, (s.2.2 _ _ (by rw [a.1])).trans a.2.2.2.2.2.2.2.1, by rw [s.2.1]; exact a.2.2.2.2.2.2.2.2⟩
theorem QS.ss {h h' : AH} {b : Nat} (a : QS h b) (s : SS h h') : QS h' b := a.sw s.w
def QX (h : AH) (t : Nat) : Prop := hk h t = (0, 4) ∧ hr h t 0 = some (t + 1) ∧ hk h (t + 1) = (3, 60) ∧ hr h t 2 = some (t + 2) ∧ hk h (t + 2) = (3, 30) ∧ hr h t 3 = some (t + 3) ∧ hk h (t + 3) = (1, 30)
theorem QX.sw {h h' : AH} {t : Nat} (a : QX h t) (s : SW h h') : QX h' t := ⟨by rw [s.2.1]; exact a.1, (s.2.2 _ _ (by rw [a.1])).trans a.2.1, by rw [s.2.1]; exact a.2.2.1, (s.2.2 _ _ (by rw [a.1])).trans a.2.2.2.1, by rw [s.2.1]; exact a.2.2.2.2.1, (s.2.2 _ _ (by rw [a.1])).trans a.2.2.2.2.2.1, by rw [s.2.1]; exact a.2.2.2.2.2.2⟩
theorem QX.ss {h h' : AH} {t : Nat} (a : QX h t) (s : SS h h') : QX h' t := a.sw s.w
def QH (h : AH) (t : Nat) : Prop := hk h t = (0, 0) ∧ hr h t 0 = some (t + 1) ∧ hk h (t + 1) = (4, 4)
theorem QH.sw {h h' : AH} {t : Nat} (a : QH h t) (s : SW h h') : QH h' t := ⟨by rw [s.2.1]; exact a.1, (s.2.2 _ _ (by rw [a.1])).trans a.2.1, by rw [s.2.1]; exact a.2.2⟩
theorem QH.ss {h h' : AH} {t : Nat} (a : QH h t) (s : SS h h') : QH h' t := a.sw s.w
def QM (h : AH) : Prop := hk h 1 = (0, 6) ∧ hr h 1 0 = some 2 ∧ QS h 2 ∧ hr h 1 1 = some 14 ∧ QS h 14 ∧ hr h 1 2 = some 26 ∧ QS h 26 ∧ hr h 1 3 = some 38 ∧ QS h 38 ∧ hr h 1 5 = some 50 ∧ QH h 50 ∧ hr h 1 6 = some 100 ∧ QX h 100
theorem QM.sw {h h' : AH} (a : QM h) (s : SW h h') : QM h' := ⟨by rw [s.2.1]; exact a.1, (s.2.2 _ _ (by rw [a.1])).trans a.2.1, (a.2.2.1).sw s, (s.2.2 _ _ (by rw [a.1])).trans a.2.2.2.1, (a.2.2.2.2.1).sw s, (s.2.2 _ _ (by rw [a.1])).trans a.2.2.2.2.2.1, (a.2.2.2.2.2.2.1).sw s, (s.2.2 _ _ (by rw [a.1])).trans a.2.2.2.2.2.2.2.1, (a.2.2.2.2.2.2.2.2.1).sw s, (s.2.2 _ _ (by rw [a.1])).trans a.2.2.2.2.2.2.2.2.2.1, (a.2.2.2.2.2.2.2.2.2.2.1).sw s, (s.2.2 _ _ (by rw [a.1])).trans a.2.2.2.2.2.2.2.2.2.2.2.1, (a.2.2.2.2.2.2.2.2.2.2.2.2).sw s⟩
theorem QM.ss {h h' : AH} (a : QM h) (s : SS h h') : QM h' := a.sw s.w
