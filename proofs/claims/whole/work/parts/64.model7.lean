/-! the model, whole: state, past, kept, text -/
def inZ : Nat → Prop := fun j => 104 ≤ j
def SNZ (h : AH) (o : Option Ms) : Prop := (o = none → hi h 104 5 = 0) ∧ ∀ v, o = some v → hi h 104 5 = 1 ∧ ZF (hi h 108) v
def TZ (h : AH) (tx : List Int) : Prop := hi h 104 7 = tx.length ∧ tx.length ≤ 60 ∧ ∀ (i : Nat) (v : Int), tx[i]? = some v → hi h 109 i = v ∧ 0 ≤ v ∧ v < 65536
def G7 (h : AH) (g : Gs) : Prop := EZ h g.1 ∧ HZ h g.2.1 ∧ SNZ h g.2.2.1 ∧ TZ h g.2.2.2
def R7 (h : AH) (o : Int × Gs) (r : Option Int) (h' : AH) : Prop := r = some o.1 ∧ SS h h' ∧ FX h h' inZ ∧ G7 h' o.2
section MODEL8
variable {d : Nat} {h : AH} {g : Gs}
theorem HZ.same {h' : AH} {L : List Ms} (a : HZ h L) (e : hi h' 104 3 = hi h 104 3) (e2 : hi h' 107 = hi h 107) : HZ h' L := ⟨by rw [e]; exact a.1, a.2.1, fun k s hk => (a.2.2 k s hk).cong (fun m _ _ => by rw [e2])⟩
theorem SNZ.same {h' : AH} {o : Option Ms} (a : SNZ h o) (e : hi h' 104 5 = hi h 104 5) (e2 : hi h' 108 = hi h 108) : SNZ h' o := ⟨fun z => by rw [e]; exact a.1 z, fun v z => ⟨by rw [e]; exact (a.2 v z).1, by rw [e2]; exact (a.2 v z).2⟩⟩
theorem TZ.same {h' : AH} {tx : List Int} (a : TZ h tx) (e : hi h' 104 7 = hi h 104 7) (e2 : hi h' 109 = hi h 109) : TZ h' tx := ⟨by rw [e]; exact a.1, a.2.1, fun i v hv => by rw [e2]; exact a.2.2 i v hv⟩
theorem z_undo (hd : 2 ≤ d) (hL : QZ h) (a : G7 h g) : AM d m_X7_undo [.inr (some 104)] h (R7 h (undoG g)) := by
  obtain ⟨aE, aH, aS, aT⟩ := id a
  obtain ⟨n1, n4, e⟩ := id aH
  refine vc_X7_undo (by omega) hL ⟨fun c => ?_, fun c => ?_⟩
  · have hl : 0 < g.2.1.length := by omega
    obtain ⟨v, hv⟩ : ∃ v, g.2.1[g.2.1.length - 1]? = some v := ⟨_, List.getElem?_eq_getElem (by omega)⟩
    have eu : undoO g.2.1 g.1 = ((g.2.1.length : Int) - 1, v, g.2.1.dropLast) := by
      unfold undoO
      rw [List.getLast?_eq_getElem?, hv]
    unfold undoG
    rw [eu]
    refine ⟨by unfold rg; omega, by unfold rg; omega, am_mono (z_copy (h := up h 104 3 (hi h 104 3 - 1)) hL.k107 hL.k105 (by omega) (by omega) (by omega) (by omega) (by omega) (by omega) (by omega)) (fun r h4 _ _ z => ?_)⟩
    obtain ⟨rfl, rfl⟩ := z
    have z3 : hi (cpy (up h 104 3 (hi h 104 3 - 1)) 107 105 (293 * (hi h 104 3 - 1)) 0 293) 104 3 = hi h 104 3 - 1 := by rw [hi_cpy, if_neg (by omega), hi_up, if_pos ⟨rfl, rfl⟩]
    have zN : ∀ j m, j ≠ 105 → ¬ (j = 104 ∧ m = 3) → hi (cpy (up h 104 3 (hi h 104 3 - 1)) 107 105 (293 * (hi h 104 3 - 1)) 0 293) j m = hi h j m := fun j m h1 h2 => by rw [hi_cpy, if_neg (fun z => h1 z.1), hi_up, if_neg h2]
    have zR : ∀ j, j ≠ 105 → j ≠ 104 → hi (cpy (up h 104 3 (hi h 104 3 - 1)) 107 105 (293 * (hi h 104 3 - 1)) 0 293) j = hi h j := fun j h1 h2 => by
      funext m
      exact zN j m h1 (fun z => h2 z.1)
    have hdl : g.2.1.dropLast.length = g.2.1.length - 1 := by simp
    refine ⟨rfl, SS.rf.cpy, congrArg some (by rw [z3, n1]), SS.rf.up.cpy, fun j hj => zR j (fun z => hj (by unfold inZ; omega)) (fun z => hj (by unfold inZ; omega)), ?_, ⟨by rw [z3, n1]; show (g.2.1.length : Int) - 1 = (g.2.1.dropLast.length : Int); omega, by show g.2.1.dropLast.length ≤ 4; omega, fun k u hu => ?_⟩, aS.same (zN 104 5 (by decide) (by decide)) (zR 108 (by decide) (by decide)), aT.same (zN 104 7 (by decide) (by decide)) (zR 109 (by decide) (by decide))⟩
    · refine ZF.cong (e _ v hv) (fun m h0 h2 => ?_)
      rw [hi_cpy, if_pos ⟨rfl, by omega, by omega⟩, hi_up, if_neg (by omega)]
      congr 1
      omega
    · have hk : k < g.2.1.dropLast.length := lt_len hu
      have hu2 : g.2.1[k]? = some u := by
        rw [List.getElem?_dropLast, if_pos (by omega)] at hu
        exact hu
      rw [zR 107 (by decide) (by decide)]
      exact e k u hu2
  · have hn : g.2.1 = [] := List.eq_nil_of_length_eq_zero (by omega)
    have eu : undoG g = (-5, g) := by
      unfold undoG undoO
      rw [hn]
      obtain ⟨g1, g2, g3⟩ := g
      cases hn
      rfl
    rw [eu]
    exact ⟨rfl, SS.rf, FX.rf, a⟩
end MODEL8
