/-! THE ABSTRACT PICTURE: objects by numbers (0: the script, 1 .. n: what the law made, in order), ints as integers -/
abbrev AV : Type := Int ⊕ Option Nat
abbrev AH : Type := Nat × (Nat → Nat × Nat) × (Nat → Int → Option Nat) × (Nat → Int → Int)
def hk (h : AH) : Nat → Nat × Nat := h.2.1
def hr (h : AH) : Nat → Int → Option Nat := h.2.2.1
def hi (h : AH) : Nat → Int → Int := h.2.2.2
def up (h : AH) (j : Nat) (k v : Int) : AH := (h.1, h.2.1, h.2.2.1, fun a b => if a = j ∧ b = k then v else h.2.2.2 a b)
def ur (h : AH) (j : Nat) (k : Int) (v : Option Nat) : AH := (h.1, h.2.1, fun a b => if a = j ∧ b = k then v else h.2.2.1 a b, h.2.2.2)
def nw (h : AH) (kd : Nat × Nat) : AH := (h.1 + 1, fun a => if a = h.1 + 1 then kd else h.2.1 a, fun a b => if a = h.1 + 1 then none else h.2.2.1 a b, fun a b => if a = h.1 + 1 then 0 else h.2.2.2 a b)
theorem hi_up {h : AH} {j : Nat} {k v : Int} {a : Nat} {b : Int} : hi (up h j k v) a b = if a = j ∧ b = k then v else hi h a b := rfl
theorem hk_up {h : AH} {j : Nat} {k v : Int} : hk (up h j k v) = hk h := rfl
theorem hr_up {h : AH} {j : Nat} {k v : Int} : hr (up h j k v) = hr h := rfl
theorem hi_ur {h : AH} {j : Nat} {k : Int} {v : Option Nat} : hi (ur h j k v) = hi h := rfl
theorem hk_ur {h : AH} {j : Nat} {k : Int} {v : Option Nat} : hk (ur h j k v) = hk h := rfl
theorem hr_ur {h : AH} {j : Nat} {k : Int} {v : Option Nat} {a : Nat} {b : Int} : hr (ur h j k v) a b = if a = j ∧ b = k then v else hr h a b := rfl
def az (b B : Nat) : Nat → Nat
  | 0 => b
  | j + 1 => B + j
def cv (b B : Nat) : AV → Value
  | .inl v => .int (Int32.ofInt v)
  | .inr r => va_rf (r.map (az b B))
def ok : AV → Prop
  | .inl v => -2147483648 ≤ v ∧ v < 2147483648
  | .inr _ => True
abbrev rg (v : Int) : Prop := -2147483648 ≤ v ∧ v < 2147483648
theorem w_ex (v : Int) : ∃ y : Int, y = (Int32.ofInt v).toInt := ⟨_, rfl⟩
/-- the int that keeps the low bits (behind a choice, so that nobody unfolds it) -/
noncomputable def w (v : Int) : Int := Classical.choose (w_ex v)
theorem w_def (v : Int) : w v = (Int32.ofInt v).toInt := Classical.choose_spec (w_ex v)
theorem ti {v : Int} (h : rg v) : (Int32.ofInt v).toInt = v := Int32.toInt_ofInt_of_le h.1 h.2
theorem w_id {v : Int} (h : rg v) : w v = v := (w_def v).trans (ti h)
theorem w_rg (v : Int) : rg (w v) := by rw [w_def]; exact ⟨Int32.le_toInt _, Int32.toInt_lt _⟩
theorem w_of (v : Int) : Int32.ofInt (w v) = Int32.ofInt v := by rw [w_def]; exact Int32.ofInt_toInt _
theorem rg_of (x : Int32) : rg x.toInt := ⟨Int32.le_toInt _, Int32.toInt_lt _⟩
theorem w_eq (v : Int) : w v = (v + 2147483648) % 4294967296 - 2147483648 := by
  rw [w_def, Int32.toInt_ofInt, Int.bmod_def]
  simp only [Int32.size]
  split <;> omega
def cT (ci : Nat) : Nat → FieldType := match ci with | 0 => tyX0 | 1 => tyX1 | 2 => tyX2 | 3 => tyX3 | 4 => tyX4 | 5 => tyX5 | _ => tyX6
def isR : FieldType → Bool
  | .object _ => true
  | .array _ => true
  | _ => false
theorem cl_at {ci : Nat} (h : ci < 7) : vwCl[ci]? = some (cR ci, cU ci, cN ci) := by
  match ci, h with
  | 0, _ => rfl
  | 1, _ => rfl
  | 2, _ => rfl
  | 3, _ => rfl
  | 4, _ => rfl
  | 5, _ => rfl
  | 6, _ => rfl
theorem cl_words {ci : Nat} (h : ci < 7) : ∀ w ∈ u_ws (cR ci) (cU ci) (cN ci), w ∈ tbG := by
  have g : ∀ k, k < 7 → ∀ w ∈ u_ws (cR k) (cU k) (cN k), goodWord w = true := by decide +kernel
  intro w hw
  refine List.mem_filter.mpr ⟨?_, g ci h w hw⟩
  match ci, h, hw with
  | 0, _, hw => exact inX0 w hw
  | 1, _, hw => exact inX1 w hw
  | 2, _, hw => exact inX2 w hw
  | 3, _, hw => exact inX3 w hw
  | 4, _, hw => exact inX4 w hw
  | 5, _, hw => exact inX5 w hw
  | 6, _, hw => exact inX6 w hw
theorem cl_nm {ci : Nat} (h : ci < 7) : ∀ a, a < cN ci → ∀ b, b < cN ci → a ≠ b → (cU ci a).2.1 ≠ (cU ci b).2.1 := by
  match ci, h with
  | 0, _ => exact nmX0
  | 1, _ => exact nmX1
  | 2, _ => exact nmX2
  | 3, _ => exact nmX3
  | 4, _ => exact nmX4
  | 5, _ => exact nmX5
  | 6, _ => exact nmX6
theorem cl_ty {ci : Nat} (h : ci < 7) : ∀ k, k < cN ci → parseFieldDescriptor (cU ci k).2.2.1 = some (cT ci k) := by
  match ci, h with
  | 0, _ => exact tyX0_ok
  | 1, _ => exact tyX1_ok
  | 2, _ => exact tyX2_ok
  | 3, _ => exact tyX3_ok
  | 4, _ => exact tyX4_ok
  | 5, _ => exact tyX5_ok
  | 6, _ => exact tyX6_ok
def fvl (b B : Nat) (h : AH) (j ci k : Nat) : Value := if isR (cT ci k) = true then va_rf ((hr h j k).map (az b B)) else .int (Int32.ofInt (hi h j k))
def enc (b B : Nat) (ca : Nat → ClassId) (h : AH) (j : Nat) : va_E := match hk h j with
  | (0, ci) => .inr (ci, (List.range (cN ci)).map (fvl b B h j ci))
  | (1, n) => .inl (ca 1, n, .inl fun k => Int32.ofInt (hi h j k))
  | (2, n) => .inl (ca 2, n, .inl fun k => Int32.ofInt (hi h j k))
  | (3, n) => .inl (ca 3, n, .inl fun k => Int32.ofInt (hi h j k))
  | (_, n) => .inl (ca 4, n, .inr (.inr (.inr (.inr fun k => (hr h j k).map (az b B)))))
def wso (b B : Nat) (ca : Nat → ClassId) (h : AH) : va_W := (List.range h.1).map fun j => (B + j, enc b B ca h (j + 1))
def tys (ca : Nat → ClassId) : List (ClassId × FieldType) := [(ca 1, .int), (ca 2, .boolean), (ca 3, .char), (ca 4, .object RX2)]
/-- what the tables say that isn't kept word for word: links to nest mates, the class of rows of states -/
def NW (s : State) : Prop := (∀ q ∈ nsL, va_Nw (.methodLinkNest q.1 q.2.1 q.2.2.1 q.2.2.2) s) ∧ va_AO RX2 s
theorem NW.warm {s U : State} (hW : s.WarmedH U.vm) (h : NW s) : NW U := ⟨fun q hq => (h.1 q hq).warmM hW, h.2.moved hW.alike⟩
theorem NW.call {U : State} {g : JFrame} {mk : MethodId} {a : Array Value} (h : NW U) : NW (U.calling g mk a) := ⟨fun q hq => (h.1 q hq).same rfl rfl, h.2.moved (u := U) (U := U.calling g mk a) (Vm.Alike.refl U.vm)⟩
def okH (h : AH) : Prop := (∀ j k, rg (hi h j k)) ∧ hk h 0 = (9, 0) ∧ (∀ j, h.1 < j → hk h j = (9, 0)) ∧ ∀ j ci, hk h j = (0, ci) → ci < 7
def HP (b B : Nat) (D : va_G) (ca : Nat → ClassId) (h : AH) (H : Heap) : Prop := H.size = B + h.1 ∧ va_P D vwCl (wso b B ca h) H ∧ okH h
theorem wso_at {b B : Nat} {ca : Nat → ClassId} {h : AH} {j : Nat} (hj : j < h.1) : (wso b B ca h)[j]? = some (B + j, enc b B ca h (j + 1)) := by
  simp [wso, hj]
theorem wso_D {b B : Nat} {ca : Nat → ClassId} {h : AH} : va_D (fun q => B ≤ q) (wso b B ca h) := by
  have key : ∀ (i : Nat) (q : Nat × va_E), (wso b B ca h)[i]? = some q → q.1 = B + i := by
    intro i q hq
    have hl : i < (wso b B ca h).length := (List.getElem?_eq_some_iff.mp hq).1
    have hl' : i < h.1 := by simpa [wso] using hl
    rw [wso_at hl'] at hq
    cases hq
    rfl
  refine ⟨fun i j p q hp hq e => ?_, fun k q hq => ?_⟩
  · have h1 := key i p hp
    have h2 := key j q hq
    omega
  · have h1 := key k q hq
    show B ≤ q.1
    omega
theorem wso_set {b B : Nat} {ca : Nat → ClassId} {h h' : AH} {j : Nat} (hj : j < h.1) (hn : h'.1 = h.1) (he : ∀ i, i ≠ j + 1 → enc b B ca h' i = enc b B ca h i) : (wso b B ca h).set j (B + j, enc b B ca h' (j + 1)) = wso b B ca h' := by
  apply List.ext_getElem?
  intro i
  by_cases hij : i = j
  · subst hij
    rw [List.getElem?_set_self (by simpa [wso] using hj), wso_at (by omega)]
  · rw [List.getElem?_set_ne (Ne.symm hij)]
    by_cases hi : i < h.1
    · rw [wso_at hi, wso_at (by omega), he (i + 1) (by omega)]
    · rw [List.getElem?_eq_none (by simp [wso]; omega), List.getElem?_eq_none (by simp [wso]; omega)]
theorem wso_push {b B : Nat} {ca : Nat → ClassId} {h h' : AH} (hn : h'.1 = h.1 + 1) (he : ∀ i, i ≤ h.1 → enc b B ca h' i = enc b B ca h i) : wso b B ca h ++ [(B + h.1, enc b B ca h' (h.1 + 1))] = wso b B ca h' := by
  unfold wso
  rw [hn, List.range_succ, List.map_append]
  congr 1
  apply List.map_congr_left
  intro a ha
  have ha' := List.mem_range.mp ha
  rw [he (a + 1) (by omega)]
theorem enc_cong {b B : Nat} {ca : Nat → ClassId} {h h' : AH} {i : Nat} (h1 : hk h' i = hk h i) (h2 : ∀ k, hr h' i k = hr h i k) (h3 : ∀ k, hi h' i k = hi h i k) : enc b B ca h' i = enc b B ca h i := by
  have f : ∀ ci, fvl b B h' i ci = fvl b B h i ci := by
    intro ci
    funext k
    simp only [fvl, h2, h3]
  unfold enc
  simp only [h1, h2, h3, f]
/-! locals -/
def lpr (b B : Nat) : Nat → List (Option AV) → List (Nat × Value)
  | _, [] => []
  | i, none :: t => lpr b B (i + 1) t
  | i, some v :: t => (i, cv b B v) :: lpr b B (i + 1) t
theorem lpr_mem {b B : Nat} : ∀ (t : List (Option AV)) (i k : Nat) (v : AV), t[k]? = some (some v) → (i + k, cv b B v) ∈ lpr b B i t
  | [], i, k, v, h => by simp at h
  | none :: t, i, 0, v, h => by simp at h
  | none :: t, i, k + 1, v, h => by
    have := lpr_mem (b := b) (B := B) t (i + 1) k v (by simpa using h)
    rw [show i + (k + 1) = i + 1 + k by omega]
    exact this
  | some u :: t, i, 0, v, h => by
    simp at h
    subst h
    exact List.mem_cons_self
  | some u :: t, i, k + 1, v, h => by
    have := lpr_mem (b := b) (B := B) t (i + 1) k v (by simpa using h)
    rw [show i + (k + 1) = i + 1 + k by omega]
    exact List.mem_cons_of_mem _ this
theorem lpr_mem' {b B : Nat} : ∀ (t : List (Option AV)) (i : Nat) (q : Nat × Value), q ∈ lpr b B i t → ∃ k v, t[k]? = some (some v) ∧ q = (i + k, cv b B v)
  | [], i, q, h => by simp [lpr] at h
  | none :: t, i, q, h => by
    obtain ⟨k, v, h1, h2⟩ := lpr_mem' t (i + 1) q h
    exact ⟨k + 1, v, by simpa using h1, by rw [h2]; congr 1; omega⟩
  | some u :: t, i, q, h => by
    rcases List.mem_cons.mp h with h | h
    · exact ⟨0, u, rfl, h⟩
    · obtain ⟨k, v, h1, h2⟩ := lpr_mem' t (i + 1) q h
      exact ⟨k + 1, v, by simpa using h1, by rw [h2]; congr 1; omega⟩
/-- beside the ints and references of a frame: its script, the longs at the bottom of its stack, the longs in its locals -/
abbrev SX : Type := Option (Option (Nat × (Nat → Int)) × List Int64 × List (Nat × Int64))
def scp (x : SX) : Option (Nat × (Nat → Int)) := match x with | none => none | some q => q.1
def bts (x : SX) : List Value := match x with | none => [] | some q => q.2.1.map Value.long
def nbt (x : SX) : Nat := match x with | none => 0 | some q => q.2.1.length
def lgs (x : SX) : List (Nat × Value) := match x with | none => [] | some q => q.2.2.map fun z => (z.1, Value.long z.2)
def lgf (x : SX) (i : Nat) : Bool := match x with | none => true | some q => q.2.2.all fun z => z.1 != i && z.1 + 1 != i
theorem lgf_at {x : SX} {i : Nat} (h : lgf x i = true) : ∀ q ∈ lgs x, q.1 ≠ i ∧ q.1 + 1 ≠ i := by
  intro q hq
  cases x with
  | none => cases hq
  | some y =>
    obtain ⟨z, hz, rfl⟩ := List.mem_map.mp hq
    have := List.all_eq_true.mp h z hz
    simpa using this
theorem bts_cat {x : SX} : ((bts x).map fun v => v.category).sum = 2 * nbt x := by
  cases x with
  | none => rfl
  | some y =>
    show ((y.2.1.map Value.long).map fun v => v.category).sum = 2 * y.2.1.length
    generalize y.2.1 = l
    induction l with
    | nil => rfl
    | cons a t ih =>
      simp only [List.map_cons, List.sum_cons, List.length_cons] at ih ⊢
      rw [ih]
      show 2 + _ = _
      omega
def LR (b B : Nat) (xl : List (Nat × Value)) (ls : List (Option AV)) (lc : Array Slot) : Prop := lv_has lc ls.length (lpr b B 0 ls ++ xl) ∧ ∀ (k : Nat) (v : AV), ls[k]? = some (some v) → ok v
theorem LR.get {b B : Nat} {xl : List (Nat × Value)} {ls : List (Option AV)} {lc : Array Slot} (h : LR b B xl ls lc) {i : Nat} {v : AV} (hi : ls[i]? = some (some v)) : lc[i]? = some (.val (cv b B v)) := by
  have := h.1.2.2 _ (List.mem_append_left _ (lpr_mem ls 0 i v hi))
  simpa using this
theorem cv_cat {b B : Nat} (v : AV) : (cv b B v).category = 1 := by
  rcases v with v | _ | j <;> rfl
theorem LR.set {b B : Nat} {xl : List (Nat × Value)} {ls : List (Option AV)} {lc lc' : Array Slot} (h : LR b B xl ls lc) {i : Nat} {v : AV} (hi : i < ls.length) (hv : ok v) (hx : ∀ q ∈ xl, q.1 ≠ i ∧ q.1 + 1 ≠ i) (h' : lv_has lc' ls.length ((i, cv b B v) :: (lpr b B 0 ls ++ xl).filter (fun q => !(q.1 == i) && !(q.1 + 1 == i && q.2.category == 2)))) : LR b B xl (ls.set i (some v)) lc' := by
  refine ⟨⟨by rw [List.length_set]; exact h'.1, h'.2.1, fun q hq => ?_⟩, fun k u hk => ?_⟩
  · rcases List.mem_append.mp hq with hq | hq
    · obtain ⟨k, u, h1, h2⟩ := lpr_mem' _ _ _ hq
      refine h'.2.2 q ?_
      by_cases hki : k = i
      · subst hki
        rw [List.getElem?_set_self hi] at h1
        cases h1
        rw [h2, Nat.zero_add]
        exact List.mem_cons_self
      · rw [List.getElem?_set_ne (Ne.symm hki)] at h1
        refine List.mem_cons_of_mem _ (List.mem_filter.mpr ⟨List.mem_append_left _ ?_, ?_⟩)
        · rw [h2]
          exact lpr_mem ls 0 k u h1
        · rw [h2]
          simp [cv_cat, hki]
    · refine h'.2.2 q (List.mem_cons_of_mem _ (List.mem_filter.mpr ⟨List.mem_append_right _ hq, ?_⟩))
      have := hx q hq
      simp [this.1, this.2]
  · by_cases hki : k = i
    · subst hki
      rw [List.getElem?_set_self hi] at hk
      cases hk
      exact hv
    · rw [List.getElem?_set_ne (Ne.symm hki)] at hk
      exact h.2 k u hk
/-! the judgement -/
def CX (md : MD) (d : Nat) (scr : Option (Nat × (Nat → Int))) (p : Program) (R : Room) (s : State) (m : MethodId) (args : Array Value) (meth : Method) (c : Code) (b B : Nat) (D : va_G) (ca : Nat → ClassId) : Prop :=
  p.tables.exec = Jvm.exec ∧ c.code = md.2.1 ∧ c.maxLocals = md.2.2.1 ∧ s.vm.findClass md.1.cls = some m.cls ∧ (∀ w ∈ tbG, w.before args s = true) ∧ meth.name = md.1.name ∧ va_K D vwCl (tys ca) s ∧ (B ≤ s.heap.size ∧ NW s) ∧ R.cells = md.2.2.2.2.1 ∧ R.slots = md.2.2.2.2.2 ∧ d ≤ R.frames ∧ 40 * d ≤ R.locals ∧ (∀ q, scr = some q → va_X b q.1 (fun j => Int32.ofInt (q.2 j)) s s.heap ∧ b < B ∧ q.1 < 2147483648 ∧ ∀ j, rg (q.2 j))
def HR (b B : Nat) (D : va_G) (ca : Nat → ClassId) (H0 : Heap) (h : AH) (H : Heap) (locs : List Loc) : Prop := HP b B D ca h H ∧ va_S (fun q => B ≤ q) H0 H locs
def okr (t : Option FieldType) (v : Int) : Prop := match t with
  | some .int => rg v
  | some .boolean => v = 0 ∨ v = 1
  | some .char => 0 ≤ v ∧ v < 65536
  | _ => False
def AW (md : MD) (d : Nat) (scr : SX) (Q : Option Int → AH → Prop) (pc : Nat) (ls : List (Option AV)) (st : List AV) (h : AH) (k : Nat × Nat) : Prop :=
  ∀ (p : Program) (l : Launch) (e : Env) (R : Room) (s : State) (m : MethodId) (args : Array Value) (below : List Frame) (meth : Method) (c : Code) (b B : Nat) (D : va_G) (ca : Nat → ClassId) (H : Heap) (locs : List Loc) (lc : Array Slot) (Qw : State → Prop),
    CX md d (scp scr) p R s m args meth c b B D ca → ls.length = md.2.2.1 → HR b B D ca s.heap h H locs → LR b B (lgs scr) ls lc → (∀ a ∈ st, ok a) →
    (∀ (r : Option Int) (pc : Nat) (h : AH) (H : Heap) (locs : List Loc) (lc : Array Slot) (k : Nat × Nat), HR b B D ca s.heap h H locs → Q r h → k.1 ≤ md.2.2.2.2.1 → k.2 ≤ md.2.2.2.2.2 →
      match r with
      | none => md.2.2.2.1 = none → decode md.2.1 pc = .ok (.return_, 1) → W p l e R s m args below meth c H locs k.1 k.2 Qw (F0 m pc lc [])
      | some v => (okr md.2.2.2.1 v → decode md.2.1 pc = .ok (.ireturn, 1) → W p l e R s m args below meth c H locs k.1 k.2 Qw (F0 m pc lc [.int (Int32.ofInt v)])) ∧ (md.2.2.2.1 = some .long → decode md.2.1 pc = .ok (.lreturn, 1) → W p l e R s m args below meth c H locs k.1 k.2 Qw (F0 m pc lc [.long (Int64.ofInt v)]))) →
    W p l e R s m args below meth c H locs k.1 k.2 Qw (F0 m pc lc (st.map (cv b B) ++ bts scr))
def Pst (b B : Nat) (D : va_G) (ca : Nat → ClassId) (Q : Option Int → AH → Prop) : Array Value → State → Outcome → State → Prop := fun _ st oc t =>
  (∃ (r : Option Int) (h' : AH), oc = .returned (r.map fun v => .int (Int32.ofInt v)) ∧ (∀ v, r = some v → rg v) ∧ Q r h' ∧ HP b B D ca h' t.heap) ∧ va_F (fun q => B ≤ q) st t
def Prc (b B : Nat) (D : va_G) (ca : Nat → ClassId) (as : List AV) (h : AH) : Array Value → State → Prop := va_Pc (as.map (cv b B)) fun U => HP b B D ca h U.heap ∧ va_K D vwCl (tys ca) U ∧ NW U
def rmo (d : Nat) (md : MD) : Room := { frames := d, cells := md.2.2.2.2.1, slots := md.2.2.2.2.2, locals := 40 * d }
def wmo (md : MD) : List Cond := .code md.1 md.2.1 md.2.2.1 md.2.2.2.1 :: tbG
def AM (d : Nat) (md : MD) (as : List AV) (h : AH) (Q : Option Int → AH → Prop) : Prop :=
  ∀ (l : Launch) (b B : Nat) (D : va_G) (ca : Nat → ClassId), (∀ a ∈ as, ok a) → Met l md.1 (wmo md) (rmo d md) (Prc b B D ca as h) (Pst b B D ca Q) md.2.2.2.2.1 md.2.2.2.2.2 (fun q => B ≤ q)
