section CA
variable {md : MD} {d : Nat} {scr : SX} {Q : Option Int → AH → Prop} {pc : Nat} {ls : List (Option AV)} {st : List AV} {h : AH} {k : Nat × Nat}
theorem okH_nw {h : AH} {kd : Nat × Nat} (ho : okH h) (hk0 : ∀ ci, kd = (0, ci) → ci < 7) : okH (nw h kd) := by
  refine ⟨fun a b => ?_, ?_, fun j hj => ?_, fun j ci hj => ?_⟩
  · show rg (if a = h.1 + 1 then 0 else h.2.2.2 a b)
    split
    · decide
    · exact ho.1 a b
  · show (if 0 = h.1 + 1 then kd else h.2.1 0) = _
    rw [if_neg (by omega)]
    exact ho.2.1
  · have hj' : h.1 + 1 < j := hj
    show (if j = h.1 + 1 then kd else h.2.1 j) = _
    rw [if_neg (by omega)]
    exact ho.2.2.1 j (by omega)
  · have hj' : (if j = h.1 + 1 then kd else h.2.1 j) = (0, ci) := hj
    split at hj'
    · exact hk0 ci hj'
    · exact ho.2.2.2 j ci hj'
theorem enc_nw {b B : Nat} {ca : Nat → ClassId} {h : AH} {kd : Nat × Nat} : ∀ i, i ≤ h.1 → enc b B ca (nw h kd) i = enc b B ca h i := by
  intro i hi'
  have hne : ¬ i = h.1 + 1 := by omega
  exact enc_cong (by show (if i = h.1 + 1 then kd else h.2.1 i) = _; rw [if_neg hne]; rfl) (fun k => by show (if i = h.1 + 1 then none else h.2.2.1 i k) = _; rw [if_neg hne]; rfl) (fun k => by show (if i = h.1 + 1 then 0 else h.2.2.2 i k) = _; rw [if_neg hne]; rfl)
theorem hk_nw {h : AH} {kd : Nat × Nat} : hk (nw h kd) (h.1 + 1) = kd := by show (if h.1 + 1 = h.1 + 1 then kd else _) = kd; rw [if_pos rfl]
theorem hr_nw {h : AH} {kd : Nat × Nat} {x : Int} : hr (nw h kd) (h.1 + 1) x = none := by show (if h.1 + 1 = h.1 + 1 then none else _) = none; rw [if_pos rfl]
theorem hi_nw {h : AH} {kd : Nat × Nat} {x : Int} : hi (nw h kd) (h.1 + 1) x = 0 := by show (if h.1 + 1 = h.1 + 1 then 0 else _) = (0 : Int); rw [if_pos rfl]
theorem HR_new {b B : Nat} {D : va_G} {ca : Nat → ClassId} {H0 H H1 : Heap} {locs : List Loc} {h : AH} {kd : Nat × Nat} (hH : HR b B D ca H0 h H locs) (hk0 : ∀ ci, kd = (0, ci) → ci < 7)
    (e1 : va_at D vwCl (H.size, enc b B ca (nw h kd) (h.1 + 1)) H1) (z : H1.size = H.size + 1) (oq : ∀ q, q < H.size → H1[q]? = H[q]?) : HR b B D ca H0 (nw h kd) H1 locs := by
  obtain ⟨⟨hsz, hP, ho⟩, hS⟩ := hH
  have h1 : va_P D vwCl (wso b B ca h ++ [(B + h.1, enc b B ca (nw h kd) (h.1 + 1))]) H1 := by
    refine (hP.kept (fun k x hx => oq x.1 ((hP k x hx).lt))).app (fun k x hx => ?_)
    have hz : k < 1 := (List.getElem?_eq_some_iff.mp hx).1
    rw [show k = 0 by omega] at hx
    cases hx
    rw [← hsz]
    exact e1
  rw [wso_push rfl enc_nw] at h1
  exact ⟨⟨by show H1.size = B + (h.1 + 1); omega, h1, okH_nw ho hk0⟩, Nat.le_trans hS.1 (by omega), fun x g1 g2 => (oq x (Nat.lt_of_lt_of_le g1 hS.1)).trans (hS.2.1 x g1 g2), hS.2.2⟩
theorem dflt_ok : ∀ ci, ci < 7 → ∀ kf, kf < cN ci → defaultValue (cT ci kf) = if isR (cT ci kf) = true then .null else .int 0 := by
  intro ci hci
  match ci, hci with
  | 0, _ => decide +kernel
  | 1, _ => decide +kernel
  | 2, _ => decide +kernel
  | 3, _ => decide +kernel
  | 4, _ => decide +kernel
  | 5, _ => decide +kernel
  | 6, _ => decide +kernel
theorem aw_new {idx ci : Nat} (hd : decode md.2.1 pc = .ok (.new idx, 3)) (hci : ci < 7) (hcl : Cond.classLink md.1.cls idx (cR ci) ∈ tbG) (hinst : Cond.instantiable (cR ci) (cN ci) ∈ tbG) (hini : Cond.initialized (cR ci) ∈ tbG) (h1 : k.1 + 1 ≤ md.2.2.2.2.1) (h2 : k.2 + cN ci ≤ md.2.2.2.2.2)
    (kk : AW md d scr Q (pc + 3) ls (.inr (some (h.1 + 1)) :: st) (nw h (0, ci)) (k.1 + 1, k.2 + cN ci)) : AW md d scr Q pc ls st h k := by
  intro p l e R s m args below meth c b B D ca H locs lc Qw C hlen hH hL hst RH
  have hK := C.2.2.2.2.2.2.1
  have hts := C.2.2.2.2.1
  have hKn := hK.1 ci _ (cl_at hci)
  refine W.newcK C.1 C.2.1 C.2.2.2.1 (hts _ hcl) (hts _ hinst) (hts _ hini) rfl hd (by rw [C.2.2.2.2.2.2.2.2.1]; exact h1) (by rw [C.2.2.2.2.2.2.2.2.2.1]; exact h2) hKn.2.1 rfl fun H1 kC hkC e1 z1 o1 => ?_
  have hsz := hH.1.1
  have g := kk p l e R s m args below meth c b B D ca H1 locs lc Qw C hlen (HR_new hH (fun x q => by cases q; exact hci) ?_ z1 o1) hL (ok_of trivial hst) RH
  · rw [hsz]
    exact g
  · rw [enc_o hk_nw]
    refine ⟨_, cl_at hci, (u_born (cT ci) hts (cl_words hci) hKn hkC e1 (cl_ty hci)).to (fun j hj => ?_)⟩
    have hj' : j < cN ci := hj
    rw [dflt_ok ci hci j hj']
    simp only [vp_V, List.getD_eq_getElem?_getD]
    rw [fs_at hj']
    simp only [fvl, hr_nw, hi_nw]
    rfl
theorem aw_newarr_int {n : Nat} {x : Int} {at' : ArrayType} (hd : decode md.2.1 pc = .ok (.newarray at', 2)) (hat : newarray.typeOf at' = .int) (harr : Cond.arrayClass .int ∈ tbG) (hx : x = (n : Int)) (hn : n ≤ 65536) (h1 : k.1 + 1 ≤ md.2.2.2.2.1) (h2 : k.2 + n ≤ md.2.2.2.2.2)
    (kk : AW md d scr Q (pc + 2) ls (.inr (some (h.1 + 1)) :: st) (nw h (1, n)) (k.1 + 1, k.2 + n)) : AW md d scr Q pc ls (.inl x :: st) h k := by
  intro p l e R s m args below meth c b B D ca H locs lc Qw C hlen hH hL hst RH
  have hK := C.2.2.2.2.2.2.1
  have hts := C.2.2.2.2.1
  subst hx
  have hxr : rg (n : Int) := ok_hd hst
  have hsz := hH.1.1
  refine va_newaK C.1 C.2.1 (hts _ (hat.symm ▸ harr)) rfl hd (n := Int32.ofInt (n : Int)) (N := n) rfl (fun q => ?_) (by rw [cl_nat hxr (by omega)]; omega) ?_ (by rw [C.2.2.2.2.2.2.2.2.1]; exact h1) (by rw [C.2.2.2.2.2.2.2.2.2.1]; exact h2) rfl fun H1 cA e1 z1 o1 hAr hNm => ?_
  · have := (i_lt hxr rg0).mp q
    omega
  · rw [hat]
    simp only [componentBytes]
    omega
  · rw [hat] at e1 hAr hNm
    have hcA : cA = ca 1 := Option.some.inj (hNm.symm.trans (show s.vm.findClass ("[" ++ FieldType.toString .int) = some (ca 1) from (hK.2 0 _ rfl).2))
    have e1' : va_at D vwCl (H.size, enc b B ca (nw h (1, n)) (h.1 + 1)) H1 := by
      rw [enc_1 hk_nw]
      show H1[H.size]? = some (vp_cell (ca 1) (n, .inl _))
      rw [e1, hcA, vp_cell_i]
      congr 2
      funext q
      rw [hi_nw]
      rfl
    have g := kk p l e R s m args below meth c b B D ca H1 locs lc Qw C hlen (HR_new hH (fun x q => by cases q) e1' z1 o1) hL (ok_of trivial (ok_tl hst)) RH
    rw [hsz]
    exact g
theorem aw_newarr_bool {n : Nat} {x : Int} {at' : ArrayType} (hd : decode md.2.1 pc = .ok (.newarray at', 2)) (hat : newarray.typeOf at' = .boolean) (harr : Cond.arrayClass .boolean ∈ tbG) (hx : x = (n : Int)) (hn : n ≤ 65536) (h1 : k.1 + 1 ≤ md.2.2.2.2.1) (h2 : k.2 + n ≤ md.2.2.2.2.2)
    (kk : AW md d scr Q (pc + 2) ls (.inr (some (h.1 + 1)) :: st) (nw h (2, n)) (k.1 + 1, k.2 + n)) : AW md d scr Q pc ls (.inl x :: st) h k := by
  intro p l e R s m args below meth c b B D ca H locs lc Qw C hlen hH hL hst RH
  have hK := C.2.2.2.2.2.2.1
  have hts := C.2.2.2.2.1
  subst hx
  have hxr : rg (n : Int) := ok_hd hst
  have hsz := hH.1.1
  refine va_newaK C.1 C.2.1 (hts _ (hat.symm ▸ harr)) rfl hd (n := Int32.ofInt (n : Int)) (N := n) rfl (fun q => ?_) (by rw [cl_nat hxr (by omega)]; omega) ?_ (by rw [C.2.2.2.2.2.2.2.2.1]; exact h1) (by rw [C.2.2.2.2.2.2.2.2.2.1]; exact h2) rfl fun H1 cA e1 z1 o1 hAr hNm => ?_
  · have := (i_lt hxr rg0).mp q
    omega
  · rw [hat]
    simp only [componentBytes]
    omega
  · rw [hat] at e1 hAr hNm
    have hcA : cA = ca 2 := Option.some.inj (hNm.symm.trans (show s.vm.findClass ("[" ++ FieldType.toString .boolean) = some (ca 2) from (hK.2 1 _ rfl).2))
    have e1' : va_at D vwCl (H.size, enc b B ca (nw h (2, n)) (h.1 + 1)) H1 := by
      rw [enc_2 hk_nw]
      show H1[H.size]? = some (vp_cell (ca 2) (n, .inl _))
      rw [e1, hcA, vp_cell_i]
      congr 2
      funext q
      rw [hi_nw]
      rfl
    have g := kk p l e R s m args below meth c b B D ca H1 locs lc Qw C hlen (HR_new hH (fun x q => by cases q) e1' z1 o1) hL (ok_of trivial (ok_tl hst)) RH
    rw [hsz]
    exact g
theorem aw_newarr_char {n : Nat} {x : Int} {at' : ArrayType} (hd : decode md.2.1 pc = .ok (.newarray at', 2)) (hat : newarray.typeOf at' = .char) (harr : Cond.arrayClass .char ∈ tbG) (hx : x = (n : Int)) (hn : n ≤ 65536) (h1 : k.1 + 1 ≤ md.2.2.2.2.1) (h2 : k.2 + n ≤ md.2.2.2.2.2)
    (kk : AW md d scr Q (pc + 2) ls (.inr (some (h.1 + 1)) :: st) (nw h (3, n)) (k.1 + 1, k.2 + n)) : AW md d scr Q pc ls (.inl x :: st) h k := by
  intro p l e R s m args below meth c b B D ca H locs lc Qw C hlen hH hL hst RH
  have hK := C.2.2.2.2.2.2.1
  have hts := C.2.2.2.2.1
  subst hx
  have hxr : rg (n : Int) := ok_hd hst
  have hsz := hH.1.1
  refine va_newaK C.1 C.2.1 (hts _ (hat.symm ▸ harr)) rfl hd (n := Int32.ofInt (n : Int)) (N := n) rfl (fun q => ?_) (by rw [cl_nat hxr (by omega)]; omega) ?_ (by rw [C.2.2.2.2.2.2.2.2.1]; exact h1) (by rw [C.2.2.2.2.2.2.2.2.2.1]; exact h2) rfl fun H1 cA e1 z1 o1 hAr hNm => ?_
  · have := (i_lt hxr rg0).mp q
    omega
  · rw [hat]
    simp only [componentBytes]
    omega
  · rw [hat] at e1 hAr hNm
    have hcA : cA = ca 3 := Option.some.inj (hNm.symm.trans (show s.vm.findClass ("[" ++ FieldType.toString .char) = some (ca 3) from (hK.2 2 _ rfl).2))
    have e1' : va_at D vwCl (H.size, enc b B ca (nw h (3, n)) (h.1 + 1)) H1 := by
      rw [enc_3 hk_nw]
      show H1[H.size]? = some (vp_cell (ca 3) (n, .inl _))
      rw [e1, hcA, vp_cell_i]
      congr 2
      funext q
      rw [hi_nw]
      rfl
    have g := kk p l e R s m args below meth c b B D ca H1 locs lc Qw C hlen (HR_new hH (fun x q => by cases q) e1' z1 o1) hL (ok_of trivial (ok_tl hst)) RH
    rw [hsz]
    exact g
theorem aw_newref {n : Nat} {x : Int} {idx : Nat} (hd : decode md.2.1 pc = .ok (.anewarray idx, 3)) (hcl : Cond.classLink md.1.cls idx RX2 ∈ tbG) (hx : x = (n : Int)) (hn : n ≤ 65536) (h1 : k.1 + 1 ≤ md.2.2.2.2.1) (h2 : k.2 + n ≤ md.2.2.2.2.2)
    (kk : AW md d scr Q (pc + 3) ls (.inr (some (h.1 + 1)) :: st) (nw h (4, n)) (k.1 + 1, k.2 + n)) : AW md d scr Q pc ls (.inl x :: st) h k := by
  intro p l e R s m args below meth c b B D ca H locs lc Qw C hlen hH hL hst RH
  have hK := C.2.2.2.2.2.2.1
  have hts := C.2.2.2.2.1
  subst hx
  have hxr : rg (n : Int) := ok_hd hst
  have hsz := hH.1.1
  have hcn := cl_nat hxr (by omega)
  have hcn' : (Int32.ofInt (n : Int)).toNatClampNeg = n := by rw [hcn]; omega
  refine W.anew C.1 C.2.1 C.2.2.2.1 (hts _ hcl) (C.2.2.2.2.2.2.2.1.2.2.use) rfl hd (n := Int32.ofInt (n : Int)) rfl (fun q => ?_) (by rw [hcn']; omega) (by rw [C.2.2.2.2.2.2.2.2.1]; exact h1) (by rw [hcn', C.2.2.2.2.2.2.2.2.2.1]; exact h2) fun cA kA comp f1 f2 f3 f4 => ?_
  · have := (i_lt hxr rg0).mp q
    omega
  · rw [hcn']
    generalize hH1 : H.push ({ cls := cA, slots := Array.replicate n .null, vm := .none } : Cell) = H1
    have z1 : H1.size = H.size + 1 := by rw [← hH1, Array.size_push]
    have e1 : H1[H.size]? = some (arrV cA n (fun _ => .null)) := by rw [← hH1, Array.getElem?_push_size, ← arrV_new]
    have o1 : ∀ q : Nat, q < H.size → H1[q]? = H[q]? := fun q hq => by rw [← hH1, Array.getElem?_push, if_neg (Nat.ne_of_lt hq)]
    obtain ⟨kB, cmp, r1, r2, r3, r4⟩ := (hK.2 3 _ rfl).2
    have hcA : cA = ca 4 := Option.some.inj (f1.symm.trans r4)
    have e1' : va_at D vwCl (H.size, enc b B ca (nw h (4, n)) (h.1 + 1)) H1 := by
      rw [enc_4 hk_nw]
      show H1[H.size]? = some (vp_cell (ca 4) (n, .inr (.inr (.inr (.inr _)))))
      rw [e1, hcA, vp_cell_q]
      congr 2
      funext q
      rw [hr_nw]
      rfl
    have g := kk p l e R s m args below meth c b B D ca H1 locs lc Qw C hlen (HR_new hH (fun x q => by cases q) e1' z1 o1) hL (ok_of trivial (ok_tl hst)) RH
    rw [hsz]
    exact g
/-! returns -/
theorem aw_ireturn {v : Int} (hd : decode md.2.1 pc = .ok (.ireturn, 1)) (hv : okr md.2.2.2.1 v) (hq : Q (some v) h) (h1 : k.1 ≤ md.2.2.2.2.1) (h2 : k.2 ≤ md.2.2.2.2.2) (hb : bts scr = [] := by rfl) : AW md d scr Q pc ls [.inl v] h k := by
  intro p l e R s m args below meth c b B D ca H locs lc Qw C hlen hH hL hst RH
  rw [hb]
  exact (RH (some v) pc h H locs lc k hH hq h1 h2).1 hv hd
theorem aw_return (hd : decode md.2.1 pc = .ok (.return_, 1)) (hr : md.2.2.2.1 = none) (hq : Q none h) (h1 : k.1 ≤ md.2.2.2.2.1) (h2 : k.2 ≤ md.2.2.2.2.2) (hb : bts scr = [] := by rfl) : AW md d scr Q pc ls [] h k := by
  intro p l e R s m args below meth c b B D ca H locs lc Qw C hlen hH hL hst RH
  rw [hb]
  exact RH none pc h H locs lc k hH hq h1 h2 hr hd
/-! calls -/
theorem goodG {w : Cond} (h : w ∈ tbG) : w ∈ tbG ∧ ((w.onTables && w.keeps) = true ∨ ∃ ty, w = .arrayClass ty) := ⟨h, good_of_word (List.mem_filter.mp h).2⟩
theorem good_wmo {md : MD} {n : Nat} (h : MO md n) : GoodIn tbG (wmo md) := fun w hw => (List.mem_cons.mp hw).elim (fun e => by rw [e]; exact goodG h.2.1) goodG
theorem st_cat {b B : Nat} (st : List AV) : ((st.map (cv b B)).map fun v => v.category).sum = st.length := by
  induction st with
  | nil => rfl
  | cons a t ih =>
    simp only [List.map_cons, List.sum_cons, List.length_cons, cv_cat, ih]
    omega
theorem st_cat2 {b B : Nat} {x : SX} (st : List AV) : ((st.map (cv b B) ++ bts x).map fun v => v.category).sum = st.length + 2 * nbt x := by
  rw [List.map_append, List.sum_append, st_cat, bts_cat]
theorem q_call {p : Program} {l : Launch} {e : Env} {R : Room} {s : State} {m : MethodId} {args : Array Value} {below : List Frame} {meth : Method} {c : Code} {H : Heap} {locs : List Loc} {cells slots mc ms : Nat} {Qw : State → Prop} {pc : Nat} {lc : Array Slot} {st0 rest : List Value} {b B : Nat} {D : va_G} {ca : Nat → ClassId} {Q : Option Int → AH → Prop} {a : Array Value}
    (hr : va_Run p l e R s m args below meth c H locs cells slots mc ms (F0 m pc lc st0) rest (Pst b B D ca Q a) (fun q => B ≤ q)) (hS : va_S (fun q => B ≤ q) s.heap H locs)
    (kk : ∀ (r : Option Int) (h' : AH) (H1 : Heap) (locs1 : List Loc), (∀ v, r = some v → rg v) → Q r h' → HR b B D ca s.heap h' H1 locs1 → W p l e R s m args below meth c H1 locs1 (cells + mc) (slots + ms) Qw (F0 m (pc + 3) lc ((r.map fun v => Value.int (Int32.ofInt v)).toList ++ rest))) :
    W p l e R s m args below meth c H locs cells slots Qw (F0 m pc lc st0) := by
  intro T hT X
  obtain ⟨v, st₀, t, T', L, h0, X', hL, e1, e2, ⟨⟨r, h', hv, hrg, hq, hh⟩, hz, hk⟩, sp⟩ := hr T hT X
  cases hv
  rw [h0] at hz hk
  obtain ⟨t2, a1, b1⟩ := kk r h' T'.heap (locs ++ L) hrg hq ⟨by rw [e1]; exact hh, Nat.le_trans hS.1 (by rw [e1]; exact hz), fun q h1 h2 => by rw [e1, hk q (Nat.lt_of_lt_of_le h1 hS.1) h2]; exact hS.2.1 q h1 h2, fun q hq => by
      rcases List.mem_append.mp hq with h | h
      · exact hS.2.2 q h
      · exact hL q h⟩ T' rfl X'
  exact ⟨t2, sp t2 a1, b1⟩
theorem prc_S {b B : Nat} {D : va_G} {ca : Nat → ClassId} {as : List AV} {h : AH} {s : State} {H : Heap} (hH : HP b B D ca h H) (hK : va_K D vwCl (tys ca) s) (hN : NW s) : PreS s H (Prc b B D ca as h) (as.map (cv b B)) :=
  ⟨fun a U g mk q => by obtain ⟨q0, qP, qK, qN⟩ := q; exact ⟨q0, qP, va_K.moved (u := U) (U := U.calling g mk a) (Vm.Alike.refl U.vm) qK, qN.call⟩, fun U hU hW => ⟨rfl, by rw [hU]; exact hH, va_K.moved hW.alike hK, hN.warm hW⟩⟩
theorem frames_ok {R : Room} {d maxL : Nat} {md : MD} (hd1 : 1 ≤ d) (hf : d ≤ R.frames) (hl : 40 * d ≤ R.locals) (hm : maxL ≤ 20) : (rmo (d - 1) md).frames + 1 ≤ R.frames ∧ 8 + (maxL + 11) + (rmo (d - 1) md).locals ≤ R.locals := by
  show d - 1 + 1 ≤ R.frames ∧ 8 + (maxL + 11) + 40 * (d - 1) ≤ R.locals
  omega
theorem ok_as {st as : List AV} (h : ∀ x ∈ as.reverse ++ st, ok x) : (∀ x ∈ as, ok x) ∧ ∀ x ∈ st, ok x := ⟨fun x hx => h x (List.mem_append_left _ (List.mem_reverse.mpr hx)), fun x hx => h x (List.mem_append_right _ hx)⟩
theorem ok_res {st : List AV} {r : Option Int} (hr : ∀ v, r = some v → rg v) (h : ∀ x ∈ st, ok x) : ∀ x ∈ (r.map Sum.inl).toList ++ st, ok x := by
  intro x hx
  rcases List.mem_append.mp hx with hx | hx
  · cases r with
    | none => cases hx
    | some v =>
      rw [List.mem_singleton.mp hx]
      exact hr v rfl
  · exact h x hx
theorem res_map {b B : Nat} {st : List AV} {r : Option Int} : ((r.map Sum.inl).toList ++ st).map (cv b B) = (r.map fun v => Value.int (Int32.ofInt v)).toList ++ st.map (cv b B) := by
  cases r <;> rfl
/-- a method of an object's own class -/
theorem aw_invV {md' : MD} {idx n ci j : Nat} {as : List AV} (hd : decode md.2.1 pc = .ok (.invokevirtual idx, 3)) (hm : MO md' n) (hi : Cond.instanceMethod md'.1 ∈ tbG) (hsel : Cond.selects md'.1.cls md'.1 md'.1 ∈ tbG) (hl : Cond.methodLink md.1.cls idx md'.1 ∈ tbG) (hC : cR ci = md'.1.cls) (hx : hk h j = (0, ci)) (hn : as.length = n) (hd1 : 1 ≤ d) (hst8 : st.length + 2 * nbt scr ≤ 8)
    (h1 : k.1 + md'.2.2.2.2.1 ≤ md.2.2.2.2.1) (h2 : k.2 + md'.2.2.2.2.2 ≤ md.2.2.2.2.2)
    (hM : AM (d - 1) md' (.inr (some j) :: as) h (fun r h' => AW md d scr Q (pc + 3) ls ((r.map Sum.inl).toList ++ st) h' (k.1 + md'.2.2.2.2.1, k.2 + md'.2.2.2.2.2))) : AW md d scr Q pc ls (as.reverse ++ .inr (some j) :: st) h k := by
  intro p l e R s m args below meth c b B D ca H locs lc Qw C hlen hH hL hst RH
  obtain ⟨hsz, hP, ho⟩ := hH.1
  obtain ⟨i, rfl, hj⟩ := okH_pos ho hx (by intro q; cases q)
  have hci := ho.2.2.2 _ _ hx
  have hK := C.2.2.2.2.2.2.1
  have hts := C.2.2.2.2.1
  have he := wso_at (b := b) (B := B) (ca := ca) hj
  rw [enc_o hx] at he
  obtain ⟨hoas, host⟩ := ok_as hst
  have hfr := frames_ok (md := md') hd1 C.2.2.2.2.2.2.2.2.2.2.1 C.2.2.2.2.2.2.2.2.2.2.2.1 hm.2.2.2.1
  have hT : GoodIn tbG (wsV md.1.cls idx md'.1.cls md'.1 (wmo md')) := by
    intro w hw
    rcases List.mem_append.mp hw with hw | hw
    · simp only [List.mem_cons, List.not_mem_nil, or_false] at hw
      rcases hw with rfl | rfl | rfl | rfl
      · exact goodG hl
      · exact goodG hi
      · exact goodG hsel
      · exact goodG hm.1
    · exact good_wmo hm w hw
  have hrec := va_recv hK hP (cl_at hci) he
  rw [hC] at hrec
  have hPS := prc_S (as := .inr (some (i + 1)) :: as) hH.1 hK C.2.2.2.2.2.2.2.1.2
  refine q_call (rest := st.map (cv b B) ++ bts scr) (va_runV (As := as.map (cv b B)) (b := B + i) ⟨C.1, C.2.1, C.2.2.1, C.2.2.2.1, hts⟩ (hM l b B D ca (ok_of trivial hoas)) (cwV n hts hT rfl rfl rfl ⟨rfl, hm.2.2.1⟩ hfr) ⟨hPS.1, hrec, hPS.2⟩ rfl (by rw [List.length_map]; exact hn) (by show lc.size = _; rw [hL.1.1, hlen]) (by simp [cv, va_rf, az]) (lv_room (by rw [st_cat2]; exact hst8)) hd ⟨by rw [C.2.2.2.2.2.2.2.2.1]; exact h1, by rw [C.2.2.2.2.2.2.2.2.2.1]; exact h2⟩) hH.2 fun r h' H1 locs1 hrg hq hH1 => ?_
  have g := hq p l e R s m args below meth c b B D ca H1 locs1 lc Qw C hlen hH1 hL (ok_res hrg (ok_tl host)) RH
  rw [res_map, List.append_assoc] at g
  exact g
end CA
