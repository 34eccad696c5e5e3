/-! longs: at the bottom of the stack, in locals, as an answer; the script in a method beside the law -/
section LO
variable {md : MD} {d : Nat} {scr : SX} {sc : Option (Nat × (Nat → Int))} {bs : List Int64} {xl : List (Nat × Int64)} {Q : Option Int → AH → Prop} {pc : Nat} {ls : List (Option AV)} {st : List AV} {h : AH} {k : Nat × Nat}
theorem al_ldc2 {v : Int64} {i : Nat} (hd : decode md.2.1 pc = .ok (.ldc2_w i, 3)) (hc : Cond.constantLong md.1.cls i v ∈ tbG) (kk : AW md d (some (sc, v :: bs, xl)) Q (pc + 3) ls [] h k) : AW md d (some (sc, bs, xl)) Q pc ls [] h k := by
  intro p l e R s m args below meth c b B D ca H locs lc Qw C hlen hH hL hst RH
  exact lv_ldc2 C.1 C.2.1 C.2.2.2.1 (C.2.2.2.2.1 _ hc) hd (kk p l e R s m args below meth c b B D ca H locs lc Qw C hlen hH hL hst RH)
theorem lg_at {b B : Nat} {lc : Array Slot} {i : Nat} {x : Int64} (hL : LR b B (lgs (some (sc, bs, xl))) ls lc) (hx : (i, x) ∈ xl) : lc[i]? = some (.val (.long x)) :=
  hL.1.2.2 (i, .long x) (List.mem_append_right _ (List.mem_map.mpr ⟨(i, x), hx, rfl⟩))
theorem al_lload {i : Nat} {x : Int64} (hd : decode md.2.1 pc = .ok (.lload i, 2)) (hx : (i, x) ∈ xl) (kk : AW md d (some (sc, x :: bs, xl)) Q (pc + 2) ls [] h k) : AW md d (some (sc, bs, xl)) Q pc ls [] h k := by
  intro p l e R s m args below meth c b B D ca H locs lc Qw C hlen hH hL hst RH
  exact lv_lload C.1 C.2.1 hd (lg_at hL hx) (kk p l e R s m args below meth c b B D ca H locs lc Qw C hlen hH hL hst RH)
theorem al_lload_n {i : Fin 4} {x : Int64} (hd : decode md.2.1 pc = .ok (.lload_n i, 1)) (hx : (i.val, x) ∈ xl) (kk : AW md d (some (sc, x :: bs, xl)) Q (pc + 1) ls [] h k) : AW md d (some (sc, bs, xl)) Q pc ls [] h k := by
  intro p l e R s m args below meth c b B D ca H locs lc Qw C hlen hH hL hst RH
  exact lv_lload_n C.1 C.2.1 hd rfl (lg_at hL hx) (kk p l e R s m args below meth c b B D ca H locs lc Qw C hlen hH hL hst RH)
theorem lr_store {b B i : Nat} {x : Int64} {xl' : List (Nat × Int64)} {lc lc' : Array Slot} (hL : LR b B (lgs (some (sc, bs, xl))) ls lc) (h0 : ls[i]? = some none) (h1 : ls[i + 1]? = some none) (hq : ∀ z ∈ xl', z = (i, x) ∨ (z ∈ xl ∧ z.1 ≠ i ∧ z.1 ≠ i + 1 ∧ z.1 + 1 ≠ i))
    (h' : lv_has lc' ls.length ((i, Value.long x) :: (lpr b B 0 ls ++ lgs (some (sc, bs, xl))).filter (fun q => !(q.1 == i) && (!(q.1 == i + 1) && !(q.1 + 1 == i && q.2.category == 2))))) : LR b B (lgs (some (sc, bs, xl'))) ls lc' := by
  refine ⟨⟨h'.1, h'.2.1, fun q hq' => ?_⟩, hL.2⟩
  rcases List.mem_append.mp hq' with hm | hm
  · obtain ⟨k, u, g1, g2⟩ := lpr_mem' _ _ _ hm
    refine h'.2.2 q (List.mem_cons_of_mem _ (List.mem_filter.mpr ⟨List.mem_append_left _ hm, ?_⟩))
    have n0 : k ≠ i := fun e => by rw [e, h0] at g1; cases g1
    have n1 : k ≠ i + 1 := fun e => by rw [e, h1] at g1; cases g1
    rw [g2]
    simp [cv_cat, n0, n1]
  · obtain ⟨z, hz, rfl⟩ := List.mem_map.mp hm
    rcases hq z hz with rfl | ⟨g0, g1, g2, g3⟩
    · exact h'.2.2 _ List.mem_cons_self
    · refine h'.2.2 _ (List.mem_cons_of_mem _ (List.mem_filter.mpr ⟨List.mem_append_right _ (List.mem_map.mpr ⟨z, g0, rfl⟩), ?_⟩))
      simp [g1, g2, g3]
theorem al_lstore {i : Nat} {x : Int64} {xl' : List (Nat × Int64)} (hd : decode md.2.1 pc = .ok (.lstore i, 2)) (h0 : ls[i]? = some none) (h1 : ls[i + 1]? = some none) (hq : ∀ z ∈ xl', z = (i, x) ∨ (z ∈ xl ∧ z.1 ≠ i ∧ z.1 ≠ i + 1 ∧ z.1 + 1 ≠ i)) (kk : AW md d (some (sc, bs, xl')) Q (pc + 2) ls [] h k) : AW md d (some (sc, x :: bs, xl)) Q pc ls [] h k := by
  intro p l e R s m args below meth c b B D ca H locs lc Qw C hlen hH hL hst RH
  have hi : i + 1 < ls.length := (List.getElem?_eq_some_iff.mp h1).1
  exact lv_lstore C.1 C.2.1 hd hL.1 hi rfl fun ls' h' => kk p l e R s m args below meth c b B D ca H locs ls' Qw C hlen hH (lr_store hL h0 h1 hq h') hst RH
theorem al_lstore_n {i : Fin 4} {x : Int64} {xl' : List (Nat × Int64)} (hd : decode md.2.1 pc = .ok (.lstore_n i, 1)) (h0 : ls[i.val]? = some none) (h1 : ls[i.val + 1]? = some none) (hq : ∀ z ∈ xl', z = (i.val, x) ∨ (z ∈ xl ∧ z.1 ≠ i.val ∧ z.1 ≠ i.val + 1 ∧ z.1 + 1 ≠ i.val)) (kk : AW md d (some (sc, bs, xl')) Q (pc + 1) ls [] h k) : AW md d (some (sc, x :: bs, xl)) Q pc ls [] h k := by
  intro p l e R s m args below meth c b B D ca H locs lc Qw C hlen hH hL hst RH
  have hi : i.val + 1 < ls.length := (List.getElem?_eq_some_iff.mp h1).1
  exact lv_lstore_n C.1 C.2.1 hd rfl hL.1 hi rfl fun ls' h' => kk p l e R s m args below meth c b B D ca H locs ls' Qw C hlen hH (lr_store hL h0 h1 hq h') hst RH
def i64 (v : Int) : Int64 := (Int32.ofInt v).toInt64
theorem al_i2l {v : Int} (hd : decode md.2.1 pc = .ok (.i2l, 1)) (kk : AW md d (some (sc, i64 v :: bs, xl)) Q (pc + 1) ls [] h k) : AW md d (some (sc, bs, xl)) Q pc ls [.inl v] h k := by
  intro p l e R s m args below meth c b B D ca H locs lc Qw C hlen hH hL hst RH
  exact lv_i2l C.1 C.2.1 hd rfl (kk p l e R s m args below meth c b B D ca H locs lc Qw C hlen hH hL (fun a ha => by cases ha) RH)
theorem al_ladd {x y : Int64} (hd : decode md.2.1 pc = .ok (.ladd, 1)) (kk : AW md d (some (sc, (x + y) :: bs, xl)) Q (pc + 1) ls [] h k) : AW md d (some (sc, y :: x :: bs, xl)) Q pc ls [] h k := by
  intro p l e R s m args below meth c b B D ca H locs lc Qw C hlen hH hL hst RH
  exact lv_ladd C.1 C.2.1 hd (kk p l e R s m args below meth c b B D ca H locs lc Qw C hlen hH hL hst RH)
theorem al_lmul {x y : Int64} (hd : decode md.2.1 pc = .ok (.lmul, 1)) (kk : AW md d (some (sc, (x * y) :: bs, xl)) Q (pc + 1) ls [] h k) : AW md d (some (sc, y :: x :: bs, xl)) Q pc ls [] h k := by
  intro p l e R s m args below meth c b B D ca H locs lc Qw C hlen hH hL hst RH
  exact lv_lmul C.1 C.2.1 hd (kk p l e R s m args below meth c b B D ca H locs lc Qw C hlen hH hL hst RH)
/-- two longs that are one -/
theorem al_lcmp {x y : Int64} (hd : decode md.2.1 pc = .ok (.lcmp, 1)) (hxy : x = y) (kk : AW md d (some (sc, bs, xl)) Q (pc + 1) ls [.inl 0] h k) : AW md d (some (sc, y :: x :: bs, xl)) Q pc ls [] h k := by
  subst hxy
  intro p l e R s m args below meth c b B D ca H locs lc Qw C hlen hH hL hst RH
  have g := kk p l e R s m args below meth c b B D ca H locs lc Qw C hlen hH hL (fun a ha => by rw [List.mem_singleton.mp ha]; show rg 0; decide) RH
  have e1 : lg_cmp x x = 0 := by simp [lg_cmp]
  refine W.lcmp C.1 C.2.1 hd ?_
  rw [e1]
  exact g
theorem al_lreturn {x : Int64} (hd : decode md.2.1 pc = .ok (.lreturn, 1)) (hr : md.2.2.2.1 = some .long) (hq : Q (some x.toInt) h) (h1 : k.1 ≤ md.2.2.2.2.1) (h2 : k.2 ≤ md.2.2.2.2.2) : AW md d (some (sc, [x], xl)) Q pc ls [] h k := by
  intro p l e R s m args below meth c b B D ca H locs lc Qw C hlen hH hL hst RH
  have g := (RH (some x.toInt) pc h H locs lc k hH hq h1 h2).2 hr hd
  rw [Int64.ofInt_toInt] at g
  exact g
/-! contracts that answer a long -/
def PstJ (b B : Nat) (D : va_G) (ca : Nat → ClassId) (Q : Int64 → AH → Prop) : Array Value → State → Outcome → State → Prop := fun _ st oc t =>
  (∃ (x : Int64) (h' : AH), oc = .returned (some (.long x)) ∧ Q x h' ∧ HP b B D ca h' t.heap) ∧ va_F (fun q => B ≤ q) st t
def AMJ (d : Nat) (md : MD) (as : List AV) (h : AH) (Q : Int64 → AH → Prop) : Prop :=
  ∀ (l : Launch) (b B : Nat) (D : va_G) (ca : Nat → ClassId), (∀ a ∈ as, ok a) → Met l md.1 (wmo md) (rmo d md) (Prc b B D ca as h) (PstJ b B D ca Q) md.2.2.2.2.1 md.2.2.2.2.2 (fun q => B ≤ q)
def QJ (Q : Int64 → AH → Prop) : Option Int → AH → Prop := fun r h' => ∃ v : Int, r = some v ∧ Q (Int64.ofInt v) h'
theorem amj_body {n : Nat} {as : List AV} {Q : Int64 → AH → Prop} (hm : MO md n) (hl : as.length ≤ md.2.2.1) (hlg : md.2.2.2.1 = some .long) (hB : AW md d (some (none, [], [])) (QJ Q) 0 (as.map some ++ List.replicate (md.2.2.1 - as.length) none) [] h (0, 0)) : AMJ d md as h Q := by
  intro l b B D ca has
  refine Met.ofW (cc := md.2.1) (maxL := md.2.2.1) (ret := md.2.2.2.1) hm.2.2.2.2 rfl ?_
  intro p e s m args below meth c s₁ BB hml hv
  obtain ⟨rfl, hHP, hK, hN⟩ := hv
  have hts := atoms_spec (ws := wmo md) BB.pre
  have hlocks := BB.notSynchronized
  have hent := lv_entry (as.map (cv b B)) (n := md.2.2.1) (by rw [lg_sl_cv]; exact hl)
  rw [lg_entry_eq]
  rw [lpr_args] at hent
  generalize (lg_sl (as.map (cv b B)) ++ List.replicate (md.2.2.1 - (lg_sl (as.map (cv b B))).length) Slot.unset).toArray = lc at hent ⊢
  have hlen : (as.map some ++ List.replicate (md.2.2.1 - as.length) (none : Option AV)).length = md.2.2.1 := by simp; omega
  have hLR : LR b B [] (as.map some ++ List.replicate (md.2.2.1 - as.length) none) lc := by
    refine ⟨?_, fun k v hk => ?_⟩
    · rw [lpr_app, lpr_none, List.append_nil, List.append_nil, hlen]
      exact hent
    · rcases List.mem_append.mp (List.mem_of_getElem? hk) with q | q
      · obtain ⟨x, hx, hx2⟩ := List.mem_map.mp q
        cases hx2
        exact has _ hx
      · have := List.eq_of_mem_replicate q
        cases this
  refine hB p l e (rmo d md) s m _ below meth c b B D ca s.heap [] lc _ ⟨BB.exec, BB.bytes, hml, findClass_of_methodNamed BB.named, fun w hw => hts w (List.mem_cons_of_mem _ hw), (name_of_methodNamed BB.named BB.method).1, hK, ⟨by rw [hHP.1]; exact Nat.le_add_right _ _, hN⟩, rfl, rfl, Nat.le_refl _, Nat.le_refl _, fun q hq => by cases hq⟩ hlen ⟨hHP, va_S.rf⟩ hLR (fun _ hx => by cases hx) ?_
  intro r pc' h' H' locs' lc' k' hH' hQ hk1 hk2
  obtain ⟨x, rfl, hQx⟩ := hQ
  refine ⟨fun hret => ?_, fun _ hd => ?_⟩
  · rw [hlg] at hret
    exact absurd hret (by simp [okr])
  · refine W.widen hk1 hk2 ?_
    have hfin : ∀ t : State, t.heap = H' → s.WarmedH t.vm → PstJ b B D ca Q (as.map (cv b B)).toArray s (.returned (some (.long (Int64.ofInt x)))) t := fun t ht hW => ⟨⟨_, h', rfl, hQx, by rw [ht]; exact hH'.1⟩, hH'.2.F ht⟩
    exact W.lret BB.exec BB.bytes (BB.returns.trans hlg) hfin hH'.2.2.2 hd
theorem amj_mono {as : List AV} {Q Q' : Int64 → AH → Prop} (hA : AMJ d md as h Q) (hq : ∀ x h', Q x h' → Q' x h') : AMJ d md as h Q' := by
  intro l b B D ca has p e ha hc hkk s m args below hf hfit hheap happ
  obtain ⟨n, o, h1, h2, h3, ⟨⟨x, h', e1, e3, e4⟩, hF⟩, hfr⟩ := hA l b B D ca has p e ha hc hkk s m args below hf hfit hheap happ
  exact ⟨n, o, h1, h2, h3, ⟨⟨x, h', e1, hq x h' e3, e4⟩, hF⟩, hfr⟩
theorem q_callJ {p : Program} {l : Launch} {e : Env} {R : Room} {s : State} {m : MethodId} {args : Array Value} {below : List Frame} {meth : Method} {c : Code} {H : Heap} {locs : List Loc} {cells slots mc ms : Nat} {Qw : State → Prop} {pc : Nat} {lc : Array Slot} {st0 rest : List Value} {b B : Nat} {D : va_G} {ca : Nat → ClassId} {Q : Int64 → AH → Prop} {a : Array Value}
    (hr : va_Run p l e R s m args below meth c H locs cells slots mc ms (F0 m pc lc st0) rest (PstJ b B D ca Q a) (fun q => B ≤ q)) (hS : va_S (fun q => B ≤ q) s.heap H locs)
    (kk : ∀ (x : Int64) (h' : AH) (H1 : Heap) (locs1 : List Loc), Q x h' → HR b B D ca s.heap h' H1 locs1 → W p l e R s m args below meth c H1 locs1 (cells + mc) (slots + ms) Qw (F0 m (pc + 3) lc (Value.long x :: rest))) :
    W p l e R s m args below meth c H locs cells slots Qw (F0 m pc lc st0) := by
  intro T hT X
  obtain ⟨v, st₀, t, T', L, h0, X', hL, e1, e2, ⟨⟨x, h', hv, hq, hh⟩, hz, hk⟩, sp⟩ := hr T hT X
  cases hv
  rw [h0] at hz hk
  obtain ⟨t2, a1, b1⟩ := kk x h' T'.heap (locs ++ L) hq ⟨by rw [e1]; exact hh, Nat.le_trans hS.1 (by rw [e1]; exact hz), fun q h1 h2 => by rw [e1, hk q (Nat.lt_of_lt_of_le h1 hS.1) h2]; exact hS.2.1 q h1 h2, fun q hq => by
      rcases List.mem_append.mp hq with h | h
      · exact hS.2.2 q h
      · exact hL q h⟩ T' rfl X'
  exact ⟨t2, sp t2 a1, b1⟩
theorem al_invS {md' : MD} {idx n : Nat} {as : List AV} (hd : decode md.2.1 pc = .ok (.invokestatic idx, 3)) (hm : MO md' n) (hi : Cond.static md'.1 ∈ tbG) (hl : Cond.methodLink md.1.cls idx md'.1 ∈ tbG) (hC : md'.1.cls = md.1.cls) (hn : as.length = n) (hd1 : 1 ≤ d) (hst8 : 2 * bs.length ≤ 8)
    (h1 : k.1 + md'.2.2.2.2.1 ≤ md.2.2.2.2.1) (h2 : k.2 + md'.2.2.2.2.2 ≤ md.2.2.2.2.2)
    (hM : AMJ (d - 1) md' as h (fun x h' => AW md d (some (sc, x :: bs, xl)) Q (pc + 3) ls [] h' (k.1 + md'.2.2.2.2.1, k.2 + md'.2.2.2.2.2))) : AW md d (some (sc, bs, xl)) Q pc ls as.reverse h k := by
  intro p l e R s m args below meth c b B D ca H locs lc Qw C hlen hH hL hst RH
  have hK := C.2.2.2.2.2.2.1
  have hts := C.2.2.2.2.1
  have hoas : ∀ x ∈ as, ok x := fun x hx => hst x (List.mem_reverse.mpr hx)
  have hfr := frames_ok (md := md') hd1 C.2.2.2.2.2.2.2.2.2.2.1 C.2.2.2.2.2.2.2.2.2.2.2.1 hm.2.2.2.1
  have hT : GoodIn tbG (wsS md.1.cls idx md'.1 (wmo md')) := by
    intro w hw
    rcases List.mem_append.mp hw with hw | hw
    · simp only [List.mem_cons, List.not_mem_nil, or_false] at hw
      rcases hw with rfl | rfl | rfl
      · exact goodG hl
      · exact goodG hi
      · exact goodG (hC ▸ hm.1)
    · exact good_wmo hm w hw
  refine q_callJ (rest := bts (some (sc, bs, xl))) (va_runS (As := as.map (cv b B)) ⟨C.1, C.2.1, C.2.2.1, C.2.2.2.1, hts⟩ (hM l b B D ca hoas) (cwS n hts hT rfl rfl rfl ⟨hC, hm.2.2.1⟩ hfr) (prc_S hH.1 hK C.2.2.2.2.2.2.2.1.2) rfl (by rw [List.length_map]; exact hn) (by show lc.size = _; rw [hL.1.1, hlen]) (by simp) (lv_room (by rw [bts_cat]; exact hst8)) hd ⟨by rw [C.2.2.2.2.2.2.2.2.1]; exact h1, by rw [C.2.2.2.2.2.2.2.2.2.1]; exact h2⟩) hH.2 fun x h' H1 locs1 hq hH1 => ?_
  exact hq p l e R s m args below meth c b B D ca H1 locs1 lc Qw C hlen hH1 hL (fun a ha => by cases ha) RH
/-! contracts of methods that read the script -/
def PrcX (b B : Nat) (D : va_G) (ca : Nat → ClassId) (as : List AV) (h : AH) (q : Nat × (Nat → Int)) : Array Value → State → Prop := va_Pc (as.map (cv b B)) fun U => (HP b B D ca h U.heap ∧ va_K D vwCl (tys ca) U ∧ NW U) ∧ va_X b q.1 (fun j => Int32.ofInt (q.2 j)) U U.heap
def AMX (d : Nat) (md : MD) (q : Nat × (Nat → Int)) (as : List AV) (h : AH) (Q : Option Int → AH → Prop) : Prop :=
  ∀ (l : Launch) (b B : Nat) (D : va_G) (ca : Nat → ClassId), (∀ a ∈ as, ok a) → b < B → q.1 < 2147483648 → (∀ j, rg (q.2 j)) → Met l md.1 (wmo md) (rmo d md) (PrcX b B D ca as h q) (Pst b B D ca Q) md.2.2.2.2.1 md.2.2.2.2.2 (fun q => B ≤ q)
theorem amx_body {n : Nat} {as : List AV} {q : Nat × (Nat → Int)} (hm : MO md n) (hl : as.length ≤ md.2.2.1) (hlg : md.2.2.2.1 = some .int) (hB : AW md d (some (some q, [], [])) Q 0 (as.map some ++ List.replicate (md.2.2.1 - as.length) none) [] h (0, 0)) : AMX d md q as h Q := by
  intro l b B D ca has hbB hq1 hq2
  refine Met.ofW (cc := md.2.1) (maxL := md.2.2.1) (ret := md.2.2.2.1) hm.2.2.2.2 rfl ?_
  intro p e s m args below meth c s₁ BB hml hv
  obtain ⟨rfl, ⟨hHP, hK, hN⟩, hX⟩ := hv
  have hts := atoms_spec (ws := wmo md) BB.pre
  have hlocks := BB.notSynchronized
  have hent := lv_entry (as.map (cv b B)) (n := md.2.2.1) (by rw [lg_sl_cv]; exact hl)
  rw [lg_entry_eq]
  rw [lpr_args] at hent
  generalize (lg_sl (as.map (cv b B)) ++ List.replicate (md.2.2.1 - (lg_sl (as.map (cv b B))).length) Slot.unset).toArray = lc at hent ⊢
  have hlen : (as.map some ++ List.replicate (md.2.2.1 - as.length) (none : Option AV)).length = md.2.2.1 := by simp; omega
  have hLR : LR b B [] (as.map some ++ List.replicate (md.2.2.1 - as.length) none) lc := by
    refine ⟨?_, fun k v hk => ?_⟩
    · rw [lpr_app, lpr_none, List.append_nil, List.append_nil, hlen]
      exact hent
    · rcases List.mem_append.mp (List.mem_of_getElem? hk) with q | q
      · obtain ⟨x, hx, hx2⟩ := List.mem_map.mp q
        cases hx2
        exact has _ hx
      · have := List.eq_of_mem_replicate q
        cases this
  refine hB p l e (rmo d md) s m _ below meth c b B D ca s.heap [] lc _ ⟨BB.exec, BB.bytes, hml, findClass_of_methodNamed BB.named, fun w hw => hts w (List.mem_cons_of_mem _ hw), (name_of_methodNamed BB.named BB.method).1, hK, ⟨by rw [hHP.1]; exact Nat.le_add_right _ _, hN⟩, rfl, rfl, Nat.le_refl _, Nat.le_refl _, fun q' hq => by cases hq; exact ⟨hX, hbB, hq1, hq2⟩⟩ hlen ⟨hHP, va_S.rf⟩ hLR (fun _ hx => by cases hx) ?_
  intro r pc' h' H' locs' lc' k' hH' hQ hk1 hk2
  cases r with
  | none =>
    intro hret
    rw [hlg] at hret
    cases hret
  | some v =>
    refine ⟨fun hret hd => ?_, fun q => by rw [hlg] at q; cases q⟩
    refine W.widen hk1 hk2 ?_
    have hfin : ∀ t : State, t.heap = H' → s.WarmedH t.vm → Pst b B D ca Q (as.map (cv b B)).toArray s (.returned (some (.int (Int32.ofInt v)))) t := fun t ht hW => ⟨⟨some v, h', rfl, fun _ q => by cases q; exact okr_rg hret, hQ, by rw [ht]; exact hH'.1⟩, hH'.2.F ht⟩
    rw [hlg] at hret
    exact W.zret (ty := .int) BB.exec BB.bytes (BB.returns.trans hlg) (nar_i hret b B).1 hfin hH'.2.2.2 hd
theorem prc_SX {b B : Nat} {D : va_G} {ca : Nat → ClassId} {as : List AV} {h : AH} {s : State} {H : Heap} {q : Nat × (Nat → Int)} (hH : HP b B D ca h H) (hK : va_K D vwCl (tys ca) s) (hN : NW s) (hX : va_X b q.1 (fun j => Int32.ofInt (q.2 j)) s H) : PreS s H (PrcX b B D ca as h q) (as.map (cv b B)) :=
  ⟨fun a U g mk q => by obtain ⟨q0, ⟨qP, qK, qN⟩, qX⟩ := q; exact ⟨q0, ⟨qP, va_K.moved (u := U) (U := U.calling g mk a) (Vm.Alike.refl U.vm) qK, qN.call⟩, va_X.moved (u := U) (U := U.calling g mk a) (Vm.Alike.refl U.vm) qX⟩, fun U hU hW => ⟨rfl, ⟨by rw [hU]; exact hH, va_K.moved hW.alike hK, hN.warm hW⟩, by rw [hU]; exact va_X.moved hW.alike hX⟩⟩
theorem ax_invX {md' : MD} {idx n : Nat} {as : List AV} {q : Nat × (Nat → Int)} (hs : scp scr = some q) (hd : decode md.2.1 pc = .ok (.invokestatic idx, 3)) (hm : MO md' n) (hi : Cond.static md'.1 ∈ tbG) (hl : Cond.methodLink md.1.cls idx md'.1 ∈ tbG) (hC : md'.1.cls = md.1.cls) (hn : as.length = n) (hd1 : 1 ≤ d) (hst8 : st.length + 2 * nbt scr ≤ 8)
    (h1 : k.1 + md'.2.2.2.2.1 ≤ md.2.2.2.2.1) (h2 : k.2 + md'.2.2.2.2.2 ≤ md.2.2.2.2.2)
    (hM : AMX (d - 1) md' q as h (fun r h' => AW md d scr Q (pc + 3) ls ((r.map Sum.inl).toList ++ st) h' (k.1 + md'.2.2.2.2.1, k.2 + md'.2.2.2.2.2))) : AW md d scr Q pc ls (as.reverse ++ st) h k := by
  intro p l e R s m args below meth c b B D ca H locs lc Qw C hlen hH hL hst RH
  have hK := C.2.2.2.2.2.2.1
  have hts := C.2.2.2.2.1
  obtain ⟨hoas, host⟩ := ok_as hst
  obtain ⟨hX, hbB, hL31, hq⟩ := C.2.2.2.2.2.2.2.2.2.2.2.2 q hs
  have hfr := frames_ok (md := md') hd1 C.2.2.2.2.2.2.2.2.2.2.1 C.2.2.2.2.2.2.2.2.2.2.2.1 hm.2.2.2.1
  have hT : GoodIn tbG (wsS md.1.cls idx md'.1 (wmo md')) := by
    intro w hw
    rcases List.mem_append.mp hw with hw | hw
    · simp only [List.mem_cons, List.not_mem_nil, or_false] at hw
      rcases hw with rfl | rfl | rfl
      · exact goodG hl
      · exact goodG hi
      · exact goodG (hC ▸ hm.1)
    · exact good_wmo hm w hw
  have hX' : va_X b q.1 (fun j => Int32.ofInt (q.2 j)) s H := hX.kept (hH.2.2.1 b (Nat.lt_of_lt_of_le hbB C.2.2.2.2.2.2.2.1.1) (Nat.not_le.mpr hbB))
  refine q_call (rest := st.map (cv b B) ++ bts scr) (va_runS (As := as.map (cv b B)) ⟨C.1, C.2.1, C.2.2.1, C.2.2.2.1, hts⟩ (hM l b B D ca hoas hbB hL31 hq) (cwS n hts hT rfl rfl rfl ⟨hC, hm.2.2.1⟩ hfr) (prc_SX hH.1 hK C.2.2.2.2.2.2.2.1.2 hX') rfl (by rw [List.length_map]; exact hn) (by show lc.size = _; rw [hL.1.1, hlen]) (by simp) (lv_room (by rw [st_cat2]; exact hst8)) hd ⟨by rw [C.2.2.2.2.2.2.2.2.1]; exact h1, by rw [C.2.2.2.2.2.2.2.2.2.1]; exact h2⟩) hH.2 fun r h' H1 locs1 hrg hq hH1 => ?_
  have g := hq p l e R s m args below meth c b B D ca H1 locs1 lc Qw C hlen hH1 hL (ok_res hrg host) RH
  rw [res_map, List.append_assoc] at g
  exact g
theorem amx_mono {as : List AV} {q : Nat × (Nat → Int)} {Q' : Option Int → AH → Prop} (hA : AMX d md q as h Q) (hq : ∀ r h', Q r h' → Q' r h') : AMX d md q as h Q' := by
  intro l b B D ca has g1 g2 g3 p e ha hc hkk s m args below hf hfit hheap happ
  obtain ⟨n, o, h1, h2, h3, ⟨⟨r, h', e1, e2, e3, e4⟩, hF⟩, hfr⟩ := hA l b B D ca has g1 g2 g3 p e ha hc hkk s m args below hf hfit hheap happ
  exact ⟨n, o, h1, h2, h3, ⟨⟨r, h', e1, e2, hq r h' e3, e4⟩, hF⟩, hfr⟩
theorem aw_mono {Q' : Option Int → AH → Prop} (hA : AW md d scr Q pc ls st h k) (hq : ∀ r h', Q r h' → Q' r h') : AW md d scr Q' pc ls st h k := by
  intro p l e R s m args below meth c b B D ca H locs lc Qw C hlen hH hL hst RH
  exact hA p l e R s m args below meth c b B D ca H locs lc Qw C hlen hH hL hst (fun r pc' h' H' locs' lc' k' hH' hQ h1 h2 => RH r pc' h' H' locs' lc' k' hH' (hq r h' hQ) h1 h2)
theorem dv_pos {x y : Int} (h0 : 0 ≤ x) (h1 : x < 2147483648) (g0 : 0 < y) (g1 : y < 2147483648) : dv x y = x / y := by
  obtain ⟨n, rfl⟩ : ∃ n : Nat, x = n := ⟨x.toNat, by omega⟩
  obtain ⟨m, rfl⟩ : ∃ m : Nat, y = m := ⟨y.toNat, by omega⟩
  have hle : n / m ≤ n := Nat.div_le_self n m
  unfold dv
  rw [b2_def]
  show (Int32.ofInt (n : Int) / Int32.ofInt (m : Int)).toInt = _
  rw [nI_ofInt, nI_ofInt, pk_div (by omega) (by omega) (by omega), nI_toInt (by omega)]
  exact Int.natCast_ediv n m
theorem rm_pos {x y : Int} (h0 : 0 ≤ x) (h1 : x < 2147483648) (g0 : 0 < y) (g1 : y < 2147483648) : rm x y = x % y := by
  have hd := dv_pos h0 h1 g0 g1
  unfold dv at hd
  have hq : 0 ≤ x / y := Int.ediv_nonneg h0 (by omega)
  have hm : 0 ≤ x % y ∧ x % y < y := ⟨Int.emod_nonneg x (by omega), Int.emod_lt_of_pos x g0⟩
  have e := Int.mul_ediv_add_emod x y
  have hxy : x / y * y = y * (x / y) := Int.mul_comm _ _
  have o := b2_of (fun a b => a / b) x y
  rw [hd] at o
  unfold rm
  rw [b2_def]
  show (Int32.ofInt x - Int32.ofInt x / Int32.ofInt y * Int32.ofInt y).toInt = _
  rw [← o, ← Int32.ofInt_mul, ← Int32.ofInt_sub, ti ⟨by omega, by omega⟩]
  omega
theorem sr_n {x : Int} (hx : 0 ≤ x ∧ x ≤ 255) {t : Nat} (ht : t ≤ 8) : sr x (8 - (t : Int)) = ((x.toNat / 2 ^ (8 - t) : Nat) : Int) := by
  rw [sr_eq ⟨by omega, by omega⟩ (by omega) (by omega)]
  have e1 : (8 - (t : Int)).toNat = 8 - t := by omega
  obtain ⟨n, rfl⟩ : ∃ n : Nat, x = n := ⟨x.toNat, by omega⟩
  rw [e1, Int.toNat_natCast, Int.natCast_ediv, Int.natCast_pow]
  rfl
theorem fo_lt {x : Int} {t : Nat} (h1 : x < 256) (ht : t ≤ 8) (hf : (t : Int) ≤ fo x) : x < 2 ^ (8 - t) := by
  have hc : t = 0 ∨ t = 1 ∨ t = 2 ∨ t = 3 ∨ t = 4 ∨ t = 5 ∨ t = 6 ∨ t = 7 ∨ t = 8 := by omega
  unfold fo at hf
  rcases hc with rfl | rfl | rfl | rfl | rfl | rfl | rfl | rfl | rfl
  · show x < 256; omega
  · show x < 128; repeat' split at hf
    all_goals omega
  · show x < 64; repeat' split at hf
    all_goals omega
  · show x < 32; repeat' split at hf
    all_goals omega
  · show x < 16; repeat' split at hf
    all_goals omega
  · show x < 8; repeat' split at hf
    all_goals omega
  · show x < 4; repeat' split at hf
    all_goals omega
  · show x < 2; repeat' split at hf
    all_goals omega
  · show x < 1; repeat' split at hf
    all_goals omega
theorem fo_ge {x : Int} {t : Nat} (ht : t ≤ 8) (hx : x < 2 ^ (8 - t)) : (t : Int) ≤ fo x := by
  have hc : t = 0 ∨ t = 1 ∨ t = 2 ∨ t = 3 ∨ t = 4 ∨ t = 5 ∨ t = 6 ∨ t = 7 ∨ t = 8 := by omega
  unfold fo
  rcases hc with rfl | rfl | rfl | rfl | rfl | rfl | rfl | rfl | rfl
  · have h : x < 256 := hx
    repeat' split
    all_goals omega
  · have h : x < 128 := hx
    repeat' split
    all_goals omega
  · have h : x < 64 := hx
    repeat' split
    all_goals omega
  · have h : x < 32 := hx
    repeat' split
    all_goals omega
  · have h : x < 16 := hx
    repeat' split
    all_goals omega
  · have h : x < 8 := hx
    repeat' split
    all_goals omega
  · have h : x < 4 := hx
    repeat' split
    all_goals omega
  · have h : x < 2 := hx
    repeat' split
    all_goals omega
  · have h : x < 1 := hx
    repeat' split
    all_goals omega
end LO
