section BO
variable {md : MD} {d : Nat} {scr : SX} {Q : Option Int → AH → Prop} {pc : Nat} {ls : List (Option AV)} {st : List AV} {h : AH} {k : Nat × Nat}
/-- a copied stretch of an array -/
def cpy (h : AH) (js jd : Nat) (sp dp n : Int) : AH := (h.1, h.2.1, h.2.2.1, fun a b => if a = jd ∧ dp ≤ b ∧ b < dp + n then h.2.2.2 js (sp + (b - dp)) else h.2.2.2 a b)
theorem hi_cpy {h : AH} {js jd : Nat} {sp dp n : Int} {a : Nat} {b : Int} : hi (cpy h js jd sp dp n) a b = if a = jd ∧ dp ≤ b ∧ b < dp + n then hi h js (sp + (b - dp)) else hi h a b := rfl
theorem hk_cpy {h : AH} {js jd : Nat} {sp dp n : Int} : hk (cpy h js jd sp dp n) = hk h := rfl
theorem hr_cpy {h : AH} {js jd : Nat} {sp dp n : Int} : hr (cpy h js jd sp dp n) = hr h := rfl
theorem aw_copy {idx js jd n0 n1 : Nat} {sp dp n : Int} (hd : decode md.2.1 pc = .ok (.invokestatic idx, 3)) (hl : Cond.methodLink md.1.cls idx arraycopyName ∈ tbG) (hnat : Cond.native arraycopyName ∈ tbG) (hs : Cond.static arraycopyName ∈ tbG) (hini : Cond.initialized "java/lang/System" ∈ tbG)
    (hx0 : hk h js = (1, n0)) (hx1 : hk h jd = (1, n1)) (h1 : 0 ≤ sp) (h2 : 0 ≤ dp) (h3 : 0 ≤ n) (h4 : sp + n ≤ n0) (h5 : dp + n ≤ n1) (hd1 : 1 ≤ d) (hst8 : st.length + 2 * nbt scr ≤ 8)
    (kk : AW md d scr Q (pc + 3) ls st (cpy h js jd sp dp n) k) : AW md d scr Q pc ls (.inl n :: .inl dp :: .inr (some jd) :: .inl sp :: .inr (some js) :: st) h k := by
  intro p l e R s m args below meth c b B D ca H locs lc Qw C hlen hH hL hst RH
  obtain ⟨⟨hsz, hP, ho⟩, hS⟩ := hH
  have hts := C.2.2.2.2.1
  have h10 := C.2.2.2.2.2.2.2.2.2.2.1
  have h11 := C.2.2.2.2.2.2.2.2.2.2.2.1
  obtain ⟨i0, rfl, hj0⟩ := okH_pos ho hx0 (by intro q; cases q)
  obtain ⟨i1, rfl, hj1⟩ := okH_pos ho hx1 (by intro q; cases q)
  have he0 := wso_at (b := b) (B := B) (ca := ca) hj0
  rw [enc_1 hx0] at he0
  have he1 := wso_at (b := b) (B := B) (ca := ca) hj1
  rw [enc_1 hx1] at he1
  have rn : rg n := ok_hd hst
  have rd : rg dp := ok_hd (ok_tl hst)
  have rs : rg sp := ok_hd (ok_tl (ok_tl (ok_tl hst)))
  have cn := cl_nat rn h3
  have cd := cl_nat rd h2
  have cs := cl_nat rs h1
  have hnw : nativeFrameWords "java/lang/System" "arraycopy" 5 ≤ 20 := by decide +kernel
  have hK := C.2.2.2.2.2.2.1
  intro T hT X
  have c0 : H[B + i0]? = some (vp_cell (ca 1) (n0, .inl fun q : Nat => Int32.ofInt (hi h (i0 + 1) q))) := hP i0 _ he0
  have c1 : H[B + i1]? = some (vp_cell (ca 1) (n1, .inl fun q : Nat => Int32.ofInt (hi h (i1 + 1) q))) := hP i1 _ he1
  obtain ⟨-, kA, hkA, cm, hkk⟩ := (hK.2 0 _ rfl).1 n0 (fun q => .int (Int32.ofInt (hi h (i0 + 1) q)))
  have tin : (Int32.ofInt n).toInt = n := ti rn
  have tis : (Int32.ofInt sp).toInt = sp := ti rs
  have tid : (Int32.ofInt dp).toInt = dp := ti rd
  obtain ⟨vm', X', step⟩ := X.arraycopy C.1 C.2.2.2.1 (hts _ hl) (hts _ hnat) (hts _ hs) (hts _ hini) (src := B + i0) (dst := B + i1) (cs := vp_cell (ca 1) (n0, .inl fun q : Nat => Int32.ofInt (hi h (i0 + 1) q))) (cd := vp_cell (ca 1) (n1, .inl fun q : Nat => Int32.ofInt (hi h (i1 + 1) q))) (srcPos := Int32.ofInt sp) (destPos := Int32.ofInt dp) (n := Int32.ofInt n) (by rw [hT]; exact c0) (by rw [hT]; exact c1)
    (fun _ z => by cases z) (fun _ z => by cases z) (fun z => by cases z) (fun z => by cases z) hkA hkA hkk hkk (by simp [refKind]) (fun q => by have := (i_lt rs rg0).mp q; omega) (fun q => by have := (i_lt rd rg0).mp q; omega) (fun q => by have := (i_lt rn rg0).mp q; omega)
    (by rw [tis, tin]; show ¬ _ > ((arrV (ca 1) n0 _).slots.size : Int); rw [arrV_size]; omega) (by rw [tid, tin]; show ¬ _ > ((arrV (ca 1) n1 _).slots.size : Int); rw [arrV_size]; omega)
    (fun vm₁ _ i hin => by
      have ee : (vp_cell (ca 1) (n0, .inl fun q : Nat => Int32.ofInt (hi h (i0 + 1) q))).slots.getD ((Int32.ofInt sp).toNatClampNeg + i) .null = .int (Int32.ofInt (hi h (i0 + 1) (((Int32.ofInt sp).toNatClampNeg + i : Nat) : Int))) := by
        show (arrV (ca 1) n0 _).slots.getD _ _ = _
        rw [Array.getD_eq_getD_getElem?, arrV_read _ _ (by rw [cn] at hin; omega)]
        rfl
      refine ⟨?_, ?_⟩
      · rw [ee]; rfl
      · rw [ee]; exact trivial)
    (g := F0 m pc lc (.int (Int32.ofInt n) :: .int (Int32.ofInt dp) :: .ref (B + i1) :: .int (Int32.ofInt sp) :: .ref (B + i0) :: (st.map (cv b B) ++ bts scr))) rfl (by show lc.size = _; rw [hL.1.1, hlen, C.2.2.1]) (rest := st.map (cv b B) ++ bts scr) rfl (by rw [C.2.1]; exact hd) (by omega) (by show 2 * 0 + _ + _ ≤ _; rw [st_cat2]; omega)
  have e1 := va_copied (fun z : Int32 => Value.int z) (ca 1) (ca 1) (n0 := n0) (n1 := n1) (fun q : Nat => Int32.ofInt (hi h (i0 + 1) q)) (fun q : Nat => Int32.ofInt (hi h (i1 + 1) q)) (sp := (Int32.ofInt sp).toNatClampNeg) (dp := (Int32.ofInt dp).toNatClampNeg) (n := (Int32.ofInt n).toNatClampNeg) (by rw [cs, cn]; omega)
  have e2 : copied (vp_cell (ca 1) (n0, .inl fun q : Nat => Int32.ofInt (hi h (i0 + 1) q))) (vp_cell (ca 1) (n1, .inl fun q : Nat => Int32.ofInt (hi h (i1 + 1) q))) (Int32.ofInt sp) (Int32.ofInt dp) (Int32.ofInt n) = vp_cell (ca 1) (n1, .inl fun q : Nat => Int32.ofInt (hi (cpy h (i0 + 1) (i1 + 1) sp dp n) (i1 + 1) q)) := by
    refine Eq.trans e1 ?_
    rw [cs, cd, cn, vp_cell_i]
    congr 1
    funext q
    simp only [va_cpy, hi_cpy, true_and]
    by_cases hq : dp.toNat ≤ q ∧ q < dp.toNat + n.toNat
    · rw [if_pos hq, if_pos (by omega)]
      congr 3
      omega
    · rw [if_neg hq, if_neg (by omega)]
  rw [e2] at X' step
  have hl' : B + i1 < H.size := (Array.getElem?_eq_some_iff.mp c1).1
  generalize hN : vp_cell (ca 1) (n1, .inl fun q : Nat => Int32.ofInt (hi (cpy h (i0 + 1) (i1 + 1) sp dp n) (i1 + 1) q)) = new at X' step
  have hheap : ((T.setVm vm').setCell (B + i1) new).heap = H.setIfInBounds (B + i1) new := by rw [← hT]; rfl
  have hHR : HR b B D ca s.heap (cpy h (i0 + 1) (i1 + 1) sp dp n) (H.setIfInBounds (B + i1) new) (locs ++ [⟨B + i1, 0⟩]) :=
    HR_arr ⟨⟨hsz, hP, ho⟩, hS⟩ hj1 he1 rfl
      (fun x hx' => enc_cong rfl (fun _ => rfl) (fun q => by rw [hi_cpy, if_neg (fun z => hx' z.1)])) (enc_1 hx1)
      ⟨fun a z => by rw [hi_cpy]; split <;> exact ho.1 _ _, ho.2⟩ (by rw [hN]; simp [Array.getElem?_setIfInBounds, hl']) (by simp) (fun q hq => by simp [Array.getElem?_setIfInBounds, Ne.symm hq])
  obtain ⟨t, a1, b1⟩ := kk p l e R s m args below meth c b B D ca _ _ lc Qw C hlen
    ⟨hHR.1, hHR.2.1, hHR.2.2.1, fun q hq => by
      rcases List.mem_append.mp hq with g | g
      · exact hS.2.2 q g
      · obtain ⟨z, -, hz⟩ := List.mem_map.mp g
        rw [← hz]
        exact Nat.le_add_right B i1⟩ hL (ok_tl (ok_tl (ok_tl (ok_tl (ok_tl hst))))) RH _ hheap X'
  exact ⟨t, step t a1, b1⟩
theorem lpr_args {b B : Nat} : ∀ (as : List AV) (i : Nat), lv_args i (as.map (cv b B)) = lpr b B i (as.map some)
  | [], i => rfl
  | a :: t, i => by
    show (i, cv b B a) :: lv_args (if (cv b B a).category = 2 then i + 2 else i + 1) (t.map (cv b B)) = (i, cv b B a) :: lpr b B (i + 1) (t.map some)
    rw [if_neg (by rw [cv_cat]; decide), lpr_args t (i + 1)]
theorem lpr_app {b B : Nat} : ∀ (t u : List (Option AV)) (i : Nat), lpr b B i (t ++ u) = lpr b B i t ++ lpr b B (i + t.length) u
  | [], u, i => rfl
  | none :: t, u, i => by
    show lpr b B (i + 1) (t ++ u) = lpr b B (i + 1) t ++ lpr b B (i + (t.length + 1)) u
    rw [lpr_app t u (i + 1), show i + 1 + t.length = i + (t.length + 1) by omega]
  | some a :: t, u, i => by
    show (i, cv b B a) :: lpr b B (i + 1) (t ++ u) = (i, cv b B a) :: (lpr b B (i + 1) t ++ lpr b B (i + (t.length + 1)) u)
    rw [lpr_app t u (i + 1), show i + 1 + t.length = i + (t.length + 1) by omega]
theorem lpr_none {b B : Nat} : ∀ (n i : Nat), lpr b B i (List.replicate n none) = []
  | 0, i => rfl
  | n + 1, i => lpr_none n (i + 1)
theorem lg_sl_cv {b B : Nat} (as : List AV) : (lg_sl (as.map (cv b B))).length = as.length := by
  induction as with
  | nil => rfl
  | cons a t ih =>
    simp only [lg_sl, List.map_cons, List.flatMap_cons, cv_cat, List.length_append, List.length_cons] at ih ⊢
    simp at ih ⊢
    omega
theorem am_body {n : Nat} {as : List AV} (hm : MO md n) (hl : as.length ≤ md.2.2.1) (hB : AW md d none Q 0 (as.map some ++ List.replicate (md.2.2.1 - as.length) none) [] h (0, 0)) (hlg : md.2.2.2.1 ≠ some .long := by intro q; cases q) : AM d md as h Q := by
  intro l b B D ca has
  refine Met.ofW (cc := md.2.1) (maxL := md.2.2.1) (ret := md.2.2.2.1) hm.2.2.2.2 rfl ?_
  intro p e s m args below meth c s₁ BB hml hv
  obtain ⟨rfl, hHP, hK, hN⟩ := hv
  have hts := atoms_spec (ws := wmo md) BB.pre
  have hlocks := BB.notSynchronized
  have hent := lv_entry (as.map (cv b B)) (n := md.2.2.1) (by rw [lg_sl_cv]; exact hl)
  rw [lg_entry_eq]
  rw [lpr_args] at hent
  generalize (lg_sl (as.map (cv b B)) ++ List.replicate (md.2.2.1 - (lg_sl (as.map (cv b B))).length) Slot.unset).toArray = lc at hent ⊢
  have hlen : (as.map some ++ List.replicate (md.2.2.1 - as.length) (none : Option AV)).length = md.2.2.1 := by simp; omega
  have hLR : LR b B [] (as.map some ++ List.replicate (md.2.2.1 - as.length) none) lc := by
    refine ⟨?_, fun k v hk => ?_⟩
    · rw [lpr_app, lpr_none, List.append_nil, List.append_nil, hlen]
      exact hent
    · rcases List.mem_append.mp (List.mem_of_getElem? hk) with q | q
      · obtain ⟨x, hx, hx2⟩ := List.mem_map.mp q
        cases hx2
        exact has _ hx
      · have := List.eq_of_mem_replicate q
        cases this
  refine hB p l e (rmo d md) s m _ below meth c b B D ca s.heap [] lc _ ⟨BB.exec, BB.bytes, hml, findClass_of_methodNamed BB.named, fun w hw => hts w (List.mem_cons_of_mem _ hw), (name_of_methodNamed BB.named BB.method).1, hK, ⟨by rw [hHP.1]; exact Nat.le_add_right _ _, hN⟩, rfl, rfl, Nat.le_refl _, Nat.le_refl _, fun q hq => by cases hq⟩ hlen ⟨hHP, va_S.rf⟩ hLR (fun _ hx => by cases hx) ?_
  intro r pc' h' H' locs' lc' k' hH' hQ hk1 hk2
  cases r with
  | none =>
    intro hret hd
    refine W.widen hk1 hk2 ?_
    have hfin : ∀ t : State, t.heap = H' → s.WarmedH t.vm → Pst b B D ca Q (as.map (cv b B)).toArray s (.returned none) t := fun t ht hW => ⟨⟨none, h', rfl, (fun _ q => by cases q), hQ, by rw [ht]; exact hH'.1⟩, hH'.2.F ht⟩
    exact W.vret BB.exec BB.bytes (BB.returns.trans hret) hfin hH'.2.2.2 hd
  | some v =>
    refine ⟨?_, fun q => absurd q hlg⟩
    intro hret hd
    refine W.widen hk1 hk2 ?_
    have hfin : ∀ t : State, t.heap = H' → s.WarmedH t.vm → Pst b B D ca Q (as.map (cv b B)).toArray s (.returned (some (.int (Int32.ofInt v)))) t := fun t ht hW => ⟨⟨some v, h', rfl, fun _ q => by cases q; exact okr_rg hret, hQ, by rw [ht]; exact hH'.1⟩, hH'.2.F ht⟩
    cases hty : md.2.2.2.1 with
    | none => rw [hty] at hret; exact absurd hret (by simp [okr])
    | some ty =>
      rw [hty] at hret
      exact W.zret (ty := ty) BB.exec BB.bytes (BB.returns.trans hty) (nar_i hret b B).1 hfin hH'.2.2.2 hd
theorem am_mono {as : List AV} {Q' : Option Int → AH → Prop} (hA : AM d md as h Q) (hq : ∀ r h', (∀ v, r = some v → rg v) → okH h' → Q r h' → Q' r h') : AM d md as h Q' := by
  intro l b B D ca has p e ha hc hkk s m args below hf hfit hheap happ
  obtain ⟨n, o, h1, h2, h3, ⟨⟨r, h', e1, e2, e3, e4⟩, hF⟩, hfr⟩ := hA l b B D ca has p e ha hc hkk s m args below hf hfit hheap happ
  exact ⟨n, o, h1, h2, h3, ⟨⟨r, h', e1, e2, hq r h' e2 e4.2.2 e3, e4⟩, hF⟩, hfr⟩
theorem am_ok {as : List AV} (kk : okH h → (∀ a ∈ as, ok a) → AM d md as h Q) : AM d md as h Q := by
  intro l b B D ca has p e ha hc hkk s m args below hf hfit hheap happ
  exact kk hheap.2.1.2.2 has l b B D ca has p e ha hc hkk s m args below hf hfit hheap happ
end BO
