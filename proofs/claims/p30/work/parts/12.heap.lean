section HE
variable {md : MD} {d : Nat} {scr : SX} {Q : Option Int → AH → Prop} {pc : Nat} {ls : List (Option AV)} {st : List AV} {h : AH} {k : Nat × Nat}
theorem okH_pos {h : AH} (ho : okH h) {j : Nat} {x : Nat × Nat} (hx : hk h j = x) (hn : x ≠ (9, 0)) : ∃ i, j = i + 1 ∧ i < h.1 := by
  cases j with
  | zero => exact absurd (hx.symm.trans ho.2.1) hn
  | succ i =>
    refine ⟨i, rfl, ?_⟩
    rcases Nat.lt_or_ge h.1 (i + 1) with q | q
    · exact absurd (hx.symm.trans (ho.2.2.1 _ q)) hn
    · omega
theorem enc_o {b B : Nat} {ca : Nat → ClassId} {h : AH} {j ci : Nat} (hx : hk h j = (0, ci)) : enc b B ca h j = .inr (ci, (List.range (cN ci)).map (fvl b B h j ci)) := by simp [enc, hx]
theorem enc_1 {b B : Nat} {ca : Nat → ClassId} {h : AH} {j n : Nat} (hx : hk h j = (1, n)) : enc b B ca h j = .inl (ca 1, n, .inl fun k => Int32.ofInt (hi h j k)) := by simp [enc, hx]
theorem enc_2 {b B : Nat} {ca : Nat → ClassId} {h : AH} {j n : Nat} (hx : hk h j = (2, n)) : enc b B ca h j = .inl (ca 2, n, .inl fun k => Int32.ofInt (hi h j k)) := by simp [enc, hx]
theorem enc_3 {b B : Nat} {ca : Nat → ClassId} {h : AH} {j n : Nat} (hx : hk h j = (3, n)) : enc b B ca h j = .inl (ca 3, n, .inl fun k => Int32.ofInt (hi h j k)) := by simp [enc, hx]
theorem enc_4 {b B : Nat} {ca : Nat → ClassId} {h : AH} {j n : Nat} (hx : hk h j = (4, n)) : enc b B ca h j = .inl (ca 4, n, .inr (.inr (.inr (.inr fun k => (hr h j k).map (az b B))))) := by simp [enc, hx]
theorem fs_at {n k : Nat} {f : Nat → Value} (hk : k < n) : ((List.range n).map f)[k]? = some (f k) := by simp [hk]
theorem aw_getv {idx ci kf j : Nat} (hd : decode md.2.1 pc = .ok (.getfield idx, 3)) (hl : Cond.fieldLink md.1.cls idx (cU ci kf).1 (cU ci kf).2.1 (cU ci kf).2.2.1 ∈ tbG) (hkf : kf < cN ci) (hx : hk h j = (0, ci)) {v : AV} (hv : ∀ b B, fvl b B h j ci kf = cv b B v) (hok : okH h → ok v)
    (kk : AW md d scr Q (pc + 3) ls (v :: st) h k) : AW md d scr Q pc ls (.inr (some j) :: st) h k := by
  intro p l e R s m args below meth c b B D ca H locs lc Qw C hlen hH hL hst RH
  obtain ⟨hsz, hP, ho⟩ := hH.1
  obtain ⟨i, rfl, hj⟩ := okH_pos ho hx (by intro q; cases q)
  have hci := ho.2.2.2 _ _ hx
  have he := wso_at (b := b) (B := B) (ca := ca) hj
  rw [enc_o hx] at he
  refine va_get (D := D) (v := cv b B v) C.1 C.2.1 C.2.2.2.2.1 (cl_words hci) C.2.2.2.1 C.2.2.2.2.2.2.1 hP i he (cl_at hci) kf hkf (C.2.2.2.2.1 _ hl) (fun _ h9 => h9) ?_ hd ?_
  · rw [fs_at hkf, hv]
  · exact kk p l e R s m args below meth c b B D ca H locs lc Qw C hlen hH hL (ok_of (hok ho) (ok_tl hst)) RH
theorem aw_geti {idx ci kf j : Nat} (hd : decode md.2.1 pc = .ok (.getfield idx, 3)) (hl : Cond.fieldLink md.1.cls idx (cU ci kf).1 (cU ci kf).2.1 (cU ci kf).2.2.1 ∈ tbG) (hkf : kf < cN ci) (hT : isR (cT ci kf) = false) (hx : hk h j = (0, ci))
    (kk : AW md d scr Q (pc + 3) ls (.inl (hi h j kf) :: st) h k) : AW md d scr Q pc ls (.inr (some j) :: st) h k :=
  aw_getv (v := .inl (hi h j kf)) hd hl hkf hx (fun b B => by simp [fvl, hT, cv]) (fun ho => ho.1 j kf) kk
theorem aw_getr {idx ci kf j : Nat} (hd : decode md.2.1 pc = .ok (.getfield idx, 3)) (hl : Cond.fieldLink md.1.cls idx (cU ci kf).1 (cU ci kf).2.1 (cU ci kf).2.2.1 ∈ tbG) (hkf : kf < cN ci) (hT : isR (cT ci kf) = true) (hx : hk h j = (0, ci)) {r : Option Nat} (hr0 : hr h j kf = r)
    (kk : AW md d scr Q (pc + 3) ls (.inr r :: st) h k) : AW md d scr Q pc ls (.inr (some j) :: st) h k :=
  aw_getv (v := .inr r) hd hl hkf hx (fun b B => by simp [fvl, hT, cv, hr0]) (fun _ => trivial) kk
theorem okH_up {h : AH} {j : Nat} {x v : Int} (ho : okH h) (hv : rg v) : okH (up h j x v) := by
  refine ⟨fun a b => ?_, ho.2.1, ho.2.2.1, ho.2.2.2⟩
  rw [hi_up]
  split
  · exact hv
  · exact ho.1 a b
theorem okH_ur {h : AH} {j : Nat} {x : Int} {v : Option Nat} (ho : okH h) : okH (ur h j x v) := ⟨ho.1, ho.2.1, ho.2.2.1, ho.2.2.2⟩
theorem enc_up {b B : Nat} {ca : Nat → ClassId} {h : AH} {j : Nat} {x v : Int} : ∀ i, i ≠ j → enc b B ca (up h j x v) i = enc b B ca h i := by
  intro i hi'
  refine enc_cong rfl (fun _ => rfl) (fun k => ?_)
  rw [hi_up, if_neg (fun q => hi' q.1)]
theorem enc_ur {b B : Nat} {ca : Nat → ClassId} {h : AH} {j : Nat} {x : Int} {v : Option Nat} : ∀ i, i ≠ j → enc b B ca (ur h j x v) i = enc b B ca h i := by
  intro i hi'
  refine enc_cong rfl (fun k => ?_) (fun _ => rfl)
  rw [hr_ur, if_neg (fun q => hi' q.1)]
theorem fs_set {n k : Nat} {f g : Nat → Value} (hk : k < n) (hg : ∀ i, i ≠ k → g i = f i) : ((List.range n).map f).set k (g k) = (List.range n).map g := by
  apply List.ext_getElem?
  intro i
  by_cases hik : i = k
  · subst hik
    rw [List.getElem?_set_self (by simpa using hk), fs_at hk]
  · rw [List.getElem?_set_ne (Ne.symm hik)]
    by_cases hi : i < n
    · rw [fs_at hi, fs_at hi, hg i hik]
    · rw [List.getElem?_eq_none (by simp; omega), List.getElem?_eq_none (by simp; omega)]
/-- a field is written: h' is h with another value at (j, kf) -/
theorem aw_putv {idx ci kf j : Nat} {v : AV} {h' : AH} (hd : decode md.2.1 pc = .ok (.putfield idx, 3)) (hl : Cond.fieldLink md.1.cls idx (cU ci kf).1 (cU ci kf).2.1 (cU ci kf).2.2.1 ∈ tbG) (hkf : kf < cN ci) (hx : hk h j = (0, ci))
    (hfin : (cU ci kf).2.2.2 = false ∨ ((cU ci kf).2.2.2 = true ∧ md.1.name = "<init>" ∧ (cU ci kf).1 = md.1.cls)) (hnar : ∀ b B, narrow (cT ci kf) (cv b B v) = cv b B v) (hfit : ∀ b B, fits (cT ci kf) (cv b B v) = true)
    (hn' : h'.1 = h.1) (hk' : hk h' = hk h) (ho' : okH h → okH h') (he' : ∀ b B ca i, i ≠ j → enc b B ca h' i = enc b B ca h i) (hv : ∀ b B, fvl b B h' j ci kf = cv b B v) (hv' : ∀ b B i, i ≠ kf → fvl b B h' j ci i = fvl b B h j ci i)
    (kk : AW md d scr Q (pc + 3) ls st h' k) : AW md d scr Q pc ls (v :: .inr (some j) :: st) h k := by
  intro p l e R s m args below meth c b B D ca H locs lc Qw C hlen hH hL hst RH
  obtain ⟨⟨hsz, hP, ho⟩, hS⟩ := hH
  obtain ⟨i, rfl, hj⟩ := okH_pos ho hx (by intro q; cases q)
  have hci := ho.2.2.2 _ _ hx
  have he := wso_at (b := b) (B := B) (ca := ca) hj
  rw [enc_o hx] at he
  have hl' : kf < ((List.range (cN ci)).map (fvl b B h (i + 1) ci)).length := by simpa using hkf
  have key : ∀ (H1 : Heap) (locs1 : List Loc), va_P D vwCl ((wso b B ca h).set i (B + i, .inr (ci, ((List.range (cN ci)).map (fvl b B h (i + 1) ci)).set kf (cv b B v)))) H1 → va_D (fun q => B ≤ q) ((wso b B ca h).set i (B + i, .inr (ci, ((List.range (cN ci)).map (fvl b B h (i + 1) ci)).set kf (cv b B v)))) → va_S (fun q => B ≤ q) s.heap H1 locs1 → H1.size = H.size → W p l e R s m args below meth c H1 locs1 k.1 k.2 Qw (F0 m (pc + 3) lc (st.map (cv b B) ++ bts scr)) := by
    intro H1 locs1 h1 _ h3 h4
    have e1 : enc b B ca h' (i + 1) = .inr (ci, ((List.range (cN ci)).map (fvl b B h (i + 1) ci)).set kf (cv b B v)) := by
      rw [enc_o (by rw [hk']; exact hx), ← hv b B, fs_set hkf (hv' b B)]
    rw [← e1, wso_set hj hn' (he' b B ca)] at h1
    exact kk p l e R s m args below meth c b B D ca H1 locs1 lc Qw C hlen ⟨⟨by rw [h4, hn']; exact hsz, h1, ho' ho⟩, h3⟩ hL (ok_tl (ok_tl hst)) RH
  have hsize : ∀ (H1 : Heap) (X : va_W), va_P D vwCl X H1 → True := fun _ _ _ => trivial
  obtain ⟨r, h1, cell, q1, q2, q3, q4⟩ := hP i _ he
  have hr : r = (cR ci, cU ci, cN ci) := Option.some.inj (h1.symm.trans (cl_at hci))
  subst hr
  have hK := C.2.2.2.2.2.2.1
  have hts := C.2.2.2.2.1
  have hap := va_apart (own := md.1.cls) hts (cl_words hci) (cT ci) (cl_ty hci) (cl_nm hci) hK (cl_at hci)
  obtain ⟨hSl, hfc, kC, hkC, hkind⟩ := hK.1 ci _ (cl_at hci)
  obtain ⟨cf, kx, fi, f, hfi, hsl⟩ := hSl kf hkf
  have hlay := hts _ (cl_words hci _ (u_in_lay hkf))
  unfold u_lay at hlay
  have hst' := (u_facts hfc hkC (u_lays hts (cl_words hci) hkf) hfi).1
  rcases hfin with hfin | ⟨hfin, hin2, hdecl⟩
  · rw [if_neg (by rw [hfin]; decide)] at hlay
    have h6 := u_store hfc hkC hkind hlay hfi (cl_ty hci kf hkf) (hnar b B) (hfit b B)
    refine W.putK C.1 C.2.1 (f := f) ⟨C.2.2.2.1, hts _ hl, ⟨_, _, _, hfi⟩, hst'⟩ (by rw [q2]; exact h6) q1 q3 (by rw [hsl]; exact k2_hasslot (q4 kf hkf)) rfl rfl hd fun H' e1 e2 e3 => ?_
    rw [hsl] at e1 ⊢
    exact key H' _ (hP.set wso_D he ⟨_, cl_at hci, t_OB.to (V := updV (vp_V _) kf _) ⟨_, e1, q2, q3, t_set q4 hap hkf _⟩ (fun j _ => vp_updV_set hl' _ j)⟩ e3) (wso_D.set he) (hS.put e2 e3 (wso_D.2 i _ he)) e2
  · rw [if_pos hfin] at hlay
    have hcf : m.cls = cf := by
      obtain ⟨_, _, c', _, _, _, -, -, hf', -, -, -, hown2, -⟩ := Cond.laysFinal_spec hlay
      have e1 : c' = cf := by have := hfi.symm.trans hf'; simp at this; exact this.1.symm
      rw [hdecl] at hown2
      rw [← e1]; exact Option.some.inj (C.2.2.2.1.symm.trans hown2)
    have h6 := u_fits hfc hkC hkind (Or.inr hlay) hfi (cl_ty hci kf hkf) (hnar b B) (hfit b B)
    refine W.putFinK C.1 C.2.1 C.2.2.2.1 (hts _ hl) hfi hst' hcf (C.2.2.2.2.2.1.trans hin2) (by rw [q2]; exact h6) q1 q3 (by rw [hsl]; exact k2_hasslot (q4 kf hkf)) rfl rfl hd fun H' e1 e2 e3 => ?_
    rw [hsl] at e1 ⊢
    exact key H' _ (hP.set wso_D he ⟨_, cl_at hci, t_OB.to (V := updV (vp_V _) kf _) ⟨_, e1, q2, q3, t_set q4 hap hkf _⟩ (fun j _ => vp_updV_set hl' _ j)⟩ e3) (wso_D.set he) (hS.put e2 e3 (wso_D.2 i _ he)) e2
theorem fvl_up {b B : Nat} {h : AH} {j ci kf : Nat} {v : Int} : ∀ i, i ≠ kf → fvl b B (up h j kf v) j ci i = fvl b B h j ci i := by
  intro i hi'
  have hne : ¬ ((i : Int) = (kf : Int)) := fun q => hi' (by omega)
  simp [fvl, hr_up, hi_up, hne, hi']
theorem fvl_ur {b B : Nat} {h : AH} {j ci kf : Nat} {v : Option Nat} : ∀ i, i ≠ kf → fvl b B (ur h j kf v) j ci i = fvl b B h j ci i := by
  intro i hi'
  have hne : ¬ ((i : Int) = (kf : Int)) := fun q => hi' (by omega)
  simp [fvl, hi_ur, hr_ur, hne, hi']
theorem nar_i {t : FieldType} {v : Int} (hv : okr (some t) v) (b B : Nat) : narrow t (cv b B (.inl v)) = cv b B (.inl v) ∧ fits t (cv b B (.inl v)) = true := by
  cases t with
  | int => exact ⟨rfl, rfl⟩
  | boolean =>
    rcases hv with rfl | rfl
    · exact ⟨rfl, rfl⟩
    · exact ⟨rfl, rfl⟩
  | char =>
    obtain ⟨n, rfl⟩ : ∃ n : Nat, v = (n : Int) := ⟨v.toNat, by have := hv.1; omega⟩
    have h2 := hv.2
    exact pk_charN (by omega)
  | _ => exact absurd hv (by simp [okr])
theorem okr_rg {t : Option FieldType} {v : Int} (hv : okr t v) : rg v := by
  match t, hv with
  | some .int, hv => exact hv
  | some .boolean, hv => rcases hv with rfl | rfl <;> decide
  | some .char, hv => exact ⟨by have := hv.1; omega, by have := hv.2; omega⟩
theorem aw_puti {idx ci kf j : Nat} {v : Int} (hd : decode md.2.1 pc = .ok (.putfield idx, 3)) (hl : Cond.fieldLink md.1.cls idx (cU ci kf).1 (cU ci kf).2.1 (cU ci kf).2.2.1 ∈ tbG) (hkf : kf < cN ci) (hT : isR (cT ci kf) = false) (hfin : (cU ci kf).2.2.2 = false) (hx : hk h j = (0, ci)) (hv : okr (some (cT ci kf)) v)
    (kk : AW md d scr Q (pc + 3) ls st (up h j kf v) k) : AW md d scr Q pc ls (.inl v :: .inr (some j) :: st) h k :=
  aw_putv (v := .inl v) (h' := up h j kf v) hd hl hkf hx (Or.inl hfin) (fun b B => (nar_i hv b B).1) (fun b B => (nar_i hv b B).2) rfl rfl (fun ho => okH_up ho (okr_rg hv)) (fun b B ca => enc_up)
    (fun b B => by simp [fvl, hT, hi_up, cv]) (fun b B => fvl_up) kk
theorem aw_putrF {idx ci kf j : Nat} {r : Nat} (hd : decode md.2.1 pc = .ok (.putfield idx, 3)) (hl : Cond.fieldLink md.1.cls idx (cU ci kf).1 (cU ci kf).2.1 (cU ci kf).2.2.1 ∈ tbG) (hkf : kf < cN ci) (hT : isR (cT ci kf) = true) (hfin : (cU ci kf).2.2.2 = true ∧ md.1.name = "<init>" ∧ (cU ci kf).1 = md.1.cls) (hx : hk h j = (0, ci))
    (kk : AW md d scr Q (pc + 3) ls st (ur h j kf (some r)) k) : AW md d scr Q pc ls (.inr (some r) :: .inr (some j) :: st) h k := by
  refine aw_putv (v := .inr (some r)) (h' := ur h j kf (some r)) hd hl hkf hx (Or.inr hfin) (fun b B => ?_) (fun b B => ?_) rfl rfl (fun ho => okH_ur ho) (fun b B ca => enc_ur) (fun b B => by simp [fvl, hT, hr_ur, cv]) (fun b B => fvl_ur) kk
  · generalize cT ci kf = t at hT
    cases t <;> simp_all [isR] <;> rfl
  · generalize cT ci kf = t at hT
    cases t <;> simp_all [isR] <;> rfl
end HE
