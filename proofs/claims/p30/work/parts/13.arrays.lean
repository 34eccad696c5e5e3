section AR
variable {md : MD} {d : Nat} {scr : SX} {Q : Option Int → AH → Prop} {pc : Nat} {ls : List (Option AV)} {st : List AV} {h : AH} {k : Nat × Nat}
theorem cl_nat {x : Int} (hx : rg x) (h0 : 0 ≤ x) : (Int32.ofInt x).toNatClampNeg = x.toNat := by
  show (Int32.ofInt x).toInt.toNat = x.toNat
  rw [ti hx]
theorem in_of {x : Int} {n : Nat} (hx : rg x) (h0 : 0 ≤ x) (h1 : x < n) : vp_in (Int32.ofInt x) n := by
  unfold vp_in
  rw [cl_nat hx h0]
  intro q
  rcases q with q | q
  · have := (i_lt hx rg0).mp q
    omega
  · omega
theorem to_nat {x : Int} (h0 : 0 ≤ x) : ((x.toNat : Nat) : Int) = x := Int.toNat_of_nonneg h0
theorem aw_iaload {j n : Nat} {x : Int} (hd : decode md.2.1 pc = .ok (.iaload, 1)) (hx : hk h j = (1, n)) (h0 : 0 ≤ x) (h1 : x < n) (kk : AW md d scr Q (pc + 1) ls (.inl (hi h j x) :: st) h k) : AW md d scr Q pc ls (.inl x :: .inr (some j) :: st) h k := by
  intro p l e R s m args below meth c b B D ca H locs lc Qw C hlen hH hL hst RH
  obtain ⟨hsz, hP, ho⟩ := hH.1
  obtain ⟨i, rfl, hj⟩ := okH_pos ho hx (by intro q; cases q)
  have hxr : rg x := ok_hd hst
  have he := wso_at (b := b) (B := B) (ca := ca) hj
  rw [enc_1 hx] at he
  refine va_iald C.1 C.2.1 C.2.2.2.2.2.2.1 hP i 0 he rfl (in_of hxr h0 h1) hd ?_
  rw [cl_nat hxr h0]
  show W p l e R s m args below meth c H locs k.1 k.2 Qw (F0 m (pc + 1) lc (.int (Int32.ofInt (hi h (i + 1) ((x.toNat : Nat) : Int))) :: (st.map (cv b B) ++ bts scr)))
  rw [to_nat h0]
  exact kk p l e R s m args below meth c b B D ca H locs lc Qw C hlen hH hL (ok_of (ho.1 _ _) (ok_tl (ok_tl hst))) RH
theorem aw_baload {j n : Nat} {x : Int} (hd : decode md.2.1 pc = .ok (.baload, 1)) (hx : hk h j = (2, n)) (h0 : 0 ≤ x) (h1 : x < n) (kk : AW md d scr Q (pc + 1) ls (.inl (hi h j x) :: st) h k) : AW md d scr Q pc ls (.inl x :: .inr (some j) :: st) h k := by
  intro p l e R s m args below meth c b B D ca H locs lc Qw C hlen hH hL hst RH
  obtain ⟨hsz, hP, ho⟩ := hH.1
  obtain ⟨i, rfl, hj⟩ := okH_pos ho hx (by intro q; cases q)
  have hxr : rg x := ok_hd hst
  have he := wso_at (b := b) (B := B) (ca := ca) hj
  rw [enc_2 hx] at he
  refine va_zald C.1 C.2.1 C.2.2.2.2.2.2.1 hP i 1 he rfl (in_of hxr h0 h1) hd ?_
  rw [cl_nat hxr h0]
  show W p l e R s m args below meth c H locs k.1 k.2 Qw (F0 m (pc + 1) lc (.int (Int32.ofInt (hi h (i + 1) ((x.toNat : Nat) : Int))) :: (st.map (cv b B) ++ bts scr)))
  rw [to_nat h0]
  exact kk p l e R s m args below meth c b B D ca H locs lc Qw C hlen hH hL (ok_of (ho.1 _ _) (ok_tl (ok_tl hst))) RH
theorem aw_caload {j n : Nat} {x : Int} (hd : decode md.2.1 pc = .ok (.caload, 1)) (hx : hk h j = (3, n)) (h0 : 0 ≤ x) (h1 : x < n) (kk : AW md d scr Q (pc + 1) ls (.inl (hi h j x) :: st) h k) : AW md d scr Q pc ls (.inl x :: .inr (some j) :: st) h k := by
  intro p l e R s m args below meth c b B D ca H locs lc Qw C hlen hH hL hst RH
  obtain ⟨hsz, hP, ho⟩ := hH.1
  obtain ⟨i, rfl, hj⟩ := okH_pos ho hx (by intro q; cases q)
  have hxr : rg x := ok_hd hst
  have he := wso_at (b := b) (B := B) (ca := ca) hj
  rw [enc_3 hx] at he
  refine va_cald C.1 C.2.1 C.2.2.2.2.2.2.1 hP i 2 he rfl (in_of hxr h0 h1) hd ?_
  rw [cl_nat hxr h0]
  show W p l e R s m args below meth c H locs k.1 k.2 Qw (F0 m (pc + 1) lc (.int (Int32.ofInt (hi h (i + 1) ((x.toNat : Nat) : Int))) :: (st.map (cv b B) ++ bts scr)))
  rw [to_nat h0]
  exact kk p l e R s m args below meth c b B D ca H locs lc Qw C hlen hH hL (ok_of (ho.1 _ _) (ok_tl (ok_tl hst))) RH
theorem aw_aaload {j n : Nat} {x : Int} (hd : decode md.2.1 pc = .ok (.aaload, 1)) (hx : hk h j = (4, n)) (h0 : 0 ≤ x) (h1 : x < n) (kk : AW md d scr Q (pc + 1) ls (.inr (hr h j x) :: st) h k) : AW md d scr Q pc ls (.inl x :: .inr (some j) :: st) h k := by
  intro p l e R s m args below meth c b B D ca H locs lc Qw C hlen hH hL hst RH
  obtain ⟨hsz, hP, ho⟩ := hH.1
  obtain ⟨i, rfl, hj⟩ := okH_pos ho hx (by intro q; cases q)
  have hxr : rg x := ok_hd hst
  have he := wso_at (b := b) (B := B) (ca := ca) hj
  rw [enc_4 hx] at he
  refine va_aldq C.1 C.2.1 C.2.2.2.2.2.2.1 hP i 3 he rfl (in_of hxr h0 h1) hd ?_
  rw [cl_nat hxr h0]
  show W p l e R s m args below meth c H locs k.1 k.2 Qw (F0 m (pc + 1) lc (va_rf ((hr h (i + 1) ((x.toNat : Nat) : Int)).map (az b B)) :: (st.map (cv b B) ++ bts scr)))
  rw [to_nat h0]
  exact kk p l e R s m args below meth c b B D ca H locs lc Qw C hlen hH hL (ok_of trivial (ok_tl (ok_tl hst))) RH
theorem fn_up {h : AH} {j : Nat} {x v : Int} (h0 : 0 ≤ x) : (fun k : Nat => Int32.ofInt (hi (up h j x v) j k)) = upd (fun k : Nat => Int32.ofInt (hi h j k)) x.toNat (Int32.ofInt v) := by
  funext k
  rw [hi_up]
  unfold upd
  by_cases hk' : k = x.toNat
  · rw [if_pos hk', if_pos ⟨rfl, by omega⟩]
  · rw [if_neg hk', if_neg (fun q => hk' (by have := q.2; omega))]
theorem HR_arr {b B : Nat} {D : va_G} {ca : Nat → ClassId} {H0 H H1 : Heap} {locs : List Loc} {h h' : AH} {i kx : Nat} {cA : ClassId} {a0 a1 : vp_A} (hH : HR b B D ca H0 h H locs) (hj : i < h.1) (he : (wso b B ca h)[i]? = some (B + i, .inl (cA, a0))) (hn : h'.1 = h.1) (henc : ∀ x, x ≠ i + 1 → enc b B ca h' x = enc b B ca h x) (he' : enc b B ca h' (i + 1) = .inl (cA, a1)) (ho' : okH h')
    (e1 : H1[B + i]? = some (vp_cell cA a1)) (z : H1.size = H.size) (oq : ∀ q, q ≠ B + i → H1[q]? = H[q]?) : HR b B D ca H0 h' H1 (locs ++ [⟨B + i, kx⟩]) := by
  obtain ⟨⟨hsz, hP, ho⟩, hS⟩ := hH
  have h1 := hP.set wso_D he (e := .inl (cA, a1)) (H1 := H1) e1 oq
  rw [← he', wso_set hj hn henc] at h1
  exact ⟨⟨by rw [z, hn]; exact hsz, h1, ho'⟩, hS.put z oq (Nat.le_add_right _ _)⟩
theorem aw_iastore {j n : Nat} {x v : Int} (hd : decode md.2.1 pc = .ok (.iastore, 1)) (hx : hk h j = (1, n)) (h0 : 0 ≤ x) (h1 : x < n) (kk : AW md d scr Q (pc + 1) ls st (up h j x v) k) : AW md d scr Q pc ls (.inl v :: .inl x :: .inr (some j) :: st) h k := by
  intro p l e R s m args below meth c b B D ca H locs lc Qw C hlen hH hL hst RH
  obtain ⟨hsz, hP, ho⟩ := hH.1
  obtain ⟨i, rfl, hj⟩ := okH_pos ho hx (by intro q; cases q)
  have hv : rg v := ok_hd hst
  have hxr : rg x := ok_hd (ok_tl hst)
  have he := wso_at (b := b) (B := B) (ca := ca) hj
  rw [enc_1 hx] at he
  have hin := in_of hxr h0 h1
  refine W.iast C.1 C.2.1 (hP i _ he) ((C.2.2.2.2.2.2.1.2 0 _ rfl).1 n (fun q => .int (Int32.ofInt (hi h (i + 1) q)))) (fun q => by cases q) (by show ¬ (_ ∨ (arrV _ _ _).slots.size ≤ _); rw [arrV_size]; exact hin) rfl rfl hd fun H1 e1 z oq => ?_
  refine kk p l e R s m args below meth c b B D ca H1 _ lc Qw C hlen (HR_arr hH hj he rfl enc_up (enc_1 hx) (okH_up ho hv) ?_ z oq) hL (ok_tl (ok_tl (ok_tl hst))) RH
  rw [e1, fn_up h0, ← cl_nat hxr h0]
  rw [vp_cell_i, vp_cell_i, arrV_store]
  congr 2
  funext q
  by_cases hq : q = (Int32.ofInt x).toNatClampNeg
  · subst hq
    simp [updV, upd]
  · simp [updV, upd, hq]
theorem aw_bastore {j n : Nat} {x v : Int} (hd : decode md.2.1 pc = .ok (.bastore, 1)) (hx : hk h j = (2, n)) (h0 : 0 ≤ x) (h1 : x < n) (hv01 : v = 0 ∨ v = 1) (kk : AW md d scr Q (pc + 1) ls st (up h j x v) k) : AW md d scr Q pc ls (.inl v :: .inl x :: .inr (some j) :: st) h k := by
  intro p l e R s m args below meth c b B D ca H locs lc Qw C hlen hH hL hst RH
  obtain ⟨hsz, hP, ho⟩ := hH.1
  obtain ⟨i, rfl, hj⟩ := okH_pos ho hx (by intro q; cases q)
  have hv : rg v := ok_hd hst
  have hxr : rg x := ok_hd (ok_tl hst)
  have he := wso_at (b := b) (B := B) (ca := ca) hj
  rw [enc_2 hx] at he
  have hin := in_of hxr h0 h1
  have hnv : narrow .boolean (.int (Int32.ofInt v)) = .int (Int32.ofInt v) := (nar_i (t := .boolean) (v := v) hv01 b B).1
  refine W.zast C.1 C.2.1 (hP i _ he) ((C.2.2.2.2.2.2.1.2 1 _ rfl).1 n (fun q => .int (Int32.ofInt (hi h (i + 1) q)))) (fun q => by cases q) (by show ¬ (_ ∨ (arrV _ _ _).slots.size ≤ _); rw [arrV_size]; exact hin) rfl rfl hd fun H1 e1 z oq => ?_
  refine kk p l e R s m args below meth c b B D ca H1 _ lc Qw C hlen (HR_arr hH hj he rfl enc_up (enc_2 hx) (okH_up ho hv) ?_ z oq) hL (ok_tl (ok_tl (ok_tl hst))) RH
  rw [e1, fn_up h0, ← cl_nat hxr h0]
  rw [vp_cell_i, vp_cell_i, arrV_store]
  congr 2
  funext q
  by_cases hq : q = (Int32.ofInt x).toNatClampNeg
  · subst hq
    simpa [updV, upd] using hnv
  · simp [updV, upd, hq]
theorem aw_castore {j n : Nat} {x v : Int} (hd : decode md.2.1 pc = .ok (.castore, 1)) (hx : hk h j = (3, n)) (h0 : 0 ≤ x) (h1 : x < n) (hv01 : 0 ≤ v ∧ v < 65536) (kk : AW md d scr Q (pc + 1) ls st (up h j x v) k) : AW md d scr Q pc ls (.inl v :: .inl x :: .inr (some j) :: st) h k := by
  intro p l e R s m args below meth c b B D ca H locs lc Qw C hlen hH hL hst RH
  obtain ⟨hsz, hP, ho⟩ := hH.1
  obtain ⟨i, rfl, hj⟩ := okH_pos ho hx (by intro q; cases q)
  have hv : rg v := ok_hd hst
  have hxr : rg x := ok_hd (ok_tl hst)
  have he := wso_at (b := b) (B := B) (ca := ca) hj
  rw [enc_3 hx] at he
  have hin := in_of hxr h0 h1
  have hnv : narrow .char (.int (Int32.ofInt v)) = .int (Int32.ofInt v) := (nar_i (t := .char) (v := v) hv01 b B).1
  refine W.cast C.1 C.2.1 (hP i _ he) ((C.2.2.2.2.2.2.1.2 2 _ rfl).1 n (fun q => .int (Int32.ofInt (hi h (i + 1) q)))) (fun q => by cases q) (by show ¬ (_ ∨ (arrV _ _ _).slots.size ≤ _); rw [arrV_size]; exact hin) rfl rfl hd fun H1 e1 z oq => ?_
  refine kk p l e R s m args below meth c b B D ca H1 _ lc Qw C hlen (HR_arr hH hj he rfl enc_up (enc_3 hx) (okH_up ho hv) ?_ z oq) hL (ok_tl (ok_tl (ok_tl hst))) RH
  rw [e1, fn_up h0, ← cl_nat hxr h0]
  rw [vp_cell_i, vp_cell_i, arrV_store]
  congr 2
  funext q
  by_cases hq : q = (Int32.ofInt x).toNatClampNeg
  · subst hq
    simpa [updV, upd] using hnv
  · simp [updV, upd, hq]
/-- a row of states gets one -/
theorem aw_aastore {j n u : Nat} {x : Int} (hd : decode md.2.1 pc = .ok (.aastore, 1)) (hx : hk h j = (4, n)) (h0 : 0 ≤ x) (h1 : x < n) (hu : hk h u = (0, 2)) (kk : AW md d scr Q (pc + 1) ls st (ur h j x (some u)) k) : AW md d scr Q pc ls (.inr (some u) :: .inl x :: .inr (some j) :: st) h k := by
  intro p l e R s m args below meth c b B D ca H locs lc Qw C hlen hH hL hst RH
  obtain ⟨hsz, hP, ho⟩ := hH.1
  obtain ⟨i, rfl, hj⟩ := okH_pos ho hx (by intro q; cases q)
  obtain ⟨iu, rfl, hju⟩ := okH_pos ho hu (by intro q; cases q)
  have hxr : rg x := ok_hd (ok_tl hst)
  have he := wso_at (b := b) (B := B) (ca := ca) hj
  rw [enc_4 hx] at he
  have heu := wso_at (b := b) (B := B) (ca := ca) hju
  rw [enc_o hu] at heu
  have hin := in_of hxr h0 h1
  have hlt : (Int32.ofInt x).toNatClampNeg < n := Nat.not_le.mp fun q => hin (Or.inr q)
  have hn0 : ¬ Int32.ofInt x < 0 := fun q => hin (Or.inl q)
  have hK := C.2.2.2.2.2.2.1
  obtain ⟨r', hr', cellV, g1, g2, g3, -⟩ := hP iu _ heu
  have hcls := (hK.1 2 _ (cl_at (ci := 2) (by decide))).2
  obtain ⟨kA, comp, k1, k2, k3, -⟩ := (hK.2 3 _ rfl).2
  have hcomp : comp = D.1 2 := Option.some.inj (k3.symm.trans hcls.1)
  subst hcomp
  obtain ⟨kC, hkC, -⟩ := hcls.2
  refine W.aast C.1 C.2.1 (hP i _ he) (fun q h => by cases h) (fun h => by cases h) k1 k2 rfl hkC ⟨hn0, by show _ < (arrV _ _ _).slots.size; rw [arrV_size]; exact hlt⟩ g1 (fun q h => by rw [g3] at h; cases h) (by rw [g2]; exact hkC) (by rw [g2]; exact va_assign hcls) rfl rfl hd fun H1 e1 z oq => ?_
  refine kk p l e R s m args below meth c b B D ca H1 _ lc Qw C hlen (HR_arr hH hj he rfl enc_ur (enc_4 hx) (okH_ur ho) ?_ z oq) hL (ok_tl (ok_tl (ok_tl hst))) RH
  rw [e1]
  rw [vp_cell_q, vp_cell_q, arrV_store]
  congr 2
  funext q
  by_cases hq : q = (Int32.ofInt x).toNatClampNeg
  · subst hq
    rw [cl_nat hxr h0]
    simp [updV, hr_ur, to_nat h0, va_rf, az]
  · have hq2 : ¬ (q : Int) = x := fun e => hq (by rw [cl_nat hxr h0]; omega)
    simp [updV, hq, hr_ur, hq2]
/-- the script -/
theorem aw_slen {q : Nat × (Nat → Int)} (hd : decode md.2.1 pc = .ok (.arraylength, 1)) (hs : scp scr = some q) (kk : AW md d scr Q (pc + 1) ls (.inl q.1 :: st) h k) : AW md d scr Q pc ls (.inr (some 0) :: st) h k := by
  intro p l e R s m args below meth c b B D ca H locs lc Qw C hlen hH hL hst RH
  obtain ⟨hX, hbB, hL31, hq⟩ := C.2.2.2.2.2.2.2.2.2.2.2.2 q hs
  refine va_slen C.1 C.2.1 hX (Nat.lt_of_lt_of_le hbB C.2.2.2.2.2.2.2.1.1) (Nat.not_le.mpr hbB) hH.2 hd ?_
  exact kk p l e R s m args below meth c b B D ca H locs lc Qw C hlen hH hL (ok_of ⟨by omega, by omega⟩ (ok_tl hst)) RH
theorem aw_sld {q : Nat × (Nat → Int)} {x : Int} (hd : decode md.2.1 pc = .ok (.iaload, 1)) (hs : scp scr = some q) (h0 : 0 ≤ x) (h1 : x < q.1) (kk : AW md d scr Q (pc + 1) ls (.inl (q.2 x.toNat) :: st) h k) : AW md d scr Q pc ls (.inl x :: .inr (some 0) :: st) h k := by
  intro p l e R s m args below meth c b B D ca H locs lc Qw C hlen hH hL hst RH
  obtain ⟨hX, hbB, hL31, hq⟩ := C.2.2.2.2.2.2.2.2.2.2.2.2 q hs
  have hxr : rg x := ok_hd hst
  refine va_sld C.1 C.2.1 hX (Nat.lt_of_lt_of_le hbB C.2.2.2.2.2.2.2.1.1) (Nat.not_le.mpr hbB) hH.2 (in_of hxr h0 h1) hd ?_
  rw [cl_nat hxr h0]
  exact kk p l e R s m args below meth c b B D ca H locs lc Qw C hlen hH hL (ok_of (hq _) (ok_tl (ok_tl hst))) RH
end AR
