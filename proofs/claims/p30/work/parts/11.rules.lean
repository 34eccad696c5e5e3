section RU
variable {md : MD} {d : Nat} {scr : SX} {Q : Option Int → AH → Prop} {pc : Nat} {ls : List (Option AV)} {st : List AV} {h : AH} {k : Nat × Nat}
theorem ok_of {st : List AV} {a : AV} (ha : ok a) (h : ∀ x ∈ st, ok x) : ∀ x ∈ a :: st, ok x := fun x hx => (List.mem_cons.mp hx).elim (fun e => e ▸ ha) (h x)
theorem ok_tl {st : List AV} {a : AV} (h : ∀ x ∈ a :: st, ok x) : ∀ x ∈ st, ok x := fun x hx => h x (List.mem_cons_of_mem _ hx)
theorem ok_hd {st : List AV} {a : AV} (h : ∀ x ∈ a :: st, ok x) : ok a := h a List.mem_cons_self
theorem rg_i8 (n : Int) : rg (Int8.ofInt n).toInt32.toInt := rg_of _
/-! constants -/
theorem aw_int {n : Int} {len : Nat} {i : Instr} (hd : decode md.2.1 pc = .ok (i, len)) (hi : (i = .iconst n ∧ len = 1 ∧ rg n) ∨ (i = .bipush n ∧ len = 2 ∧ -128 ≤ n ∧ n < 128) ∨ (i = .sipush n ∧ len = 3 ∧ -32768 ≤ n ∧ n < 32768))
    (kk : AW md d scr Q (pc + len) ls (.inl n :: st) h k) : AW md d scr Q pc ls st h k := by
  intro p l e R s m args below meth c b B D ca H locs lc Qw C hlen hH hL hst RH
  rcases hi with ⟨rfl, rfl, hn⟩ | ⟨rfl, rfl, hn⟩ | ⟨rfl, rfl, hn⟩
  · exact lv_iconst (v := Int32.ofInt n) C.1 C.2.1 hd rfl (kk p l e R s m args below meth c b B D ca H locs lc Qw C hlen hH hL (ok_of hn hst) RH)
  · refine lv_bipush (v := Int32.ofInt n) C.1 C.2.1 hd ?_ (kk p l e R s m args below meth c b B D ca H locs lc Qw C hlen hH hL (ok_of ⟨by omega, by omega⟩ hst) RH)
    apply Int32.toInt_inj.mp
    rw [ti ⟨by omega, by omega⟩, Int8.toInt_toInt32]
    exact Int8.toInt_ofInt_of_le (by omega) (by omega)
  · refine lv_sipush (v := Int32.ofInt n) C.1 C.2.1 hd ?_ (kk p l e R s m args below meth c b B D ca H locs lc Qw C hlen hH hL (ok_of ⟨by omega, by omega⟩ hst) RH)
    apply Int32.toInt_inj.mp
    rw [ti ⟨by omega, by omega⟩, Int16.toInt_toInt32]
    exact Int16.toInt_ofInt_of_le (by omega) (by omega)
theorem aw_iconst {n : Int} (hd : decode md.2.1 pc = .ok (.iconst n, 1)) (kk : AW md d scr Q (pc + 1) ls (.inl n :: st) h k) (hn : rg n := by decide) : AW md d scr Q pc ls st h k := aw_int hd (Or.inl ⟨rfl, rfl, hn⟩) kk
theorem aw_bipush {n : Int} (hd : decode md.2.1 pc = .ok (.bipush n, 2)) (kk : AW md d scr Q (pc + 2) ls (.inl n :: st) h k) (hn : -128 ≤ n ∧ n < 128 := by decide) : AW md d scr Q pc ls st h k := aw_int hd (Or.inr (Or.inl ⟨rfl, rfl, hn⟩)) kk
theorem aw_sipush {n : Int} (hd : decode md.2.1 pc = .ok (.sipush n, 3)) (kk : AW md d scr Q (pc + 3) ls (.inl n :: st) h k) (hn : -32768 ≤ n ∧ n < 32768 := by decide) : AW md d scr Q pc ls st h k := aw_int hd (Or.inr (Or.inr ⟨rfl, rfl, hn⟩)) kk
theorem aw_ldc {n : Int} {i : Nat} (hd : decode md.2.1 pc = .ok (.ldc i, 2)) (hc : Jvm.Cond.constant md.1.cls i (Int32.ofInt n) ∈ tbG) (hn : rg n) (kk : AW md d scr Q (pc + 2) ls (.inl n :: st) h k) : AW md d scr Q pc ls st h k := by
  intro p l e R s m args below meth c b B D ca H locs lc Qw C hlen hH hL hst RH
  exact lv_ldc C.1 C.2.1 C.2.2.2.1 (C.2.2.2.2.1 _ hc) hd (kk p l e R s m args below meth c b B D ca H locs lc Qw C hlen hH hL (ok_of hn hst) RH)
/-! locals -/
theorem aw_iload {i : Nat} {v : Int} (hd : decode md.2.1 pc = .ok (.iload i, 2)) (hl : ls[i]? = some (some (.inl v))) (kk : AW md d scr Q (pc + 2) ls (.inl v :: st) h k) : AW md d scr Q pc ls st h k := by
  intro p l e R s m args below meth c b B D ca H locs lc Qw C hlen hH hL hst RH
  exact lv_iload C.1 C.2.1 hd (hL.get hl) (kk p l e R s m args below meth c b B D ca H locs lc Qw C hlen hH hL (ok_of (hL.2 _ _ hl) hst) RH)
theorem aw_iload_n {i : Fin 4} {v : Int} (hd : decode md.2.1 pc = .ok (.iload_n i, 1)) (hl : ls[i.val]? = some (some (.inl v))) (kk : AW md d scr Q (pc + 1) ls (.inl v :: st) h k) : AW md d scr Q pc ls st h k := by
  intro p l e R s m args below meth c b B D ca H locs lc Qw C hlen hH hL hst RH
  exact lv_iload_n C.1 C.2.1 hd rfl (hL.get hl) (kk p l e R s m args below meth c b B D ca H locs lc Qw C hlen hH hL (ok_of (hL.2 _ _ hl) hst) RH)
theorem aw_aload {i : Nat} {r : Option Nat} (hd : decode md.2.1 pc = .ok (.aload i, 2)) (hl : ls[i]? = some (some (.inr r))) (kk : AW md d scr Q (pc + 2) ls (.inr r :: st) h k) : AW md d scr Q pc ls st h k := by
  intro p l e R s m args below meth c b B D ca H locs lc Qw C hlen hH hL hst RH
  have h1 := kk p l e R s m args below meth c b B D ca H locs lc Qw C hlen hH hL (ok_of trivial hst) RH
  have h2 := hL.get hl
  cases r with
  | none => exact lv_aloadN C.1 C.2.1 hd h2 h1
  | some j => exact lv_aload C.1 C.2.1 hd h2 h1
theorem aw_aload_n {i : Fin 4} {r : Option Nat} (hd : decode md.2.1 pc = .ok (.aload_n i, 1)) (hl : ls[i.val]? = some (some (.inr r))) (kk : AW md d scr Q (pc + 1) ls (.inr r :: st) h k) : AW md d scr Q pc ls st h k := by
  intro p l e R s m args below meth c b B D ca H locs lc Qw C hlen hH hL hst RH
  have h1 := kk p l e R s m args below meth c b B D ca H locs lc Qw C hlen hH hL (ok_of trivial hst) RH
  have h2 := hL.get hl
  cases r with
  | none => exact lv_aload_nN C.1 C.2.1 hd rfl h2 h1
  | some j => exact lv_aload_n C.1 C.2.1 hd rfl h2 h1
theorem aw_istore {i : Nat} {v : Int} (hd : decode md.2.1 pc = .ok (.istore i, 2)) (hi : i < ls.length) (kk : AW md d scr Q (pc + 2) (ls.set i (some (.inl v))) st h k) (hx : lgf scr i = true := by rfl) : AW md d scr Q pc ls (.inl v :: st) h k := by
  intro p l e R s m args below meth c b B D ca H locs lc Qw C hlen hH hL hst RH
  exact lv_istore C.1 C.2.1 hd hL.1 hi rfl fun ls' h' => kk p l e R s m args below meth c b B D ca H locs ls' Qw C (by rw [List.length_set]; exact hlen) hH (hL.set (v := .inl v) hi (ok_hd hst) (lgf_at hx) h') (ok_tl hst) RH
theorem aw_istore_n {i : Fin 4} {v : Int} (hd : decode md.2.1 pc = .ok (.istore_n i, 1)) (hi : i.val < ls.length) (kk : AW md d scr Q (pc + 1) (ls.set i.val (some (.inl v))) st h k) (hx : lgf scr i.val = true := by rfl) : AW md d scr Q pc ls (.inl v :: st) h k := by
  intro p l e R s m args below meth c b B D ca H locs lc Qw C hlen hH hL hst RH
  exact lv_istore_n C.1 C.2.1 hd rfl hL.1 hi rfl fun ls' h' => kk p l e R s m args below meth c b B D ca H locs ls' Qw C (by rw [List.length_set]; exact hlen) hH (hL.set (v := .inl v) hi (ok_hd hst) (lgf_at hx) h') (ok_tl hst) RH
theorem aw_astore {i : Nat} {r : Nat} (hd : decode md.2.1 pc = .ok (.astore i, 2)) (hi : i < ls.length) (kk : AW md d scr Q (pc + 2) (ls.set i (some (.inr (some r)))) st h k) (hx : lgf scr i = true := by rfl) : AW md d scr Q pc ls (.inr (some r) :: st) h k := by
  intro p l e R s m args below meth c b B D ca H locs lc Qw C hlen hH hL hst RH
  exact lv_astore C.1 C.2.1 hd hL.1 hi rfl fun ls' h' => kk p l e R s m args below meth c b B D ca H locs ls' Qw C (by rw [List.length_set]; exact hlen) hH (hL.set (v := .inr (some r)) hi trivial (lgf_at hx) h') (ok_tl hst) RH
theorem aw_astore_n {i : Fin 4} {r : Nat} (hd : decode md.2.1 pc = .ok (.astore_n i, 1)) (hi : i.val < ls.length) (kk : AW md d scr Q (pc + 1) (ls.set i.val (some (.inr (some r)))) st h k) (hx : lgf scr i.val = true := by rfl) : AW md d scr Q pc ls (.inr (some r) :: st) h k := by
  intro p l e R s m args below meth c b B D ca H locs lc Qw C hlen hH hL hst RH
  exact lv_astore_n C.1 C.2.1 hd rfl hL.1 hi rfl fun ls' h' => kk p l e R s m args below meth c b B D ca H locs ls' Qw C (by rw [List.length_set]; exact hlen) hH (hL.set (v := .inr (some r)) hi trivial (lgf_at hx) h') (ok_tl hst) RH
theorem aw_iinc_w {i : Nat} {n v : Int} (hd : decode md.2.1 pc = .ok (.iinc i n, 3)) (hl : ls[i]? = some (some (.inl v))) (kk : AW md d scr Q (pc + 3) (ls.set i (some (.inl (w (v + n))))) st h k) (hx : lgf scr i = true := by rfl) : AW md d scr Q pc ls st h k := by
  intro p l e R s m args below meth c b B D ca H locs lc Qw C hlen hH hL hst RH
  have hi : i < ls.length := (List.getElem?_eq_some_iff.mp hl).1
  obtain ⟨kx, hkx⟩ := List.getElem?_of_mem (List.mem_append_left (lgs scr) (lpr_mem (b := b) (B := B) ls 0 i _ hl))
  rw [Nat.zero_add] at hkx
  exact lv_iinc (v := Int32.ofInt (w (v + n))) C.1 C.2.1 hd hL.1 hkx (by rw [w_of, Int32.ofInt_add]) hi rfl fun ls' h' => kk p l e R s m args below meth c b B D ca H locs ls' Qw C (by rw [List.length_set]; exact hlen) hH (hL.set (v := .inl (w (v + n))) hi (w_rg _) (lgf_at hx) h') hst RH
theorem aw_iinc {i : Nat} {n v : Int} (hd : decode md.2.1 pc = .ok (.iinc i n, 3)) (hl : ls[i]? = some (some (.inl v))) (hn : rg (v + n)) (kk : AW md d scr Q (pc + 3) (ls.set i (some (.inl (v + n)))) st h k) (hx : lgf scr i = true := by rfl) : AW md d scr Q pc ls st h k :=
  aw_iinc_w hd hl (by rw [w_id hn]; exact kk) hx
/-! numbers -/
theorem b2_ex (f : Int32 → Int32 → Int32) (x y : Int) : ∃ z : Int, z = (f (Int32.ofInt x) (Int32.ofInt y)).toInt := ⟨_, rfl⟩
noncomputable def b2 (f : Int32 → Int32 → Int32) (x y : Int) : Int := Classical.choose (b2_ex f x y)
theorem b2_def (f : Int32 → Int32 → Int32) (x y : Int) : b2 f x y = (f (Int32.ofInt x) (Int32.ofInt y)).toInt := Classical.choose_spec (b2_ex f x y)
theorem b2_rg (f : Int32 → Int32 → Int32) (x y : Int) : rg (b2 f x y) := by rw [b2_def]; exact rg_of _
theorem b2_of (f : Int32 → Int32 → Int32) (x y : Int) : Int32.ofInt (b2 f x y) = f (Int32.ofInt x) (Int32.ofInt y) := by rw [b2_def]; exact Int32.ofInt_toInt _
noncomputable def an (x y : Int) : Int := b2 (fun a b => a &&& b) x y
noncomputable def orr (x y : Int) : Int := b2 (fun a b => a ||| b) x y
noncomputable def xr (x y : Int) : Int := b2 (fun a b => a ^^^ b) x y
noncomputable def sl (x y : Int) : Int := b2 (fun a b => a <<< (b &&& 31)) x y
noncomputable def sr (x y : Int) : Int := b2 (fun a b => a >>> (b &&& 31)) x y
noncomputable def dv (x y : Int) : Int := b2 (fun a b => a / b) x y
noncomputable def rm (x y : Int) : Int := b2 (fun a b => a - a / b * b) x y
theorem aw_iadd_w {x y : Int} (hd : decode md.2.1 pc = .ok (.iadd, 1)) (kk : AW md d scr Q (pc + 1) ls (.inl (w (x + y)) :: st) h k) : AW md d scr Q pc ls (.inl y :: .inl x :: st) h k := by
  intro p l e R s m args below meth c b B D ca H locs lc Qw C hlen hH hL hst RH
  refine lv_iadd C.1 C.2.1 hd ?_
  have h1 := kk p l e R s m args below meth c b B D ca H locs lc Qw C hlen hH hL (ok_of (w_rg _) (ok_tl (ok_tl hst))) RH
  rw [← Int32.ofInt_add, ← w_of]
  exact h1
theorem aw_isub_w {x y : Int} (hd : decode md.2.1 pc = .ok (.isub, 1)) (kk : AW md d scr Q (pc + 1) ls (.inl (w (x - y)) :: st) h k) : AW md d scr Q pc ls (.inl y :: .inl x :: st) h k := by
  intro p l e R s m args below meth c b B D ca H locs lc Qw C hlen hH hL hst RH
  refine lv_isub C.1 C.2.1 hd ?_
  have h1 := kk p l e R s m args below meth c b B D ca H locs lc Qw C hlen hH hL (ok_of (w_rg _) (ok_tl (ok_tl hst))) RH
  rw [← Int32.ofInt_sub, ← w_of]
  exact h1
theorem aw_imul_w {x y : Int} (hd : decode md.2.1 pc = .ok (.imul, 1)) (kk : AW md d scr Q (pc + 1) ls (.inl (w (x * y)) :: st) h k) : AW md d scr Q pc ls (.inl y :: .inl x :: st) h k := by
  intro p l e R s m args below meth c b B D ca H locs lc Qw C hlen hH hL hst RH
  refine lv_imul C.1 C.2.1 hd ?_
  have h1 := kk p l e R s m args below meth c b B D ca H locs lc Qw C hlen hH hL (ok_of (w_rg _) (ok_tl (ok_tl hst))) RH
  rw [← Int32.ofInt_mul, ← w_of]
  exact h1
theorem aw_iadd {x y : Int} (hd : decode md.2.1 pc = .ok (.iadd, 1)) (hn : rg (x + y)) (kk : AW md d scr Q (pc + 1) ls (.inl (x + y) :: st) h k) : AW md d scr Q pc ls (.inl y :: .inl x :: st) h k := aw_iadd_w hd (by rw [w_id hn]; exact kk)
theorem aw_isub {x y : Int} (hd : decode md.2.1 pc = .ok (.isub, 1)) (hn : rg (x - y)) (kk : AW md d scr Q (pc + 1) ls (.inl (x - y) :: st) h k) : AW md d scr Q pc ls (.inl y :: .inl x :: st) h k := aw_isub_w hd (by rw [w_id hn]; exact kk)
theorem aw_imul {x y : Int} (hd : decode md.2.1 pc = .ok (.imul, 1)) (hn : rg (x * y)) (kk : AW md d scr Q (pc + 1) ls (.inl (x * y) :: st) h k) : AW md d scr Q pc ls (.inl y :: .inl x :: st) h k := aw_imul_w hd (by rw [w_id hn]; exact kk)
theorem aw_iand {x y : Int} (hd : decode md.2.1 pc = .ok (.iand, 1)) (kk : AW md d scr Q (pc + 1) ls (.inl (an x y) :: st) h k) : AW md d scr Q pc ls (.inl y :: .inl x :: st) h k := by
  intro p l e R s m args below meth c b B D ca H locs lc Qw C hlen hH hL hst RH
  refine lv_iand C.1 C.2.1 hd ?_
  have h1 := kk p l e R s m args below meth c b B D ca H locs lc Qw C hlen hH hL (ok_of (b2_rg _ _ _) (ok_tl (ok_tl hst))) RH
  rw [← b2_of (fun a b => a &&& b)]
  exact h1
theorem aw_ior {x y : Int} (hd : decode md.2.1 pc = .ok (.ior, 1)) (kk : AW md d scr Q (pc + 1) ls (.inl (orr x y) :: st) h k) : AW md d scr Q pc ls (.inl y :: .inl x :: st) h k := by
  intro p l e R s m args below meth c b B D ca H locs lc Qw C hlen hH hL hst RH
  refine lv_ior C.1 C.2.1 hd ?_
  have h1 := kk p l e R s m args below meth c b B D ca H locs lc Qw C hlen hH hL (ok_of (b2_rg _ _ _) (ok_tl (ok_tl hst))) RH
  rw [← b2_of (fun a b => a ||| b)]
  exact h1
theorem aw_ixor {x y : Int} (hd : decode md.2.1 pc = .ok (.ixor, 1)) (kk : AW md d scr Q (pc + 1) ls (.inl (xr x y) :: st) h k) : AW md d scr Q pc ls (.inl y :: .inl x :: st) h k := by
  intro p l e R s m args below meth c b B D ca H locs lc Qw C hlen hH hL hst RH
  refine lv_ixor C.1 C.2.1 hd ?_
  have h1 := kk p l e R s m args below meth c b B D ca H locs lc Qw C hlen hH hL (ok_of (b2_rg _ _ _) (ok_tl (ok_tl hst))) RH
  rw [← b2_of (fun a b => a ^^^ b)]
  exact h1
theorem aw_ishl {x y : Int} (hd : decode md.2.1 pc = .ok (.ishl, 1)) (kk : AW md d scr Q (pc + 1) ls (.inl (sl x y) :: st) h k) : AW md d scr Q pc ls (.inl y :: .inl x :: st) h k := by
  intro p l e R s m args below meth c b B D ca H locs lc Qw C hlen hH hL hst RH
  refine lv_ishl C.1 C.2.1 hd ?_
  have h1 := kk p l e R s m args below meth c b B D ca H locs lc Qw C hlen hH hL (ok_of (b2_rg _ _ _) (ok_tl (ok_tl hst))) RH
  rw [← b2_of (fun a b => a <<< (b &&& 31))]
  exact h1
theorem aw_ishr {x y : Int} (hd : decode md.2.1 pc = .ok (.ishr, 1)) (kk : AW md d scr Q (pc + 1) ls (.inl (sr x y) :: st) h k) : AW md d scr Q pc ls (.inl y :: .inl x :: st) h k := by
  intro p l e R s m args below meth c b B D ca H locs lc Qw C hlen hH hL hst RH
  refine lv_ishr C.1 C.2.1 hd ?_
  have h1 := kk p l e R s m args below meth c b B D ca H locs lc Qw C hlen hH hL (ok_of (b2_rg _ _ _) (ok_tl (ok_tl hst))) RH
  rw [← b2_of (fun a b => a >>> (b &&& 31))]
  exact h1
theorem ne0 {y : Int} (hy : rg y) (h : y ≠ 0) : ¬ Int32.ofInt y = 0 := by
  intro q
  apply h
  have := congrArg Int32.toInt q
  rw [ti hy] at this
  exact this
theorem aw_idiv {x y : Int} (hd : decode md.2.1 pc = .ok (.idiv, 1)) (hy : y ≠ 0) (kk : AW md d scr Q (pc + 1) ls (.inl (dv x y) :: st) h k) : AW md d scr Q pc ls (.inl y :: .inl x :: st) h k := by
  intro p l e R s m args below meth c b B D ca H locs lc Qw C hlen hH hL hst RH
  refine lv_idiv C.1 C.2.1 hd (ne0 (ok_hd hst) hy) ?_
  have h1 := kk p l e R s m args below meth c b B D ca H locs lc Qw C hlen hH hL (ok_of (b2_rg _ _ _) (ok_tl (ok_tl hst))) RH
  rw [← b2_of (fun a b => a / b)]
  exact h1
theorem aw_irem {x y : Int} (hd : decode md.2.1 pc = .ok (.irem, 1)) (hy : y ≠ 0) (kk : AW md d scr Q (pc + 1) ls (.inl (rm x y) :: st) h k) : AW md d scr Q pc ls (.inl y :: .inl x :: st) h k := by
  intro p l e R s m args below meth c b B D ca H locs lc Qw C hlen hH hL hst RH
  refine lv_irem C.1 C.2.1 hd (ne0 (ok_hd hst) hy) ?_
  have h1 := kk p l e R s m args below meth c b B D ca H locs lc Qw C hlen hH hL (ok_of (b2_rg _ _ _) (ok_tl (ok_tl hst))) RH
  rw [← b2_of (fun a b => a - a / b * b)]
  exact h1
theorem aw_i2c {x : Int} (hd : decode md.2.1 pc = .ok (.i2c, 1)) (kk : ∀ y, 0 ≤ y → y < 65536 → y = x % 65536 → AW md d scr Q (pc + 1) ls (.inl y :: st) h k) : AW md d scr Q pc ls (.inl x :: st) h k := by
  intro p l e R s m args below meth c b B D ca H locs lc Qw C hlen hH hL hst RH
  have hx : rg x := ok_hd hst
  refine lv_i2c (v := Int32.ofInt (x % 65536)) C.1 C.2.1 hd ?_ ?_
  · rw [pk_char]
    apply Int32.toInt_inj.mp
    rw [ti ⟨by omega, by omega⟩, nI_toInt (by omega)]
    have h2 : (Int32.ofInt x).toBitVec = BitVec.ofInt 32 x := rfl
    rw [h2, BitVec.toNat_ofInt]
    omega
  · exact kk (x % 65536) (by omega) (by omega) rfl p l e R s m args below meth c b B D ca H locs lc Qw C hlen hH hL (ok_of ⟨by omega, by omega⟩ (ok_tl hst)) RH
/-! the stack -/
theorem aw_dup {v : AV} (hd : decode md.2.1 pc = .ok (.dup, 1)) (kk : AW md d scr Q (pc + 1) ls (v :: v :: st) h k) : AW md d scr Q pc ls (v :: st) h k := by
  intro p l e R s m args below meth c b B D ca H locs lc Qw C hlen hH hL hst RH
  exact lv_dup C.1 C.2.1 hd (cv_cat v) (kk p l e R s m args below meth c b B D ca H locs lc Qw C hlen hH hL (ok_of (ok_hd hst) hst) RH)
theorem aw_pop {v : AV} (hd : decode md.2.1 pc = .ok (.pop, 1)) (kk : AW md d scr Q (pc + 1) ls st h k) : AW md d scr Q pc ls (v :: st) h k := by
  intro p l e R s m args below meth c b B D ca H locs lc Qw C hlen hH hL hst RH
  exact lv_pop C.1 C.2.1 hd (cv_cat v) (kk p l e R s m args below meth c b B D ca H locs lc Qw C hlen hH hL (ok_tl hst) RH)
theorem aw_dup2 {v u : AV} (hd : decode md.2.1 pc = .ok (.dup2, 1)) (kk : AW md d scr Q (pc + 1) ls (v :: u :: v :: u :: st) h k) : AW md d scr Q pc ls (v :: u :: st) h k := by
  intro p l e R s m args below meth c b B D ca H locs lc Qw C hlen hH hL hst RH
  exact lv_dup2_11 C.1 C.2.1 hd (cv_cat v) (cv_cat u) (kk p l e R s m args below meth c b B D ca H locs lc Qw C hlen hH hL (ok_of (ok_hd hst) (ok_of (ok_hd (ok_tl hst)) hst)) RH)
/-! branches -/
theorem i_lt {x y : Int} (hx : rg x) (hy : rg y) : Int32.ofInt x < Int32.ofInt y ↔ x < y := by rw [Int32.lt_iff_toInt_lt, ti hx, ti hy]
theorem i_le {x y : Int} (hx : rg x) (hy : rg y) : Int32.ofInt x ≤ Int32.ofInt y ↔ x ≤ y := by rw [Int32.le_iff_toInt_le, ti hx, ti hy]
theorem i_eq {x y : Int} (hx : rg x) (hy : rg y) : Int32.ofInt x = Int32.ofInt y ↔ x = y := ⟨fun q => by have := congrArg Int32.toInt q; rw [ti hx, ti hy] at this; exact this, fun q => by rw [q]⟩
theorem rg0 : rg 0 := by decide
theorem aw_goto {off : Int} {tgt : Nat} (hd : decode md.2.1 pc = .ok (.goto off, 3)) (ht : (pc : Int) + off = (tgt : Int)) (kk : AW md d scr Q tgt ls st h k) : AW md d scr Q pc ls st h k := by
  intro p l e R s m args below meth c b B D ca H locs lc Qw C hlen hH hL hst RH
  exact lv_goto C.1 C.2.1 hd ht (kk p l e R s m args below meth c b B D ca H locs lc Qw C hlen hH hL hst RH)
theorem aw_icmp_eq {x y off : Int} {tgt : Nat} (hd : decode md.2.1 pc = .ok (.if_icmp .eq off, 3)) (ht : (pc : Int) + off = (tgt : Int)) (kt : x = y → AW md d scr Q tgt ls st h k) (kf : ¬ (x = y) → AW md d scr Q (pc + 3) ls st h k) : AW md d scr Q pc ls (.inl y :: .inl x :: st) h k := by
  intro p l e R s m args below meth c b B D ca H locs lc Qw C hlen hH hL hst RH
  have hy : rg y := ok_hd hst
  have hx : rg x := ok_hd (ok_tl hst)
  have hi := i_eq hx hy
  have hst2 := ok_tl (ok_tl hst)
  by_cases hc : x = y
  · exact lv_icmp_eq C.1 C.2.1 hd ht (fun _ => kt hc p l e R s m args below meth c b B D ca H locs lc Qw C hlen hH hL hst2 RH) (fun q => absurd (hi.mpr hc) q)
  · exact lv_icmp_eq C.1 C.2.1 hd ht (fun q => absurd (hi.mp q) hc) (fun _ => kf hc p l e R s m args below meth c b B D ca H locs lc Qw C hlen hH hL hst2 RH)
theorem aw_if_eq {x off : Int} {tgt : Nat} (hd : decode md.2.1 pc = .ok (.ifCond .eq off, 3)) (ht : (pc : Int) + off = (tgt : Int)) (kt : x = 0 → AW md d scr Q tgt ls st h k) (kf : ¬ (x = 0) → AW md d scr Q (pc + 3) ls st h k) : AW md d scr Q pc ls (.inl x :: st) h k := by
  intro p l e R s m args below meth c b B D ca H locs lc Qw C hlen hH hL hst RH
  have hx : rg x := ok_hd hst
  have hi := i_eq hx rg0
  have hst2 := ok_tl hst
  by_cases hc : x = 0
  · exact lv_if_eq C.1 C.2.1 hd ht (fun _ => kt hc p l e R s m args below meth c b B D ca H locs lc Qw C hlen hH hL hst2 RH) (fun q => absurd (hi.mpr hc) q)
  · exact lv_if_eq C.1 C.2.1 hd ht (fun q => absurd (hi.mp q) hc) (fun _ => kf hc p l e R s m args below meth c b B D ca H locs lc Qw C hlen hH hL hst2 RH)
theorem aw_icmp_ne {x y off : Int} {tgt : Nat} (hd : decode md.2.1 pc = .ok (.if_icmp .ne off, 3)) (ht : (pc : Int) + off = (tgt : Int)) (kt : ¬ x = y → AW md d scr Q tgt ls st h k) (kf : ¬ (¬ x = y) → AW md d scr Q (pc + 3) ls st h k) : AW md d scr Q pc ls (.inl y :: .inl x :: st) h k := by
  intro p l e R s m args below meth c b B D ca H locs lc Qw C hlen hH hL hst RH
  have hy : rg y := ok_hd hst
  have hx : rg x := ok_hd (ok_tl hst)
  have hi := i_eq hx hy
  have hst2 := ok_tl (ok_tl hst)
  by_cases hc : ¬ x = y
  · exact lv_icmp_ne C.1 C.2.1 hd ht (fun _ => kt hc p l e R s m args below meth c b B D ca H locs lc Qw C hlen hH hL hst2 RH) (fun q => absurd (hi.mp q) hc)
  · exact lv_icmp_ne C.1 C.2.1 hd ht (fun q => absurd (fun z => q (hi.mpr z)) hc) (fun _ => kf hc p l e R s m args below meth c b B D ca H locs lc Qw C hlen hH hL hst2 RH)
theorem aw_if_ne {x off : Int} {tgt : Nat} (hd : decode md.2.1 pc = .ok (.ifCond .ne off, 3)) (ht : (pc : Int) + off = (tgt : Int)) (kt : ¬ x = 0 → AW md d scr Q tgt ls st h k) (kf : ¬ (¬ x = 0) → AW md d scr Q (pc + 3) ls st h k) : AW md d scr Q pc ls (.inl x :: st) h k := by
  intro p l e R s m args below meth c b B D ca H locs lc Qw C hlen hH hL hst RH
  have hx : rg x := ok_hd hst
  have hi := i_eq hx rg0
  have hst2 := ok_tl hst
  by_cases hc : ¬ x = 0
  · exact lv_if_ne C.1 C.2.1 hd ht (fun _ => kt hc p l e R s m args below meth c b B D ca H locs lc Qw C hlen hH hL hst2 RH) (fun q => absurd (hi.mp q) hc)
  · exact lv_if_ne C.1 C.2.1 hd ht (fun q => absurd (fun z => q (hi.mpr z)) hc) (fun _ => kf hc p l e R s m args below meth c b B D ca H locs lc Qw C hlen hH hL hst2 RH)
theorem aw_icmp_lt {x y off : Int} {tgt : Nat} (hd : decode md.2.1 pc = .ok (.if_icmp .lt off, 3)) (ht : (pc : Int) + off = (tgt : Int)) (kt : x < y → AW md d scr Q tgt ls st h k) (kf : ¬ (x < y) → AW md d scr Q (pc + 3) ls st h k) : AW md d scr Q pc ls (.inl y :: .inl x :: st) h k := by
  intro p l e R s m args below meth c b B D ca H locs lc Qw C hlen hH hL hst RH
  have hy : rg y := ok_hd hst
  have hx : rg x := ok_hd (ok_tl hst)
  have hi := i_lt hx hy
  have hst2 := ok_tl (ok_tl hst)
  by_cases hc : x < y
  · exact lv_icmp_lt C.1 C.2.1 hd ht (fun _ => kt hc p l e R s m args below meth c b B D ca H locs lc Qw C hlen hH hL hst2 RH) (fun q => absurd (hi.mpr hc) q)
  · exact lv_icmp_lt C.1 C.2.1 hd ht (fun q => absurd (hi.mp q) hc) (fun _ => kf hc p l e R s m args below meth c b B D ca H locs lc Qw C hlen hH hL hst2 RH)
theorem aw_if_lt {x off : Int} {tgt : Nat} (hd : decode md.2.1 pc = .ok (.ifCond .lt off, 3)) (ht : (pc : Int) + off = (tgt : Int)) (kt : x < 0 → AW md d scr Q tgt ls st h k) (kf : ¬ (x < 0) → AW md d scr Q (pc + 3) ls st h k) : AW md d scr Q pc ls (.inl x :: st) h k := by
  intro p l e R s m args below meth c b B D ca H locs lc Qw C hlen hH hL hst RH
  have hx : rg x := ok_hd hst
  have hi := i_lt hx rg0
  have hst2 := ok_tl hst
  by_cases hc : x < 0
  · exact lv_if_lt C.1 C.2.1 hd ht (fun _ => kt hc p l e R s m args below meth c b B D ca H locs lc Qw C hlen hH hL hst2 RH) (fun q => absurd (hi.mpr hc) q)
  · exact lv_if_lt C.1 C.2.1 hd ht (fun q => absurd (hi.mp q) hc) (fun _ => kf hc p l e R s m args below meth c b B D ca H locs lc Qw C hlen hH hL hst2 RH)
theorem aw_icmp_ge {x y off : Int} {tgt : Nat} (hd : decode md.2.1 pc = .ok (.if_icmp .ge off, 3)) (ht : (pc : Int) + off = (tgt : Int)) (kt : y ≤ x → AW md d scr Q tgt ls st h k) (kf : ¬ (y ≤ x) → AW md d scr Q (pc + 3) ls st h k) : AW md d scr Q pc ls (.inl y :: .inl x :: st) h k := by
  intro p l e R s m args below meth c b B D ca H locs lc Qw C hlen hH hL hst RH
  have hy : rg y := ok_hd hst
  have hx : rg x := ok_hd (ok_tl hst)
  have hi := i_le hy hx
  have hst2 := ok_tl (ok_tl hst)
  by_cases hc : y ≤ x
  · exact lv_icmp_ge C.1 C.2.1 hd ht (fun _ => kt hc p l e R s m args below meth c b B D ca H locs lc Qw C hlen hH hL hst2 RH) (fun q => absurd (hi.mpr hc) q)
  · exact lv_icmp_ge C.1 C.2.1 hd ht (fun q => absurd (hi.mp q) hc) (fun _ => kf hc p l e R s m args below meth c b B D ca H locs lc Qw C hlen hH hL hst2 RH)
theorem aw_if_ge {x off : Int} {tgt : Nat} (hd : decode md.2.1 pc = .ok (.ifCond .ge off, 3)) (ht : (pc : Int) + off = (tgt : Int)) (kt : 0 ≤ x → AW md d scr Q tgt ls st h k) (kf : ¬ (0 ≤ x) → AW md d scr Q (pc + 3) ls st h k) : AW md d scr Q pc ls (.inl x :: st) h k := by
  intro p l e R s m args below meth c b B D ca H locs lc Qw C hlen hH hL hst RH
  have hx : rg x := ok_hd hst
  have hi := i_le rg0 hx
  have hst2 := ok_tl hst
  by_cases hc : 0 ≤ x
  · exact lv_if_ge C.1 C.2.1 hd ht (fun _ => kt hc p l e R s m args below meth c b B D ca H locs lc Qw C hlen hH hL hst2 RH) (fun q => absurd (hi.mpr hc) q)
  · exact lv_if_ge C.1 C.2.1 hd ht (fun q => absurd (hi.mp q) hc) (fun _ => kf hc p l e R s m args below meth c b B D ca H locs lc Qw C hlen hH hL hst2 RH)
theorem aw_icmp_gt {x y off : Int} {tgt : Nat} (hd : decode md.2.1 pc = .ok (.if_icmp .gt off, 3)) (ht : (pc : Int) + off = (tgt : Int)) (kt : y < x → AW md d scr Q tgt ls st h k) (kf : ¬ (y < x) → AW md d scr Q (pc + 3) ls st h k) : AW md d scr Q pc ls (.inl y :: .inl x :: st) h k := by
  intro p l e R s m args below meth c b B D ca H locs lc Qw C hlen hH hL hst RH
  have hy : rg y := ok_hd hst
  have hx : rg x := ok_hd (ok_tl hst)
  have hi := i_lt hy hx
  have hst2 := ok_tl (ok_tl hst)
  by_cases hc : y < x
  · exact lv_icmp_gt C.1 C.2.1 hd ht (fun _ => kt hc p l e R s m args below meth c b B D ca H locs lc Qw C hlen hH hL hst2 RH) (fun q => absurd (hi.mpr hc) q)
  · exact lv_icmp_gt C.1 C.2.1 hd ht (fun q => absurd (hi.mp q) hc) (fun _ => kf hc p l e R s m args below meth c b B D ca H locs lc Qw C hlen hH hL hst2 RH)
theorem aw_if_gt {x off : Int} {tgt : Nat} (hd : decode md.2.1 pc = .ok (.ifCond .gt off, 3)) (ht : (pc : Int) + off = (tgt : Int)) (kt : 0 < x → AW md d scr Q tgt ls st h k) (kf : ¬ (0 < x) → AW md d scr Q (pc + 3) ls st h k) : AW md d scr Q pc ls (.inl x :: st) h k := by
  intro p l e R s m args below meth c b B D ca H locs lc Qw C hlen hH hL hst RH
  have hx : rg x := ok_hd hst
  have hi := i_lt rg0 hx
  have hst2 := ok_tl hst
  by_cases hc : 0 < x
  · exact lv_if_gt C.1 C.2.1 hd ht (fun _ => kt hc p l e R s m args below meth c b B D ca H locs lc Qw C hlen hH hL hst2 RH) (fun q => absurd (hi.mpr hc) q)
  · exact lv_if_gt C.1 C.2.1 hd ht (fun q => absurd (hi.mp q) hc) (fun _ => kf hc p l e R s m args below meth c b B D ca H locs lc Qw C hlen hH hL hst2 RH)
theorem aw_icmp_le {x y off : Int} {tgt : Nat} (hd : decode md.2.1 pc = .ok (.if_icmp .le off, 3)) (ht : (pc : Int) + off = (tgt : Int)) (kt : x ≤ y → AW md d scr Q tgt ls st h k) (kf : ¬ (x ≤ y) → AW md d scr Q (pc + 3) ls st h k) : AW md d scr Q pc ls (.inl y :: .inl x :: st) h k := by
  intro p l e R s m args below meth c b B D ca H locs lc Qw C hlen hH hL hst RH
  have hy : rg y := ok_hd hst
  have hx : rg x := ok_hd (ok_tl hst)
  have hi := i_le hx hy
  have hst2 := ok_tl (ok_tl hst)
  by_cases hc : x ≤ y
  · exact lv_icmp_le C.1 C.2.1 hd ht (fun _ => kt hc p l e R s m args below meth c b B D ca H locs lc Qw C hlen hH hL hst2 RH) (fun q => absurd (hi.mpr hc) q)
  · exact lv_icmp_le C.1 C.2.1 hd ht (fun q => absurd (hi.mp q) hc) (fun _ => kf hc p l e R s m args below meth c b B D ca H locs lc Qw C hlen hH hL hst2 RH)
theorem aw_if_le {x off : Int} {tgt : Nat} (hd : decode md.2.1 pc = .ok (.ifCond .le off, 3)) (ht : (pc : Int) + off = (tgt : Int)) (kt : x ≤ 0 → AW md d scr Q tgt ls st h k) (kf : ¬ (x ≤ 0) → AW md d scr Q (pc + 3) ls st h k) : AW md d scr Q pc ls (.inl x :: st) h k := by
  intro p l e R s m args below meth c b B D ca H locs lc Qw C hlen hH hL hst RH
  have hx : rg x := ok_hd hst
  have hi := i_le hx rg0
  have hst2 := ok_tl hst
  by_cases hc : x ≤ 0
  · exact lv_if_le C.1 C.2.1 hd ht (fun _ => kt hc p l e R s m args below meth c b B D ca H locs lc Qw C hlen hH hL hst2 RH) (fun q => absurd (hi.mpr hc) q)
  · exact lv_if_le C.1 C.2.1 hd ht (fun q => absurd (hi.mp q) hc) (fun _ => kf hc p l e R s m args below meth c b B D ca H locs lc Qw C hlen hH hL hst2 RH)
theorem aw_ifnull {r : Option Nat} {off : Int} {tgt : Nat} (hd : decode md.2.1 pc = .ok (.ifnull off, 3)) (ht : (pc : Int) + off = (tgt : Int)) (kt : r = none → AW md d scr Q tgt ls st h k) (kf : r ≠ none → AW md d scr Q (pc + 3) ls st h k) : AW md d scr Q pc ls (.inr r :: st) h k := by
  intro p l e R s m args below meth c b B D ca H locs lc Qw C hlen hH hL hst RH
  cases r with
  | none => exact lv_ifnullN C.1 C.2.1 hd ht (kt rfl p l e R s m args below meth c b B D ca H locs lc Qw C hlen hH hL (ok_tl hst) RH)
  | some j => exact lv_ifnull C.1 C.2.1 hd (kf (fun q => by cases q) p l e R s m args below meth c b B D ca H locs lc Qw C hlen hH hL (ok_tl hst) RH)
theorem aw_ifnonnull {r : Option Nat} {off : Int} {tgt : Nat} (hd : decode md.2.1 pc = .ok (.ifnonnull off, 3)) (ht : (pc : Int) + off = (tgt : Int)) (kt : r ≠ none → AW md d scr Q tgt ls st h k) (kf : r = none → AW md d scr Q (pc + 3) ls st h k) : AW md d scr Q pc ls (.inr r :: st) h k := by
  intro p l e R s m args below meth c b B D ca H locs lc Qw C hlen hH hL hst RH
  cases r with
  | none => exact lv_ifnonnullN C.1 C.2.1 hd (kf rfl p l e R s m args below meth c b B D ca H locs lc Qw C hlen hH hL (ok_tl hst) RH)
  | some j => exact lv_ifnonnull C.1 C.2.1 hd ht (kt (fun q => by cases q) p l e R s m args below meth c b B D ca H locs lc Qw C hlen hH hL (ok_tl hst) RH)
theorem aw_tblOut {dflt lo hi x : Int} {offs : Array Int} {len tgt : Nat} (hd : decode md.2.1 pc = .ok (.tableswitch dflt lo hi offs, len)) (hx : x < lo ∨ hi < x) (ht : (pc : Int) + dflt = (tgt : Int)) (kk : AW md d scr Q tgt ls st h k) : AW md d scr Q pc ls (.inl x :: st) h k := by
  intro p l e R s m args below meth c b B D ca H locs lc Qw C hlen hH hL hst RH
  exact lv_tableOut C.1 C.2.1 hd (by rw [ti (ok_hd hst)]; exact hx) ht (kk p l e R s m args below meth c b B D ca H locs lc Qw C hlen hH hL (ok_tl hst) RH)
theorem aw_tblIn {dflt lo hi x off : Int} {offs : Array Int} {len tgt : Nat} (hd : decode md.2.1 pc = .ok (.tableswitch dflt lo hi offs, len)) (h1 : lo ≤ x) (h2 : x ≤ hi) (ho : offs[(x - lo).toNat]? = some off) (ht : (pc : Int) + off = (tgt : Int)) (kk : AW md d scr Q tgt ls st h k) : AW md d scr Q pc ls (.inl x :: st) h k := by
  intro p l e R s m args below meth c b B D ca H locs lc Qw C hlen hH hL hst RH
  have hx : (Int32.ofInt x).toInt = x := ti (ok_hd hst)
  exact lv_tableIn C.1 C.2.1 hd (by rw [hx]; omega) (by rw [hx]; omega) (by rw [hx]; exact ho) ht (kk p l e R s m args below meth c b B D ca H locs lc Qw C hlen hH hL (ok_tl hst) RH)
theorem aw_lookup {dflt x off : Int} {ps : Array (Int × Int)} {len tgt : Nat} (hd : decode md.2.1 pc = .ok (.lookupswitch dflt ps, len)) (hp : (ps.toList.zip (ps.toList.drop 1)).all (fun (a, next) => a.1 < next.1) = true) (ho : Op.lookupswitch.offset ps.toList dflt x = off) (ht : (pc : Int) + off = (tgt : Int)) (kk : AW md d scr Q tgt ls st h k) : AW md d scr Q pc ls (.inl x :: st) h k := by
  intro p l e R s m args below meth c b B D ca H locs lc Qw C hlen hH hL hst RH
  have hx : (Int32.ofInt x).toInt = x := ti (ok_hd hst)
  exact lv_lookup C.1 C.2.1 hd hp (by rw [hx]; exact ho) ht (kk p l e R s m args below meth c b B D ca H locs lc Qw C hlen hH hL (ok_tl hst) RH)
theorem aw_okH (kk : okH h → AW md d scr Q pc ls st h k) : AW md d scr Q pc ls st h k := by
  intro p l e R s m args below meth c b B D ca H locs lc Qw C hlen hH hL hst RH
  exact kk hH.1.2.2 p l e R s m args below meth c b B D ca H locs lc Qw C hlen hH hL hst RH
theorem aw_okl (kk : (∀ (i : Nat) (v : AV), ls[i]? = some (some v) → ok v) → AW md d scr Q pc ls st h k) : AW md d scr Q pc ls st h k := by
  intro p l e R s m args below meth c b B D ca H locs lc Qw C hlen hH hL hst RH
  exact kk hL.2 p l e R s m args below meth c b B D ca H locs lc Qw C hlen hH hL hst RH
end RU
