/-! constructors -/
/-- a new row in a field -/
def fld (h : AH) (j : Nat) (k : Int) (kd : Nat × Nat) : AH := ur (nw h kd) j k (some (h.1 + 1))
/-- h' has n objects; those ahead of j are as they were -/
def IN (h h' : AH) (j n : Nat) : Prop := h'.1 = n ∧ (∀ a, a ≤ j → hk h' a = hk h a) ∧ ∀ a, a < j → hr h' a = hr h a ∧ hi h' a = hi h a
section INIT
variable {d : Nat} {h : AH}
theorem n_fld {j : Nat} {k : Int} {kd : Nat × Nat} : (fld h j k kd).1 = h.1 + 1 := rfl
theorem n_up {j : Nat} {k v : Int} : (up h j k v).1 = h.1 := rfl
theorem hk_fld {j a : Nat} {k : Int} {kd : Nat × Nat} : hk (fld h j k kd) a = if a = h.1 + 1 then kd else hk h a := rfl
theorem hr_fld {j a : Nat} {k b : Int} {kd : Nat × Nat} : hr (fld h j k kd) a b = if a = j ∧ b = k then some (h.1 + 1) else if a = h.1 + 1 then none else hr h a b := rfl
theorem hi_fld {j a : Nat} {k b : Int} {kd : Nat × Nat} : hi (fld h j k kd) a b = if a = h.1 + 1 then 0 else hi h a b := rfl
theorem hkW {a : Nat} {kd x : Nat × Nat} (e : hk h a = x) (n : a ≤ h.1) : hk (nw h kd) a = x := by
  show (if a = h.1 + 1 then kd else hk h a) = x
  rw [if_neg (by omega)]
  exact e
theorem hkF {a j : Nat} {k : Int} {kd x : Nat × Nat} (e : hk h a = x) (n : a ≤ h.1) : hk (fld h j k kd) a = x := hkW e n
theorem hkF_ne {a j : Nat} {k : Int} {kd : Nat × Nat} (n : a ≠ h.1 + 1) : hk (fld h j k kd) a = hk h a := if_neg n
theorem hkF_eq {a j : Nat} {k : Int} {kd : Nat × Nat} (n : a = h.1 + 1) : hk (fld h j k kd) a = kd := if_pos n
theorem hrF_eq {j : Nat} {k : Int} {kd : Nat × Nat} : hr (fld h j k kd) j k = some (h.1 + 1) := if_pos ⟨rfl, rfl⟩
theorem hrF_ne {a j : Nat} {k b : Int} {kd : Nat × Nat} (n1 : ¬ (a = j ∧ b = k)) (n : a ≠ h.1 + 1) : hr (fld h j k kd) a b = hr h a b := (if_neg n1).trans (if_neg n)
theorem hiF_ne {a j : Nat} {k b : Int} {kd : Nat × Nat} (n : a ≠ h.1 + 1) : hi (fld h j k kd) a b = hi h a b := if_neg n
theorem hiF_eq {a j : Nat} {k b : Int} {kd : Nat × Nat} (n : a = h.1 + 1) : hi (fld h j k kd) a b = 0 := if_pos n
theorem aw_obj0 {md : MD} {scr : SX} {Q : Option Int → AH → Prop} {pc : Nat} {ls : List (Option AV)} {st : List AV} {k : Nat × Nat} {idx j : Nat} (h0 : j ≠ 0) (hd : decode md.2.1 pc = .ok (.invokespecial idx, 3)) (hl : Cond.methodLink md.1.cls idx objectInit ∈ tbG) (hi : Cond.instanceMethod objectInit ∈ tbG) (hc : Cond.code objectInit ⟨#[0xb1]⟩ 1 none ∈ tbG) (hd1 : 1 ≤ d) (hst8 : st.length + 2 * nbt scr ≤ 8) (kk : AW md d scr Q (pc + 3) ls st h k) : AW md d scr Q pc ls (.inr (some j) :: st) h k := by
  cases j with
  | zero => exact absurd rfl h0
  | succ j => exact aw_objInit hd hl hi hc hd1 hst8 kk
set_option maxRecDepth 100000 in
set_option maxHeartbeats 4000000 in
theorem i_X1 {j : Nat} (hd : 1 ≤ d) (hn : h.1 = j) (h0 : j ≠ 0) (hx : hk h j = (0, 1)) : AM d m_X1_init [.inr (some j)] h (fun r h' => r = none ∧ IN h h' j (j + 6) ∧ QP h' j ∧ hi h' j 6 = 0) := by
  have p0 : j ≤ h.1 := by omega
  refine am_body mo_X1_init (Nat.le_of_ble_eq_true rfl) ?_
  show AW m_X1_init d none _ 0 [some (.inr (some j))] [] h (0, 0)
  refine aw_aload_n (pc := 0) dX1_init_0 rfl ?_
  refine aw_obj0 (pc := 1) h0 dX1_init_1 ml_X1_3 im_obj oc_obj (by omega) (by decide) ?_
  refine aw_aload_n (pc := 4) dX1_init_4 rfl ?_
  refine aw_bipush (pc := 5) dX1_init_5 ?_
  refine aw_newarr_int (pc := 7) (n := 20) dX1_init_7 rfl ac_int rfl (by decide) (by decide) (by decide) ?_
  refine aw_putrF (pc := 9) dX1_init_9 fl_X1_9 (by decide) rfl ⟨rfl, rfl, rfl⟩ (hkW hx p0) ?_
  refine aw_aload_n (pc := 12) dX1_init_12 rfl ?_
  refine aw_bipush (pc := 13) dX1_init_13 ?_
  refine aw_newarr_int (pc := 15) (n := 20) dX1_init_15 rfl ac_int rfl (by decide) (by decide) (by decide) ?_
  refine aw_putrF (pc := 17) dX1_init_17 fl_X1_15 (by decide) rfl ⟨rfl, rfl, rfl⟩ (hkW (hkF hx p0) (Nat.le_succ_of_le p0)) ?_
  refine aw_aload_n (pc := 20) dX1_init_20 rfl ?_
  refine aw_bipush (pc := 21) dX1_init_21 ?_
  refine aw_newarr_int (pc := 23) (n := 20) dX1_init_23 rfl ac_int rfl (by decide) (by decide) (by decide) ?_
  refine aw_putrF (pc := 25) dX1_init_25 fl_X1_18 (by decide) rfl ⟨rfl, rfl, rfl⟩ (hkW (hkF (hkF hx p0) (Nat.le_succ_of_le p0)) (Nat.le_succ_of_le (Nat.le_succ_of_le p0))) ?_
  refine aw_aload_n (pc := 28) dX1_init_28 rfl ?_
  refine aw_bipush (pc := 29) dX1_init_29 ?_
  refine aw_newarr_int (pc := 31) (n := 20) dX1_init_31 rfl ac_int rfl (by decide) (by decide) (by decide) ?_
  refine aw_putrF (pc := 33) dX1_init_33 fl_X1_21 (by decide) rfl ⟨rfl, rfl, rfl⟩ (hkW (hkF (hkF (hkF hx p0) (Nat.le_succ_of_le p0)) (Nat.le_succ_of_le (Nat.le_succ_of_le p0))) (Nat.le_succ_of_le (Nat.le_succ_of_le (Nat.le_succ_of_le p0)))) ?_
  refine aw_aload_n (pc := 36) dX1_init_36 rfl ?_
  refine aw_bipush (pc := 37) dX1_init_37 ?_
  refine aw_newarr_bool (pc := 39) (n := 20) dX1_init_39 rfl ac_boolean rfl (by decide) (by decide) (by decide) ?_
  refine aw_putrF (pc := 41) dX1_init_41 fl_X1_24 (by decide) rfl ⟨rfl, rfl, rfl⟩ (hkW (hkF (hkF (hkF (hkF hx p0) (Nat.le_succ_of_le p0)) (Nat.le_succ_of_le (Nat.le_succ_of_le p0))) (Nat.le_succ_of_le (Nat.le_succ_of_le (Nat.le_succ_of_le p0)))) (Nat.le_succ_of_le (Nat.le_succ_of_le (Nat.le_succ_of_le (Nat.le_succ_of_le p0))))) ?_
  refine aw_aload_n (pc := 44) dX1_init_44 rfl ?_
  refine aw_bipush (pc := 45) dX1_init_45 ?_
  refine aw_newarr_bool (pc := 47) (n := 20) dX1_init_47 rfl ac_boolean rfl (by decide) (by decide) (by decide) ?_
  refine aw_putrF (pc := 49) dX1_init_49 fl_X1_28 (by decide) rfl ⟨rfl, rfl, rfl⟩ (hkW (hkF (hkF (hkF (hkF (hkF hx p0) (Nat.le_succ_of_le p0)) (Nat.le_succ_of_le (Nat.le_succ_of_le p0))) (Nat.le_succ_of_le (Nat.le_succ_of_le (Nat.le_succ_of_le p0)))) (Nat.le_succ_of_le (Nat.le_succ_of_le (Nat.le_succ_of_le (Nat.le_succ_of_le p0))))) (Nat.le_succ_of_le (Nat.le_succ_of_le (Nat.le_succ_of_le (Nat.le_succ_of_le (Nat.le_succ_of_le p0)))))) ?_
  refine aw_aload_n (pc := 52) dX1_init_52 rfl ?_
  refine aw_iconst (pc := 53) dX1_init_53 ?_
  refine ax_puti (pc := 54) dX1_init_54 fl_X1_31 (by decide) rfl rfl rfl (hkF (hkF (hkF (hkF (hkF (hkF hx p0) (Nat.le_succ_of_le p0)) (Nat.le_succ_of_le (Nat.le_succ_of_le p0))) (Nat.le_succ_of_le (Nat.le_succ_of_le (Nat.le_succ_of_le p0)))) (Nat.le_succ_of_le (Nat.le_succ_of_le (Nat.le_succ_of_le (Nat.le_succ_of_le p0))))) (Nat.le_succ_of_le (Nat.le_succ_of_le (Nat.le_succ_of_le (Nat.le_succ_of_le (Nat.le_succ_of_le p0)))))) ?_
  refine aw_return (pc := 57) dX1_init_57 rfl ?_ (by decide) (by decide)
  show none = none ∧ IN h (up (fld (fld (fld (fld (fld (fld h j 0 (1, 20)) j 1 (1, 20)) j 2 (1, 20)) j 3 (1, 20)) j 4 (2, 20)) j 5 (2, 20)) j 6 0) j (j + 6) ∧ QP (up (fld (fld (fld (fld (fld (fld h j 0 (1, 20)) j 1 (1, 20)) j 2 (1, 20)) j 3 (1, 20)) j 4 (2, 20)) j 5 (2, 20)) j 6 0) j ∧ hi (up (fld (fld (fld (fld (fld (fld h j 0 (1, 20)) j 1 (1, 20)) j 2 (1, 20)) j 3 (1, 20)) j 4 (2, 20)) j 5 (2, 20)) j 6 0) j 6 = 0
  refine ⟨rfl, ⟨by show h.1 + 1 + 1 + 1 + 1 + 1 + 1 = j + 6; omega, fun a ha => by rw [hk_up]; rw [hkF_ne (by first | omega | (simp only [n_fld, n_up]; omega))]; rw [hkF_ne (by first | omega | (simp only [n_fld, n_up]; omega))]; rw [hkF_ne (by first | omega | (simp only [n_fld, n_up]; omega))]; rw [hkF_ne (by first | omega | (simp only [n_fld, n_up]; omega))]; rw [hkF_ne (by first | omega | (simp only [n_fld, n_up]; omega))]; rw [hkF_ne (by first | omega | (simp only [n_fld, n_up]; omega))], fun a ha => ⟨by funext b; rw [hr_up]; rw [hrF_ne (by omega) (by first | omega | (simp only [n_fld, n_up]; omega))]; rw [hrF_ne (by omega) (by first | omega | (simp only [n_fld, n_up]; omega))]; rw [hrF_ne (by omega) (by first | omega | (simp only [n_fld, n_up]; omega))]; rw [hrF_ne (by omega) (by first | omega | (simp only [n_fld, n_up]; omega))]; rw [hrF_ne (by omega) (by first | omega | (simp only [n_fld, n_up]; omega))]; rw [hrF_ne (by omega) (by first | omega | (simp only [n_fld, n_up]; omega))], by funext b; rw [hi_up, if_neg (by omega)]; rw [hiF_ne (by first | omega | (simp only [n_fld, n_up]; omega))]; rw [hiF_ne (by first | omega | (simp only [n_fld, n_up]; omega))]; rw [hiF_ne (by first | omega | (simp only [n_fld, n_up]; omega))]; rw [hiF_ne (by first | omega | (simp only [n_fld, n_up]; omega))]; rw [hiF_ne (by first | omega | (simp only [n_fld, n_up]; omega))]; rw [hiF_ne (by first | omega | (simp only [n_fld, n_up]; omega))]⟩⟩, ⟨by rw [hk_up]; rw [hkF_ne (by first | omega | (simp only [n_fld, n_up]; omega))]; rw [hkF_ne (by first | omega | (simp only [n_fld, n_up]; omega))]; rw [hkF_ne (by first | omega | (simp only [n_fld, n_up]; omega))]; rw [hkF_ne (by first | omega | (simp only [n_fld, n_up]; omega))]; rw [hkF_ne (by first | omega | (simp only [n_fld, n_up]; omega))]; rw [hkF_ne (by first | omega | (simp only [n_fld, n_up]; omega))]; exact hx, by rw [hr_up]; rw [hrF_ne (by omega) (by first | omega | (simp only [n_fld, n_up]; omega))]; rw [hrF_ne (by omega) (by first | omega | (simp only [n_fld, n_up]; omega))]; rw [hrF_ne (by omega) (by first | omega | (simp only [n_fld, n_up]; omega))]; rw [hrF_ne (by omega) (by first | omega | (simp only [n_fld, n_up]; omega))]; rw [hrF_ne (by omega) (by first | omega | (simp only [n_fld, n_up]; omega))]; rw [hrF_eq]; simp only [n_fld, n_up, hn], by rw [hk_up]; rw [hkF_ne (by first | omega | (simp only [n_fld, n_up]; omega))]; rw [hkF_ne (by first | omega | (simp only [n_fld, n_up]; omega))]; rw [hkF_ne (by first | omega | (simp only [n_fld, n_up]; omega))]; rw [hkF_ne (by first | omega | (simp only [n_fld, n_up]; omega))]; rw [hkF_ne (by first | omega | (simp only [n_fld, n_up]; omega))]; rw [hkF_eq (by first | omega | (simp only [n_fld, n_up]; omega))], by rw [hr_up]; rw [hrF_ne (by omega) (by first | omega | (simp only [n_fld, n_up]; omega))]; rw [hrF_ne (by omega) (by first | omega | (simp only [n_fld, n_up]; omega))]; rw [hrF_ne (by omega) (by first | omega | (simp only [n_fld, n_up]; omega))]; rw [hrF_ne (by omega) (by first | omega | (simp only [n_fld, n_up]; omega))]; rw [hrF_eq]; simp only [n_fld, n_up, hn], by rw [hk_up]; rw [hkF_ne (by first | omega | (simp only [n_fld, n_up]; omega))]; rw [hkF_ne (by first | omega | (simp only [n_fld, n_up]; omega))]; rw [hkF_ne (by first | omega | (simp only [n_fld, n_up]; omega))]; rw [hkF_ne (by first | omega | (simp only [n_fld, n_up]; omega))]; rw [hkF_eq (by first | omega | (simp only [n_fld, n_up]; omega))], by rw [hr_up]; rw [hrF_ne (by omega) (by first | omega | (simp only [n_fld, n_up]; omega))]; rw [hrF_ne (by omega) (by first | omega | (simp only [n_fld, n_up]; omega))]; rw [hrF_ne (by omega) (by first | omega | (simp only [n_fld, n_up]; omega))]; rw [hrF_eq]; simp only [n_fld, n_up, hn], by rw [hk_up]; rw [hkF_ne (by first | omega | (simp only [n_fld, n_up]; omega))]; rw [hkF_ne (by first | omega | (simp only [n_fld, n_up]; omega))]; rw [hkF_ne (by first | omega | (simp only [n_fld, n_up]; omega))]; rw [hkF_eq (by first | omega | (simp only [n_fld, n_up]; omega))], by rw [hr_up]; rw [hrF_ne (by omega) (by first | omega | (simp only [n_fld, n_up]; omega))]; rw [hrF_ne (by omega) (by first | omega | (simp only [n_fld, n_up]; omega))]; rw [hrF_eq]; simp only [n_fld, n_up, hn], by rw [hk_up]; rw [hkF_ne (by first | omega | (simp only [n_fld, n_up]; omega))]; rw [hkF_ne (by first | omega | (simp only [n_fld, n_up]; omega))]; rw [hkF_eq (by first | omega | (simp only [n_fld, n_up]; omega))], by rw [hr_up]; rw [hrF_ne (by omega) (by first | omega | (simp only [n_fld, n_up]; omega))]; rw [hrF_eq]; simp only [n_fld, n_up, hn], by rw [hk_up]; rw [hkF_ne (by first | omega | (simp only [n_fld, n_up]; omega))]; rw [hkF_eq (by first | omega | (simp only [n_fld, n_up]; omega))], by rw [hr_up]; rw [hrF_eq]; simp only [n_fld, n_up, hn], by rw [hk_up]; rw [hkF_eq (by first | omega | (simp only [n_fld, n_up]; omega))]⟩, by rw [hi_up, if_pos ⟨rfl, rfl⟩]⟩
set_option maxRecDepth 100000 in
set_option maxHeartbeats 4000000 in
theorem i_X5 {j : Nat} (hd : 1 ≤ d) (hn : h.1 = j) (h0 : j ≠ 0) (hx : hk h j = (0, 5)) : AM d m_X5_init [.inr (some j)] h (fun r h' => r = none ∧ IN h h' j (j + 1) ∧ QT h' j ∧ hi h' j 1 = 0) := by
  have p0 : j ≤ h.1 := by omega
  refine am_body mo_X5_init (Nat.le_of_ble_eq_true rfl) ?_
  show AW m_X5_init d none _ 0 [some (.inr (some j))] [] h (0, 0)
  refine aw_aload_n (pc := 0) dX5_init_0 rfl ?_
  refine aw_obj0 (pc := 1) h0 dX5_init_1 ml_X5_3 im_obj oc_obj (by omega) (by decide) ?_
  refine aw_aload_n (pc := 4) dX5_init_4 rfl ?_
  refine aw_sipush (pc := 5) dX5_init_5 ?_
  refine aw_newarr_int (pc := 8) (n := 200) dX5_init_8 rfl ac_int rfl (by decide) (by decide) (by decide) ?_
  refine aw_putrF (pc := 10) dX5_init_10 fl_X5_9 (by decide) rfl ⟨rfl, rfl, rfl⟩ (hkW hx p0) ?_
  refine aw_aload_n (pc := 13) dX5_init_13 rfl ?_
  refine aw_iconst (pc := 14) dX5_init_14 ?_
  refine ax_puti (pc := 15) dX5_init_15 fl_X5_15 (by decide) rfl rfl rfl (hkF hx p0) ?_
  refine aw_return (pc := 18) dX5_init_18 rfl ?_ (by decide) (by decide)
  show none = none ∧ IN h (up (fld h j 0 (1, 200)) j 1 0) j (j + 1) ∧ QT (up (fld h j 0 (1, 200)) j 1 0) j ∧ hi (up (fld h j 0 (1, 200)) j 1 0) j 1 = 0
  refine ⟨rfl, ⟨by show h.1 + 1 = j + 1; omega, fun a ha => by rw [hk_up]; rw [hkF_ne (by first | omega | (simp only [n_fld, n_up]; omega))], fun a ha => ⟨by funext b; rw [hr_up]; rw [hrF_ne (by omega) (by first | omega | (simp only [n_fld, n_up]; omega))], by funext b; rw [hi_up, if_neg (by omega)]; rw [hiF_ne (by first | omega | (simp only [n_fld, n_up]; omega))]⟩⟩, ⟨by rw [hk_up]; rw [hkF_ne (by first | omega | (simp only [n_fld, n_up]; omega))]; exact hx, by rw [hr_up]; rw [hrF_eq]; simp only [n_fld, n_up, hn], by rw [hk_up]; rw [hkF_eq (by first | omega | (simp only [n_fld, n_up]; omega))]⟩, by rw [hi_up, if_pos ⟨rfl, rfl⟩]⟩
set_option maxRecDepth 100000 in
set_option maxHeartbeats 4000000 in
theorem i_X3 {j : Nat} (hd : 1 ≤ d) (hn : h.1 = j) (h0 : j ≠ 0) (hx : hk h j = (0, 3)) : AM d m_X3_init [.inr (some j)] h (fun r h' => r = none ∧ IN h h' j (j + 0) ∧ QY h' j ∧ hi h' j 0 = 0 ∧ hi h' j 1 = 0 ∧ hi h' j 2 = 0 ∧ hi h' j 3 = 0 ∧ hi h' j 4 = 0 ∧ hi h' j 5 = 0 ∧ hi h' j 6 = 0 ∧ hi h' j 7 = 0) := by
  have p0 : j ≤ h.1 := by omega
  refine am_body mo_X3_init (Nat.le_of_ble_eq_true rfl) ?_
  show AW m_X3_init d none _ 0 [some (.inr (some j))] [] h (0, 0)
  refine aw_aload_n (pc := 0) dX3_init_0 rfl ?_
  refine aw_obj0 (pc := 1) h0 dX3_init_1 ml_X3_3 im_obj oc_obj (by omega) (by decide) ?_
  refine aw_aload_n (pc := 4) dX3_init_4 rfl ?_
  refine aw_iconst (pc := 5) dX3_init_5 ?_
  refine ax_puti (pc := 6) dX3_init_6 fl_X3_9 (by decide) rfl rfl rfl hx ?_
  refine aw_aload_n (pc := 9) dX3_init_9 rfl ?_
  refine aw_iconst (pc := 10) dX3_init_10 ?_
  refine ax_puti (pc := 11) dX3_init_11 fl_X3_15 (by decide) rfl rfl rfl (hkU hx) ?_
  refine aw_aload_n (pc := 14) dX3_init_14 rfl ?_
  refine aw_iconst (pc := 15) dX3_init_15 ?_
  refine ax_puti (pc := 16) dX3_init_16 fl_X3_18 (by decide) rfl rfl rfl (hkU (hkU hx)) ?_
  refine aw_aload_n (pc := 19) dX3_init_19 rfl ?_
  refine aw_iconst (pc := 20) dX3_init_20 ?_
  refine ax_puti (pc := 21) dX3_init_21 fl_X3_21 (by decide) rfl rfl rfl (hkU (hkU (hkU hx))) ?_
  refine aw_aload_n (pc := 24) dX3_init_24 rfl ?_
  refine aw_iconst (pc := 25) dX3_init_25 ?_
  refine ax_puti (pc := 26) dX3_init_26 fl_X3_24 (by decide) rfl rfl rfl (hkU (hkU (hkU (hkU hx)))) ?_
  refine aw_aload_n (pc := 29) dX3_init_29 rfl ?_
  refine aw_iconst (pc := 30) dX3_init_30 ?_
  refine ax_puti (pc := 31) dX3_init_31 fl_X3_27 (by decide) rfl rfl rfl (hkU (hkU (hkU (hkU (hkU hx))))) ?_
  refine aw_aload_n (pc := 34) dX3_init_34 rfl ?_
  refine aw_iconst (pc := 35) dX3_init_35 ?_
  refine ax_puti (pc := 36) dX3_init_36 fl_X3_30 (by decide) rfl rfl rfl (hkU (hkU (hkU (hkU (hkU (hkU hx)))))) ?_
  refine aw_aload_n (pc := 39) dX3_init_39 rfl ?_
  refine aw_iconst (pc := 40) dX3_init_40 ?_
  refine ax_puti (pc := 41) dX3_init_41 fl_X3_33 (by decide) rfl rfl rfl (hkU (hkU (hkU (hkU (hkU (hkU (hkU hx))))))) ?_
  refine aw_return (pc := 44) dX3_init_44 rfl ?_ (by decide) (by decide)
  show none = none ∧ IN h (up (up (up (up (up (up (up (up h j 0 0) j 1 0) j 2 0) j 3 0) j 4 0) j 5 0) j 6 0) j 7 0) j (j + 0) ∧ QY (up (up (up (up (up (up (up (up h j 0 0) j 1 0) j 2 0) j 3 0) j 4 0) j 5 0) j 6 0) j 7 0) j ∧ hi (up (up (up (up (up (up (up (up h j 0 0) j 1 0) j 2 0) j 3 0) j 4 0) j 5 0) j 6 0) j 7 0) j 0 = 0 ∧ hi (up (up (up (up (up (up (up (up h j 0 0) j 1 0) j 2 0) j 3 0) j 4 0) j 5 0) j 6 0) j 7 0) j 1 = 0 ∧ hi (up (up (up (up (up (up (up (up h j 0 0) j 1 0) j 2 0) j 3 0) j 4 0) j 5 0) j 6 0) j 7 0) j 2 = 0 ∧ hi (up (up (up (up (up (up (up (up h j 0 0) j 1 0) j 2 0) j 3 0) j 4 0) j 5 0) j 6 0) j 7 0) j 3 = 0 ∧ hi (up (up (up (up (up (up (up (up h j 0 0) j 1 0) j 2 0) j 3 0) j 4 0) j 5 0) j 6 0) j 7 0) j 4 = 0 ∧ hi (up (up (up (up (up (up (up (up h j 0 0) j 1 0) j 2 0) j 3 0) j 4 0) j 5 0) j 6 0) j 7 0) j 5 = 0 ∧ hi (up (up (up (up (up (up (up (up h j 0 0) j 1 0) j 2 0) j 3 0) j 4 0) j 5 0) j 6 0) j 7 0) j 6 = 0 ∧ hi (up (up (up (up (up (up (up (up h j 0 0) j 1 0) j 2 0) j 3 0) j 4 0) j 5 0) j 6 0) j 7 0) j 7 = 0
  refine ⟨rfl, ⟨by show h.1 = j + 0; omega, fun a ha => by rw [hk_up]; rw [hk_up]; rw [hk_up]; rw [hk_up]; rw [hk_up]; rw [hk_up]; rw [hk_up]; rw [hk_up], fun a ha => ⟨by funext b; rw [hr_up]; rw [hr_up]; rw [hr_up]; rw [hr_up]; rw [hr_up]; rw [hr_up]; rw [hr_up]; rw [hr_up], by funext b; rw [hi_up, if_neg (by omega)]; rw [hi_up, if_neg (by omega)]; rw [hi_up, if_neg (by omega)]; rw [hi_up, if_neg (by omega)]; rw [hi_up, if_neg (by omega)]; rw [hi_up, if_neg (by omega)]; rw [hi_up, if_neg (by omega)]; rw [hi_up, if_neg (by omega)]⟩⟩, by show hk (up (up (up (up (up (up (up (up h j 0 0) j 1 0) j 2 0) j 3 0) j 4 0) j 5 0) j 6 0) j 7 0) j = (0, 3); rw [hk_up]; rw [hk_up]; rw [hk_up]; rw [hk_up]; rw [hk_up]; rw [hk_up]; rw [hk_up]; rw [hk_up]; exact hx, by rw [hi_up, if_neg (by omega)]; rw [hi_up, if_neg (by omega)]; rw [hi_up, if_neg (by omega)]; rw [hi_up, if_neg (by omega)]; rw [hi_up, if_neg (by omega)]; rw [hi_up, if_neg (by omega)]; rw [hi_up, if_neg (by omega)]; rw [hi_up, if_pos ⟨rfl, rfl⟩], by rw [hi_up, if_neg (by omega)]; rw [hi_up, if_neg (by omega)]; rw [hi_up, if_neg (by omega)]; rw [hi_up, if_neg (by omega)]; rw [hi_up, if_neg (by omega)]; rw [hi_up, if_neg (by omega)]; rw [hi_up, if_pos ⟨rfl, rfl⟩], by rw [hi_up, if_neg (by omega)]; rw [hi_up, if_neg (by omega)]; rw [hi_up, if_neg (by omega)]; rw [hi_up, if_neg (by omega)]; rw [hi_up, if_neg (by omega)]; rw [hi_up, if_pos ⟨rfl, rfl⟩], by rw [hi_up, if_neg (by omega)]; rw [hi_up, if_neg (by omega)]; rw [hi_up, if_neg (by omega)]; rw [hi_up, if_neg (by omega)]; rw [hi_up, if_pos ⟨rfl, rfl⟩], by rw [hi_up, if_neg (by omega)]; rw [hi_up, if_neg (by omega)]; rw [hi_up, if_neg (by omega)]; rw [hi_up, if_pos ⟨rfl, rfl⟩], by rw [hi_up, if_neg (by omega)]; rw [hi_up, if_neg (by omega)]; rw [hi_up, if_pos ⟨rfl, rfl⟩], by rw [hi_up, if_neg (by omega)]; rw [hi_up, if_pos ⟨rfl, rfl⟩], by rw [hi_up, if_pos ⟨rfl, rfl⟩]⟩
set_option maxRecDepth 100000 in
set_option maxHeartbeats 4000000 in
theorem i_X4 {j : Nat} (hd : 1 ≤ d) (hn : h.1 = j) (h0 : j ≠ 0) (hx : hk h j = (0, 4)) : AM d m_X4_init [.inr (some j)] h (fun r h' => r = none ∧ IN h h' j (j + 3) ∧ QX h' j ∧ hi h' j 1 = 0) := by
  have p0 : j ≤ h.1 := by omega
  refine am_body mo_X4_init (Nat.le_of_ble_eq_true rfl) ?_
  show AW m_X4_init d none _ 0 [some (.inr (some j))] [] h (0, 0)
  refine aw_aload_n (pc := 0) dX4_init_0 rfl ?_
  refine aw_obj0 (pc := 1) h0 dX4_init_1 ml_X4_3 im_obj oc_obj (by omega) (by decide) ?_
  refine aw_aload_n (pc := 4) dX4_init_4 rfl ?_
  refine aw_bipush (pc := 5) dX4_init_5 ?_
  refine aw_newarr_char (pc := 7) (n := 60) dX4_init_7 rfl ac_char rfl (by decide) (by decide) (by decide) ?_
  refine aw_putrF (pc := 9) dX4_init_9 fl_X4_9 (by decide) rfl ⟨rfl, rfl, rfl⟩ (hkW hx p0) ?_
  refine aw_aload_n (pc := 12) dX4_init_12 rfl ?_
  refine aw_iconst (pc := 13) dX4_init_13 ?_
  refine ax_puti (pc := 14) dX4_init_14 fl_X4_15 (by decide) rfl rfl rfl (hkF hx p0) ?_
  refine aw_aload_n (pc := 17) dX4_init_17 rfl ?_
  refine aw_bipush (pc := 18) dX4_init_18 ?_
  refine aw_newarr_char (pc := 20) (n := 30) dX4_init_20 rfl ac_char rfl (by decide) (by decide) (by decide) ?_
  refine aw_putrF (pc := 22) dX4_init_22 fl_X4_19 (by decide) rfl ⟨rfl, rfl, rfl⟩ (hkW (hkU (hkF hx p0)) (Nat.le_succ_of_le p0)) ?_
  refine aw_aload_n (pc := 25) dX4_init_25 rfl ?_
  refine aw_bipush (pc := 26) dX4_init_26 ?_
  refine aw_newarr_int (pc := 28) (n := 30) dX4_init_28 rfl ac_int rfl (by decide) (by decide) (by decide) ?_
  refine aw_putrF (pc := 30) dX4_init_30 fl_X4_22 (by decide) rfl ⟨rfl, rfl, rfl⟩ (hkW (hkF (hkU (hkF hx p0)) (Nat.le_succ_of_le p0)) (Nat.le_succ_of_le (Nat.le_succ_of_le p0))) ?_
  refine aw_aload_n (pc := 33) dX4_init_33 rfl ?_
  refine aw_iconst (pc := 34) dX4_init_34 ?_
  refine ax_puti (pc := 35) dX4_init_35 fl_X4_26 (by decide) rfl rfl rfl (hkF (hkF (hkU (hkF hx p0)) (Nat.le_succ_of_le p0)) (Nat.le_succ_of_le (Nat.le_succ_of_le p0))) ?_
  refine aw_aload_n (pc := 38) dX4_init_38 rfl ?_
  refine aw_iconst (pc := 39) dX4_init_39 ?_
  refine ax_puti (pc := 40) dX4_init_40 fl_X4_29 (by decide) rfl rfl rfl (hkU (hkF (hkF (hkU (hkF hx p0)) (Nat.le_succ_of_le p0)) (Nat.le_succ_of_le (Nat.le_succ_of_le p0)))) ?_
  refine aw_aload_n (pc := 43) dX4_init_43 rfl ?_
  refine aw_iconst (pc := 44) dX4_init_44 ?_
  refine ax_puti (pc := 45) dX4_init_45 fl_X4_32 (by decide) rfl rfl rfl (hkU (hkU (hkF (hkF (hkU (hkF hx p0)) (Nat.le_succ_of_le p0)) (Nat.le_succ_of_le (Nat.le_succ_of_le p0))))) ?_
  refine aw_return (pc := 48) dX4_init_48 rfl ?_ (by decide) (by decide)
  show none = none ∧ IN h (up (up (up (fld (fld (up (fld h j 0 (3, 60)) j 1 0) j 2 (3, 30)) j 3 (1, 30)) j 4 0) j 5 0) j 6 0) j (j + 3) ∧ QX (up (up (up (fld (fld (up (fld h j 0 (3, 60)) j 1 0) j 2 (3, 30)) j 3 (1, 30)) j 4 0) j 5 0) j 6 0) j ∧ hi (up (up (up (fld (fld (up (fld h j 0 (3, 60)) j 1 0) j 2 (3, 30)) j 3 (1, 30)) j 4 0) j 5 0) j 6 0) j 1 = 0
  refine ⟨rfl, ⟨by show h.1 + 1 + 1 + 1 = j + 3; omega, fun a ha => by rw [hk_up]; rw [hk_up]; rw [hk_up]; rw [hkF_ne (by first | omega | (simp only [n_fld, n_up]; omega))]; rw [hkF_ne (by first | omega | (simp only [n_fld, n_up]; omega))]; rw [hk_up]; rw [hkF_ne (by first | omega | (simp only [n_fld, n_up]; omega))], fun a ha => ⟨by funext b; rw [hr_up]; rw [hr_up]; rw [hr_up]; rw [hrF_ne (by omega) (by first | omega | (simp only [n_fld, n_up]; omega))]; rw [hrF_ne (by omega) (by first | omega | (simp only [n_fld, n_up]; omega))]; rw [hr_up]; rw [hrF_ne (by omega) (by first | omega | (simp only [n_fld, n_up]; omega))], by funext b; rw [hi_up, if_neg (by omega)]; rw [hi_up, if_neg (by omega)]; rw [hi_up, if_neg (by omega)]; rw [hiF_ne (by first | omega | (simp only [n_fld, n_up]; omega))]; rw [hiF_ne (by first | omega | (simp only [n_fld, n_up]; omega))]; rw [hi_up, if_neg (by omega)]; rw [hiF_ne (by first | omega | (simp only [n_fld, n_up]; omega))]⟩⟩, ⟨by rw [hk_up]; rw [hk_up]; rw [hk_up]; rw [hkF_ne (by first | omega | (simp only [n_fld, n_up]; omega))]; rw [hkF_ne (by first | omega | (simp only [n_fld, n_up]; omega))]; rw [hk_up]; rw [hkF_ne (by first | omega | (simp only [n_fld, n_up]; omega))]; exact hx, by rw [hr_up]; rw [hr_up]; rw [hr_up]; rw [hrF_ne (by omega) (by first | omega | (simp only [n_fld, n_up]; omega))]; rw [hrF_ne (by omega) (by first | omega | (simp only [n_fld, n_up]; omega))]; rw [hr_up]; rw [hrF_eq]; simp only [n_fld, n_up, hn], by rw [hk_up]; rw [hk_up]; rw [hk_up]; rw [hkF_ne (by first | omega | (simp only [n_fld, n_up]; omega))]; rw [hkF_ne (by first | omega | (simp only [n_fld, n_up]; omega))]; rw [hk_up]; rw [hkF_eq (by first | omega | (simp only [n_fld, n_up]; omega))], by rw [hr_up]; rw [hr_up]; rw [hr_up]; rw [hrF_ne (by omega) (by first | omega | (simp only [n_fld, n_up]; omega))]; rw [hrF_eq]; simp only [n_fld, n_up, hn], by rw [hk_up]; rw [hk_up]; rw [hk_up]; rw [hkF_ne (by first | omega | (simp only [n_fld, n_up]; omega))]; rw [hkF_eq (by first | omega | (simp only [n_fld, n_up]; omega))], by rw [hr_up]; rw [hr_up]; rw [hr_up]; rw [hrF_eq]; simp only [n_fld, n_up, hn], by rw [hk_up]; rw [hk_up]; rw [hk_up]; rw [hkF_eq (by first | omega | (simp only [n_fld, n_up]; omega))]⟩, by rw [hi_up, if_neg (by omega)]; rw [hi_up, if_neg (by omega)]; rw [hi_up, if_neg (by omega)]; rw [hiF_ne (by first | omega | (simp only [n_fld, n_up]; omega))]; rw [hiF_ne (by first | omega | (simp only [n_fld, n_up]; omega))]; rw [hi_up, if_pos ⟨rfl, rfl⟩]⟩
end INIT
