/-! the model: a number drawn (longs), counts of those told -/
theorem cl_X7_139 : Cond.constantLong RX7 139 1103515245 ∈ tbG := mg 893 (by decide +kernel) (by decide +kernel)
theorem cl_X7_141 : Cond.constantLong RX7 141 12345 ∈ tbG := mg 894 (by decide +kernel) (by decide +kernel)
theorem cl_X7_143 : Cond.constantLong RX7 143 2147483648 ∈ tbG := mg 895 (by decide +kernel) (by decide +kernel)
theorem lcg {v : Int} (h0 : 0 ≤ v) (h1 : v < 2147483648) : ((Int32.ofInt v).toInt64 * 1103515245 + 12345 - ((Int32.ofInt v).toInt64 * 1103515245 + 12345) / 2147483648 * 2147483648).toInt32 = Int32.ofInt (nx v) := by
  have m1 : Int32.minValue.toInt = -2147483648 := by decide +kernel
  have m2 : Int32.maxValue.toInt = 2147483647 := by decide +kernel
  have m3 : Int64.minValue.toInt = -9223372036854775808 := by decide +kernel
  have m4 : Int64.maxValue.toInt = 9223372036854775807 := by decide +kernel
  have c1 : (1103515245 : Int64) = Int64.ofInt 1103515245 := by decide +kernel
  have c2 : (12345 : Int64) = Int64.ofInt 12345 := by decide +kernel
  have c3 : (2147483648 : Int64) = Int64.ofInt 2147483648 := by decide +kernel
  have e1 : (Int32.ofInt v).toInt64 = Int64.ofInt v := Int32.toInt64_ofInt (by omega) (by omega)
  rw [e1, c1, c2, c3, ← Int64.ofInt_mul, ← Int64.ofInt_add, ← Int64.ofInt_tdiv (by omega) (by omega) (by omega) (by omega), Int.tdiv_eq_ediv_of_nonneg (by omega), ← Int64.ofInt_mul, ← Int64.ofInt_sub, Int64.toInt32_ofInt]
  congr 1
  unfold nx
  omega
section MODEL17
variable {d : Nat} {h : AH} {s : Ms} {g : Gs}
theorem aw_lcg {Q : Option Int → AH → Prop} {ls : List (Option AV)} {st : List AV} {k : Nat × Nat} {v : Int} (h0 : 0 ≤ v) (h1 : v < 2147483648) (kk : AW m_X7_draw d none Q 25 ls (.inl (nx v) :: st) h k) : AW m_X7_draw d none Q 11 ls (.inl v :: st) h k := by
  intro p l e R s m args below meth c b B D ca H locs lc Qw C hlen hH hL hst RH
  have hn := nx_in v
  refine lv_i2l (pc := 11) C.1 C.2.1 dX7_draw_11 rfl ?_
  refine lv_ldc2 (pc := 12) C.1 C.2.1 C.2.2.2.1 (C.2.2.2.2.1 _ cl_X7_139) dX7_draw_12 ?_
  refine lv_lmul (pc := 15) C.1 C.2.1 dX7_draw_15 ?_
  refine lv_ldc2 (pc := 16) C.1 C.2.1 C.2.2.2.1 (C.2.2.2.2.1 _ cl_X7_141) dX7_draw_16 ?_
  refine lv_ladd (pc := 19) C.1 C.2.1 dX7_draw_19 ?_
  refine lv_ldc2 (pc := 20) C.1 C.2.1 C.2.2.2.1 (C.2.2.2.2.1 _ cl_X7_143) dX7_draw_20 ?_
  refine lv_lrem (pc := 23) C.1 C.2.1 dX7_draw_23 (by decide +kernel) ?_
  refine lv_l2i (pc := 24) C.1 C.2.1 dX7_draw_24 (lcg h0 h1) ?_
  exact kk p l e R s m args below meth c b B D ca H locs lc Qw C hlen hH hL (ok_of ⟨by omega, by omega⟩ (ok_tl hst)) RH
set_option maxRecDepth 100000 in
set_option maxHeartbeats 4000000 in
theorem z_draw {x : Int} (hL : QZ h) (hx : x ≠ 0) (h0 : 0 ≤ hi h 105 4) : AM d m_X7_draw [.inr (some 104), .inl x] h (fun r h' => r = some (dn (nx (hi h 105 4)) x) ∧ h' = up h 105 4 (nx (hi h 105 4))) := by
  refine am_ok (fun ho _ => ?_)
  have h1 := (ho.1 105 4).2
  have hn := nx_in (hi h 105 4)
  refine am_body mo_X7_draw (Nat.le_of_ble_eq_true rfl) ?_
  show AW m_X7_draw d none _ 0 [some (.inr (some 104)), some (.inl x)] [] h (0, 0)
  obtain ⟨ko104, ro104_z, ko104_z, -⟩ := id hL
  refine aw_aload_n (pc := 0) dX7_draw_0 rfl ?_
  refine aw_getr (pc := 1) (r := some 105) dX7_draw_1 fl_X7_7 (by decide) rfl ko104 ro104_z ?_
  refine aw_iconst (pc := 4) dX7_draw_4 ?_
  refine aw_aload_n (pc := 5) dX7_draw_5 rfl ?_
  refine aw_getr (pc := 6) (r := some 105) dX7_draw_6 fl_X7_7 (by decide) rfl ko104 ro104_z ?_
  refine aw_iconst (pc := 9) dX7_draw_9 ?_
  refine ax_iaload (pc := 10) (n := 293) (v := hi h 105 4) dX7_draw_10 ko104_z (by decide) rfl ?_
  refine aw_lcg h0 h1 ?_
  refine ax_iastore (pc := 25) (n := 293) dX7_draw_25 ko104_z (by decide) ?_
  refine aw_aload_n (pc := 26) dX7_draw_26 rfl ?_
  refine aw_getr (pc := 27) (r := some 105) dX7_draw_27 fl_X7_7 (by decide) rfl ko104 ro104_z ?_
  refine aw_iconst (pc := 30) dX7_draw_30 ?_
  refine ax_iaload (pc := 31) (n := 293) (v := nx (hi h 105 4)) dX7_draw_31 ko104_z (by decide) hiE ?_
  refine aw_ldc (pc := 32) (n := 65536) dX7_draw_32 co_X7_145 (by decide) ?_
  refine aw_idiv (pc := 34) dX7_draw_34 (by decide) ?_
  refine aw_iload_n (pc := 35) dX7_draw_35 rfl ?_
  refine aw_irem (pc := 36) dX7_draw_36 hx ?_
  exact ax_ireturn (pc := 37) dX7_draw_37 rfl ⟨rfl, rfl⟩ (by decide) (by decide)
theorem w_tr {a b c : Int} {k1 k2 : Nat} (h1 : w (b - a) = k1) (h2 : w (c - b) = k2) (l1 : k1 < 10000) (l2 : k2 < 10000) : w (c - a) = ((k1 + k2 : Nat) : Int) := by
  rw [w_eq] at h1 h2
  rw [w_eq]
  omega
theorem w_self {a : Int} : w (a - a) = ((0 : Nat) : Int) := by
  rw [w_eq]
  omega
theorem w_one {a : Int} : w (w (a + 1) - a) = ((1 : Nat) : Int) := by
  rw [w_eq (a + 1), w_eq]
  omega
theorem hearS_8 (f : Cd → Bool) (s : Ms) : (hearS f s).2.2 8 = s.2.2 8 ∨ (hearS f s).2.2 8 = w (s.2.2 8 + 1) := by
  unfold hearS
  split
  · exact Or.inl (su_ne (f := s.2.2) (k := 7) (v := w (s.2.2 7 + 1)) (j := 8) (by decide))
  · exact Or.inr (su_at (f := s.2.2) (k := 8) (v := w (s.2.2 8 + 1)))
  · exact Or.inl (su_ne (f := s.2.2) (k := 9) (v := w (s.2.2 9 + 1)) (j := 8) (by decide))
theorem hear8 (f : Cd → Bool) (s : Ms) : ∃ k : Nat, k ≤ 1 ∧ w ((hearS f s).2.2 8 - s.2.2 8) = k := by
  rcases hearS_8 f s with q | q
  · exact ⟨0, by decide, by rw [q]; exact w_self⟩
  · exact ⟨1, by decide, by rw [q]; exact w_one⟩
theorem ask8 (len bits : Int) (s : Ms) : ∃ k : Nat, k ≤ 1 ∧ w ((askS len bits s).2.2 8 - s.2.2 8) = k := by
  have e : (askS len bits s).2.2 8 = (hearS (pa len bits) s).2.2 8 := by
    simp only [askS, lgS, cntD]
    rw [su_ne (by decide), su_ne (by decide), su_ne (by decide)]
  rw [e]
  exact hear8 _ s
theorem slot8 (sl : Int → Int) (k : Nat) (s : Ms) : ∃ k' : Nat, k' ≤ 1 ∧ w ((slotS sl k s).2.2 8 - s.2.2 8) = k' := by
  have e : (slotS sl k s).2.2 8 = (hearS (fun c => decide (sl c.1 = k)) s).2.2 8 := by
    simp only [slotS, lgS, cntD]
    rw [su_ne (by decide), su_ne (by decide), su_ne (by decide)]
  rw [e]
  exact hear8 _ s
theorem slots8 (sl : Int → Int) : ∀ (m : Nat) (s : Ms), m < 1000 → ∃ k : Nat, k ≤ m ∧ w ((slotsS sl m s).2.2 8 - s.2.2 8) = k
  | 0, s, _ => ⟨0, by decide, w_self⟩
  | m + 1, s, hm => by
    obtain ⟨k1, l1, e1⟩ := slots8 sl m s (by omega)
    obtain ⟨k2, l2, e2⟩ := slot8 sl m (slotsS sl m s)
    exact ⟨k1 + k2, by omega, w_tr e1 e2 (by omega) (by omega)⟩
theorem frR_0 {m : Nat} {s : Ms} (hm : m < 1000) : 0 ≤ frR m s := by
  obtain ⟨k, l, e⟩ := slots8 (slF (drs m s.1 (s.2.2 4)).1) m (frB m s) hm
  have e2 : (frB m s).2.2 8 = s.2.2 8 := by
    simp only [frB]
    rw [su_ne (by decide), su_ne (by decide), su_ne (by decide)]
  rw [e2] at e
  have e3 : frR m s = w ((slotsS (slF (drs m s.1 (s.2.2 4)).1) m (frB m s)).2.2 8 - s.2.2 8) := rfl
  rw [e3, e]
  omega
theorem wk8 (skips : Int) : ∀ (f : Nat) (g : Int) (s : Ms) (len bits : Int), f ≤ 9 → ∃ k : Nat, k + 1 ≤ 2 ^ f ∧ w ((wk skips f (g, s) len bits).2.2.2 8 - s.2.2 8) = k
  | 0, g, s, len, bits, _ => ⟨0, by decide, w_self⟩
  | f + 1, g, s, len, bits, hf => by
    have ewk : wk skips (f + 1) (g, s) len bits = if askR len bits s < 400 then (if g < len then len else g, askS len bits s) else wk skips f (wk skips f (if g < len then len else g, askS len bits s) (wto skips len (askR len bits s) + 1) (2 * sr (fnm (pa len bits) s.1) (8 - wto skips len (askR len bits s)))) (wto skips len (askR len bits s) + 1) (2 * sr (fnm (pa len bits) s.1) (8 - wto skips len (askR len bits s)) + 1) := rfl
    have hp : 1 ≤ 2 ^ f := Nat.one_le_two_pow
    have hp2 : 2 ^ (f + 1) = 2 ^ f * 2 := Nat.pow_succ ..
    have hp9 : 2 ^ f ≤ 2 ^ 9 := Nat.pow_le_pow_right (by decide) (by omega)
    have hp10 : (2 : Nat) ^ 9 = 512 := by decide
    obtain ⟨k0, l0, e0⟩ := ask8 len bits s
    rw [ewk]
    by_cases c : askR len bits s < 400
    · rw [if_pos c]
      exact ⟨k0, by omega, e0⟩
    · rw [if_neg c]
      obtain ⟨k1, l1, e1⟩ := wk8 skips f (if g < len then len else g) (askS len bits s) (wto skips len (askR len bits s) + 1) (2 * sr (fnm (pa len bits) s.1) (8 - wto skips len (askR len bits s))) (by omega)
      obtain ⟨k2, l2, e2⟩ := wk8 skips f (wk skips f (if g < len then len else g, askS len bits s) (wto skips len (askR len bits s) + 1) (2 * sr (fnm (pa len bits) s.1) (8 - wto skips len (askR len bits s)))).1 (wk skips f (if g < len then len else g, askS len bits s) (wto skips len (askR len bits s) + 1) (2 * sr (fnm (pa len bits) s.1) (8 - wto skips len (askR len bits s)))).2 (wto skips len (askR len bits s) + 1) (2 * sr (fnm (pa len bits) s.1) (8 - wto skips len (askR len bits s)) + 1) (by omega)
      exact ⟨k0 + k1 + k2, by omega, w_tr (w_tr e0 e1 (by omega) (by omega)) e2 (by omega) (by omega)⟩
theorem walkO_0 {x : Int} {s : Ms} : 0 ≤ (walkO x s).1 := by
  obtain ⟨k, l, e⟩ := wk8 x 9 0 s 0 0 (by omega)
  have e3 : (walkO x s).1 = w ((wk x 9 (0, s) 0 0).2.2.2 8 - s.2.2 8) := rfl
  rw [e3, e]
  omega
theorem y_walk {x : Int} (hd : 7 ≤ d) (hL : QZ h) (a : G7 h g) : AM d m_X7_walk [.inr (some 104), .inl x] h (R7 h (recG (walkO x g.1) g)) := by
  refine vc_X7_walk (by omega) hL (am_mono (z_rec (by omega) hL a) (fun r h1 _ _ z => ?_))
  obtain ⟨rfl, t1, f1, a1⟩ := z
  refine ⟨rfl, t1, am_mono (z_walkNow (by omega) (hL.ss t1) a1.1) (fun r h2 _ _ z => ?_)⟩
  obtain ⟨rfl, t2, f2, e2, -⟩ := z
  have q1 : hi h1 105 8 = g.1.2.2 8 := a1.1.sc (by decide) (by decide)
  have q2 : hi h2 105 8 = (wkS x g.1).2.2.2 8 := e2.sc (by decide) (by decide)
  rw [q1, q2]
  exact ⟨rfl, t2, R7.now (v := (walkO x g.1).1) t1 f1 a1 t2 (f2.wk (fun _ _ => sW_P)) e2 walkO_0⟩
end MODEL17
