section MO
variable {md : MD} {d : Nat} {scr : SX} {Q : Option Int → AH → Prop} {pc : Nat} {ls : List (Option AV)} {st : List AV} {h : AH} {k : Nat × Nat}
theorem aw_invS {md' : MD} {idx n : Nat} {as : List AV} (hd : decode md.2.1 pc = .ok (.invokestatic idx, 3)) (hm : MO md' n) (hi : Cond.static md'.1 ∈ tbG) (hl : Cond.methodLink md.1.cls idx md'.1 ∈ tbG) (hC : md'.1.cls = md.1.cls) (hn : as.length = n) (hd1 : 1 ≤ d) (hst8 : st.length + 2 * nbt scr ≤ 8)
    (h1 : k.1 + md'.2.2.2.2.1 ≤ md.2.2.2.2.1) (h2 : k.2 + md'.2.2.2.2.2 ≤ md.2.2.2.2.2)
    (hM : AM (d - 1) md' as h (fun r h' => AW md d scr Q (pc + 3) ls ((r.map Sum.inl).toList ++ st) h' (k.1 + md'.2.2.2.2.1, k.2 + md'.2.2.2.2.2))) : AW md d scr Q pc ls (as.reverse ++ st) h k := by
  intro p l e R s m args below meth c b B D ca H locs lc Qw C hlen hH hL hst RH
  have hK := C.2.2.2.2.2.2.1
  have hts := C.2.2.2.2.1
  obtain ⟨hoas, host⟩ := ok_as hst
  have hfr := frames_ok (md := md') hd1 C.2.2.2.2.2.2.2.2.2.2.1 C.2.2.2.2.2.2.2.2.2.2.2.1 hm.2.2.2.1
  have hT : GoodIn tbG (wsS md.1.cls idx md'.1 (wmo md')) := by
    intro w hw
    rcases List.mem_append.mp hw with hw | hw
    · simp only [List.mem_cons, List.not_mem_nil, or_false] at hw
      rcases hw with rfl | rfl | rfl
      · exact goodG hl
      · exact goodG hi
      · exact goodG (hC ▸ hm.1)
    · exact good_wmo hm w hw
  refine q_call (rest := st.map (cv b B) ++ bts scr) (va_runS (As := as.map (cv b B)) ⟨C.1, C.2.1, C.2.2.1, C.2.2.2.1, hts⟩ (hM l b B D ca hoas) (cwS n hts hT rfl rfl rfl ⟨hC, hm.2.2.1⟩ hfr) (prc_S hH.1 hK C.2.2.2.2.2.2.2.1.2) rfl (by rw [List.length_map]; exact hn) (by show lc.size = _; rw [hL.1.1, hlen]) (by simp) (lv_room (by rw [st_cat2]; exact hst8)) hd ⟨by rw [C.2.2.2.2.2.2.2.2.1]; exact h1, by rw [C.2.2.2.2.2.2.2.2.2.1]; exact h2⟩) hH.2 fun r h' H1 locs1 hrg hq hH1 => ?_
  have g := hq p l e R s m args below meth c b B D ca H1 locs1 lc Qw C hlen hH1 hL (ok_res hrg host) RH
  rw [res_map, List.append_assoc] at g
  exact g
/-- a static method of a nest mate -/
theorem aw_invSN {md' : MD} {idx n : Nat} {host : String} {as : List AV} (hd : decode md.2.1 pc = .ok (.invokestatic idx, 3)) (hm : MO md' n) (hi : Cond.static md'.1 ∈ tbG) (hl : (md.1.cls, idx, md'.1, host) ∈ nsL) (hn : as.length = n) (hd1 : 1 ≤ d) (hst8 : st.length + 2 * nbt scr ≤ 8)
    (h1 : k.1 + md'.2.2.2.2.1 ≤ md.2.2.2.2.1) (h2 : k.2 + md'.2.2.2.2.2 ≤ md.2.2.2.2.2)
    (hM : AM (d - 1) md' as h (fun r h' => AW md d scr Q (pc + 3) ls ((r.map Sum.inl).toList ++ st) h' (k.1 + md'.2.2.2.2.1, k.2 + md'.2.2.2.2.2))) : AW md d scr Q pc ls (as.reverse ++ st) h k := by
  intro p l e R s m args below meth c b B D ca H locs lc Qw C hlen hH hL hst RH
  have hK := C.2.2.2.2.2.2.1
  have hts := C.2.2.2.2.1
  obtain ⟨hoas, host'⟩ := ok_as hst
  have hfr := frames_ok (md := md') hd1 C.2.2.2.2.2.2.2.2.2.2.1 C.2.2.2.2.2.2.2.2.2.2.2.1 hm.2.2.2.1
  refine q_call (rest := st.map (cv b B) ++ bts scr) (va_runSN (As := as.map (cv b B)) ⟨C.1, C.2.1, C.2.2.1, C.2.2.2.1, hts⟩ (hM l b B D ca hoas) ⟨va_cnB (host := host) n hts (good_wmo hm) rfl rfl rfl (C.2.2.2.2.2.2.2.1.2.1 _ hl) (hts _ hm.1) hm.2.2.1 hfr, hts _ hi, trivial⟩ (prc_S hH.1 hK C.2.2.2.2.2.2.2.1.2) rfl (by rw [List.length_map]; exact hn) (by show lc.size = _; rw [hL.1.1, hlen]) (by simp) (lv_room (by rw [st_cat2]; exact hst8)) hd ⟨by rw [C.2.2.2.2.2.2.2.2.1]; exact h1, by rw [C.2.2.2.2.2.2.2.2.2.1]; exact h2⟩) hH.2 fun r h' H1 locs1 hrg hq hH1 => ?_
  have g := hq p l e R s m args below meth c b B D ca H1 locs1 lc Qw C hlen hH1 hL (ok_res hrg host') RH
  rw [res_map, List.append_assoc] at g
  exact g
theorem az_ref {b B i : Nat} : cv b B (.inr (some (i + 1))) = .ref (B + i) := rfl
/-- a constructor -/
theorem aw_invI {md' : MD} {idx n j : Nat} {as : List AV} (hd : decode md.2.1 pc = .ok (.invokespecial idx, 3)) (hm : MO md' n) (hret : md'.2.2.2.1 = none) (hi : Cond.instanceMethod md'.1 ∈ tbG) (hy1 : md'.1.name = "<init>") (hl : Cond.methodLink md.1.cls idx md'.1 ∈ tbG ∨ ∃ host, (md.1.cls, idx, md'.1, host) ∈ nsL) (hn : as.length = n) (hd1 : 1 ≤ d) (hst8 : st.length + 2 * nbt scr ≤ 8)
    (h1 : k.1 + md'.2.2.2.2.1 ≤ md.2.2.2.2.1) (h2 : k.2 + md'.2.2.2.2.2 ≤ md.2.2.2.2.2)
    (hM : AM (d - 1) md' (.inr (some (j + 1)) :: as) h (fun r h' => AW md d scr Q (pc + 3) ls ((r.map Sum.inl).toList ++ st) h' (k.1 + md'.2.2.2.2.1, k.2 + md'.2.2.2.2.2))) : AW md d scr Q pc ls (as.reverse ++ .inr (some (j + 1)) :: st) h k := by
  intro p l e R s m args below meth c b B D ca H locs lc Qw C hlen hH hL hst RH
  have hK := C.2.2.2.2.2.2.1
  have hts := C.2.2.2.2.1
  obtain ⟨hoas, host'⟩ := ok_as hst
  have hfr := frames_ok (md := md') hd1 C.2.2.2.2.2.2.2.2.2.2.1 C.2.2.2.2.2.2.2.2.2.2.2.1 hm.2.2.2.1
  have hcw : wmo md' = Cond.code md'.1 md'.2.1 md'.2.2.1 none :: tbG := by unfold wmo; rw [hret]
  have hfin : ∀ (hr : va_Run p l e R s m args below meth c H locs k.1 k.2 md'.2.2.2.2.1 md'.2.2.2.2.2 (F0 m pc lc ((as.reverse ++ .inr (some (j + 1)) :: st).map (cv b B) ++ bts scr)) (st.map (cv b B) ++ bts scr) (Pst b B D ca (fun r h' => AW md d scr Q (pc + 3) ls ((r.map Sum.inl).toList ++ st) h' (k.1 + md'.2.2.2.2.1, k.2 + md'.2.2.2.2.2)) (Value.ref (B + j) :: as.map (cv b B)).toArray) (fun q => B ≤ q)), W p l e R s m args below meth c H locs k.1 k.2 Qw (F0 m pc lc ((as.reverse ++ .inr (some (j + 1)) :: st).map (cv b B) ++ bts scr)) := by
    intro hr
    refine q_call hr hH.2 fun r h' H1 locs1 hrg hq hH1 => ?_
    have g := hq p l e R s m args below meth c b B D ca H1 locs1 lc Qw C hlen hH1 hL (ok_res hrg (ok_tl host')) RH
    rw [res_map, List.append_assoc] at g
    exact g
  apply hfin
  have hM' := hM l b B D ca (ok_of trivial hoas)
  rw [hcw] at hM'
  have hG := good_wmo hm
  rw [hcw] at hG
  rcases hl with hl | ⟨host, hl⟩
  · exact va_runI (As := as.map (cv b B)) ⟨C.1, C.2.1, C.2.2.1, C.2.2.2.1, hts⟩ hM' (cwI n hts hG rfl rfl rfl (hts _ hm.1) (hts _ hl) (hts _ hi) hy1 hm.2.2.1 hfr) (prc_S (as := .inr (some (j + 1)) :: as) hH.1 hK C.2.2.2.2.2.2.2.1.2) rfl (by rw [List.length_map]; exact hn) (by show lc.size = _; rw [hL.1.1, hlen]) (by simp [cv, va_rf, az]) (lv_room (by rw [st_cat2]; exact hst8)) hd ⟨by rw [C.2.2.2.2.2.2.2.2.1]; exact h1, by rw [C.2.2.2.2.2.2.2.2.2.1]; exact h2⟩
  · exact va_runIN (As := as.map (cv b B)) ⟨C.1, C.2.1, C.2.2.1, C.2.2.2.1, hts⟩ hM' ⟨va_cnB (host := host) n hts hG rfl rfl rfl (C.2.2.2.2.2.2.2.1.2.1 _ hl) (hts _ hm.1) hm.2.2.1 hfr, hy1, hts _ hi⟩ (prc_S (as := .inr (some (j + 1)) :: as) hH.1 hK C.2.2.2.2.2.2.2.1.2) rfl (by rw [List.length_map]; exact hn) (by show lc.size = _; rw [hL.1.1, hlen]) (by simp [cv, va_rf, az]) (lv_room (by rw [st_cat2]; exact hst8)) hd ⟨by rw [C.2.2.2.2.2.2.2.2.1]; exact h1, by rw [C.2.2.2.2.2.2.2.2.2.1]; exact h2⟩
theorem aw_objInit {idx j : Nat} (hd : decode md.2.1 pc = .ok (.invokespecial idx, 3)) (hl : Cond.methodLink md.1.cls idx objectInit ∈ tbG) (hi : Cond.instanceMethod objectInit ∈ tbG) (hc : Cond.code objectInit ⟨#[0xb1]⟩ 1 none ∈ tbG) (hd1 : 1 ≤ d) (hst8 : st.length + 2 * nbt scr ≤ 8) (kk : AW md d scr Q (pc + 3) ls st h k) : AW md d scr Q pc ls (.inr (some (j + 1)) :: st) h k := by
  intro p l e R s m args below meth c b B D ca H locs lc Qw C hlen hH hL hst RH
  have hts := C.2.2.2.2.1
  have h10 := C.2.2.2.2.2.2.2.2.2.2.1
  have h11 := C.2.2.2.2.2.2.2.2.2.2.2.1
  refine W.objInit C.1 C.2.1 C.2.2.2.1 (hts _ hl) (hts _ hi) (hts _ hc) rfl (by show lc.size = _; rw [hL.1.1, hlen, C.2.2.1]) (rest := st.map (cv b B) ++ bts scr) rfl hd (by omega) (by show 2 * 0 + _ + 12 ≤ _; rw [st_cat2]; omega) ?_
  exact kk p l e R s m args below meth c b B D ca H locs lc Qw C hlen hH hL (ok_tl hst) RH
theorem aw_max {idx : Nat} {x y : Int} (hd : decode md.2.1 pc = .ok (.invokestatic idx, 3)) (hl : Cond.methodLink md.1.cls idx Lib.Math.max.name ∈ tbG) (hs : Cond.static Lib.Math.max.name ∈ tbG) (hi : Cond.initialized "java/lang/Math" ∈ tbG) (hc : Cond.code Lib.Math.max.name Lib.Math.max.code 2 (some .int) ∈ tbG) (hd1 : 1 ≤ d) (hst8 : st.length + 2 * nbt scr ≤ 8) (h1 : k.1 ≤ md.2.2.2.2.1) (h2 : k.2 ≤ md.2.2.2.2.2)
    (kk : AW md d scr Q (pc + 3) ls (.inl (if x < y then y else x) :: st) h k) : AW md d scr Q pc ls (.inl y :: .inl x :: st) h k := by
  intro p l e R s m args below meth c b B D ca H locs lc Qw C hlen hH hL hst RH
  have hts := C.2.2.2.2.1
  have h10 := C.2.2.2.2.2.2.2.2.2.2.1
  have h11 := C.2.2.2.2.2.2.2.2.2.2.2.1
  have hy : rg y := ok_hd hst
  have hx : rg x := ok_hd (ok_tl hst)
  refine va_mmax C.1 C.2.1 (by rw [hL.1.1, hlen, C.2.2.1]) C.2.2.2.1 (hts _ hl) (hts _ hs) (hts _ hi) (hts _ hc) (by omega) (by show ((st.map (cv b B) ++ bts scr).map fun v => v.category).sum + 13 ≤ _; rw [st_cat2]; omega) (by rw [C.2.2.2.2.2.2.2.2.1]; exact h1) (by rw [C.2.2.2.2.2.2.2.2.2.1]; exact h2) hd ?_
  have g := kk p l e R s m args below meth c b B D ca H locs lc Qw C hlen hH hL (ok_of (by split <;> assumption) (ok_tl (ok_tl hst))) RH
  have e1 : (if Int32.ofInt x < Int32.ofInt y then Int32.ofInt y else Int32.ofInt x) = Int32.ofInt (if x < y then y else x) := by
    by_cases q : x < y
    · rw [if_pos q, if_pos ((i_lt hx hy).mpr q)]
    · rw [if_neg q, if_neg (fun z => q ((i_lt hx hy).mp z))]
  rw [e1]
  exact g
theorem aw_min {idx : Nat} {x y : Int} (hd : decode md.2.1 pc = .ok (.invokestatic idx, 3)) (hl : Cond.methodLink md.1.cls idx Lib.Math.min.name ∈ tbG) (hs : Cond.static Lib.Math.min.name ∈ tbG) (hi : Cond.initialized "java/lang/Math" ∈ tbG) (hc : Cond.code Lib.Math.min.name Lib.Math.min.code 2 (some .int) ∈ tbG) (hd1 : 1 ≤ d) (hst8 : st.length + 2 * nbt scr ≤ 8) (h1 : k.1 ≤ md.2.2.2.2.1) (h2 : k.2 ≤ md.2.2.2.2.2)
    (kk : AW md d scr Q (pc + 3) ls (.inl (if y < x then y else x) :: st) h k) : AW md d scr Q pc ls (.inl y :: .inl x :: st) h k := by
  intro p l e R s m args below meth c b B D ca H locs lc Qw C hlen hH hL hst RH
  have hts := C.2.2.2.2.1
  have h10 := C.2.2.2.2.2.2.2.2.2.2.1
  have h11 := C.2.2.2.2.2.2.2.2.2.2.2.1
  have hy : rg y := ok_hd hst
  have hx : rg x := ok_hd (ok_tl hst)
  refine va_mmin C.1 C.2.1 (by rw [hL.1.1, hlen, C.2.2.1]) C.2.2.2.1 (hts _ hl) (hts _ hs) (hts _ hi) (hts _ hc) (by omega) (by show ((st.map (cv b B) ++ bts scr).map fun v => v.category).sum + 13 ≤ _; rw [st_cat2]; omega) (by rw [C.2.2.2.2.2.2.2.2.1]; exact h1) (by rw [C.2.2.2.2.2.2.2.2.2.1]; exact h2) hd ?_
  have g := kk p l e R s m args below meth c b B D ca H locs lc Qw C hlen hH hL (ok_of (by split <;> assumption) (ok_tl (ok_tl hst))) RH
  have e1 : (if Int32.ofInt y < Int32.ofInt x then Int32.ofInt y else Int32.ofInt x) = Int32.ofInt (if y < x then y else x) := by
    by_cases q : y < x
    · rw [if_pos q, if_pos ((i_lt hy hx).mpr q)]
    · rw [if_neg q, if_neg (fun z => q ((i_lt hy hx).mp z))]
  rw [e1]
  exact g
end MO
