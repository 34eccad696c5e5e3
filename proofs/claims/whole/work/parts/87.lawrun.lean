/-! the law: its loop and its beginning -/
def hE : AH := (0, fun _ => (9, 0), fun _ _ => none, fun _ _ => 0)
section LAWRUN
variable {d L : Nat} {xs : Nat → Int} {h h1 h2 : AH}
set_option maxHeartbeats 4000000 in
theorem law_loop (hd : 100 ≤ d) (hL : L ≤ 1536) (hx : ∀ j, rg (xs j)) : ∀ (n : Nat) (i : Int) (h : AH) (k : Nat × Nat), (L : Int) - i < n → 0 ≤ i → i ≤ L + 3 → k.1 ≤ 600000 → k.2 ≤ 7302249 → LW h →
    AW m_L_law d (some (L, xs)) (fun r _ => r = some 1) 18 (LOC i) [] h k := by
  intro n
  induction n with
  | zero =>
    intro i h k hn h0 h3 k1 k2 c
    refine aw_iload_n (pc := 18) dL_law_18 rfl ?_
    refine aw_aload_n (pc := 19) dL_law_19 rfl ?_
    refine aw_slen (pc := 20) (q := (L, xs)) dL_law_20 rfl ?_
    refine aw_iconst (pc := 21) dL_law_21 ?_
    refine ax_isub (pc := 22) (v := (L : Int) - 3) dL_law_22 (by show rg ((L : Int) - 3); unfold rg; omega) rfl ?_
    refine aw_icmp_gt (pc := 23) (tgt := 807) dL_law_23 (by decide) (fun c1 => ?_) (fun c1 => by omega)
    refine aw_iconst (pc := 807) dL_law_807 ?_
    exact aw_ireturn (pc := 808) dL_law_808 (show okr (some .boolean) 1 from Or.inr rfl) rfl k1 k2
  | succ n ih =>
    intro i h k hn h0 h3 k1 k2 c
    refine aw_iload_n (pc := 18) dL_law_18 rfl ?_
    refine aw_aload_n (pc := 19) dL_law_19 rfl ?_
    refine aw_slen (pc := 20) (q := (L, xs)) dL_law_20 rfl ?_
    refine aw_iconst (pc := 21) dL_law_21 ?_
    refine ax_isub (pc := 22) (v := (L : Int) - 3) dL_law_22 (by show rg ((L : Int) - 3); unfold rg; omega) rfl ?_
    refine aw_icmp_gt (pc := 23) (tgt := 807) dL_law_23 (by decide) (fun c1 => ?_) (fun c1 => ?_)
    · refine aw_iconst (pc := 807) dL_law_807 ?_
      exact aw_ireturn (pc := 808) dL_law_808 (show okr (some .boolean) 1 from Or.inr rfl) rfl k1 k2
    · have K : ∀ h', LW h' → AW m_L_law d (some (L, xs)) (fun r _ => r = some 1) 801 (LOC i) [] h' k := fun h' c' => by
        refine ax_iinc (pc := 801) (v' := i + 3) (ls' := LOC (i + 3)) dL_law_801 rfl (by unfold rg; omega) rfl rfl ?_
        refine aw_goto (pc := 804) (tgt := 18) dL_law_804 (by decide) ?_
        exact ih (i + 3) h' k (by omega) (by omega) (by omega) k1 k2 c'
      have h3' : i + 3 ≤ L := by omega
      refine aw_aload_n (pc := 26) dL_law_26 rfl ?_
      refine aw_iload_n (pc := 27) dL_law_27 rfl ?_
      refine aw_sld (pc := 28) (q := (L, xs)) dL_law_28 rfl (by omega) (by show i < (L : Int); omega) ?_
      refine aw_bipush (pc := 29) dL_law_29 ?_
      refine aw_iand (pc := 31) dL_law_31 ?_
      generalize an (xs i.toNat) 31 = v
      by_cases out : v < 0 ∨ 26 < v
      · exact aw_tblOut (pc := 32) (tgt := 801) dL_law_32 out (by decide) (K h c)
      · rcases (show v = 0 ∨ v = 1 ∨ v = 2 ∨ v = 3 ∨ v = 4 ∨ v = 5 ∨ v = 6 ∨ v = 7 ∨ v = 8 ∨ v = 9 ∨ v = 10 ∨ v = 11 ∨ v = 12 ∨ v = 13 ∨ v = 14 ∨ v = 15 ∨ v = 16 ∨ v = 17 ∨ v = 18 ∨ v = 19 ∨ v = 20 ∨ v = 21 ∨ v = 22 ∨ v = 23 ∨ v = 24 ∨ v = 25 ∨ v = 26 by omega) with q | q | q | q | q | q | q | q | q | q | q | q | q | q | q | q | q | q | q | q | q | q | q | q | q | q | q
        all_goals subst q
        · exact aw_tblIn (pc := 32) (tgt := 156) dL_law_32 (by decide) (by decide) rfl (by decide) (law_put hd hL h0 h3' hx k1 k2 c K)
        · exact aw_tblIn (pc := 32) (tgt := 179) dL_law_32 (by decide) (by decide) rfl (by decide) (law_take hd hL h0 h3' hx k1 k2 c K)
        · exact aw_tblIn (pc := 32) (tgt := 202) dL_law_32 (by decide) (by decide) rfl (by decide) (law_sleep hd hL h0 h3' hx k1 k2 c K)
        · exact aw_tblIn (pc := 32) (tgt := 225) dL_law_32 (by decide) (by decide) rfl (by decide) (law_wakeAll hd hL h0 h3' hx k1 k2 c K)
        · exact aw_tblIn (pc := 32) (tgt := 238) dL_law_32 (by decide) (by decide) rfl (by decide) (law_leave hd hL h0 h3' hx k1 k2 c K)
        · exact aw_tblIn (pc := 32) (tgt := 271) dL_law_32 (by decide) (by decide) rfl (by decide) (law_set hd hL h0 h3' hx k1 k2 c K)
        · exact aw_tblIn (pc := 32) (tgt := 304) dL_law_32 (by decide) (by decide) rfl (by decide) (law_shuffle hd hL h0 h3' hx k1 k2 c K)
        · exact aw_tblIn (pc := 32) (tgt := 327) dL_law_32 (by decide) (by decide) rfl (by decide) (law_forget hd hL h0 h3' hx k1 k2 c K)
        · exact aw_tblIn (pc := 32) (tgt := 340) dL_law_32 (by decide) (by decide) rfl (by decide) (law_ask hd hL h0 h3' hx k1 k2 c K)
        · exact aw_tblIn (pc := 32) (tgt := 373) dL_law_32 (by decide) (by decide) rfl (by decide) (law_walk hd hL h0 h3' hx k1 k2 c K)
        · exact aw_tblIn (pc := 32) (tgt := 412) dL_law_32 (by decide) (by decide) rfl (by decide) (law_frame hd hL h0 h3' hx k1 k2 c K)
        · exact aw_tblIn (pc := 32) (tgt := 435) dL_law_32 (by decide) (by decide) rfl (by decide) (law_rounds hd hL h0 h3' hx k1 k2 c K)
        · exact aw_tblIn (pc := 32) (tgt := 458) dL_law_32 (by decide) (by decide) rfl (by decide) (law_type hd hL h0 h3' hx k1 k2 c K)
        · exact aw_tblIn (pc := 32) (tgt := 483) dL_law_32 (by decide) (by decide) rfl (by decide) (law_clearText hd hL h0 h3' hx k1 k2 c K)
        · exact aw_tblIn (pc := 32) (tgt := 496) dL_law_32 (by decide) (by decide) rfl (by decide) (law_perform hd hL h0 h3' hx k1 k2 c K)
        · exact aw_tblIn (pc := 32) (tgt := 509) dL_law_32 (by decide) (by decide) rfl (by decide) (law_undo hd hL h0 h3' hx k1 k2 c K)
        · exact aw_tblIn (pc := 32) (tgt := 522) dL_law_32 (by decide) (by decide) rfl (by decide) (law_keep hd hL h0 h3' hx k1 k2 c K)
        · exact aw_tblIn (pc := 32) (tgt := 535) dL_law_32 (by decide) (by decide) rfl (by decide) (law_restore hd hL h0 h3' hx k1 k2 c K)
        · exact aw_tblIn (pc := 32) (tgt := 548) dL_law_32 (by decide) (by decide) rfl (by decide) (law_card hd hL h0 h3' hx k1 k2 c K)
        · exact aw_tblIn (pc := 32) (tgt := 571) dL_law_32 (by decide) (by decide) rfl (by decide) (law_ofCard hd hL h0 h3' hx k1 k2 c K)
        · exact aw_tblIn (pc := 32) (tgt := 604) dL_law_32 (by decide) (by decide) rfl (by decide) (law_told hd hL h0 h3' hx k1 k2 c K)
        · exact aw_tblIn (pc := 32) (tgt := 627) dL_law_32 (by decide) (by decide) rfl (by decide) (law_total hd hL h0 h3' hx k1 k2 c K)
        · exact aw_tblIn (pc := 32) (tgt := 650) dL_law_32 (by decide) (by decide) rfl (by decide) (law_count hd hL h0 h3' hx k1 k2 c K)
        · exact aw_tblIn (pc := 32) (tgt := 683) dL_law_32 (by decide) (by decide) rfl (by decide) (law_walkTakes hd hL h0 h3' hx k1 k2 c K)
        · exact aw_tblIn (pc := 32) (tgt := 732) dL_law_32 (by decide) (by decide) rfl (by decide) (law_roundsTake hd hL h0 h3' hx k1 k2 c K)
        · exact aw_tblIn (pc := 32) (tgt := 765) dL_law_32 (by decide) (by decide) rfl (by decide) (law_bestFrame hd hL h0 h3' hx k1 k2 c K)
        · exact aw_tblIn (pc := 32) (tgt := 778) dL_law_32 (by decide) (by decide) rfl (by decide) (law_thickest hd hL h0 h3' hx k1 k2 c K)
end LAWRUN
