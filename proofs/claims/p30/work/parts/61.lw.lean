/-! the law's methods over the pure picture of the object: LW at a pc, LM a method's contract -/
def LQ (P : Int → Gs → Prop) : Option Int → AH → Prop := fun r h' => ∃ v g', r = some v ∧ L6 h' ∧ G6 h' g' ∧ P v g'
def LM (d : Nat) (md : MD) (as : List AV) (g : Gs) (P : Int → Gs → Prop) : Prop := ∀ h, L6 h → G6 h g → AM d md as h (LQ P)
def LJ (d : Nat) (md : MD) (as : List AV) (g : Gs) (P : Int64 → Gs → Prop) : Prop := ∀ h, L6 h → G6 h g → AMJ d md as h (fun x h' => ∃ g', L6 h' ∧ G6 h' g' ∧ P x g')
def LX (d : Nat) (md : MD) (q : Nat × (Nat → Int)) (as : List AV) (g : Gs) (P : Int → Gs → Prop) : Prop := ∀ h, L6 h → G6 h g → AMX d md q as h (LQ P)
def LW (md : MD) (d : Nat) (scr : SX) (P : Int → Gs → Prop) (pc : Nat) (ls : List (Option AV)) (st : List AV) (g : Gs) (k : Nat × Nat) : Prop := ∀ h, L6 h → G6 h g → AW md d scr (LQ P) pc ls st h k
section LWS
variable {md : MD} {d : Nat} {scr : SX} {sc : Option (Nat × (Nat → Int))} {bs : List Int64} {xl : List (Nat × Int64)} {P : Int → Gs → Prop} {pc : Nat} {ls : List (Option AV)} {st : List AV} {g : Gs} {k : Nat × Nat}
theorem lm_of {as : List AV} {o : Int × Gs} (hA : ∀ h, L6 h → G6 h g → AM d md as h (R6 h o)) : LM d md as g (fun v g' => v = o.1 ∧ g' = o.2) := fun h a b => am_mono (hA h a b) (fun r h' _ _ z => ⟨o.1, o.2, z.1, a.sw z.2.1, z.2.2.2, rfl, rfl⟩)
theorem lm_q {as : List AV} {v0 : Int} (hA : ∀ h, L6 h → G6 h g → AM d md as h (R6 h (v0, g))) : LM d md as g (fun v g' => v = v0 ∧ g' = g) := lm_of hA
theorem lm_mono {as : List AV} {P' : Int → Gs → Prop} (hA : LM d md as g P) (hq : ∀ v g', P v g' → P' v g') : LM d md as g P' := fun h a b => am_mono (hA h a b) (fun r h' _ _ z => by
  obtain ⟨v, g', e, l, b', p⟩ := z
  exact ⟨v, g', e, l, b', hq v g' p⟩)
theorem lm_rg {as : List AV} (hA : LM d md as g P) : LM d md as g (fun v g' => rg v ∧ P v g') := fun h a b => am_mono (hA h a b) (fun r h' hr _ z => by
  obtain ⟨v, g', e, l, b', p⟩ := z
  exact ⟨v, g', e, l, b', hr v e, p⟩)
theorem lj_mono {as : List AV} {P P' : Int64 → Gs → Prop} (hA : LJ d md as g P) (hq : ∀ v g', P v g' → P' v g') : LJ d md as g P' := fun h a b => amj_mono (hA h a b) (fun x h' z => by
  obtain ⟨g', l, b', p⟩ := z
  exact ⟨g', l, b', hq x g' p⟩)
theorem lw_mono {P' : Int → Gs → Prop} (hA : LW md d scr P pc ls st g k) (hq : ∀ v g', P v g' → P' v g') : LW md d scr P' pc ls st g k := fun h a b => by
  have h0 := hA h a b
  intro p l e R s m args below meth c b B D ca H locs lc Qw C hlen hH hL hst RH
  refine h0 p l e R s m args below meth c b B D ca H locs lc Qw C hlen hH hL hst (fun r pc' h' H' locs' lc' k' hH' hQ h1 h2 => RH r pc' h' H' locs' lc' k' hH' ?_ h1 h2)
  obtain ⟨v, g', e, l, b', p⟩ := hQ
  exact ⟨v, g', e, l, b', hq v g' p⟩
/-- what the picture of the object gives: its cards, the settings, x -/
theorem lw_ok (kk : WL g.1.1 ∧ WS g.1.2.2 ∧ g.1.2.1.length ≤ 200 ∧ g.2.1.length ≤ 4 → LW md d scr P pc ls st g k) : LW md d scr P pc ls st g k := fun h a b => kk ⟨b.1.1.2.2, b.1.2.2.2.2.2.2, b.1.2.1.2.2, b.2.1.2.1⟩ h a b
theorem lm_ok {as : List AV} (kk : (∀ a ∈ as, ok a) → LM d md as g P) : LM d md as g P := fun h a b => am_ok (fun _ ho => kk ho h a b)
theorem lm_body {n : Nat} {as : List AV} (hm : MO md n) (hl : as.length ≤ md.2.2.1) (hlg : md.2.2.2.1 ≠ some .long) (hB : LW md d none P 0 (as.map some ++ List.replicate (md.2.2.1 - as.length) none) [] g (0, 0)) : LM d md as g P := fun h a b => am_body hm hl (hB h a b) hlg
theorem lj_body {n : Nat} {as : List AV} {P : Int64 → Gs → Prop} (hm : MO md n) (hl : as.length ≤ md.2.2.1) (hlg : md.2.2.2.1 = some .long) (hB : LW md d (some (none, [], [])) (fun v g' => P (Int64.ofInt v) g') 0 (as.map some ++ List.replicate (md.2.2.1 - as.length) none) [] g (0, 0)) : LJ d md as g P := fun h a b => amj_body hm hl hlg (aw_mono (hB h a b) (fun r h' z => by
  obtain ⟨v, g', e, a', b', p⟩ := z
  exact ⟨v, e, g', a', b', p⟩))
theorem lx_body {n : Nat} {as : List AV} {q : Nat × (Nat → Int)} (hm : MO md n) (hl : as.length ≤ md.2.2.1) (hlg : md.2.2.2.1 = some .int) (hB : LW md d (some (some q, [], [])) P 0 (as.map some ++ List.replicate (md.2.2.1 - as.length) none) [] g (0, 0)) : LX d md q as g P := fun h a b => amx_body hm hl hlg (hB h a b)
/-! a rule an instruction -/
theorem lw_iconst {n : Int} (hd : decode md.2.1 pc = .ok (.iconst n, 1)) (kk : LW md d scr P (pc + 1) ls (.inl n :: st) g k) (hn : rg n := by decide) : LW md d scr P pc ls st g k := fun h a b => aw_iconst hd (kk h a b) hn
theorem lw_bipush {n : Int} (hd : decode md.2.1 pc = .ok (.bipush n, 2)) (kk : LW md d scr P (pc + 2) ls (.inl n :: st) g k) (hn : -128 ≤ n ∧ n < 128 := by decide) : LW md d scr P pc ls st g k := fun h a b => aw_bipush hd (kk h a b) hn
theorem lw_sipush {n : Int} (hd : decode md.2.1 pc = .ok (.sipush n, 3)) (kk : LW md d scr P (pc + 3) ls (.inl n :: st) g k) (hn : -32768 ≤ n ∧ n < 32768 := by decide) : LW md d scr P pc ls st g k := fun h a b => aw_sipush hd (kk h a b) hn
theorem lw_ldc {n : Int} {i : Nat} (hd : decode md.2.1 pc = .ok (.ldc i, 2)) (hc : Jvm.Cond.constant md.1.cls i (Int32.ofInt n) ∈ tbG) (hn : rg n) (kk : LW md d scr P (pc + 2) ls (.inl n :: st) g k) : LW md d scr P pc ls st g k := fun h a b => aw_ldc hd hc hn (kk h a b)
theorem lw_iload {i : Nat} {v : Int} (hd : decode md.2.1 pc = .ok (.iload i, 2)) (hl : ls[i]? = some (some (.inl v))) (kk : LW md d scr P (pc + 2) ls (.inl v :: st) g k) : LW md d scr P pc ls st g k := fun h a b => aw_iload hd hl (kk h a b)
theorem lw_iload_n {i : Fin 4} {v : Int} (hd : decode md.2.1 pc = .ok (.iload_n i, 1)) (hl : ls[i.val]? = some (some (.inl v))) (kk : LW md d scr P (pc + 1) ls (.inl v :: st) g k) : LW md d scr P pc ls st g k := fun h a b => aw_iload_n hd hl (kk h a b)
theorem lw_aload_n {i : Fin 4} {r : Option Nat} (hd : decode md.2.1 pc = .ok (.aload_n i, 1)) (hl : ls[i.val]? = some (some (.inr r))) (kk : LW md d scr P (pc + 1) ls (.inr r :: st) g k) : LW md d scr P pc ls st g k := fun h a b => aw_aload_n hd hl (kk h a b)
theorem lw_istore {i : Nat} {v : Int} {ls' : List (Option AV)} (hd : decode md.2.1 pc = .ok (.istore i, 2)) (hi : i < ls.length) (hs : ls.set i (some (.inl v)) = ls') (kk : LW md d scr P (pc + 2) ls' st g k) (hx : lgf scr i = true := by rfl) : LW md d scr P pc ls (.inl v :: st) g k := fun h a b => ax_istore hd hi hs (kk h a b) hx
theorem lw_istore_n {i : Fin 4} {v : Int} {ls' : List (Option AV)} (hd : decode md.2.1 pc = .ok (.istore_n i, 1)) (hi : i.val < ls.length) (hs : ls.set i.val (some (.inl v)) = ls') (kk : LW md d scr P (pc + 1) ls' st g k) (hx : lgf scr i.val = true := by rfl) : LW md d scr P pc ls (.inl v :: st) g k := fun h a b => ax_istore_n hd hi hs (kk h a b) hx
theorem lw_iinc {i : Nat} {n v v' : Int} {ls' : List (Option AV)} (hd : decode md.2.1 pc = .ok (.iinc i n, 3)) (hl : ls[i]? = some (some (.inl v))) (hn : rg (v + n)) (hv : v + n = v') (hs : ls.set i (some (.inl v')) = ls') (kk : LW md d scr P (pc + 3) ls' st g k) (hx : lgf scr i = true := by rfl) : LW md d scr P pc ls st g k := fun h a b => ax_iinc hd hl hn hv hs (kk h a b) hx
theorem lw_iadd {x y v : Int} (hd : decode md.2.1 pc = .ok (.iadd, 1)) (hn : rg (x + y)) (hv : x + y = v) (kk : LW md d scr P (pc + 1) ls (.inl v :: st) g k) : LW md d scr P pc ls (.inl y :: .inl x :: st) g k := fun h a b => ax_iadd hd hn hv (kk h a b)
theorem lw_isub {x y v : Int} (hd : decode md.2.1 pc = .ok (.isub, 1)) (hn : rg (x - y)) (hv : x - y = v) (kk : LW md d scr P (pc + 1) ls (.inl v :: st) g k) : LW md d scr P pc ls (.inl y :: .inl x :: st) g k := fun h a b => ax_isub hd hn hv (kk h a b)
theorem lw_imul {x y v : Int} (hd : decode md.2.1 pc = .ok (.imul, 1)) (hn : rg (x * y)) (hv : x * y = v) (kk : LW md d scr P (pc + 1) ls (.inl v :: st) g k) : LW md d scr P pc ls (.inl y :: .inl x :: st) g k := fun h a b => ax_imul hd hn hv (kk h a b)
theorem lw_iadd_w {x y : Int} (hd : decode md.2.1 pc = .ok (.iadd, 1)) (kk : LW md d scr P (pc + 1) ls (.inl (w (x + y)) :: st) g k) : LW md d scr P pc ls (.inl y :: .inl x :: st) g k := fun h a b => aw_iadd_w hd (kk h a b)
theorem lw_imul_w {x y : Int} (hd : decode md.2.1 pc = .ok (.imul, 1)) (kk : LW md d scr P (pc + 1) ls (.inl (w (x * y)) :: st) g k) : LW md d scr P pc ls (.inl y :: .inl x :: st) g k := fun h a b => aw_imul_w hd (kk h a b)
theorem lw_iand {x y : Int} (hd : decode md.2.1 pc = .ok (.iand, 1)) (kk : LW md d scr P (pc + 1) ls (.inl (an x y) :: st) g k) : LW md d scr P pc ls (.inl y :: .inl x :: st) g k := fun h a b => aw_iand hd (kk h a b)
theorem lw_ishl {x y : Int} (hd : decode md.2.1 pc = .ok (.ishl, 1)) (kk : LW md d scr P (pc + 1) ls (.inl (sl x y) :: st) g k) : LW md d scr P pc ls (.inl y :: .inl x :: st) g k := fun h a b => aw_ishl hd (kk h a b)
theorem lw_ishr {x y : Int} (hd : decode md.2.1 pc = .ok (.ishr, 1)) (kk : LW md d scr P (pc + 1) ls (.inl (sr x y) :: st) g k) : LW md d scr P pc ls (.inl y :: .inl x :: st) g k := fun h a b => aw_ishr hd (kk h a b)
theorem lw_idiv {x y : Int} (hd : decode md.2.1 pc = .ok (.idiv, 1)) (h0 : 0 ≤ x ∧ x < 2147483648) (hy : 0 < y ∧ y < 2147483648) (kk : LW md d scr P (pc + 1) ls (.inl (x / y) :: st) g k) : LW md d scr P pc ls (.inl y :: .inl x :: st) g k := fun h a b => aw_idiv hd (by omega) (by rw [dv_pos h0.1 h0.2 hy.1 hy.2]; exact kk h a b)
theorem lw_irem {x y : Int} (hd : decode md.2.1 pc = .ok (.irem, 1)) (h0 : 0 ≤ x ∧ x < 2147483648) (hy : 0 < y ∧ y < 2147483648) (kk : LW md d scr P (pc + 1) ls (.inl (x % y) :: st) g k) : LW md d scr P pc ls (.inl y :: .inl x :: st) g k := fun h a b => aw_irem hd (by omega) (by rw [rm_pos h0.1 h0.2 hy.1 hy.2]; exact kk h a b)
theorem lw_goto {off : Int} {tgt : Nat} (hd : decode md.2.1 pc = .ok (.goto off, 3)) (ht : (pc : Int) + off = (tgt : Int)) (kk : LW md d scr P tgt ls st g k) : LW md d scr P pc ls st g k := fun h a b => aw_goto hd ht (kk h a b)
theorem lw_icmp_eq {x y off : Int} {tgt : Nat} (hd : decode md.2.1 pc = .ok (.if_icmp .eq off, 3)) (ht : (pc : Int) + off = (tgt : Int)) (kt : x = y → LW md d scr P tgt ls st g k) (kf : ¬ (x = y) → LW md d scr P (pc + 3) ls st g k) : LW md d scr P pc ls (.inl y :: .inl x :: st) g k := fun h a b => aw_icmp_eq hd ht (fun c => kt c h a b) (fun c => kf c h a b)
theorem lw_if_eq {x off : Int} {tgt : Nat} (hd : decode md.2.1 pc = .ok (.ifCond .eq off, 3)) (ht : (pc : Int) + off = (tgt : Int)) (kt : x = 0 → LW md d scr P tgt ls st g k) (kf : ¬ (x = 0) → LW md d scr P (pc + 3) ls st g k) : LW md d scr P pc ls (.inl x :: st) g k := fun h a b => aw_if_eq hd ht (fun c => kt c h a b) (fun c => kf c h a b)
theorem lw_icmp_ne {x y off : Int} {tgt : Nat} (hd : decode md.2.1 pc = .ok (.if_icmp .ne off, 3)) (ht : (pc : Int) + off = (tgt : Int)) (kt : ¬ x = y → LW md d scr P tgt ls st g k) (kf : ¬ (¬ x = y) → LW md d scr P (pc + 3) ls st g k) : LW md d scr P pc ls (.inl y :: .inl x :: st) g k := fun h a b => aw_icmp_ne hd ht (fun c => kt c h a b) (fun c => kf c h a b)
theorem lw_if_ne {x off : Int} {tgt : Nat} (hd : decode md.2.1 pc = .ok (.ifCond .ne off, 3)) (ht : (pc : Int) + off = (tgt : Int)) (kt : ¬ x = 0 → LW md d scr P tgt ls st g k) (kf : ¬ (¬ x = 0) → LW md d scr P (pc + 3) ls st g k) : LW md d scr P pc ls (.inl x :: st) g k := fun h a b => aw_if_ne hd ht (fun c => kt c h a b) (fun c => kf c h a b)
theorem lw_icmp_lt {x y off : Int} {tgt : Nat} (hd : decode md.2.1 pc = .ok (.if_icmp .lt off, 3)) (ht : (pc : Int) + off = (tgt : Int)) (kt : x < y → LW md d scr P tgt ls st g k) (kf : ¬ (x < y) → LW md d scr P (pc + 3) ls st g k) : LW md d scr P pc ls (.inl y :: .inl x :: st) g k := fun h a b => aw_icmp_lt hd ht (fun c => kt c h a b) (fun c => kf c h a b)
theorem lw_if_lt {x off : Int} {tgt : Nat} (hd : decode md.2.1 pc = .ok (.ifCond .lt off, 3)) (ht : (pc : Int) + off = (tgt : Int)) (kt : x < 0 → LW md d scr P tgt ls st g k) (kf : ¬ (x < 0) → LW md d scr P (pc + 3) ls st g k) : LW md d scr P pc ls (.inl x :: st) g k := fun h a b => aw_if_lt hd ht (fun c => kt c h a b) (fun c => kf c h a b)
theorem lw_icmp_ge {x y off : Int} {tgt : Nat} (hd : decode md.2.1 pc = .ok (.if_icmp .ge off, 3)) (ht : (pc : Int) + off = (tgt : Int)) (kt : y ≤ x → LW md d scr P tgt ls st g k) (kf : ¬ (y ≤ x) → LW md d scr P (pc + 3) ls st g k) : LW md d scr P pc ls (.inl y :: .inl x :: st) g k := fun h a b => aw_icmp_ge hd ht (fun c => kt c h a b) (fun c => kf c h a b)
theorem lw_if_ge {x off : Int} {tgt : Nat} (hd : decode md.2.1 pc = .ok (.ifCond .ge off, 3)) (ht : (pc : Int) + off = (tgt : Int)) (kt : 0 ≤ x → LW md d scr P tgt ls st g k) (kf : ¬ (0 ≤ x) → LW md d scr P (pc + 3) ls st g k) : LW md d scr P pc ls (.inl x :: st) g k := fun h a b => aw_if_ge hd ht (fun c => kt c h a b) (fun c => kf c h a b)
theorem lw_icmp_gt {x y off : Int} {tgt : Nat} (hd : decode md.2.1 pc = .ok (.if_icmp .gt off, 3)) (ht : (pc : Int) + off = (tgt : Int)) (kt : y < x → LW md d scr P tgt ls st g k) (kf : ¬ (y < x) → LW md d scr P (pc + 3) ls st g k) : LW md d scr P pc ls (.inl y :: .inl x :: st) g k := fun h a b => aw_icmp_gt hd ht (fun c => kt c h a b) (fun c => kf c h a b)
theorem lw_if_gt {x off : Int} {tgt : Nat} (hd : decode md.2.1 pc = .ok (.ifCond .gt off, 3)) (ht : (pc : Int) + off = (tgt : Int)) (kt : 0 < x → LW md d scr P tgt ls st g k) (kf : ¬ (0 < x) → LW md d scr P (pc + 3) ls st g k) : LW md d scr P pc ls (.inl x :: st) g k := fun h a b => aw_if_gt hd ht (fun c => kt c h a b) (fun c => kf c h a b)
theorem lw_icmp_le {x y off : Int} {tgt : Nat} (hd : decode md.2.1 pc = .ok (.if_icmp .le off, 3)) (ht : (pc : Int) + off = (tgt : Int)) (kt : x ≤ y → LW md d scr P tgt ls st g k) (kf : ¬ (x ≤ y) → LW md d scr P (pc + 3) ls st g k) : LW md d scr P pc ls (.inl y :: .inl x :: st) g k := fun h a b => aw_icmp_le hd ht (fun c => kt c h a b) (fun c => kf c h a b)
theorem lw_if_le {x off : Int} {tgt : Nat} (hd : decode md.2.1 pc = .ok (.ifCond .le off, 3)) (ht : (pc : Int) + off = (tgt : Int)) (kt : x ≤ 0 → LW md d scr P tgt ls st g k) (kf : ¬ (x ≤ 0) → LW md d scr P (pc + 3) ls st g k) : LW md d scr P pc ls (.inl x :: st) g k := fun h a b => aw_if_le hd ht (fun c => kt c h a b) (fun c => kf c h a b)
theorem lw_ireturn {v : Int} (hd : decode md.2.1 pc = .ok (.ireturn, 1)) (hret : md.2.2.2.1 = some .int) (hq : P v g) (h1 : k.1 ≤ md.2.2.2.2.1) (h2 : k.2 ≤ md.2.2.2.2.2) (hb : bts scr = [] := by rfl) : LW md d scr P pc ls [.inl v] g k := fun h a b => ax_ireturn hd hret ⟨v, g, rfl, a, b, hq⟩ h1 h2 hb
theorem lw_zreturn {v : Int} (hd : decode md.2.1 pc = .ok (.ireturn, 1)) (hret : md.2.2.2.1 = some .boolean) (hv : v = 0 ∨ v = 1) (hq : P v g) (h1 : k.1 ≤ md.2.2.2.2.1) (h2 : k.2 ≤ md.2.2.2.2.2) (hb : bts scr = [] := by rfl) : LW md d scr P pc ls [.inl v] g k := fun h a b => aw_ireturn hd (by rw [hret]; exact hv) ⟨v, g, rfl, a, b, hq⟩ h1 h2 hb
theorem lw_lreturn {x : Int64} (hd : decode md.2.1 pc = .ok (.lreturn, 1)) (hr : md.2.2.2.1 = some .long) (hq : P x.toInt g) (h1 : k.1 ≤ md.2.2.2.2.1) (h2 : k.2 ≤ md.2.2.2.2.2) : LW md d (some (sc, [x], xl)) P pc ls [] g k := fun h a b => al_lreturn hd hr ⟨x.toInt, g, rfl, a, b, hq⟩ h1 h2
theorem lw_fewer {ls' : List (Option AV)} (hs : subl ls' ls) (kk : LW md d scr P pc ls' st g k) : LW md d scr P pc ls st g k := fun h a b => aw_fewer hs (kk h a b)
theorem lw_okl (kk : (∀ (i : Nat) (v : AV), ls[i]? = some (some v) → ok v) → LW md d scr P pc ls st g k) : LW md d scr P pc ls st g k := fun h a b => aw_okl (fun z => kk z h a b)
/-! calls -/
theorem lw_invV {md' : MD} {idx n : Nat} {as : List AV} (hd : decode md.2.1 pc = .ok (.invokevirtual idx, 3)) (hm : MO md' n) (hi : Cond.instanceMethod md'.1 ∈ tbG) (hsel : Cond.selects md'.1.cls md'.1 md'.1 ∈ tbG) (hl : Cond.methodLink md.1.cls idx md'.1 ∈ tbG) (hC : cR 6 = md'.1.cls) (hn : as.length = n) (hd1 : 1 ≤ d) (hst8 : st.length + 2 * nbt scr ≤ 8)
    (h1 : md'.2.2.2.2 = (0, 0)) (h2 : k.1 ≤ md.2.2.2.2.1 ∧ k.2 ≤ md.2.2.2.2.2)
    (hM : LM (d - 1) md' (.inr (some 1) :: as) g (fun v g' => LW md d scr P (pc + 3) ls (.inl v :: st) g' k)) : LW md d scr P pc ls (as.reverse ++ .inr (some 1) :: st) g k := fun h a b => by
  have e1 : md'.2.2.2.2.1 = 0 := by rw [h1]
  have e2 : md'.2.2.2.2.2 = 0 := by rw [h1]
  refine aw_invV hd hm hi hsel hl hC a.1.1 hn hd1 hst8 (by rw [e1]; exact h2.1) (by rw [e2]; exact h2.2) (am_mono (hM h a b) (fun r h' _ _ z => ?_))
  obtain ⟨v, g', rfl, a', b', kk⟩ := z
  rw [e1, e2]
  exact kk h' a' b'
theorem lw_invS {md' : MD} {idx n : Nat} {as : List AV} (hd : decode md.2.1 pc = .ok (.invokestatic idx, 3)) (hm : MO md' n) (hi : Cond.static md'.1 ∈ tbG) (hl : Cond.methodLink md.1.cls idx md'.1 ∈ tbG) (hC : md'.1.cls = md.1.cls) (hn : as.length = n) (hd1 : 1 ≤ d) (hst8 : st.length + 2 * nbt scr ≤ 8)
    (h1 : md'.2.2.2.2 = (0, 0)) (h2 : k.1 ≤ md.2.2.2.2.1 ∧ k.2 ≤ md.2.2.2.2.2)
    (hM : LM (d - 1) md' as g (fun v g' => LW md d scr P (pc + 3) ls (.inl v :: st) g' k)) : LW md d scr P pc ls (as.reverse ++ st) g k := fun h a b => by
  have e1 : md'.2.2.2.2.1 = 0 := by rw [h1]
  have e2 : md'.2.2.2.2.2 = 0 := by rw [h1]
  refine aw_invS hd hm hi hl hC hn hd1 hst8 (by rw [e1]; exact h2.1) (by rw [e2]; exact h2.2) (am_mono (hM h a b) (fun r h' _ _ z => ?_))
  obtain ⟨v, g', rfl, a', b', kk⟩ := z
  rw [e1, e2]
  exact kk h' a' b'
theorem lw_invX {md' : MD} {idx n : Nat} {as : List AV} {q : Nat × (Nat → Int)} (hs : scp scr = some q) (hd : decode md.2.1 pc = .ok (.invokestatic idx, 3)) (hm : MO md' n) (hi : Cond.static md'.1 ∈ tbG) (hl : Cond.methodLink md.1.cls idx md'.1 ∈ tbG) (hC : md'.1.cls = md.1.cls) (hn : as.length = n) (hd1 : 1 ≤ d) (hst8 : st.length + 2 * nbt scr ≤ 8)
    (h1 : md'.2.2.2.2 = (0, 0)) (h2 : k.1 ≤ md.2.2.2.2.1 ∧ k.2 ≤ md.2.2.2.2.2)
    (hM : LX (d - 1) md' q as g (fun v g' => LW md d scr P (pc + 3) ls (.inl v :: st) g' k)) : LW md d scr P pc ls (as.reverse ++ st) g k := fun h a b => by
  have e1 : md'.2.2.2.2.1 = 0 := by rw [h1]
  have e2 : md'.2.2.2.2.2 = 0 := by rw [h1]
  refine ax_invX hs hd hm hi hl hC hn hd1 hst8 (by rw [e1]; exact h2.1) (by rw [e2]; exact h2.2) (amx_mono (hM h a b) (fun r h' z => ?_))
  obtain ⟨v, g', rfl, a', b', kk⟩ := z
  rw [e1, e2]
  exact kk h' a' b'
theorem lw_invJ {md' : MD} {idx n : Nat} {as : List AV} (hd : decode md.2.1 pc = .ok (.invokestatic idx, 3)) (hm : MO md' n) (hi : Cond.static md'.1 ∈ tbG) (hl : Cond.methodLink md.1.cls idx md'.1 ∈ tbG) (hC : md'.1.cls = md.1.cls) (hn : as.length = n) (hd1 : 1 ≤ d) (hst8 : 2 * bs.length ≤ 8)
    (h1 : md'.2.2.2.2 = (0, 0)) (h2 : k.1 ≤ md.2.2.2.2.1 ∧ k.2 ≤ md.2.2.2.2.2)
    (hM : LJ (d - 1) md' as g (fun x g' => LW md d (some (sc, x :: bs, xl)) P (pc + 3) ls [] g' k)) : LW md d (some (sc, bs, xl)) P pc ls as.reverse g k := fun h a b => by
  have e1 : md'.2.2.2.2.1 = 0 := by rw [h1]
  have e2 : md'.2.2.2.2.2 = 0 := by rw [h1]
  refine al_invS hd hm hi hl hC hn hd1 hst8 (by rw [e1]; exact h2.1) (by rw [e2]; exact h2.2) (amj_mono (hM h a b) (fun x h' z => ?_))
  obtain ⟨g', a', b', kk⟩ := z
  rw [e1, e2]
  exact kk h' a' b'
/-! longs -/
theorem lw_ldc2 {v : Int64} {i : Nat} (hd : decode md.2.1 pc = .ok (.ldc2_w i, 3)) (hc : Cond.constantLong md.1.cls i v ∈ tbG) (kk : LW md d (some (sc, v :: bs, xl)) P (pc + 3) ls [] g k) : LW md d (some (sc, bs, xl)) P pc ls [] g k := fun h a b => al_ldc2 hd hc (kk h a b)
theorem lw_lload {i : Nat} {x : Int64} (hd : decode md.2.1 pc = .ok (.lload i, 2)) (hx : (i, x) ∈ xl) (kk : LW md d (some (sc, x :: bs, xl)) P (pc + 2) ls [] g k) : LW md d (some (sc, bs, xl)) P pc ls [] g k := fun h a b => al_lload hd hx (kk h a b)
theorem lw_lload_n {i : Fin 4} {j : Nat} {x : Int64} (hd : decode md.2.1 pc = .ok (.lload_n i, 1)) (hx : (j, x) ∈ xl) (kk : LW md d (some (sc, x :: bs, xl)) P (pc + 1) ls [] g k) (hj : i.val = j := by rfl) : LW md d (some (sc, bs, xl)) P pc ls [] g k := fun h a b => al_lload_n hd (by rw [hj]; exact hx) (kk h a b)
theorem lw_lstore {i : Nat} {x : Int64} {xl' : List (Nat × Int64)} (hd : decode md.2.1 pc = .ok (.lstore i, 2)) (h0 : ls[i]? = some none) (h1 : ls[i + 1]? = some none) (hq : ∀ z ∈ xl', z = (i, x) ∨ (z ∈ xl ∧ z.1 ≠ i ∧ z.1 ≠ i + 1 ∧ z.1 + 1 ≠ i)) (kk : LW md d (some (sc, bs, xl')) P (pc + 2) ls [] g k) : LW md d (some (sc, x :: bs, xl)) P pc ls [] g k := fun h a b => al_lstore hd h0 h1 hq (kk h a b)
theorem lw_lstore_n {i : Fin 4} {j : Nat} {x : Int64} {xl' : List (Nat × Int64)} (hd : decode md.2.1 pc = .ok (.lstore_n i, 1)) (h0 : ls[j]? = some none) (h1 : ls[j + 1]? = some none) (hq : ∀ z ∈ xl', z = (j, x) ∨ (z ∈ xl ∧ z.1 ≠ j ∧ z.1 ≠ j + 1 ∧ z.1 + 1 ≠ j)) (kk : LW md d (some (sc, bs, xl')) P (pc + 1) ls [] g k) (hj : i.val = j := by rfl) : LW md d (some (sc, x :: bs, xl)) P pc ls [] g k := fun h a b => al_lstore_n hd (by rw [hj]; exact h0) (by rw [hj]; exact h1) (by rw [hj]; exact hq) (kk h a b)
theorem lw_i2l {v : Int} (hd : decode md.2.1 pc = .ok (.i2l, 1)) (kk : LW md d (some (sc, i64 v :: bs, xl)) P (pc + 1) ls [] g k) : LW md d (some (sc, bs, xl)) P pc ls [.inl v] g k := fun h a b => al_i2l hd (kk h a b)
theorem lw_ladd {x y : Int64} (hd : decode md.2.1 pc = .ok (.ladd, 1)) (kk : LW md d (some (sc, (x + y) :: bs, xl)) P (pc + 1) ls [] g k) : LW md d (some (sc, y :: x :: bs, xl)) P pc ls [] g k := fun h a b => al_ladd hd (kk h a b)
theorem lw_lmul {x y : Int64} (hd : decode md.2.1 pc = .ok (.lmul, 1)) (kk : LW md d (some (sc, (x * y) :: bs, xl)) P (pc + 1) ls [] g k) : LW md d (some (sc, y :: x :: bs, xl)) P pc ls [] g k := fun h a b => al_lmul hd (kk h a b)
theorem lw_lcmp {x y : Int64} (hd : decode md.2.1 pc = .ok (.lcmp, 1)) (hxy : x = y) (kk : LW md d (some (sc, bs, xl)) P (pc + 1) ls [.inl 0] g k) : LW md d (some (sc, y :: x :: bs, xl)) P pc ls [] g k := fun h a b => al_lcmp hd hxy (kk h a b)
theorem lw_slen {q : Nat × (Nat → Int)} (hd : decode md.2.1 pc = .ok (.arraylength, 1)) (hs : scp scr = some q) (kk : LW md d scr P (pc + 1) ls (.inl (q.1 : Int) :: st) g k) : LW md d scr P pc ls (.inr (some 0) :: st) g k := fun h a b => aw_slen hd hs (kk h a b)
theorem lw_sld {q : Nat × (Nat → Int)} {x : Int} (hd : decode md.2.1 pc = .ok (.iaload, 1)) (hs : scp scr = some q) (h0 : 0 ≤ x) (h1 : x < q.1) (kk : LW md d scr P (pc + 1) ls (.inl (q.2 x.toNat) :: st) g k) : LW md d scr P pc ls (.inl x :: .inr (some 0) :: st) g k := fun h a b => aw_sld hd hs h0 h1 (kk h a b)
theorem lx_mono {as : List AV} {q : Nat × (Nat → Int)} {P' : Int → Gs → Prop} (hA : LX d md q as g P) (hq : ∀ v g', P v g' → P' v g') : LX d md q as g P' := fun h a b => amx_mono (hA h a b) (fun r h' z => by
  obtain ⟨v, g', e, l, b', p⟩ := z
  exact ⟨v, g', e, l, b', hq v g' p⟩)
theorem lw_drop {xl' : List (Nat × Int64)} (hs : ∀ z ∈ xl', z ∈ xl) (kk : LW md d (some (sc, bs, xl')) P pc ls st g k) : LW md d (some (sc, bs, xl)) P pc ls st g k := fun h a b => by
  have h0 := kk h a b
  intro p l e R s m args below meth c b B D ca H locs lc Qw C hlen hH hL hst RH
  refine h0 p l e R s m args below meth c b B D ca H locs lc Qw C hlen hH ⟨⟨hL.1.1, hL.1.2.1, fun q hq => ?_⟩, hL.2⟩ hst RH
  rcases List.mem_append.mp hq with hq | hq
  · exact hL.1.2.2 q (List.mem_append_left _ hq)
  · obtain ⟨z, hz, rfl⟩ := List.mem_map.mp hq
    exact hL.1.2.2 _ (List.mem_append_right _ (List.mem_map.mpr ⟨z, hs z hz, rfl⟩))
/-- a frame with no longs yet -/
theorem lw_none (kk : LW md d (some (none, [], [])) P pc ls st g k) : LW md d none P pc ls st g k := kk
/-! the object's methods -/
theorem kq_total {x : Int} (hd : 4 ≤ d) : LM d m_X6_total [.inr (some 1), .inl x] g (fun v g' => v = totO x g ∧ g' = g) := lm_q (fun h a b => k_total hd a b)
theorem kq_card {x : Int} (hd : 3 ≤ d) : LM d m_X6_card [.inr (some 1), .inl x] g (fun v g' => v = cardO x g.1.1 ∧ g' = g) := lm_q (fun h a b => k_card hd a b)
theorem kq_ofCard {x y : Int} (hd : 4 ≤ d) : LM d m_X6_ofCard [.inr (some 1), .inl x, .inl y] g (fun v g' => v = ofO x y g.1.1 ∧ g' = g) := lm_q (fun h a b => k_ofCard hd a b)
theorem kq_told {x : Int} (hd : 3 ≤ d) : LM d m_X6_told [.inr (some 1), .inl x] g (fun v g' => v = toldO x g.1.2.1 ∧ g' = g) := lm_q (fun h a b => k_told hd a b)
theorem kq_count {x y : Int} (hd : 3 ≤ d) : LM d m_X6_count [.inr (some 1), .inl x, .inl y] g (fun v g' => v = countO x y g.1.1 ∧ g' = g) := lm_q (fun h a b => k_count hd a b)
theorem kq_thickest {x : Int} (hd : 4 ≤ d) : LM d m_X6_thickest [.inr (some 1), .inl x] g (fun v g' => v = thickO x g.1.1 ∧ g' = g) := lm_q (fun h a b => k_thickest hd a b)
theorem kq_walkTakes {x y : Int} (hd : 16 ≤ d) : LM d m_X6_walkTakes [.inr (some 1), .inl x, .inl y] g (fun v g' => v = walkTO x y g.1 ∧ g' = g) := lm_q (fun h a b => k_walkTakes hd a b)
theorem kq_roundsTake {x y : Int} (hd : 7 ≤ d) : LM d m_X6_roundsTake [.inr (some 1), .inl x, .inl y] g (fun v g' => v = roundsTO x y g.1 ∧ g' = g) := lm_q (fun h a b => k_roundsTake hd a b)
theorem kc_put {x : Int} (hd : 6 ≤ d) : LM d m_X6_put [.inr (some 1), .inl x] g (fun v g' => v = (recG (putO x g.1) g).1 ∧ g' = (recG (putO x g.1) g).2) := lm_of (fun h a b => k_put hd a b)
theorem kc_take {x : Int} (hd : 6 ≤ d) : LM d m_X6_take [.inr (some 1), .inl x] g (fun v g' => v = (recG (takeO x g.1) g).1 ∧ g' = (recG (takeO x g.1) g).2) := lm_of (fun h a b => k_take hd a b)
theorem kc_sleep {x : Int} (hd : 6 ≤ d) : LM d m_X6_sleep [.inr (some 1), .inl x] g (fun v g' => v = (recG (sleepO x g.1) g).1 ∧ g' = (recG (sleepO x g.1) g).2) := lm_of (fun h a b => k_sleep hd a b)
theorem kc_wakeAll (hd : 6 ≤ d) : LM d m_X6_wakeAll [.inr (some 1)] g (fun v g' => v = (recG (wakeO g.1) g).1 ∧ g' = (recG (wakeO g.1) g).2) := lm_of (fun h a b => k_wakeAll hd a b)
theorem kc_leave {x y : Int} (hd : 6 ≤ d) : LM d m_X6_leave [.inr (some 1), .inl x, .inl y] g (fun v g' => v = (recG (leaveO x y g.1) g).1 ∧ g' = (recG (leaveO x y g.1) g).2) := lm_of (fun h a b => k_leave hd a b)
theorem kc_set {x y : Int} (hd : 6 ≤ d) : LM d m_X6_set [.inr (some 1), .inl x, .inl y] g (fun v g' => v = (recG (setO x y g.1) g).1 ∧ g' = (recG (setO x y g.1) g).2) := lm_of (fun h a b => k_set hd a b)
theorem kc_shuffle {x : Int} (hd : 6 ≤ d) (hx : x < 2147483648) : LM d m_X6_shuffle [.inr (some 1), .inl x] g (fun v g' => v = (recG (shufO x g.1) g).1 ∧ g' = (recG (shufO x g.1) g).2) := lm_of (fun h a b => k_shuffle hd a b hx)
theorem kc_forget (hd : 6 ≤ d) : LM d m_X6_forget [.inr (some 1)] g (fun v g' => v = (recG (forgO g.1) g).1 ∧ g' = (recG (forgO g.1) g).2) := lm_of (fun h a b => k_forget hd a b)
theorem kc_walk {x : Int} (hd : 15 ≤ d) : LM d m_X6_walk [.inr (some 1), .inl x] g (fun v g' => v = (recG (walkO x g.1) g).1 ∧ g' = (recG (walkO x g.1) g).2) := lm_of (fun h a b => k_walk hd a b)
theorem kc_frame {x : Int} (hd : 6 ≤ d) : LM d m_X6_frame [.inr (some 1), .inl x] g (fun v g' => v = (recG (frameO x g.1) g).1 ∧ g' = (recG (frameO x g.1) g).2) := lm_of (fun h a b => k_frame hd a b)
theorem kc_rounds {x : Int} (hd : 6 ≤ d) : LM d m_X6_rounds [.inr (some 1), .inl x] g (fun v g' => v = (recG (roundsO x g.1) g).1 ∧ g' = (recG (roundsO x g.1) g).2) := lm_of (fun h a b => k_rounds hd a b)
theorem kc_ask {x y : Int} (hd : 6 ≤ d) : LM d m_X6_ask [.inr (some 1), .inl x, .inl y] g (fun v g' => v = (askG x y g).1 ∧ g' = (askG x y g).2) := lm_of (fun h a b => k_ask hd a b)
theorem kc_clearText (hd : 2 ≤ d) : LM d m_X6_clearText [.inr (some 1)] g (fun v g' => v = (clearG g).1 ∧ g' = (clearG g).2) := lm_of (fun h a b => k_clearText hd a b)
theorem kc_perform (hd : 17 ≤ d) : LM d m_X6_perform [.inr (some 1)] g (fun v g' => v = (perfG g).1 ∧ g' = (perfG g).2) := lm_of (fun h a b => k_perform hd a b)
theorem kc_undo (hd : 4 ≤ d) : LM d m_X6_undo [.inr (some 1)] g (fun v g' => v = (undoG g).1 ∧ g' = (undoG g).2) := lm_of (fun h a b => k_undo hd a b)
theorem kc_keep (hd : 4 ≤ d) : LM d m_X6_keep [.inr (some 1)] g (fun v g' => v = (keepG g).1 ∧ g' = (keepG g).2) := lm_of (fun h a b => k_keep hd a b)
theorem kc_restore (hd : 5 ≤ d) : LM d m_X6_restore [.inr (some 1)] g (fun v g' => v = (restG g).1 ∧ g' = (restG g).2) := lm_of (fun h a b => k_restore hd a b)
end LWS
