section R2
variable {md : MD} {d : Nat} {scr : SX} {Q : Option Int → AH → Prop} {pc : Nat} {ls : List (Option AV)} {st : List AV} {h : AH} {k : Nat × Nat}
theorem ax_geti {idx ci kf j : Nat} {v : Int} (hd : decode md.2.1 pc = .ok (.getfield idx, 3)) (hl : Cond.fieldLink md.1.cls idx (cU ci kf).1 (cU ci kf).2.1 (cU ci kf).2.2.1 ∈ tbG) (hkf : kf < cN ci) (hT : isR (cT ci kf) = false) (hx : hk h j = (0, ci)) (hv : hi h j kf = v)
    (kk : AW md d scr Q (pc + 3) ls (.inl v :: st) h k) : AW md d scr Q pc ls (.inr (some j) :: st) h k := by
  subst hv
  exact aw_geti hd hl hkf hT hx kk
theorem ax_iaload {j n : Nat} {x v : Int} (hd : decode md.2.1 pc = .ok (.iaload, 1)) (hx : hk h j = (1, n)) (h01 : 0 ≤ x ∧ x < (n : Int)) (hv : hi h j x = v) (kk : AW md d scr Q (pc + 1) ls (.inl v :: st) h k) : AW md d scr Q pc ls (.inl x :: .inr (some j) :: st) h k := by
  subst hv
  exact aw_iaload hd hx h01.1 h01.2 kk
theorem ax_baload {j n : Nat} {x v : Int} (hd : decode md.2.1 pc = .ok (.baload, 1)) (hx : hk h j = (2, n)) (h01 : 0 ≤ x ∧ x < (n : Int)) (hv : hi h j x = v) (kk : AW md d scr Q (pc + 1) ls (.inl v :: st) h k) : AW md d scr Q pc ls (.inl x :: .inr (some j) :: st) h k := by
  subst hv
  exact aw_baload hd hx h01.1 h01.2 kk
theorem ax_caload {j n : Nat} {x v : Int} (hd : decode md.2.1 pc = .ok (.caload, 1)) (hx : hk h j = (3, n)) (h01 : 0 ≤ x ∧ x < (n : Int)) (hv : hi h j x = v) (kk : AW md d scr Q (pc + 1) ls (.inl v :: st) h k) : AW md d scr Q pc ls (.inl x :: .inr (some j) :: st) h k := by
  subst hv
  exact aw_caload hd hx h01.1 h01.2 kk
theorem ax_aaload {j n : Nat} {x : Int} {r : Option Nat} (hd : decode md.2.1 pc = .ok (.aaload, 1)) (hx : hk h j = (4, n)) (h01 : 0 ≤ x ∧ x < (n : Int)) (hv : hr h j x = r) (kk : AW md d scr Q (pc + 1) ls (.inr r :: st) h k) : AW md d scr Q pc ls (.inl x :: .inr (some j) :: st) h k := by
  subst hv
  exact aw_aaload hd hx h01.1 h01.2 kk
theorem ax_iastore {j n : Nat} {x v : Int} (hd : decode md.2.1 pc = .ok (.iastore, 1)) (hx : hk h j = (1, n)) (h01 : 0 ≤ x ∧ x < (n : Int)) (kk : AW md d scr Q (pc + 1) ls st (up h j x v) k) : AW md d scr Q pc ls (.inl v :: .inl x :: .inr (some j) :: st) h k := aw_iastore hd hx h01.1 h01.2 kk
theorem ax_bastore {j n : Nat} {x v : Int} (hd : decode md.2.1 pc = .ok (.bastore, 1)) (hx : hk h j = (2, n)) (h01 : 0 ≤ x ∧ x < (n : Int)) (hv01 : v = 0 ∨ v = 1) (kk : AW md d scr Q (pc + 1) ls st (up h j x v) k) : AW md d scr Q pc ls (.inl v :: .inl x :: .inr (some j) :: st) h k := aw_bastore hd hx h01.1 h01.2 hv01 kk
theorem ax_castore {j n : Nat} {x v : Int} (hd : decode md.2.1 pc = .ok (.castore, 1)) (hx : hk h j = (3, n)) (h01 : 0 ≤ x ∧ x < (n : Int)) (hv01 : 0 ≤ v ∧ v < 65536) (kk : AW md d scr Q (pc + 1) ls st (up h j x v) k) : AW md d scr Q pc ls (.inl v :: .inl x :: .inr (some j) :: st) h k := aw_castore hd hx h01.1 h01.2 hv01 kk
theorem ax_aastore {j n u : Nat} {x : Int} (hd : decode md.2.1 pc = .ok (.aastore, 1)) (hx : hk h j = (4, n)) (h01 : 0 ≤ x ∧ x < (n : Int)) (hu : hk h u = (0, 2)) (kk : AW md d scr Q (pc + 1) ls st (ur h j x (some u)) k) : AW md d scr Q pc ls (.inr (some u) :: .inl x :: .inr (some j) :: st) h k := aw_aastore hd hx h01.1 h01.2 hu kk
theorem ax_istore {i : Nat} {v : Int} {ls' : List (Option AV)} (hd : decode md.2.1 pc = .ok (.istore i, 2)) (hi : i < ls.length) (hs : ls.set i (some (.inl v)) = ls') (kk : AW md d scr Q (pc + 2) ls' st h k) (hx : lgf scr i = true := by rfl) : AW md d scr Q pc ls (.inl v :: st) h k := by
  subst hs
  exact aw_istore hd hi kk hx
theorem ax_istore_n {i : Fin 4} {v : Int} {ls' : List (Option AV)} (hd : decode md.2.1 pc = .ok (.istore_n i, 1)) (hi : i.val < ls.length) (hs : ls.set i.val (some (.inl v)) = ls') (kk : AW md d scr Q (pc + 1) ls' st h k) (hx : lgf scr i.val = true := by rfl) : AW md d scr Q pc ls (.inl v :: st) h k := by
  subst hs
  exact aw_istore_n hd hi kk hx
theorem ax_astore {i : Nat} {r : Nat} {ls' : List (Option AV)} (hd : decode md.2.1 pc = .ok (.astore i, 2)) (hi : i < ls.length) (hs : ls.set i (some (.inr (some r))) = ls') (kk : AW md d scr Q (pc + 2) ls' st h k) (hx : lgf scr i = true := by rfl) : AW md d scr Q pc ls (.inr (some r) :: st) h k := by
  subst hs
  exact aw_astore hd hi kk hx
theorem ax_astore_n {i : Fin 4} {r : Nat} {ls' : List (Option AV)} (hd : decode md.2.1 pc = .ok (.astore_n i, 1)) (hi : i.val < ls.length) (hs : ls.set i.val (some (.inr (some r))) = ls') (kk : AW md d scr Q (pc + 1) ls' st h k) (hx : lgf scr i.val = true := by rfl) : AW md d scr Q pc ls (.inr (some r) :: st) h k := by
  subst hs
  exact aw_astore_n hd hi kk hx
theorem ax_iinc {i : Nat} {n v v' : Int} {ls' : List (Option AV)} (hd : decode md.2.1 pc = .ok (.iinc i n, 3)) (hl : ls[i]? = some (some (.inl v))) (hn : rg (v + n)) (hv : v + n = v') (hs : ls.set i (some (.inl v')) = ls') (kk : AW md d scr Q (pc + 3) ls' st h k) (hx : lgf scr i = true := by rfl) : AW md d scr Q pc ls st h k := by
  subst hs hv
  exact aw_iinc hd hl hn kk hx
theorem ax_iadd {x y v : Int} (hd : decode md.2.1 pc = .ok (.iadd, 1)) (hn : rg (x + y)) (hv : x + y = v) (kk : AW md d scr Q (pc + 1) ls (.inl v :: st) h k) : AW md d scr Q pc ls (.inl y :: .inl x :: st) h k := by subst hv; exact aw_iadd hd hn kk
theorem ax_isub {x y v : Int} (hd : decode md.2.1 pc = .ok (.isub, 1)) (hn : rg (x - y)) (hv : x - y = v) (kk : AW md d scr Q (pc + 1) ls (.inl v :: st) h k) : AW md d scr Q pc ls (.inl y :: .inl x :: st) h k := by subst hv; exact aw_isub hd hn kk
theorem ax_imul {x y v : Int} (hd : decode md.2.1 pc = .ok (.imul, 1)) (hn : rg (x * y)) (hv : x * y = v) (kk : AW md d scr Q (pc + 1) ls (.inl v :: st) h k) : AW md d scr Q pc ls (.inl y :: .inl x :: st) h k := by subst hv; exact aw_imul hd hn kk
theorem ax_ireturn {v : Int} (hd : decode md.2.1 pc = .ok (.ireturn, 1)) (hret : md.2.2.2.1 = some .int) (hq : Q (some v) h) (h1 : k.1 ≤ md.2.2.2.2.1) (h2 : k.2 ≤ md.2.2.2.2.2) (hb : bts scr = [] := by rfl) : AW md d scr Q pc ls [.inl v] h k := by
  intro p l e R s m args below meth c b B D ca H locs lc Qw C hlen hH hL hst RH
  rw [hb]
  exact (RH (some v) pc h H locs lc k hH hq h1 h2).1 (by rw [hret]; exact ok_hd hst) hd
theorem ax_puti {idx ci kf j : Nat} {v : Int} (hd : decode md.2.1 pc = .ok (.putfield idx, 3)) (hl : Cond.fieldLink md.1.cls idx (cU ci kf).1 (cU ci kf).2.1 (cU ci kf).2.2.1 ∈ tbG) (hkf : kf < cN ci) (hT : isR (cT ci kf) = false) (hfin : (cU ci kf).2.2.2 = false) (hty : cT ci kf = .int) (hx : hk h j = (0, ci))
    (kk : AW md d scr Q (pc + 3) ls st (up h j kf v) k) : AW md d scr Q pc ls (.inl v :: .inr (some j) :: st) h k := by
  intro p l e R s m args below meth c b B D ca H locs lc Qw C hlen hH hL hst RH
  have hv : okr (some (cT ci kf)) v := by rw [hty]; exact ok_hd hst
  exact aw_puti hd hl hkf hT hfin hx hv kk p l e R s m args below meth c b B D ca H locs lc Qw C hlen hH hL hst RH
/-- fewer locals are known -/
theorem aw_forget {ls' : List (Option AV)} (hlen : ls'.length = ls.length) (hs : ∀ (i : Nat) (v : AV), ls'[i]? = some (some v) → ls[i]? = some (some v)) (kk : AW md d scr Q pc ls' st h k) : AW md d scr Q pc ls st h k := by
  intro p l e R s m args below meth c b B D ca H locs lc Qw C hlen' hH hL hst RH
  refine kk p l e R s m args below meth c b B D ca H locs lc Qw C (hlen.trans hlen') hH ⟨⟨hL.1.1.trans hlen.symm, hL.1.2.1, fun q hq => ?_⟩, fun i v hi => hL.2 i v (hs i v hi)⟩ hst RH
  rcases List.mem_append.mp hq with hq | hq
  · obtain ⟨i, v, h1, h2⟩ := lpr_mem' _ _ _ hq
    rw [h2, Nat.zero_add]
    exact hL.get (hs i v h1)
  · exact hL.1.2.2 q (List.mem_append_right _ hq)
def subl : List (Option AV) → List (Option AV) → Prop
  | [], [] => True
  | none :: t, _ :: u => subl t u
  | some v :: t, w :: u => w = some v ∧ subl t u
  | _, _ => False
theorem subl_ok : ∀ (t u : List (Option AV)), subl t u → t.length = u.length ∧ ∀ (i : Nat) (v : AV), t[i]? = some (some v) → u[i]? = some (some v)
  | [], [], _ => ⟨rfl, fun i v hi => by simp at hi⟩
  | none :: t, x :: u, hs => by
    obtain ⟨h1, h2⟩ := subl_ok t u hs
    refine ⟨by simp [h1], fun i v hi => ?_⟩
    cases i with
    | zero => simp at hi
    | succ i => exact h2 i v (by simpa using hi)
  | some v :: t, x :: u, hs => by
    obtain ⟨h1, h2⟩ := subl_ok t u hs.2
    refine ⟨by simp [h1], fun i y hi => ?_⟩
    cases i with
    | zero => rw [hs.1]; exact hi
    | succ i => exact h2 i y (by simpa using hi)
theorem aw_fewer {ls' : List (Option AV)} (hs : subl ls' ls) (kk : AW md d scr Q pc ls' st h k) : AW md d scr Q pc ls st h k := aw_forget (subl_ok _ _ hs).1 (subl_ok _ _ hs).2 kk
end R2
