/-! the law, a case each -/
section LAW
variable {d L : Nat} {xs : Nat → Int} {Q : Option Int → AH → Prop} {i : Int} {h : AH} {k : Nat × Nat}
set_option maxRecDepth 100000 in
set_option maxHeartbeats 4000000 in
theorem law_put (hd : 100 ≤ d) (hL : L ≤ 1536) (h0 : 0 ≤ i) (h3 : i + 3 ≤ L) (hx : ∀ j, rg (xs j)) (k1 : k.1 ≤ 600000) (k2 : k.2 ≤ 7302249) (c : LW h) (K : ∀ h', LW h' → AW m_L_law d (some (L, xs)) Q 801 (LOC i) [] h' k) : AW m_L_law d (some (L, xs)) Q 156 (LOC i) [] h k := by
  obtain ⟨l6, qz, g, a6, a7⟩ := c
  refine aw_aload_n (pc := 156) dL_law_156 rfl ?_
  refine aw_aload_n (pc := 157) dL_law_157 rfl ?_
  refine aw_iload_n (pc := 158) dL_law_158 rfl ?_
  refine aw_iconst (pc := 159) dL_law_159 ?_
  refine ax_iadd (pc := 160) (v := i + 1) dL_law_160 (by unfold rg; omega) rfl ?_
  refine aw_sld (pc := 161) (q := (L, xs)) dL_law_161 rfl (by omega) (by show i + 1 < (L : Int); omega) ?_
  refine aw_invV (pc := 162) (md' := m_X6_put) (n := 1) (ci := 6) (j := 1) (as := [.inl (xs (i + 1).toNat)]) (st := []) dL_law_162 mo_X6_put im_X6_put se_X6_put ml_L_13 rfl l6.1.1 rfl (by omega) (Nat.le_of_ble_eq_true rfl) (by show k.1 + 0 ≤ 600000; omega) (by show k.2 + 0 ≤ 7302249; omega) ?_
  refine am_mono (k_put (by omega) l6 a6) (fun r h1 _ _ z => ?_)
  obtain ⟨rfl, s1, f1, b6⟩ := z
  have qz1 := qz.sw s1
  have a71 := a7.other f1
  show AW m_L_law d _ Q 165 (LOC i) [.inl _] h1 _
  refine aw_aload_n (pc := 165) dL_law_165 rfl ?_
  refine aw_aload_n (pc := 166) dL_law_166 rfl ?_
  refine aw_iload_n (pc := 167) dL_law_167 rfl ?_
  refine aw_iconst (pc := 168) dL_law_168 ?_
  refine ax_iadd (pc := 169) (v := i + 1) dL_law_169 (by unfold rg; omega) rfl ?_
  refine aw_sld (pc := 170) (q := (L, xs)) dL_law_170 rfl (by omega) (by show i + 1 < (L : Int); omega) ?_
  refine aw_invV (pc := 171) (md' := m_X7_put) (n := 1) (ci := 7) (j := 104) (as := [.inl (xs (i + 1).toNat)]) (st := [.inl _]) dL_law_171 mo_X7_put im_X7_put se_X7_put ml_L_17 rfl qz1.1 rfl (by omega) (Nat.le_of_ble_eq_true rfl) (by show k.1 + 0 + 0 ≤ 600000; omega) (by show k.2 + 0 + 0 ≤ 7302249; omega) ?_
  refine am_mono (y_put (by omega) qz1 a71) (fun r h2 _ _ z => ?_)
  obtain ⟨rfl, s2, f2, b7⟩ := z
  show AW m_L_law d _ Q 174 (LOC i) [.inl _, .inl _] h2 _
  refine aw_icmp_eq (pc := 174) (tgt := 801) dL_law_174 (by decide) (fun _ => ?_) (fun c2 => absurd rfl c2)
  exact K h2 ((LW.mk l6 qz s1 s2 f2 b6 b7))
set_option maxRecDepth 100000 in
set_option maxHeartbeats 4000000 in
theorem law_take (hd : 100 ≤ d) (hL : L ≤ 1536) (h0 : 0 ≤ i) (h3 : i + 3 ≤ L) (hx : ∀ j, rg (xs j)) (k1 : k.1 ≤ 600000) (k2 : k.2 ≤ 7302249) (c : LW h) (K : ∀ h', LW h' → AW m_L_law d (some (L, xs)) Q 801 (LOC i) [] h' k) : AW m_L_law d (some (L, xs)) Q 179 (LOC i) [] h k := by
  obtain ⟨l6, qz, g, a6, a7⟩ := c
  refine aw_aload_n (pc := 179) dL_law_179 rfl ?_
  refine aw_aload_n (pc := 180) dL_law_180 rfl ?_
  refine aw_iload_n (pc := 181) dL_law_181 rfl ?_
  refine aw_iconst (pc := 182) dL_law_182 ?_
  refine ax_iadd (pc := 183) (v := i + 1) dL_law_183 (by unfold rg; omega) rfl ?_
  refine aw_sld (pc := 184) (q := (L, xs)) dL_law_184 rfl (by omega) (by show i + 1 < (L : Int); omega) ?_
  refine aw_invV (pc := 185) (md' := m_X6_take) (n := 1) (ci := 6) (j := 1) (as := [.inl (xs (i + 1).toNat)]) (st := []) dL_law_185 mo_X6_take im_X6_take se_X6_take ml_L_18 rfl l6.1.1 rfl (by omega) (Nat.le_of_ble_eq_true rfl) (by show k.1 + 0 ≤ 600000; omega) (by show k.2 + 0 ≤ 7302249; omega) ?_
  refine am_mono (k_take (by omega) l6 a6) (fun r h1 _ _ z => ?_)
  obtain ⟨rfl, s1, f1, b6⟩ := z
  have qz1 := qz.sw s1
  have a71 := a7.other f1
  show AW m_L_law d _ Q 188 (LOC i) [.inl _] h1 _
  refine aw_aload_n (pc := 188) dL_law_188 rfl ?_
  refine aw_aload_n (pc := 189) dL_law_189 rfl ?_
  refine aw_iload_n (pc := 190) dL_law_190 rfl ?_
  refine aw_iconst (pc := 191) dL_law_191 ?_
  refine ax_iadd (pc := 192) (v := i + 1) dL_law_192 (by unfold rg; omega) rfl ?_
  refine aw_sld (pc := 193) (q := (L, xs)) dL_law_193 rfl (by omega) (by show i + 1 < (L : Int); omega) ?_
  refine aw_invV (pc := 194) (md' := m_X7_take) (n := 1) (ci := 7) (j := 104) (as := [.inl (xs (i + 1).toNat)]) (st := [.inl _]) dL_law_194 mo_X7_take im_X7_take se_X7_take ml_L_21 rfl qz1.1 rfl (by omega) (Nat.le_of_ble_eq_true rfl) (by show k.1 + 0 + 0 ≤ 600000; omega) (by show k.2 + 0 + 0 ≤ 7302249; omega) ?_
  refine am_mono (y_take (by omega) qz1 a71) (fun r h2 _ _ z => ?_)
  obtain ⟨rfl, s2, f2, b7⟩ := z
  show AW m_L_law d _ Q 197 (LOC i) [.inl _, .inl _] h2 _
  refine aw_icmp_eq (pc := 197) (tgt := 801) dL_law_197 (by decide) (fun _ => ?_) (fun c2 => absurd rfl c2)
  exact K h2 ((LW.mk l6 qz s1 s2 f2 b6 b7))
set_option maxRecDepth 100000 in
set_option maxHeartbeats 4000000 in
theorem law_sleep (hd : 100 ≤ d) (hL : L ≤ 1536) (h0 : 0 ≤ i) (h3 : i + 3 ≤ L) (hx : ∀ j, rg (xs j)) (k1 : k.1 ≤ 600000) (k2 : k.2 ≤ 7302249) (c : LW h) (K : ∀ h', LW h' → AW m_L_law d (some (L, xs)) Q 801 (LOC i) [] h' k) : AW m_L_law d (some (L, xs)) Q 202 (LOC i) [] h k := by
  obtain ⟨l6, qz, g, a6, a7⟩ := c
  refine aw_aload_n (pc := 202) dL_law_202 rfl ?_
  refine aw_aload_n (pc := 203) dL_law_203 rfl ?_
  refine aw_iload_n (pc := 204) dL_law_204 rfl ?_
  refine aw_iconst (pc := 205) dL_law_205 ?_
  refine ax_iadd (pc := 206) (v := i + 1) dL_law_206 (by unfold rg; omega) rfl ?_
  refine aw_sld (pc := 207) (q := (L, xs)) dL_law_207 rfl (by omega) (by show i + 1 < (L : Int); omega) ?_
  refine aw_invV (pc := 208) (md' := m_X6_sleep) (n := 1) (ci := 6) (j := 1) (as := [.inl (xs (i + 1).toNat)]) (st := []) dL_law_208 mo_X6_sleep im_X6_sleep se_X6_sleep ml_L_22 rfl l6.1.1 rfl (by omega) (Nat.le_of_ble_eq_true rfl) (by show k.1 + 0 ≤ 600000; omega) (by show k.2 + 0 ≤ 7302249; omega) ?_
  refine am_mono (k_sleep (by omega) l6 a6) (fun r h1 _ _ z => ?_)
  obtain ⟨rfl, s1, f1, b6⟩ := z
  have qz1 := qz.sw s1
  have a71 := a7.other f1
  show AW m_L_law d _ Q 211 (LOC i) [.inl _] h1 _
  refine aw_aload_n (pc := 211) dL_law_211 rfl ?_
  refine aw_aload_n (pc := 212) dL_law_212 rfl ?_
  refine aw_iload_n (pc := 213) dL_law_213 rfl ?_
  refine aw_iconst (pc := 214) dL_law_214 ?_
  refine ax_iadd (pc := 215) (v := i + 1) dL_law_215 (by unfold rg; omega) rfl ?_
  refine aw_sld (pc := 216) (q := (L, xs)) dL_law_216 rfl (by omega) (by show i + 1 < (L : Int); omega) ?_
  refine aw_invV (pc := 217) (md' := m_X7_sleep) (n := 1) (ci := 7) (j := 104) (as := [.inl (xs (i + 1).toNat)]) (st := [.inl _]) dL_law_217 mo_X7_sleep im_X7_sleep se_X7_sleep ml_L_25 rfl qz1.1 rfl (by omega) (Nat.le_of_ble_eq_true rfl) (by show k.1 + 0 + 0 ≤ 600000; omega) (by show k.2 + 0 + 0 ≤ 7302249; omega) ?_
  refine am_mono (y_sleep (by omega) qz1 a71) (fun r h2 _ _ z => ?_)
  obtain ⟨rfl, s2, f2, b7⟩ := z
  show AW m_L_law d _ Q 220 (LOC i) [.inl _, .inl _] h2 _
  refine aw_icmp_eq (pc := 220) (tgt := 801) dL_law_220 (by decide) (fun _ => ?_) (fun c2 => absurd rfl c2)
  exact K h2 ((LW.mk l6 qz s1 s2 f2 b6 b7))
set_option maxRecDepth 100000 in
set_option maxHeartbeats 4000000 in
theorem law_wakeAll (hd : 100 ≤ d) (hL : L ≤ 1536) (h0 : 0 ≤ i) (h3 : i + 3 ≤ L) (hx : ∀ j, rg (xs j)) (k1 : k.1 ≤ 600000) (k2 : k.2 ≤ 7302249) (c : LW h) (K : ∀ h', LW h' → AW m_L_law d (some (L, xs)) Q 801 (LOC i) [] h' k) : AW m_L_law d (some (L, xs)) Q 225 (LOC i) [] h k := by
  obtain ⟨l6, qz, g, a6, a7⟩ := c
  refine aw_aload_n (pc := 225) dL_law_225 rfl ?_
  refine aw_invV (pc := 226) (md' := m_X6_wakeAll) (n := 0) (ci := 6) (j := 1) (as := []) (st := []) dL_law_226 mo_X6_wakeAll im_X6_wakeAll se_X6_wakeAll ml_L_26 rfl l6.1.1 rfl (by omega) (Nat.le_of_ble_eq_true rfl) (by show k.1 + 0 ≤ 600000; omega) (by show k.2 + 0 ≤ 7302249; omega) ?_
  refine am_mono (k_wakeAll (by omega) l6 a6) (fun r h1 _ _ z => ?_)
  obtain ⟨rfl, s1, f1, b6⟩ := z
  have qz1 := qz.sw s1
  have a71 := a7.other f1
  show AW m_L_law d _ Q 229 (LOC i) [.inl _] h1 _
  refine aw_aload_n (pc := 229) dL_law_229 rfl ?_
  refine aw_invV (pc := 230) (md' := m_X7_wakeAll) (n := 0) (ci := 7) (j := 104) (as := []) (st := [.inl _]) dL_law_230 mo_X7_wakeAll im_X7_wakeAll se_X7_wakeAll ml_L_30 rfl qz1.1 rfl (by omega) (Nat.le_of_ble_eq_true rfl) (by show k.1 + 0 + 0 ≤ 600000; omega) (by show k.2 + 0 + 0 ≤ 7302249; omega) ?_
  refine am_mono (y_wakeAll (by omega) qz1 a71) (fun r h2 _ _ z => ?_)
  obtain ⟨rfl, s2, f2, b7⟩ := z
  show AW m_L_law d _ Q 233 (LOC i) [.inl _, .inl _] h2 _
  refine aw_icmp_eq (pc := 233) (tgt := 801) dL_law_233 (by decide) (fun _ => ?_) (fun c2 => absurd rfl c2)
  exact K h2 ((LW.mk l6 qz s1 s2 f2 b6 b7))
set_option maxRecDepth 100000 in
set_option maxHeartbeats 4000000 in
theorem law_leave (hd : 100 ≤ d) (hL : L ≤ 1536) (h0 : 0 ≤ i) (h3 : i + 3 ≤ L) (hx : ∀ j, rg (xs j)) (k1 : k.1 ≤ 600000) (k2 : k.2 ≤ 7302249) (c : LW h) (K : ∀ h', LW h' → AW m_L_law d (some (L, xs)) Q 801 (LOC i) [] h' k) : AW m_L_law d (some (L, xs)) Q 238 (LOC i) [] h k := by
  obtain ⟨l6, qz, g, a6, a7⟩ := c
  refine aw_aload_n (pc := 238) dL_law_238 rfl ?_
  refine aw_aload_n (pc := 239) dL_law_239 rfl ?_
  refine aw_iload_n (pc := 240) dL_law_240 rfl ?_
  refine aw_iconst (pc := 241) dL_law_241 ?_
  refine ax_iadd (pc := 242) (v := i + 1) dL_law_242 (by unfold rg; omega) rfl ?_
  refine aw_sld (pc := 243) (q := (L, xs)) dL_law_243 rfl (by omega) (by show i + 1 < (L : Int); omega) ?_
  refine aw_aload_n (pc := 244) dL_law_244 rfl ?_
  refine aw_iload_n (pc := 245) dL_law_245 rfl ?_
  refine aw_iconst (pc := 246) dL_law_246 ?_
  refine ax_iadd (pc := 247) (v := i + 2) dL_law_247 (by unfold rg; omega) rfl ?_
  refine aw_sld (pc := 248) (q := (L, xs)) dL_law_248 rfl (by omega) (by show i + 2 < (L : Int); omega) ?_
  refine aw_invV (pc := 249) (md' := m_X6_leave) (n := 2) (ci := 6) (j := 1) (as := [.inl (xs (i + 1).toNat), .inl (xs (i + 2).toNat)]) (st := []) dL_law_249 mo_X6_leave im_X6_leave se_X6_leave ml_L_31 rfl l6.1.1 rfl (by omega) (Nat.le_of_ble_eq_true rfl) (by show k.1 + 0 ≤ 600000; omega) (by show k.2 + 0 ≤ 7302249; omega) ?_
  refine am_mono (k_leave (by omega) l6 a6) (fun r h1 _ _ z => ?_)
  obtain ⟨rfl, s1, f1, b6⟩ := z
  have qz1 := qz.sw s1
  have a71 := a7.other f1
  show AW m_L_law d _ Q 252 (LOC i) [.inl _] h1 _
  refine aw_aload_n (pc := 252) dL_law_252 rfl ?_
  refine aw_aload_n (pc := 253) dL_law_253 rfl ?_
  refine aw_iload_n (pc := 254) dL_law_254 rfl ?_
  refine aw_iconst (pc := 255) dL_law_255 ?_
  refine ax_iadd (pc := 256) (v := i + 1) dL_law_256 (by unfold rg; omega) rfl ?_
  refine aw_sld (pc := 257) (q := (L, xs)) dL_law_257 rfl (by omega) (by show i + 1 < (L : Int); omega) ?_
  refine aw_aload_n (pc := 258) dL_law_258 rfl ?_
  refine aw_iload_n (pc := 259) dL_law_259 rfl ?_
  refine aw_iconst (pc := 260) dL_law_260 ?_
  refine ax_iadd (pc := 261) (v := i + 2) dL_law_261 (by unfold rg; omega) rfl ?_
  refine aw_sld (pc := 262) (q := (L, xs)) dL_law_262 rfl (by omega) (by show i + 2 < (L : Int); omega) ?_
  refine aw_invV (pc := 263) (md' := m_X7_leave) (n := 2) (ci := 7) (j := 104) (as := [.inl (xs (i + 1).toNat), .inl (xs (i + 2).toNat)]) (st := [.inl _]) dL_law_263 mo_X7_leave im_X7_leave se_X7_leave ml_L_35 rfl qz1.1 rfl (by omega) (Nat.le_of_ble_eq_true rfl) (by show k.1 + 0 + 0 ≤ 600000; omega) (by show k.2 + 0 + 0 ≤ 7302249; omega) ?_
  refine am_mono (y_leave (by omega) qz1 a71) (fun r h2 _ _ z => ?_)
  obtain ⟨rfl, s2, f2, b7⟩ := z
  show AW m_L_law d _ Q 266 (LOC i) [.inl _, .inl _] h2 _
  refine aw_icmp_eq (pc := 266) (tgt := 801) dL_law_266 (by decide) (fun _ => ?_) (fun c2 => absurd rfl c2)
  exact K h2 ((LW.mk l6 qz s1 s2 f2 b6 b7))
set_option maxRecDepth 100000 in
set_option maxHeartbeats 4000000 in
theorem law_set (hd : 100 ≤ d) (hL : L ≤ 1536) (h0 : 0 ≤ i) (h3 : i + 3 ≤ L) (hx : ∀ j, rg (xs j)) (k1 : k.1 ≤ 600000) (k2 : k.2 ≤ 7302249) (c : LW h) (K : ∀ h', LW h' → AW m_L_law d (some (L, xs)) Q 801 (LOC i) [] h' k) : AW m_L_law d (some (L, xs)) Q 271 (LOC i) [] h k := by
  obtain ⟨l6, qz, g, a6, a7⟩ := c
  refine aw_aload_n (pc := 271) dL_law_271 rfl ?_
  refine aw_aload_n (pc := 272) dL_law_272 rfl ?_
  refine aw_iload_n (pc := 273) dL_law_273 rfl ?_
  refine aw_iconst (pc := 274) dL_law_274 ?_
  refine ax_iadd (pc := 275) (v := i + 1) dL_law_275 (by unfold rg; omega) rfl ?_
  refine aw_sld (pc := 276) (q := (L, xs)) dL_law_276 rfl (by omega) (by show i + 1 < (L : Int); omega) ?_
  refine aw_aload_n (pc := 277) dL_law_277 rfl ?_
  refine aw_iload_n (pc := 278) dL_law_278 rfl ?_
  refine aw_iconst (pc := 279) dL_law_279 ?_
  refine ax_iadd (pc := 280) (v := i + 2) dL_law_280 (by unfold rg; omega) rfl ?_
  refine aw_sld (pc := 281) (q := (L, xs)) dL_law_281 rfl (by omega) (by show i + 2 < (L : Int); omega) ?_
  refine aw_invV (pc := 282) (md' := m_X6_set) (n := 2) (ci := 6) (j := 1) (as := [.inl (xs (i + 1).toNat), .inl (xs (i + 2).toNat)]) (st := []) dL_law_282 mo_X6_set im_X6_set se_X6_set ml_L_36 rfl l6.1.1 rfl (by omega) (Nat.le_of_ble_eq_true rfl) (by show k.1 + 0 ≤ 600000; omega) (by show k.2 + 0 ≤ 7302249; omega) ?_
  refine am_mono (k_set (by omega) l6 a6) (fun r h1 _ _ z => ?_)
  obtain ⟨rfl, s1, f1, b6⟩ := z
  have qz1 := qz.sw s1
  have a71 := a7.other f1
  show AW m_L_law d _ Q 285 (LOC i) [.inl _] h1 _
  refine aw_aload_n (pc := 285) dL_law_285 rfl ?_
  refine aw_aload_n (pc := 286) dL_law_286 rfl ?_
  refine aw_iload_n (pc := 287) dL_law_287 rfl ?_
  refine aw_iconst (pc := 288) dL_law_288 ?_
  refine ax_iadd (pc := 289) (v := i + 1) dL_law_289 (by unfold rg; omega) rfl ?_
  refine aw_sld (pc := 290) (q := (L, xs)) dL_law_290 rfl (by omega) (by show i + 1 < (L : Int); omega) ?_
  refine aw_aload_n (pc := 291) dL_law_291 rfl ?_
  refine aw_iload_n (pc := 292) dL_law_292 rfl ?_
  refine aw_iconst (pc := 293) dL_law_293 ?_
  refine ax_iadd (pc := 294) (v := i + 2) dL_law_294 (by unfold rg; omega) rfl ?_
  refine aw_sld (pc := 295) (q := (L, xs)) dL_law_295 rfl (by omega) (by show i + 2 < (L : Int); omega) ?_
  refine aw_invV (pc := 296) (md' := m_X7_set) (n := 2) (ci := 7) (j := 104) (as := [.inl (xs (i + 1).toNat), .inl (xs (i + 2).toNat)]) (st := [.inl _]) dL_law_296 mo_X7_set im_X7_set se_X7_set ml_L_39 rfl qz1.1 rfl (by omega) (Nat.le_of_ble_eq_true rfl) (by show k.1 + 0 + 0 ≤ 600000; omega) (by show k.2 + 0 + 0 ≤ 7302249; omega) ?_
  refine am_mono (y_set (by omega) qz1 a71) (fun r h2 _ _ z => ?_)
  obtain ⟨rfl, s2, f2, b7⟩ := z
  show AW m_L_law d _ Q 299 (LOC i) [.inl _, .inl _] h2 _
  refine aw_icmp_eq (pc := 299) (tgt := 801) dL_law_299 (by decide) (fun _ => ?_) (fun c2 => absurd rfl c2)
  exact K h2 ((LW.mk l6 qz s1 s2 f2 b6 b7))
set_option maxRecDepth 100000 in
set_option maxHeartbeats 4000000 in
theorem law_shuffle (hd : 100 ≤ d) (hL : L ≤ 1536) (h0 : 0 ≤ i) (h3 : i + 3 ≤ L) (hx : ∀ j, rg (xs j)) (k1 : k.1 ≤ 600000) (k2 : k.2 ≤ 7302249) (c : LW h) (K : ∀ h', LW h' → AW m_L_law d (some (L, xs)) Q 801 (LOC i) [] h' k) : AW m_L_law d (some (L, xs)) Q 304 (LOC i) [] h k := by
  obtain ⟨l6, qz, g, a6, a7⟩ := c
  refine aw_aload_n (pc := 304) dL_law_304 rfl ?_
  refine aw_aload_n (pc := 305) dL_law_305 rfl ?_
  refine aw_iload_n (pc := 306) dL_law_306 rfl ?_
  refine aw_iconst (pc := 307) dL_law_307 ?_
  refine ax_iadd (pc := 308) (v := i + 1) dL_law_308 (by unfold rg; omega) rfl ?_
  refine aw_sld (pc := 309) (q := (L, xs)) dL_law_309 rfl (by omega) (by show i + 1 < (L : Int); omega) ?_
  refine aw_invV (pc := 310) (md' := m_X6_shuffle) (n := 1) (ci := 6) (j := 1) (as := [.inl (xs (i + 1).toNat)]) (st := []) dL_law_310 mo_X6_shuffle im_X6_shuffle se_X6_shuffle ml_L_40 rfl l6.1.1 rfl (by omega) (Nat.le_of_ble_eq_true rfl) (by show k.1 + 0 ≤ 600000; omega) (by show k.2 + 0 ≤ 7302249; omega) ?_
  refine am_mono (k_shuffle (by omega) l6 a6 (hx _).2) (fun r h1 _ _ z => ?_)
  obtain ⟨rfl, s1, f1, b6⟩ := z
  have qz1 := qz.sw s1
  have a71 := a7.other f1
  show AW m_L_law d _ Q 313 (LOC i) [.inl _] h1 _
  refine aw_aload_n (pc := 313) dL_law_313 rfl ?_
  refine aw_aload_n (pc := 314) dL_law_314 rfl ?_
  refine aw_iload_n (pc := 315) dL_law_315 rfl ?_
  refine aw_iconst (pc := 316) dL_law_316 ?_
  refine ax_iadd (pc := 317) (v := i + 1) dL_law_317 (by unfold rg; omega) rfl ?_
  refine aw_sld (pc := 318) (q := (L, xs)) dL_law_318 rfl (by omega) (by show i + 1 < (L : Int); omega) ?_
  refine aw_invV (pc := 319) (md' := m_X7_shuffle) (n := 1) (ci := 7) (j := 104) (as := [.inl (xs (i + 1).toNat)]) (st := [.inl _]) dL_law_319 mo_X7_shuffle im_X7_shuffle se_X7_shuffle ml_L_43 rfl qz1.1 rfl (by omega) (Nat.le_of_ble_eq_true rfl) (by show k.1 + 0 + 0 ≤ 600000; omega) (by show k.2 + 0 + 0 ≤ 7302249; omega) ?_
  refine am_mono (y_shuffle (by omega) qz1 a71 (hx _).2) (fun r h2 _ _ z => ?_)
  obtain ⟨rfl, s2, f2, b7⟩ := z
  show AW m_L_law d _ Q 322 (LOC i) [.inl _, .inl _] h2 _
  refine aw_icmp_eq (pc := 322) (tgt := 801) dL_law_322 (by decide) (fun _ => ?_) (fun c2 => absurd rfl c2)
  exact K h2 ((LW.mk l6 qz s1 s2 f2 b6 b7))
set_option maxRecDepth 100000 in
set_option maxHeartbeats 4000000 in
theorem law_forget (hd : 100 ≤ d) (hL : L ≤ 1536) (h0 : 0 ≤ i) (h3 : i + 3 ≤ L) (hx : ∀ j, rg (xs j)) (k1 : k.1 ≤ 600000) (k2 : k.2 ≤ 7302249) (c : LW h) (K : ∀ h', LW h' → AW m_L_law d (some (L, xs)) Q 801 (LOC i) [] h' k) : AW m_L_law d (some (L, xs)) Q 327 (LOC i) [] h k := by
  obtain ⟨l6, qz, g, a6, a7⟩ := c
  refine aw_aload_n (pc := 327) dL_law_327 rfl ?_
  refine aw_invV (pc := 328) (md' := m_X6_forget) (n := 0) (ci := 6) (j := 1) (as := []) (st := []) dL_law_328 mo_X6_forget im_X6_forget se_X6_forget ml_L_44 rfl l6.1.1 rfl (by omega) (Nat.le_of_ble_eq_true rfl) (by show k.1 + 0 ≤ 600000; omega) (by show k.2 + 0 ≤ 7302249; omega) ?_
  refine am_mono (k_forget (by omega) l6 a6) (fun r h1 _ _ z => ?_)
  obtain ⟨rfl, s1, f1, b6⟩ := z
  have qz1 := qz.sw s1
  have a71 := a7.other f1
  show AW m_L_law d _ Q 331 (LOC i) [.inl _] h1 _
  refine aw_aload_n (pc := 331) dL_law_331 rfl ?_
  refine aw_invV (pc := 332) (md' := m_X7_forget) (n := 0) (ci := 7) (j := 104) (as := []) (st := [.inl _]) dL_law_332 mo_X7_forget im_X7_forget se_X7_forget ml_L_47 rfl qz1.1 rfl (by omega) (Nat.le_of_ble_eq_true rfl) (by show k.1 + 0 + 0 ≤ 600000; omega) (by show k.2 + 0 + 0 ≤ 7302249; omega) ?_
  refine am_mono (y_forget (by omega) qz1 a71) (fun r h2 _ _ z => ?_)
  obtain ⟨rfl, s2, f2, b7⟩ := z
  show AW m_L_law d _ Q 335 (LOC i) [.inl _, .inl _] h2 _
  refine aw_icmp_eq (pc := 335) (tgt := 801) dL_law_335 (by decide) (fun _ => ?_) (fun c2 => absurd rfl c2)
  exact K h2 ((LW.mk l6 qz s1 s2 f2 b6 b7))
set_option maxRecDepth 100000 in
set_option maxHeartbeats 4000000 in
theorem law_ask (hd : 100 ≤ d) (hL : L ≤ 1536) (h0 : 0 ≤ i) (h3 : i + 3 ≤ L) (hx : ∀ j, rg (xs j)) (k1 : k.1 ≤ 600000) (k2 : k.2 ≤ 7302249) (c : LW h) (K : ∀ h', LW h' → AW m_L_law d (some (L, xs)) Q 801 (LOC i) [] h' k) : AW m_L_law d (some (L, xs)) Q 340 (LOC i) [] h k := by
  obtain ⟨l6, qz, g, a6, a7⟩ := c
  refine aw_aload_n (pc := 340) dL_law_340 rfl ?_
  refine aw_aload_n (pc := 341) dL_law_341 rfl ?_
  refine aw_iload_n (pc := 342) dL_law_342 rfl ?_
  refine aw_iconst (pc := 343) dL_law_343 ?_
  refine ax_iadd (pc := 344) (v := i + 1) dL_law_344 (by unfold rg; omega) rfl ?_
  refine aw_sld (pc := 345) (q := (L, xs)) dL_law_345 rfl (by omega) (by show i + 1 < (L : Int); omega) ?_
  refine aw_aload_n (pc := 346) dL_law_346 rfl ?_
  refine aw_iload_n (pc := 347) dL_law_347 rfl ?_
  refine aw_iconst (pc := 348) dL_law_348 ?_
  refine ax_iadd (pc := 349) (v := i + 2) dL_law_349 (by unfold rg; omega) rfl ?_
  refine aw_sld (pc := 350) (q := (L, xs)) dL_law_350 rfl (by omega) (by show i + 2 < (L : Int); omega) ?_
  refine aw_invV (pc := 351) (md' := m_X6_ask) (n := 2) (ci := 6) (j := 1) (as := [.inl (xs (i + 1).toNat), .inl (xs (i + 2).toNat)]) (st := []) dL_law_351 mo_X6_ask im_X6_ask se_X6_ask ml_L_48 rfl l6.1.1 rfl (by omega) (Nat.le_of_ble_eq_true rfl) (by show k.1 + 0 ≤ 600000; omega) (by show k.2 + 0 ≤ 7302249; omega) ?_
  refine am_mono (k_ask (by omega) l6 a6) (fun r h1 _ _ z => ?_)
  obtain ⟨rfl, s1, f1, b6⟩ := z
  have qz1 := qz.sw s1
  have a71 := a7.other f1
  show AW m_L_law d _ Q 354 (LOC i) [.inl _] h1 _
  refine aw_aload_n (pc := 354) dL_law_354 rfl ?_
  refine aw_aload_n (pc := 355) dL_law_355 rfl ?_
  refine aw_iload_n (pc := 356) dL_law_356 rfl ?_
  refine aw_iconst (pc := 357) dL_law_357 ?_
  refine ax_iadd (pc := 358) (v := i + 1) dL_law_358 (by unfold rg; omega) rfl ?_
  refine aw_sld (pc := 359) (q := (L, xs)) dL_law_359 rfl (by omega) (by show i + 1 < (L : Int); omega) ?_
  refine aw_aload_n (pc := 360) dL_law_360 rfl ?_
  refine aw_iload_n (pc := 361) dL_law_361 rfl ?_
  refine aw_iconst (pc := 362) dL_law_362 ?_
  refine ax_iadd (pc := 363) (v := i + 2) dL_law_363 (by unfold rg; omega) rfl ?_
  refine aw_sld (pc := 364) (q := (L, xs)) dL_law_364 rfl (by omega) (by show i + 2 < (L : Int); omega) ?_
  refine aw_invV (pc := 365) (md' := m_X7_ask) (n := 2) (ci := 7) (j := 104) (as := [.inl (xs (i + 1).toNat), .inl (xs (i + 2).toNat)]) (st := [.inl _]) dL_law_365 mo_X7_ask im_X7_ask se_X7_ask ml_L_51 rfl qz1.1 rfl (by omega) (Nat.le_of_ble_eq_true rfl) (by show k.1 + 0 + 0 ≤ 600000; omega) (by show k.2 + 0 + 0 ≤ 7302249; omega) ?_
  refine am_mono (y_ask (by omega) qz1 a71) (fun r h2 _ _ z => ?_)
  obtain ⟨rfl, s2, f2, b7⟩ := z
  show AW m_L_law d _ Q 368 (LOC i) [.inl _, .inl _] h2 _
  refine aw_icmp_eq (pc := 368) (tgt := 801) dL_law_368 (by decide) (fun _ => ?_) (fun c2 => absurd rfl c2)
  exact K h2 ((LW.mk l6 qz s1 s2 f2 b6 b7))
set_option maxRecDepth 100000 in
set_option maxHeartbeats 4000000 in
theorem law_walk (hd : 100 ≤ d) (hL : L ≤ 1536) (h0 : 0 ≤ i) (h3 : i + 3 ≤ L) (hx : ∀ j, rg (xs j)) (k1 : k.1 ≤ 600000) (k2 : k.2 ≤ 7302249) (c : LW h) (K : ∀ h', LW h' → AW m_L_law d (some (L, xs)) Q 801 (LOC i) [] h' k) : AW m_L_law d (some (L, xs)) Q 373 (LOC i) [] h k := by
  obtain ⟨l6, qz, g, a6, a7⟩ := c
  refine aw_aload_n (pc := 373) dL_law_373 rfl ?_
  refine aw_aload_n (pc := 374) dL_law_374 rfl ?_
  refine aw_iload_n (pc := 375) dL_law_375 rfl ?_
  refine aw_iconst (pc := 376) dL_law_376 ?_
  refine ax_iadd (pc := 377) (v := i + 1) dL_law_377 (by unfold rg; omega) rfl ?_
  refine aw_sld (pc := 378) (q := (L, xs)) dL_law_378 rfl (by omega) (by show i + 1 < (L : Int); omega) ?_
  refine aw_if_eq (pc := 379) (tgt := 386) dL_law_379 (by decide) (fun c => ?_) (fun c => ?_)
  · skip
    refine aw_iconst (pc := 386) dL_law_386 ?_
    refine aw_invV (pc := 387) (md' := m_X6_walk) (n := 1) (ci := 6) (j := 1) (as := [.inl (0)]) (st := []) dL_law_387 mo_X6_walk im_X6_walk se_X6_walk ml_L_52 rfl l6.1.1 rfl (by omega) (Nat.le_of_ble_eq_true rfl) (by show k.1 + 0 ≤ 600000; omega) (by show k.2 + 0 ≤ 7302249; omega) ?_
    refine am_mono (k_walk (by omega) l6 a6) (fun r h1 _ _ z => ?_)
    obtain ⟨rfl, s1, f1, b6⟩ := z
    have qz1 := qz.sw s1
    have a71 := a7.other f1
    show AW m_L_law d _ Q 390 (LOC i) [.inl _] h1 _
    refine aw_aload_n (pc := 390) dL_law_390 rfl ?_
    refine aw_aload_n (pc := 391) dL_law_391 rfl ?_
    refine aw_iload_n (pc := 392) dL_law_392 rfl ?_
    refine aw_iconst (pc := 393) dL_law_393 ?_
    refine ax_iadd (pc := 394) (v := i + 1) dL_law_394 (by unfold rg; omega) rfl ?_
    refine aw_sld (pc := 395) (q := (L, xs)) dL_law_395 rfl (by omega) (by show i + 1 < (L : Int); omega) ?_
    refine aw_if_eq (pc := 396) (tgt := 403) dL_law_396 (by decide) (fun _ => ?_) (fun c2 => absurd c c2)
    refine aw_iconst (pc := 403) dL_law_403 ?_
    refine aw_invV (pc := 404) (md' := m_X7_walk) (n := 1) (ci := 7) (j := 104) (as := [.inl (0)]) (st := [.inl _]) dL_law_404 mo_X7_walk im_X7_walk se_X7_walk ml_L_56 rfl qz1.1 rfl (by omega) (Nat.le_of_ble_eq_true rfl) (by show k.1 + 0 + 0 ≤ 600000; omega) (by show k.2 + 0 + 0 ≤ 7302249; omega) ?_
    refine am_mono (y_walk (by omega) qz1 a71) (fun r h2 _ _ z => ?_)
    obtain ⟨rfl, s2, f2, b7⟩ := z
    show AW m_L_law d _ Q 407 (LOC i) [.inl _, .inl _] h2 _
    refine aw_icmp_eq (pc := 407) (tgt := 801) dL_law_407 (by decide) (fun _ => ?_) (fun c2 => absurd rfl c2)
    exact K h2 ((LW.mk l6 qz s1 s2 f2 b6 b7))
  · skip
    refine aw_iconst (pc := 382) dL_law_382 ?_
    refine aw_goto (pc := 383) (tgt := 387) dL_law_383 (by decide) ?_
    refine aw_invV (pc := 387) (md' := m_X6_walk) (n := 1) (ci := 6) (j := 1) (as := [.inl (1)]) (st := []) dL_law_387 mo_X6_walk im_X6_walk se_X6_walk ml_L_52 rfl l6.1.1 rfl (by omega) (Nat.le_of_ble_eq_true rfl) (by show k.1 + 0 ≤ 600000; omega) (by show k.2 + 0 ≤ 7302249; omega) ?_
    refine am_mono (k_walk (by omega) l6 a6) (fun r h1 _ _ z => ?_)
    obtain ⟨rfl, s1, f1, b6⟩ := z
    have qz1 := qz.sw s1
    have a71 := a7.other f1
    show AW m_L_law d _ Q 390 (LOC i) [.inl _] h1 _
    refine aw_aload_n (pc := 390) dL_law_390 rfl ?_
    refine aw_aload_n (pc := 391) dL_law_391 rfl ?_
    refine aw_iload_n (pc := 392) dL_law_392 rfl ?_
    refine aw_iconst (pc := 393) dL_law_393 ?_
    refine ax_iadd (pc := 394) (v := i + 1) dL_law_394 (by unfold rg; omega) rfl ?_
    refine aw_sld (pc := 395) (q := (L, xs)) dL_law_395 rfl (by omega) (by show i + 1 < (L : Int); omega) ?_
    refine aw_if_eq (pc := 396) (tgt := 403) dL_law_396 (by decide) (fun c2 => absurd c2 c) (fun _ => ?_)
    refine aw_iconst (pc := 399) dL_law_399 ?_
    refine aw_goto (pc := 400) (tgt := 404) dL_law_400 (by decide) ?_
    refine aw_invV (pc := 404) (md' := m_X7_walk) (n := 1) (ci := 7) (j := 104) (as := [.inl (1)]) (st := [.inl _]) dL_law_404 mo_X7_walk im_X7_walk se_X7_walk ml_L_56 rfl qz1.1 rfl (by omega) (Nat.le_of_ble_eq_true rfl) (by show k.1 + 0 + 0 ≤ 600000; omega) (by show k.2 + 0 + 0 ≤ 7302249; omega) ?_
    refine am_mono (y_walk (by omega) qz1 a71) (fun r h2 _ _ z => ?_)
    obtain ⟨rfl, s2, f2, b7⟩ := z
    show AW m_L_law d _ Q 407 (LOC i) [.inl _, .inl _] h2 _
    refine aw_icmp_eq (pc := 407) (tgt := 801) dL_law_407 (by decide) (fun _ => ?_) (fun c2 => absurd rfl c2)
    exact K h2 ((LW.mk l6 qz s1 s2 f2 b6 b7))
set_option maxRecDepth 100000 in
set_option maxHeartbeats 4000000 in
theorem law_frame (hd : 100 ≤ d) (hL : L ≤ 1536) (h0 : 0 ≤ i) (h3 : i + 3 ≤ L) (hx : ∀ j, rg (xs j)) (k1 : k.1 ≤ 600000) (k2 : k.2 ≤ 7302249) (c : LW h) (K : ∀ h', LW h' → AW m_L_law d (some (L, xs)) Q 801 (LOC i) [] h' k) : AW m_L_law d (some (L, xs)) Q 412 (LOC i) [] h k := by
  obtain ⟨l6, qz, g, a6, a7⟩ := c
  refine aw_aload_n (pc := 412) dL_law_412 rfl ?_
  refine aw_aload_n (pc := 413) dL_law_413 rfl ?_
  refine aw_iload_n (pc := 414) dL_law_414 rfl ?_
  refine aw_iconst (pc := 415) dL_law_415 ?_
  refine ax_iadd (pc := 416) (v := i + 1) dL_law_416 (by unfold rg; omega) rfl ?_
  refine aw_sld (pc := 417) (q := (L, xs)) dL_law_417 rfl (by omega) (by show i + 1 < (L : Int); omega) ?_
  refine aw_invV (pc := 418) (md' := m_X6_frame) (n := 1) (ci := 6) (j := 1) (as := [.inl (xs (i + 1).toNat)]) (st := []) dL_law_418 mo_X6_frame im_X6_frame se_X6_frame ml_L_57 rfl l6.1.1 rfl (by omega) (Nat.le_of_ble_eq_true rfl) (by show k.1 + 0 ≤ 600000; omega) (by show k.2 + 0 ≤ 7302249; omega) ?_
  refine am_mono (k_frame (by omega) l6 a6) (fun r h1 _ _ z => ?_)
  obtain ⟨rfl, s1, f1, b6⟩ := z
  have qz1 := qz.sw s1
  have a71 := a7.other f1
  show AW m_L_law d _ Q 421 (LOC i) [.inl _] h1 _
  refine aw_aload_n (pc := 421) dL_law_421 rfl ?_
  refine aw_aload_n (pc := 422) dL_law_422 rfl ?_
  refine aw_iload_n (pc := 423) dL_law_423 rfl ?_
  refine aw_iconst (pc := 424) dL_law_424 ?_
  refine ax_iadd (pc := 425) (v := i + 1) dL_law_425 (by unfold rg; omega) rfl ?_
  refine aw_sld (pc := 426) (q := (L, xs)) dL_law_426 rfl (by omega) (by show i + 1 < (L : Int); omega) ?_
  refine aw_invV (pc := 427) (md' := m_X7_frame) (n := 1) (ci := 7) (j := 104) (as := [.inl (xs (i + 1).toNat)]) (st := [.inl _]) dL_law_427 mo_X7_frame im_X7_frame se_X7_frame ml_L_60 rfl qz1.1 rfl (by omega) (Nat.le_of_ble_eq_true rfl) (by show k.1 + 0 + 0 ≤ 600000; omega) (by show k.2 + 0 + 0 ≤ 7302249; omega) ?_
  refine am_mono (y_frame (by omega) qz1 a71) (fun r h2 _ _ z => ?_)
  obtain ⟨rfl, s2, f2, b7⟩ := z
  show AW m_L_law d _ Q 430 (LOC i) [.inl _, .inl _] h2 _
  refine aw_icmp_eq (pc := 430) (tgt := 801) dL_law_430 (by decide) (fun _ => ?_) (fun c2 => absurd rfl c2)
  exact K h2 ((LW.mk l6 qz s1 s2 f2 b6 b7))
set_option maxRecDepth 100000 in
set_option maxHeartbeats 4000000 in
theorem law_rounds (hd : 100 ≤ d) (hL : L ≤ 1536) (h0 : 0 ≤ i) (h3 : i + 3 ≤ L) (hx : ∀ j, rg (xs j)) (k1 : k.1 ≤ 600000) (k2 : k.2 ≤ 7302249) (c : LW h) (K : ∀ h', LW h' → AW m_L_law d (some (L, xs)) Q 801 (LOC i) [] h' k) : AW m_L_law d (some (L, xs)) Q 435 (LOC i) [] h k := by
  obtain ⟨l6, qz, g, a6, a7⟩ := c
  refine aw_aload_n (pc := 435) dL_law_435 rfl ?_
  refine aw_aload_n (pc := 436) dL_law_436 rfl ?_
  refine aw_iload_n (pc := 437) dL_law_437 rfl ?_
  refine aw_iconst (pc := 438) dL_law_438 ?_
  refine ax_iadd (pc := 439) (v := i + 1) dL_law_439 (by unfold rg; omega) rfl ?_
  refine aw_sld (pc := 440) (q := (L, xs)) dL_law_440 rfl (by omega) (by show i + 1 < (L : Int); omega) ?_
  refine aw_invV (pc := 441) (md' := m_X6_rounds) (n := 1) (ci := 6) (j := 1) (as := [.inl (xs (i + 1).toNat)]) (st := []) dL_law_441 mo_X6_rounds im_X6_rounds se_X6_rounds ml_L_61 rfl l6.1.1 rfl (by omega) (Nat.le_of_ble_eq_true rfl) (by show k.1 + 0 ≤ 600000; omega) (by show k.2 + 0 ≤ 7302249; omega) ?_
  refine am_mono (k_rounds (by omega) l6 a6) (fun r h1 _ _ z => ?_)
  obtain ⟨rfl, s1, f1, b6⟩ := z
  have qz1 := qz.sw s1
  have a71 := a7.other f1
  show AW m_L_law d _ Q 444 (LOC i) [.inl _] h1 _
  refine aw_aload_n (pc := 444) dL_law_444 rfl ?_
  refine aw_aload_n (pc := 445) dL_law_445 rfl ?_
  refine aw_iload_n (pc := 446) dL_law_446 rfl ?_
  refine aw_iconst (pc := 447) dL_law_447 ?_
  refine ax_iadd (pc := 448) (v := i + 1) dL_law_448 (by unfold rg; omega) rfl ?_
  refine aw_sld (pc := 449) (q := (L, xs)) dL_law_449 rfl (by omega) (by show i + 1 < (L : Int); omega) ?_
  refine aw_invV (pc := 450) (md' := m_X7_rounds) (n := 1) (ci := 7) (j := 104) (as := [.inl (xs (i + 1).toNat)]) (st := [.inl _]) dL_law_450 mo_X7_rounds im_X7_rounds se_X7_rounds ml_L_64 rfl qz1.1 rfl (by omega) (Nat.le_of_ble_eq_true rfl) (by show k.1 + 0 + 0 ≤ 600000; omega) (by show k.2 + 0 + 0 ≤ 7302249; omega) ?_
  refine am_mono (y_rounds (by omega) qz1 a71) (fun r h2 _ _ z => ?_)
  obtain ⟨rfl, s2, f2, b7⟩ := z
  show AW m_L_law d _ Q 453 (LOC i) [.inl _, .inl _] h2 _
  refine aw_icmp_eq (pc := 453) (tgt := 801) dL_law_453 (by decide) (fun _ => ?_) (fun c2 => absurd rfl c2)
  exact K h2 ((LW.mk l6 qz s1 s2 f2 b6 b7))
set_option maxRecDepth 100000 in
set_option maxHeartbeats 4000000 in
theorem law_type (hd : 100 ≤ d) (hL : L ≤ 1536) (h0 : 0 ≤ i) (h3 : i + 3 ≤ L) (hx : ∀ j, rg (xs j)) (k1 : k.1 ≤ 600000) (k2 : k.2 ≤ 7302249) (c : LW h) (K : ∀ h', LW h' → AW m_L_law d (some (L, xs)) Q 801 (LOC i) [] h' k) : AW m_L_law d (some (L, xs)) Q 458 (LOC i) [] h k := by
  obtain ⟨l6, qz, g, a6, a7⟩ := c
  refine aw_aload_n (pc := 458) dL_law_458 rfl ?_
  refine aw_aload_n (pc := 459) dL_law_459 rfl ?_
  refine aw_iload_n (pc := 460) dL_law_460 rfl ?_
  refine aw_iconst (pc := 461) dL_law_461 ?_
  refine ax_iadd (pc := 462) (v := i + 1) dL_law_462 (by unfold rg; omega) rfl ?_
  refine aw_sld (pc := 463) (q := (L, xs)) dL_law_463 rfl (by omega) (by show i + 1 < (L : Int); omega) ?_
  refine aw_i2c (pc := 464) dL_law_464 (fun y y0 y1 ye => ?_)
  refine aw_invV (pc := 465) (md' := m_X6_type) (n := 1) (ci := 6) (j := 1) (as := [.inl (y)]) (st := []) dL_law_465 mo_X6_type im_X6_type se_X6_type ml_L_65 rfl l6.1.1 rfl (by omega) (Nat.le_of_ble_eq_true rfl) (by show k.1 + 0 ≤ 600000; omega) (by show k.2 + 0 ≤ 7302249; omega) ?_
  refine am_mono (k_type (by omega) l6 a6 ⟨y0, y1⟩) (fun r h1 _ _ z => ?_)
  obtain ⟨rfl, s1, f1, b6⟩ := z
  have qz1 := qz.sw s1
  have a71 := a7.other f1
  show AW m_L_law d _ Q 468 (LOC i) [.inl _] h1 _
  refine aw_aload_n (pc := 468) dL_law_468 rfl ?_
  refine aw_aload_n (pc := 469) dL_law_469 rfl ?_
  refine aw_iload_n (pc := 470) dL_law_470 rfl ?_
  refine aw_iconst (pc := 471) dL_law_471 ?_
  refine ax_iadd (pc := 472) (v := i + 1) dL_law_472 (by unfold rg; omega) rfl ?_
  refine aw_sld (pc := 473) (q := (L, xs)) dL_law_473 rfl (by omega) (by show i + 1 < (L : Int); omega) ?_
  refine aw_i2c (pc := 474) dL_law_474 (fun y2 _ _ ye2 => ?_)
  have ey : y2 = y := by rw [ye2, ye]
  rw [ey]
  refine aw_invV (pc := 475) (md' := m_X7_type) (n := 1) (ci := 7) (j := 104) (as := [.inl (y)]) (st := [.inl _]) dL_law_475 mo_X7_type im_X7_type se_X7_type ml_L_69 rfl qz1.1 rfl (by omega) (Nat.le_of_ble_eq_true rfl) (by show k.1 + 0 + 0 ≤ 600000; omega) (by show k.2 + 0 + 0 ≤ 7302249; omega) ?_
  refine am_mono (y_type qz1 a71 ⟨y0, y1⟩) (fun r h2 _ _ z => ?_)
  obtain ⟨rfl, s2, f2, b7⟩ := z
  show AW m_L_law d _ Q 478 (LOC i) [.inl _, .inl _] h2 _
  refine aw_icmp_eq (pc := 478) (tgt := 801) dL_law_478 (by decide) (fun _ => ?_) (fun c2 => absurd rfl c2)
  exact K h2 ((LW.mk l6 qz s1 s2 f2 b6 b7))
set_option maxRecDepth 100000 in
set_option maxHeartbeats 4000000 in
theorem law_clearText (hd : 100 ≤ d) (hL : L ≤ 1536) (h0 : 0 ≤ i) (h3 : i + 3 ≤ L) (hx : ∀ j, rg (xs j)) (k1 : k.1 ≤ 600000) (k2 : k.2 ≤ 7302249) (c : LW h) (K : ∀ h', LW h' → AW m_L_law d (some (L, xs)) Q 801 (LOC i) [] h' k) : AW m_L_law d (some (L, xs)) Q 483 (LOC i) [] h k := by
  obtain ⟨l6, qz, g, a6, a7⟩ := c
  refine aw_aload_n (pc := 483) dL_law_483 rfl ?_
  refine aw_invV (pc := 484) (md' := m_X6_clearText) (n := 0) (ci := 6) (j := 1) (as := []) (st := []) dL_law_484 mo_X6_clearText im_X6_clearText se_X6_clearText ml_L_70 rfl l6.1.1 rfl (by omega) (Nat.le_of_ble_eq_true rfl) (by show k.1 + 0 ≤ 600000; omega) (by show k.2 + 0 ≤ 7302249; omega) ?_
  refine am_mono (k_clearText (by omega) l6 a6) (fun r h1 _ _ z => ?_)
  obtain ⟨rfl, s1, f1, b6⟩ := z
  have qz1 := qz.sw s1
  have a71 := a7.other f1
  show AW m_L_law d _ Q 487 (LOC i) [.inl _] h1 _
  refine aw_aload_n (pc := 487) dL_law_487 rfl ?_
  refine aw_invV (pc := 488) (md' := m_X7_clearText) (n := 0) (ci := 7) (j := 104) (as := []) (st := [.inl _]) dL_law_488 mo_X7_clearText im_X7_clearText se_X7_clearText ml_L_73 rfl qz1.1 rfl (by omega) (Nat.le_of_ble_eq_true rfl) (by show k.1 + 0 + 0 ≤ 600000; omega) (by show k.2 + 0 + 0 ≤ 7302249; omega) ?_
  refine am_mono (y_clearText qz1 a71) (fun r h2 _ _ z => ?_)
  obtain ⟨rfl, s2, f2, b7⟩ := z
  show AW m_L_law d _ Q 491 (LOC i) [.inl _, .inl _] h2 _
  refine aw_icmp_eq (pc := 491) (tgt := 801) dL_law_491 (by decide) (fun _ => ?_) (fun c2 => absurd rfl c2)
  exact K h2 ((LW.mk l6 qz s1 s2 f2 b6 b7))
set_option maxRecDepth 100000 in
set_option maxHeartbeats 4000000 in
theorem law_perform (hd : 100 ≤ d) (hL : L ≤ 1536) (h0 : 0 ≤ i) (h3 : i + 3 ≤ L) (hx : ∀ j, rg (xs j)) (k1 : k.1 ≤ 600000) (k2 : k.2 ≤ 7302249) (c : LW h) (K : ∀ h', LW h' → AW m_L_law d (some (L, xs)) Q 801 (LOC i) [] h' k) : AW m_L_law d (some (L, xs)) Q 496 (LOC i) [] h k := by
  obtain ⟨l6, qz, g, a6, a7⟩ := c
  refine aw_aload_n (pc := 496) dL_law_496 rfl ?_
  refine aw_invV (pc := 497) (md' := m_X6_perform) (n := 0) (ci := 6) (j := 1) (as := []) (st := []) dL_law_497 mo_X6_perform im_X6_perform se_X6_perform ml_L_74 rfl l6.1.1 rfl (by omega) (Nat.le_of_ble_eq_true rfl) (by show k.1 + 0 ≤ 600000; omega) (by show k.2 + 0 ≤ 7302249; omega) ?_
  refine am_mono (k_perform (by omega) l6 a6) (fun r h1 _ _ z => ?_)
  obtain ⟨rfl, s1, f1, b6⟩ := z
  have qz1 := qz.sw s1
  have a71 := a7.other f1
  show AW m_L_law d _ Q 500 (LOC i) [.inl _] h1 _
  refine aw_aload_n (pc := 500) dL_law_500 rfl ?_
  refine aw_invV (pc := 501) (md' := m_X7_perform) (n := 0) (ci := 7) (j := 104) (as := []) (st := [.inl _]) dL_law_501 mo_X7_perform im_X7_perform se_X7_perform ml_L_77 rfl qz1.1 rfl (by omega) (Nat.le_of_ble_eq_true rfl) (by show k.1 + 0 + 0 ≤ 600000; omega) (by show k.2 + 0 + 0 ≤ 7302249; omega) ?_
  refine am_mono (y_perform (by omega) qz1 a71) (fun r h2 _ _ z => ?_)
  obtain ⟨rfl, s2, f2, b7⟩ := z
  show AW m_L_law d _ Q 504 (LOC i) [.inl _, .inl _] h2 _
  refine aw_icmp_eq (pc := 504) (tgt := 801) dL_law_504 (by decide) (fun _ => ?_) (fun c2 => absurd rfl c2)
  exact K h2 ((LW.mk l6 qz s1 s2 f2 b6 b7))
set_option maxRecDepth 100000 in
set_option maxHeartbeats 4000000 in
theorem law_undo (hd : 100 ≤ d) (hL : L ≤ 1536) (h0 : 0 ≤ i) (h3 : i + 3 ≤ L) (hx : ∀ j, rg (xs j)) (k1 : k.1 ≤ 600000) (k2 : k.2 ≤ 7302249) (c : LW h) (K : ∀ h', LW h' → AW m_L_law d (some (L, xs)) Q 801 (LOC i) [] h' k) : AW m_L_law d (some (L, xs)) Q 509 (LOC i) [] h k := by
  obtain ⟨l6, qz, g, a6, a7⟩ := c
  refine aw_aload_n (pc := 509) dL_law_509 rfl ?_
  refine aw_invV (pc := 510) (md' := m_X6_undo) (n := 0) (ci := 6) (j := 1) (as := []) (st := []) dL_law_510 mo_X6_undo im_X6_undo se_X6_undo ml_L_78 rfl l6.1.1 rfl (by omega) (Nat.le_of_ble_eq_true rfl) (by show k.1 + 0 ≤ 600000; omega) (by show k.2 + 0 ≤ 7302249; omega) ?_
  refine am_mono (k_undo (by omega) l6 a6) (fun r h1 _ _ z => ?_)
  obtain ⟨rfl, s1, f1, b6⟩ := z
  have qz1 := qz.sw s1
  have a71 := a7.other f1
  show AW m_L_law d _ Q 513 (LOC i) [.inl _] h1 _
  refine aw_aload_n (pc := 513) dL_law_513 rfl ?_
  refine aw_invV (pc := 514) (md' := m_X7_undo) (n := 0) (ci := 7) (j := 104) (as := []) (st := [.inl _]) dL_law_514 mo_X7_undo im_X7_undo se_X7_undo ml_L_81 rfl qz1.1 rfl (by omega) (Nat.le_of_ble_eq_true rfl) (by show k.1 + 0 + 0 ≤ 600000; omega) (by show k.2 + 0 + 0 ≤ 7302249; omega) ?_
  refine am_mono (z_undo (by omega) qz1 a71) (fun r h2 _ _ z => ?_)
  obtain ⟨rfl, s2, f2, b7⟩ := z
  show AW m_L_law d _ Q 517 (LOC i) [.inl _, .inl _] h2 _
  refine aw_icmp_eq (pc := 517) (tgt := 801) dL_law_517 (by decide) (fun _ => ?_) (fun c2 => absurd rfl c2)
  exact K h2 ((LW.mk l6 qz s1 s2 f2 b6 b7))
set_option maxRecDepth 100000 in
set_option maxHeartbeats 4000000 in
theorem law_keep (hd : 100 ≤ d) (hL : L ≤ 1536) (h0 : 0 ≤ i) (h3 : i + 3 ≤ L) (hx : ∀ j, rg (xs j)) (k1 : k.1 ≤ 600000) (k2 : k.2 ≤ 7302249) (c : LW h) (K : ∀ h', LW h' → AW m_L_law d (some (L, xs)) Q 801 (LOC i) [] h' k) : AW m_L_law d (some (L, xs)) Q 522 (LOC i) [] h k := by
  obtain ⟨l6, qz, g, a6, a7⟩ := c
  refine aw_aload_n (pc := 522) dL_law_522 rfl ?_
  refine aw_invV (pc := 523) (md' := m_X6_keep) (n := 0) (ci := 6) (j := 1) (as := []) (st := []) dL_law_523 mo_X6_keep im_X6_keep se_X6_keep ml_L_82 rfl l6.1.1 rfl (by omega) (Nat.le_of_ble_eq_true rfl) (by show k.1 + 0 ≤ 600000; omega) (by show k.2 + 0 ≤ 7302249; omega) ?_
  refine am_mono (k_keep (by omega) l6 a6) (fun r h1 _ _ z => ?_)
  obtain ⟨rfl, s1, f1, b6⟩ := z
  have qz1 := qz.sw s1
  have a71 := a7.other f1
  show AW m_L_law d _ Q 526 (LOC i) [.inl _] h1 _
  refine aw_aload_n (pc := 526) dL_law_526 rfl ?_
  refine aw_invV (pc := 527) (md' := m_X7_keep) (n := 0) (ci := 7) (j := 104) (as := []) (st := [.inl _]) dL_law_527 mo_X7_keep im_X7_keep se_X7_keep ml_L_85 rfl qz1.1 rfl (by omega) (Nat.le_of_ble_eq_true rfl) (by show k.1 + 0 + 0 ≤ 600000; omega) (by show k.2 + 0 + 0 ≤ 7302249; omega) ?_
  refine am_mono (z_keep (by omega) qz1 a71) (fun r h2 _ _ z => ?_)
  obtain ⟨rfl, s2, f2, b7⟩ := z
  show AW m_L_law d _ Q 530 (LOC i) [.inl _, .inl _] h2 _
  refine aw_icmp_eq (pc := 530) (tgt := 801) dL_law_530 (by decide) (fun _ => ?_) (fun c2 => absurd rfl c2)
  exact K h2 ((LW.mk l6 qz s1 s2 f2 b6 b7))
set_option maxRecDepth 100000 in
set_option maxHeartbeats 4000000 in
theorem law_restore (hd : 100 ≤ d) (hL : L ≤ 1536) (h0 : 0 ≤ i) (h3 : i + 3 ≤ L) (hx : ∀ j, rg (xs j)) (k1 : k.1 ≤ 600000) (k2 : k.2 ≤ 7302249) (c : LW h) (K : ∀ h', LW h' → AW m_L_law d (some (L, xs)) Q 801 (LOC i) [] h' k) : AW m_L_law d (some (L, xs)) Q 535 (LOC i) [] h k := by
  obtain ⟨l6, qz, g, a6, a7⟩ := c
  refine aw_aload_n (pc := 535) dL_law_535 rfl ?_
  refine aw_invV (pc := 536) (md' := m_X6_restore) (n := 0) (ci := 6) (j := 1) (as := []) (st := []) dL_law_536 mo_X6_restore im_X6_restore se_X6_restore ml_L_86 rfl l6.1.1 rfl (by omega) (Nat.le_of_ble_eq_true rfl) (by show k.1 + 0 ≤ 600000; omega) (by show k.2 + 0 ≤ 7302249; omega) ?_
  refine am_mono (k_restore (by omega) l6 a6) (fun r h1 _ _ z => ?_)
  obtain ⟨rfl, s1, f1, b6⟩ := z
  have qz1 := qz.sw s1
  have a71 := a7.other f1
  show AW m_L_law d _ Q 539 (LOC i) [.inl _] h1 _
  refine aw_aload_n (pc := 539) dL_law_539 rfl ?_
  refine aw_invV (pc := 540) (md' := m_X7_restore) (n := 0) (ci := 7) (j := 104) (as := []) (st := [.inl _]) dL_law_540 mo_X7_restore im_X7_restore se_X7_restore ml_L_89 rfl qz1.1 rfl (by omega) (Nat.le_of_ble_eq_true rfl) (by show k.1 + 0 + 0 ≤ 600000; omega) (by show k.2 + 0 + 0 ≤ 7302249; omega) ?_
  refine am_mono (z_restore (by omega) qz1 a71) (fun r h2 _ _ z => ?_)
  obtain ⟨rfl, s2, f2, b7⟩ := z
  show AW m_L_law d _ Q 543 (LOC i) [.inl _, .inl _] h2 _
  refine aw_icmp_eq (pc := 543) (tgt := 801) dL_law_543 (by decide) (fun _ => ?_) (fun c2 => absurd rfl c2)
  exact K h2 ((LW.mk l6 qz s1 s2 f2 b6 b7))
set_option maxRecDepth 100000 in
set_option maxHeartbeats 4000000 in
theorem law_card (hd : 100 ≤ d) (hL : L ≤ 1536) (h0 : 0 ≤ i) (h3 : i + 3 ≤ L) (hx : ∀ j, rg (xs j)) (k1 : k.1 ≤ 600000) (k2 : k.2 ≤ 7302249) (c : LW h) (K : ∀ h', LW h' → AW m_L_law d (some (L, xs)) Q 801 (LOC i) [] h' k) : AW m_L_law d (some (L, xs)) Q 548 (LOC i) [] h k := by
  obtain ⟨l6, qz, g, a6, a7⟩ := c
  refine aw_aload_n (pc := 548) dL_law_548 rfl ?_
  refine aw_aload_n (pc := 549) dL_law_549 rfl ?_
  refine aw_iload_n (pc := 550) dL_law_550 rfl ?_
  refine aw_iconst (pc := 551) dL_law_551 ?_
  refine ax_iadd (pc := 552) (v := i + 1) dL_law_552 (by unfold rg; omega) rfl ?_
  refine aw_sld (pc := 553) (q := (L, xs)) dL_law_553 rfl (by omega) (by show i + 1 < (L : Int); omega) ?_
  refine aw_invV (pc := 554) (md' := m_X6_card) (n := 1) (ci := 6) (j := 1) (as := [.inl (xs (i + 1).toNat)]) (st := []) dL_law_554 mo_X6_card im_X6_card se_X6_card ml_L_90 rfl l6.1.1 rfl (by omega) (Nat.le_of_ble_eq_true rfl) (by show k.1 + 0 ≤ 600000; omega) (by show k.2 + 0 ≤ 7302249; omega) ?_
  refine am_mono (k_card (by omega) l6 a6) (fun r h1 _ _ z => ?_)
  obtain ⟨rfl, s1, f1, b6⟩ := z
  have qz1 := qz.sw s1
  have a71 := a7.other f1
  show AW m_L_law d _ Q 557 (LOC i) [.inl _] h1 _
  refine aw_aload_n (pc := 557) dL_law_557 rfl ?_
  refine aw_aload_n (pc := 558) dL_law_558 rfl ?_
  refine aw_iload_n (pc := 559) dL_law_559 rfl ?_
  refine aw_iconst (pc := 560) dL_law_560 ?_
  refine ax_iadd (pc := 561) (v := i + 1) dL_law_561 (by unfold rg; omega) rfl ?_
  refine aw_sld (pc := 562) (q := (L, xs)) dL_law_562 rfl (by omega) (by show i + 1 < (L : Int); omega) ?_
  refine aw_invV (pc := 563) (md' := m_X7_card) (n := 1) (ci := 7) (j := 104) (as := [.inl (xs (i + 1).toNat)]) (st := [.inl _]) dL_law_563 mo_X7_card im_X7_card se_X7_card ml_L_93 rfl qz1.1 rfl (by omega) (Nat.le_of_ble_eq_true rfl) (by show k.1 + 0 + 0 ≤ 600000; omega) (by show k.2 + 0 + 0 ≤ 7302249; omega) ?_
  refine am_mono (y_card qz1 (by omega) a71) (fun r h2 _ _ z => ?_)
  obtain ⟨rfl, s2, f2, b7⟩ := z
  show AW m_L_law d _ Q 566 (LOC i) [.inl _, .inl _] h2 _
  refine aw_icmp_eq (pc := 566) (tgt := 801) dL_law_566 (by decide) (fun _ => ?_) (fun c2 => absurd rfl c2)
  exact K h2 ((LW.mk l6 qz s1 s2 f2 b6 b7))
set_option maxRecDepth 100000 in
set_option maxHeartbeats 4000000 in
theorem law_ofCard (hd : 100 ≤ d) (hL : L ≤ 1536) (h0 : 0 ≤ i) (h3 : i + 3 ≤ L) (hx : ∀ j, rg (xs j)) (k1 : k.1 ≤ 600000) (k2 : k.2 ≤ 7302249) (c : LW h) (K : ∀ h', LW h' → AW m_L_law d (some (L, xs)) Q 801 (LOC i) [] h' k) : AW m_L_law d (some (L, xs)) Q 571 (LOC i) [] h k := by
  obtain ⟨l6, qz, g, a6, a7⟩ := c
  refine aw_aload_n (pc := 571) dL_law_571 rfl ?_
  refine aw_aload_n (pc := 572) dL_law_572 rfl ?_
  refine aw_iload_n (pc := 573) dL_law_573 rfl ?_
  refine aw_iconst (pc := 574) dL_law_574 ?_
  refine ax_iadd (pc := 575) (v := i + 1) dL_law_575 (by unfold rg; omega) rfl ?_
  refine aw_sld (pc := 576) (q := (L, xs)) dL_law_576 rfl (by omega) (by show i + 1 < (L : Int); omega) ?_
  refine aw_aload_n (pc := 577) dL_law_577 rfl ?_
  refine aw_iload_n (pc := 578) dL_law_578 rfl ?_
  refine aw_iconst (pc := 579) dL_law_579 ?_
  refine ax_iadd (pc := 580) (v := i + 2) dL_law_580 (by unfold rg; omega) rfl ?_
  refine aw_sld (pc := 581) (q := (L, xs)) dL_law_581 rfl (by omega) (by show i + 2 < (L : Int); omega) ?_
  refine aw_invV (pc := 582) (md' := m_X6_ofCard) (n := 2) (ci := 6) (j := 1) (as := [.inl (xs (i + 1).toNat), .inl (xs (i + 2).toNat)]) (st := []) dL_law_582 mo_X6_ofCard im_X6_ofCard se_X6_ofCard ml_L_94 rfl l6.1.1 rfl (by omega) (Nat.le_of_ble_eq_true rfl) (by show k.1 + 0 ≤ 600000; omega) (by show k.2 + 0 ≤ 7302249; omega) ?_
  refine am_mono (k_ofCard (by omega) l6 a6) (fun r h1 _ _ z => ?_)
  obtain ⟨rfl, s1, f1, b6⟩ := z
  have qz1 := qz.sw s1
  have a71 := a7.other f1
  show AW m_L_law d _ Q 585 (LOC i) [.inl _] h1 _
  refine aw_aload_n (pc := 585) dL_law_585 rfl ?_
  refine aw_aload_n (pc := 586) dL_law_586 rfl ?_
  refine aw_iload_n (pc := 587) dL_law_587 rfl ?_
  refine aw_iconst (pc := 588) dL_law_588 ?_
  refine ax_iadd (pc := 589) (v := i + 1) dL_law_589 (by unfold rg; omega) rfl ?_
  refine aw_sld (pc := 590) (q := (L, xs)) dL_law_590 rfl (by omega) (by show i + 1 < (L : Int); omega) ?_
  refine aw_aload_n (pc := 591) dL_law_591 rfl ?_
  refine aw_iload_n (pc := 592) dL_law_592 rfl ?_
  refine aw_iconst (pc := 593) dL_law_593 ?_
  refine ax_iadd (pc := 594) (v := i + 2) dL_law_594 (by unfold rg; omega) rfl ?_
  refine aw_sld (pc := 595) (q := (L, xs)) dL_law_595 rfl (by omega) (by show i + 2 < (L : Int); omega) ?_
  refine aw_invV (pc := 596) (md' := m_X7_ofCard) (n := 2) (ci := 7) (j := 104) (as := [.inl (xs (i + 1).toNat), .inl (xs (i + 2).toNat)]) (st := [.inl _]) dL_law_596 mo_X7_ofCard im_X7_ofCard se_X7_ofCard ml_L_97 rfl qz1.1 rfl (by omega) (Nat.le_of_ble_eq_true rfl) (by show k.1 + 0 + 0 ≤ 600000; omega) (by show k.2 + 0 + 0 ≤ 7302249; omega) ?_
  refine am_mono (y_ofCard (by omega) qz1 a71) (fun r h2 _ _ z => ?_)
  obtain ⟨rfl, s2, f2, b7⟩ := z
  show AW m_L_law d _ Q 599 (LOC i) [.inl _, .inl _] h2 _
  refine aw_icmp_eq (pc := 599) (tgt := 801) dL_law_599 (by decide) (fun _ => ?_) (fun c2 => absurd rfl c2)
  exact K h2 ((LW.mk l6 qz s1 s2 f2 b6 b7))
set_option maxRecDepth 100000 in
set_option maxHeartbeats 4000000 in
theorem law_told (hd : 100 ≤ d) (hL : L ≤ 1536) (h0 : 0 ≤ i) (h3 : i + 3 ≤ L) (hx : ∀ j, rg (xs j)) (k1 : k.1 ≤ 600000) (k2 : k.2 ≤ 7302249) (c : LW h) (K : ∀ h', LW h' → AW m_L_law d (some (L, xs)) Q 801 (LOC i) [] h' k) : AW m_L_law d (some (L, xs)) Q 604 (LOC i) [] h k := by
  obtain ⟨l6, qz, g, a6, a7⟩ := c
  refine aw_aload_n (pc := 604) dL_law_604 rfl ?_
  refine aw_aload_n (pc := 605) dL_law_605 rfl ?_
  refine aw_iload_n (pc := 606) dL_law_606 rfl ?_
  refine aw_iconst (pc := 607) dL_law_607 ?_
  refine ax_iadd (pc := 608) (v := i + 1) dL_law_608 (by unfold rg; omega) rfl ?_
  refine aw_sld (pc := 609) (q := (L, xs)) dL_law_609 rfl (by omega) (by show i + 1 < (L : Int); omega) ?_
  refine aw_invV (pc := 610) (md' := m_X6_told) (n := 1) (ci := 6) (j := 1) (as := [.inl (xs (i + 1).toNat)]) (st := []) dL_law_610 mo_X6_told im_X6_told se_X6_told ml_L_98 rfl l6.1.1 rfl (by omega) (Nat.le_of_ble_eq_true rfl) (by show k.1 + 0 ≤ 600000; omega) (by show k.2 + 0 ≤ 7302249; omega) ?_
  refine am_mono (k_told (by omega) l6 a6) (fun r h1 _ _ z => ?_)
  obtain ⟨rfl, s1, f1, b6⟩ := z
  have qz1 := qz.sw s1
  have a71 := a7.other f1
  show AW m_L_law d _ Q 613 (LOC i) [.inl _] h1 _
  refine aw_aload_n (pc := 613) dL_law_613 rfl ?_
  refine aw_aload_n (pc := 614) dL_law_614 rfl ?_
  refine aw_iload_n (pc := 615) dL_law_615 rfl ?_
  refine aw_iconst (pc := 616) dL_law_616 ?_
  refine ax_iadd (pc := 617) (v := i + 1) dL_law_617 (by unfold rg; omega) rfl ?_
  refine aw_sld (pc := 618) (q := (L, xs)) dL_law_618 rfl (by omega) (by show i + 1 < (L : Int); omega) ?_
  refine aw_invV (pc := 619) (md' := m_X7_told) (n := 1) (ci := 7) (j := 104) (as := [.inl (xs (i + 1).toNat)]) (st := [.inl _]) dL_law_619 mo_X7_told im_X7_told se_X7_told ml_L_101 rfl qz1.1 rfl (by omega) (Nat.le_of_ble_eq_true rfl) (by show k.1 + 0 + 0 ≤ 600000; omega) (by show k.2 + 0 + 0 ≤ 7302249; omega) ?_
  refine am_mono (y_told qz1 a71) (fun r h2 _ _ z => ?_)
  obtain ⟨rfl, s2, f2, b7⟩ := z
  show AW m_L_law d _ Q 622 (LOC i) [.inl _, .inl _] h2 _
  refine aw_icmp_eq (pc := 622) (tgt := 801) dL_law_622 (by decide) (fun _ => ?_) (fun c2 => absurd rfl c2)
  exact K h2 ((LW.mk l6 qz s1 s2 f2 b6 b7))
set_option maxRecDepth 100000 in
set_option maxHeartbeats 4000000 in
theorem law_total (hd : 100 ≤ d) (hL : L ≤ 1536) (h0 : 0 ≤ i) (h3 : i + 3 ≤ L) (hx : ∀ j, rg (xs j)) (k1 : k.1 ≤ 600000) (k2 : k.2 ≤ 7302249) (c : LW h) (K : ∀ h', LW h' → AW m_L_law d (some (L, xs)) Q 801 (LOC i) [] h' k) : AW m_L_law d (some (L, xs)) Q 627 (LOC i) [] h k := by
  obtain ⟨l6, qz, g, a6, a7⟩ := c
  refine aw_aload_n (pc := 627) dL_law_627 rfl ?_
  refine aw_aload_n (pc := 628) dL_law_628 rfl ?_
  refine aw_iload_n (pc := 629) dL_law_629 rfl ?_
  refine aw_iconst (pc := 630) dL_law_630 ?_
  refine ax_iadd (pc := 631) (v := i + 1) dL_law_631 (by unfold rg; omega) rfl ?_
  refine aw_sld (pc := 632) (q := (L, xs)) dL_law_632 rfl (by omega) (by show i + 1 < (L : Int); omega) ?_
  refine aw_invV (pc := 633) (md' := m_X6_total) (n := 1) (ci := 6) (j := 1) (as := [.inl (xs (i + 1).toNat)]) (st := []) dL_law_633 mo_X6_total im_X6_total se_X6_total ml_L_102 rfl l6.1.1 rfl (by omega) (Nat.le_of_ble_eq_true rfl) (by show k.1 + 0 ≤ 600000; omega) (by show k.2 + 0 ≤ 7302249; omega) ?_
  refine am_mono (k_total (by omega) l6 a6) (fun r h1 _ _ z => ?_)
  obtain ⟨rfl, s1, f1, b6⟩ := z
  have qz1 := qz.sw s1
  have a71 := a7.other f1
  show AW m_L_law d _ Q 636 (LOC i) [.inl _] h1 _
  refine aw_aload_n (pc := 636) dL_law_636 rfl ?_
  refine aw_aload_n (pc := 637) dL_law_637 rfl ?_
  refine aw_iload_n (pc := 638) dL_law_638 rfl ?_
  refine aw_iconst (pc := 639) dL_law_639 ?_
  refine ax_iadd (pc := 640) (v := i + 1) dL_law_640 (by unfold rg; omega) rfl ?_
  refine aw_sld (pc := 641) (q := (L, xs)) dL_law_641 rfl (by omega) (by show i + 1 < (L : Int); omega) ?_
  refine aw_invV (pc := 642) (md' := m_X7_total) (n := 1) (ci := 7) (j := 104) (as := [.inl (xs (i + 1).toNat)]) (st := [.inl _]) dL_law_642 mo_X7_total im_X7_total se_X7_total ml_L_105 rfl qz1.1 rfl (by omega) (Nat.le_of_ble_eq_true rfl) (by show k.1 + 0 + 0 ≤ 600000; omega) (by show k.2 + 0 + 0 ≤ 7302249; omega) ?_
  refine am_mono (y_total (by omega) qz1 a71) (fun r h2 _ _ z => ?_)
  obtain ⟨rfl, s2, f2, b7⟩ := z
  show AW m_L_law d _ Q 645 (LOC i) [.inl _, .inl _] h2 _
  refine aw_icmp_eq (pc := 645) (tgt := 801) dL_law_645 (by decide) (fun _ => ?_) (fun c2 => absurd rfl c2)
  exact K h2 ((LW.mk l6 qz s1 s2 f2 b6 b7))
set_option maxRecDepth 100000 in
set_option maxHeartbeats 4000000 in
theorem law_count (hd : 100 ≤ d) (hL : L ≤ 1536) (h0 : 0 ≤ i) (h3 : i + 3 ≤ L) (hx : ∀ j, rg (xs j)) (k1 : k.1 ≤ 600000) (k2 : k.2 ≤ 7302249) (c : LW h) (K : ∀ h', LW h' → AW m_L_law d (some (L, xs)) Q 801 (LOC i) [] h' k) : AW m_L_law d (some (L, xs)) Q 650 (LOC i) [] h k := by
  obtain ⟨l6, qz, g, a6, a7⟩ := c
  refine aw_aload_n (pc := 650) dL_law_650 rfl ?_
  refine aw_aload_n (pc := 651) dL_law_651 rfl ?_
  refine aw_iload_n (pc := 652) dL_law_652 rfl ?_
  refine aw_iconst (pc := 653) dL_law_653 ?_
  refine ax_iadd (pc := 654) (v := i + 1) dL_law_654 (by unfold rg; omega) rfl ?_
  refine aw_sld (pc := 655) (q := (L, xs)) dL_law_655 rfl (by omega) (by show i + 1 < (L : Int); omega) ?_
  refine aw_aload_n (pc := 656) dL_law_656 rfl ?_
  refine aw_iload_n (pc := 657) dL_law_657 rfl ?_
  refine aw_iconst (pc := 658) dL_law_658 ?_
  refine ax_iadd (pc := 659) (v := i + 2) dL_law_659 (by unfold rg; omega) rfl ?_
  refine aw_sld (pc := 660) (q := (L, xs)) dL_law_660 rfl (by omega) (by show i + 2 < (L : Int); omega) ?_
  refine aw_invV (pc := 661) (md' := m_X6_count) (n := 2) (ci := 6) (j := 1) (as := [.inl (xs (i + 1).toNat), .inl (xs (i + 2).toNat)]) (st := []) dL_law_661 mo_X6_count im_X6_count se_X6_count ml_L_106 rfl l6.1.1 rfl (by omega) (Nat.le_of_ble_eq_true rfl) (by show k.1 + 0 ≤ 600000; omega) (by show k.2 + 0 ≤ 7302249; omega) ?_
  refine am_mono (k_count (by omega) l6 a6) (fun r h1 _ _ z => ?_)
  obtain ⟨rfl, s1, f1, b6⟩ := z
  have qz1 := qz.sw s1
  have a71 := a7.other f1
  show AW m_L_law d _ Q 664 (LOC i) [.inl _] h1 _
  refine aw_aload_n (pc := 664) dL_law_664 rfl ?_
  refine aw_aload_n (pc := 665) dL_law_665 rfl ?_
  refine aw_iload_n (pc := 666) dL_law_666 rfl ?_
  refine aw_iconst (pc := 667) dL_law_667 ?_
  refine ax_iadd (pc := 668) (v := i + 1) dL_law_668 (by unfold rg; omega) rfl ?_
  refine aw_sld (pc := 669) (q := (L, xs)) dL_law_669 rfl (by omega) (by show i + 1 < (L : Int); omega) ?_
  refine aw_aload_n (pc := 670) dL_law_670 rfl ?_
  refine aw_iload_n (pc := 671) dL_law_671 rfl ?_
  refine aw_iconst (pc := 672) dL_law_672 ?_
  refine ax_iadd (pc := 673) (v := i + 2) dL_law_673 (by unfold rg; omega) rfl ?_
  refine aw_sld (pc := 674) (q := (L, xs)) dL_law_674 rfl (by omega) (by show i + 2 < (L : Int); omega) ?_
  refine aw_invV (pc := 675) (md' := m_X7_count) (n := 2) (ci := 7) (j := 104) (as := [.inl (xs (i + 1).toNat), .inl (xs (i + 2).toNat)]) (st := [.inl _]) dL_law_675 mo_X7_count im_X7_count se_X7_count ml_L_109 rfl qz1.1 rfl (by omega) (Nat.le_of_ble_eq_true rfl) (by show k.1 + 0 + 0 ≤ 600000; omega) (by show k.2 + 0 + 0 ≤ 7302249; omega) ?_
  refine am_mono (y_count (by omega) qz1 a71) (fun r h2 _ _ z => ?_)
  obtain ⟨rfl, s2, f2, b7⟩ := z
  show AW m_L_law d _ Q 678 (LOC i) [.inl _, .inl _] h2 _
  refine aw_icmp_eq (pc := 678) (tgt := 801) dL_law_678 (by decide) (fun _ => ?_) (fun c2 => absurd rfl c2)
  exact K h2 ((LW.mk l6 qz s1 s2 f2 b6 b7))
set_option maxRecDepth 100000 in
set_option maxHeartbeats 4000000 in
theorem law_walkTakes (hd : 100 ≤ d) (hL : L ≤ 1536) (h0 : 0 ≤ i) (h3 : i + 3 ≤ L) (hx : ∀ j, rg (xs j)) (k1 : k.1 ≤ 600000) (k2 : k.2 ≤ 7302249) (c : LW h) (K : ∀ h', LW h' → AW m_L_law d (some (L, xs)) Q 801 (LOC i) [] h' k) : AW m_L_law d (some (L, xs)) Q 683 (LOC i) [] h k := by
  obtain ⟨l6, qz, g, a6, a7⟩ := c
  refine aw_aload_n (pc := 683) dL_law_683 rfl ?_
  refine aw_aload_n (pc := 684) dL_law_684 rfl ?_
  refine aw_iload_n (pc := 685) dL_law_685 rfl ?_
  refine aw_iconst (pc := 686) dL_law_686 ?_
  refine ax_iadd (pc := 687) (v := i + 1) dL_law_687 (by unfold rg; omega) rfl ?_
  refine aw_sld (pc := 688) (q := (L, xs)) dL_law_688 rfl (by omega) (by show i + 1 < (L : Int); omega) ?_
  refine aw_if_eq (pc := 689) (tgt := 696) dL_law_689 (by decide) (fun c => ?_) (fun c => ?_)
  · skip
    refine aw_iconst (pc := 696) dL_law_696 ?_
    refine aw_aload_n (pc := 697) dL_law_697 rfl ?_
    refine aw_iload_n (pc := 698) dL_law_698 rfl ?_
    refine aw_iconst (pc := 699) dL_law_699 ?_
    refine ax_iadd (pc := 700) (v := i + 2) dL_law_700 (by unfold rg; omega) rfl ?_
    refine aw_sld (pc := 701) (q := (L, xs)) dL_law_701 rfl (by omega) (by show i + 2 < (L : Int); omega) ?_
    refine aw_invV (pc := 702) (md' := m_X6_walkTakes) (n := 2) (ci := 6) (j := 1) (as := [.inl (0), .inl (xs (i + 2).toNat)]) (st := []) dL_law_702 mo_X6_walkTakes im_X6_walkTakes se_X6_walkTakes ml_L_110 rfl l6.1.1 rfl (by omega) (Nat.le_of_ble_eq_true rfl) (by show k.1 + 0 ≤ 600000; omega) (by show k.2 + 0 ≤ 7302249; omega) ?_
    refine am_mono (k_walkTakes (by omega) l6 a6) (fun r h1 _ _ z => ?_)
    obtain ⟨rfl, s1, f1, b6⟩ := z
    have qz1 := qz.sw s1
    have a71 := a7.other f1
    show AW m_L_law d _ Q 705 (LOC i) [.inl _] h1 _
    refine aw_aload_n (pc := 705) dL_law_705 rfl ?_
    refine aw_aload_n (pc := 706) dL_law_706 rfl ?_
    refine aw_iload_n (pc := 707) dL_law_707 rfl ?_
    refine aw_iconst (pc := 708) dL_law_708 ?_
    refine ax_iadd (pc := 709) (v := i + 1) dL_law_709 (by unfold rg; omega) rfl ?_
    refine aw_sld (pc := 710) (q := (L, xs)) dL_law_710 rfl (by omega) (by show i + 1 < (L : Int); omega) ?_
    refine aw_if_eq (pc := 711) (tgt := 718) dL_law_711 (by decide) (fun _ => ?_) (fun c2 => absurd c c2)
    refine aw_iconst (pc := 718) dL_law_718 ?_
    refine aw_aload_n (pc := 719) dL_law_719 rfl ?_
    refine aw_iload_n (pc := 720) dL_law_720 rfl ?_
    refine aw_iconst (pc := 721) dL_law_721 ?_
    refine ax_iadd (pc := 722) (v := i + 2) dL_law_722 (by unfold rg; omega) rfl ?_
    refine aw_sld (pc := 723) (q := (L, xs)) dL_law_723 rfl (by omega) (by show i + 2 < (L : Int); omega) ?_
    refine aw_invV (pc := 724) (md' := m_X7_walkTakes) (n := 2) (ci := 7) (j := 104) (as := [.inl (0), .inl (xs (i + 2).toNat)]) (st := [.inl _]) dL_law_724 mo_X7_walkTakes im_X7_walkTakes se_X7_walkTakes ml_L_114 rfl qz1.1 rfl (by omega) (Nat.le_of_ble_eq_true rfl) (by show k.1 + 0 + 0 ≤ 600000; omega) (by show k.2 + 0 + 0 ≤ 7302249; omega) ?_
    refine am_mono (y_walkTakes (by omega) qz1 a71) (fun r h2 _ _ z => ?_)
    obtain ⟨rfl, s2, f2, b7⟩ := z
    show AW m_L_law d _ Q 727 (LOC i) [.inl _, .inl _] h2 _
    refine aw_icmp_eq (pc := 727) (tgt := 801) dL_law_727 (by decide) (fun _ => ?_) (fun c2 => absurd rfl c2)
    exact K h2 ((LW.mk l6 qz s1 s2 f2 b6 b7))
  · skip
    refine aw_iconst (pc := 692) dL_law_692 ?_
    refine aw_goto (pc := 693) (tgt := 697) dL_law_693 (by decide) ?_
    refine aw_aload_n (pc := 697) dL_law_697 rfl ?_
    refine aw_iload_n (pc := 698) dL_law_698 rfl ?_
    refine aw_iconst (pc := 699) dL_law_699 ?_
    refine ax_iadd (pc := 700) (v := i + 2) dL_law_700 (by unfold rg; omega) rfl ?_
    refine aw_sld (pc := 701) (q := (L, xs)) dL_law_701 rfl (by omega) (by show i + 2 < (L : Int); omega) ?_
    refine aw_invV (pc := 702) (md' := m_X6_walkTakes) (n := 2) (ci := 6) (j := 1) (as := [.inl (1), .inl (xs (i + 2).toNat)]) (st := []) dL_law_702 mo_X6_walkTakes im_X6_walkTakes se_X6_walkTakes ml_L_110 rfl l6.1.1 rfl (by omega) (Nat.le_of_ble_eq_true rfl) (by show k.1 + 0 ≤ 600000; omega) (by show k.2 + 0 ≤ 7302249; omega) ?_
    refine am_mono (k_walkTakes (by omega) l6 a6) (fun r h1 _ _ z => ?_)
    obtain ⟨rfl, s1, f1, b6⟩ := z
    have qz1 := qz.sw s1
    have a71 := a7.other f1
    show AW m_L_law d _ Q 705 (LOC i) [.inl _] h1 _
    refine aw_aload_n (pc := 705) dL_law_705 rfl ?_
    refine aw_aload_n (pc := 706) dL_law_706 rfl ?_
    refine aw_iload_n (pc := 707) dL_law_707 rfl ?_
    refine aw_iconst (pc := 708) dL_law_708 ?_
    refine ax_iadd (pc := 709) (v := i + 1) dL_law_709 (by unfold rg; omega) rfl ?_
    refine aw_sld (pc := 710) (q := (L, xs)) dL_law_710 rfl (by omega) (by show i + 1 < (L : Int); omega) ?_
    refine aw_if_eq (pc := 711) (tgt := 718) dL_law_711 (by decide) (fun c2 => absurd c2 c) (fun _ => ?_)
    refine aw_iconst (pc := 714) dL_law_714 ?_
    refine aw_goto (pc := 715) (tgt := 719) dL_law_715 (by decide) ?_
    refine aw_aload_n (pc := 719) dL_law_719 rfl ?_
    refine aw_iload_n (pc := 720) dL_law_720 rfl ?_
    refine aw_iconst (pc := 721) dL_law_721 ?_
    refine ax_iadd (pc := 722) (v := i + 2) dL_law_722 (by unfold rg; omega) rfl ?_
    refine aw_sld (pc := 723) (q := (L, xs)) dL_law_723 rfl (by omega) (by show i + 2 < (L : Int); omega) ?_
    refine aw_invV (pc := 724) (md' := m_X7_walkTakes) (n := 2) (ci := 7) (j := 104) (as := [.inl (1), .inl (xs (i + 2).toNat)]) (st := [.inl _]) dL_law_724 mo_X7_walkTakes im_X7_walkTakes se_X7_walkTakes ml_L_114 rfl qz1.1 rfl (by omega) (Nat.le_of_ble_eq_true rfl) (by show k.1 + 0 + 0 ≤ 600000; omega) (by show k.2 + 0 + 0 ≤ 7302249; omega) ?_
    refine am_mono (y_walkTakes (by omega) qz1 a71) (fun r h2 _ _ z => ?_)
    obtain ⟨rfl, s2, f2, b7⟩ := z
    show AW m_L_law d _ Q 727 (LOC i) [.inl _, .inl _] h2 _
    refine aw_icmp_eq (pc := 727) (tgt := 801) dL_law_727 (by decide) (fun _ => ?_) (fun c2 => absurd rfl c2)
    exact K h2 ((LW.mk l6 qz s1 s2 f2 b6 b7))
set_option maxRecDepth 100000 in
set_option maxHeartbeats 4000000 in
theorem law_roundsTake (hd : 100 ≤ d) (hL : L ≤ 1536) (h0 : 0 ≤ i) (h3 : i + 3 ≤ L) (hx : ∀ j, rg (xs j)) (k1 : k.1 ≤ 600000) (k2 : k.2 ≤ 7302249) (c : LW h) (K : ∀ h', LW h' → AW m_L_law d (some (L, xs)) Q 801 (LOC i) [] h' k) : AW m_L_law d (some (L, xs)) Q 732 (LOC i) [] h k := by
  obtain ⟨l6, qz, g, a6, a7⟩ := c
  refine aw_aload_n (pc := 732) dL_law_732 rfl ?_
  refine aw_aload_n (pc := 733) dL_law_733 rfl ?_
  refine aw_iload_n (pc := 734) dL_law_734 rfl ?_
  refine aw_iconst (pc := 735) dL_law_735 ?_
  refine ax_iadd (pc := 736) (v := i + 1) dL_law_736 (by unfold rg; omega) rfl ?_
  refine aw_sld (pc := 737) (q := (L, xs)) dL_law_737 rfl (by omega) (by show i + 1 < (L : Int); omega) ?_
  refine aw_aload_n (pc := 738) dL_law_738 rfl ?_
  refine aw_iload_n (pc := 739) dL_law_739 rfl ?_
  refine aw_iconst (pc := 740) dL_law_740 ?_
  refine ax_iadd (pc := 741) (v := i + 2) dL_law_741 (by unfold rg; omega) rfl ?_
  refine aw_sld (pc := 742) (q := (L, xs)) dL_law_742 rfl (by omega) (by show i + 2 < (L : Int); omega) ?_
  refine aw_invV (pc := 743) (md' := m_X6_roundsTake) (n := 2) (ci := 6) (j := 1) (as := [.inl (xs (i + 1).toNat), .inl (xs (i + 2).toNat)]) (st := []) dL_law_743 mo_X6_roundsTake im_X6_roundsTake se_X6_roundsTake ml_L_115 rfl l6.1.1 rfl (by omega) (Nat.le_of_ble_eq_true rfl) (by show k.1 + 0 ≤ 600000; omega) (by show k.2 + 0 ≤ 7302249; omega) ?_
  refine am_mono (k_roundsTake (by omega) l6 a6) (fun r h1 _ _ z => ?_)
  obtain ⟨rfl, s1, f1, b6⟩ := z
  have qz1 := qz.sw s1
  have a71 := a7.other f1
  show AW m_L_law d _ Q 746 (LOC i) [.inl _] h1 _
  refine aw_aload_n (pc := 746) dL_law_746 rfl ?_
  refine aw_aload_n (pc := 747) dL_law_747 rfl ?_
  refine aw_iload_n (pc := 748) dL_law_748 rfl ?_
  refine aw_iconst (pc := 749) dL_law_749 ?_
  refine ax_iadd (pc := 750) (v := i + 1) dL_law_750 (by unfold rg; omega) rfl ?_
  refine aw_sld (pc := 751) (q := (L, xs)) dL_law_751 rfl (by omega) (by show i + 1 < (L : Int); omega) ?_
  refine aw_aload_n (pc := 752) dL_law_752 rfl ?_
  refine aw_iload_n (pc := 753) dL_law_753 rfl ?_
  refine aw_iconst (pc := 754) dL_law_754 ?_
  refine ax_iadd (pc := 755) (v := i + 2) dL_law_755 (by unfold rg; omega) rfl ?_
  refine aw_sld (pc := 756) (q := (L, xs)) dL_law_756 rfl (by omega) (by show i + 2 < (L : Int); omega) ?_
  refine aw_invV (pc := 757) (md' := m_X7_roundsTake) (n := 2) (ci := 7) (j := 104) (as := [.inl (xs (i + 1).toNat), .inl (xs (i + 2).toNat)]) (st := [.inl _]) dL_law_757 mo_X7_roundsTake im_X7_roundsTake se_X7_roundsTake ml_L_118 rfl qz1.1 rfl (by omega) (Nat.le_of_ble_eq_true rfl) (by show k.1 + 0 + 0 ≤ 600000; omega) (by show k.2 + 0 + 0 ≤ 7302249; omega) ?_
  refine am_mono (y_roundsTake (by omega) qz1 a71) (fun r h2 _ _ z => ?_)
  obtain ⟨rfl, s2, f2, b7⟩ := z
  show AW m_L_law d _ Q 760 (LOC i) [.inl _, .inl _] h2 _
  refine aw_icmp_eq (pc := 760) (tgt := 801) dL_law_760 (by decide) (fun _ => ?_) (fun c2 => absurd rfl c2)
  exact K h2 ((LW.mk l6 qz s1 s2 f2 b6 b7))
set_option maxRecDepth 100000 in
set_option maxHeartbeats 4000000 in
theorem law_bestFrame (hd : 100 ≤ d) (hL : L ≤ 1536) (h0 : 0 ≤ i) (h3 : i + 3 ≤ L) (hx : ∀ j, rg (xs j)) (k1 : k.1 ≤ 600000) (k2 : k.2 ≤ 7302249) (c : LW h) (K : ∀ h', LW h' → AW m_L_law d (some (L, xs)) Q 801 (LOC i) [] h' k) : AW m_L_law d (some (L, xs)) Q 765 (LOC i) [] h k := by
  obtain ⟨l6, qz, g, a6, a7⟩ := c
  refine aw_aload_n (pc := 765) dL_law_765 rfl ?_
  refine aw_invV (pc := 766) (md' := m_X6_bestFrame) (n := 0) (ci := 6) (j := 1) (as := []) (st := []) dL_law_766 mo_X6_bestFrame im_X6_bestFrame se_X6_bestFrame ml_L_119 rfl l6.1.1 rfl (by omega) (Nat.le_of_ble_eq_true rfl) (by show k.1 + 0 ≤ 600000; omega) (by show k.2 + 0 ≤ 7302249; omega) ?_
  refine am_mono (k_best (by omega) l6 a6) (fun r h1 _ _ z => ?_)
  obtain ⟨rfl, s1, f1, b6⟩ := z
  have qz1 := qz.sw s1
  have a71 := a7.other f1
  show AW m_L_law d _ Q 769 (LOC i) [.inl _] h1 _
  refine aw_aload_n (pc := 769) dL_law_769 rfl ?_
  refine aw_invV (pc := 770) (md' := m_X7_bestFrame) (n := 0) (ci := 7) (j := 104) (as := []) (st := [.inl _]) dL_law_770 mo_X7_bestFrame im_X7_bestFrame se_X7_bestFrame ml_L_122 rfl qz1.1 rfl (by omega) (Nat.le_of_ble_eq_true rfl) (by show k.1 + 0 + 0 ≤ 600000; omega) (by show k.2 + 0 + 0 ≤ 7302249; omega) ?_
  refine am_mono (y_bestFrame (by omega) qz1 a71) (fun r h2 _ _ z => ?_)
  obtain ⟨rfl, s2, f2, b7⟩ := z
  show AW m_L_law d _ Q 773 (LOC i) [.inl _, .inl _] h2 _
  refine aw_icmp_eq (pc := 773) (tgt := 801) dL_law_773 (by decide) (fun _ => ?_) (fun c2 => absurd rfl c2)
  exact K h2 ((LW.mk l6 qz s1 s2 f2 b6 b7))
set_option maxRecDepth 100000 in
set_option maxHeartbeats 4000000 in
theorem law_thickest (hd : 100 ≤ d) (hL : L ≤ 1536) (h0 : 0 ≤ i) (h3 : i + 3 ≤ L) (hx : ∀ j, rg (xs j)) (k1 : k.1 ≤ 600000) (k2 : k.2 ≤ 7302249) (c : LW h) (K : ∀ h', LW h' → AW m_L_law d (some (L, xs)) Q 801 (LOC i) [] h' k) : AW m_L_law d (some (L, xs)) Q 778 (LOC i) [] h k := by
  obtain ⟨l6, qz, g, a6, a7⟩ := c
  refine aw_aload_n (pc := 778) dL_law_778 rfl ?_
  refine aw_aload_n (pc := 779) dL_law_779 rfl ?_
  refine aw_iload_n (pc := 780) dL_law_780 rfl ?_
  refine aw_iconst (pc := 781) dL_law_781 ?_
  refine ax_iadd (pc := 782) (v := i + 1) dL_law_782 (by unfold rg; omega) rfl ?_
  refine aw_sld (pc := 783) (q := (L, xs)) dL_law_783 rfl (by omega) (by show i + 1 < (L : Int); omega) ?_
  refine aw_invV (pc := 784) (md' := m_X6_thickest) (n := 1) (ci := 6) (j := 1) (as := [.inl (xs (i + 1).toNat)]) (st := []) dL_law_784 mo_X6_thickest im_X6_thickest se_X6_thickest ml_L_123 rfl l6.1.1 rfl (by omega) (Nat.le_of_ble_eq_true rfl) (by show k.1 + 0 ≤ 600000; omega) (by show k.2 + 0 ≤ 7302249; omega) ?_
  refine am_mono (k_thickest (by omega) l6 a6) (fun r h1 _ _ z => ?_)
  obtain ⟨rfl, s1, f1, b6⟩ := z
  have qz1 := qz.sw s1
  have a71 := a7.other f1
  show AW m_L_law d _ Q 787 (LOC i) [.inl _] h1 _
  refine aw_aload_n (pc := 787) dL_law_787 rfl ?_
  refine aw_aload_n (pc := 788) dL_law_788 rfl ?_
  refine aw_iload_n (pc := 789) dL_law_789 rfl ?_
  refine aw_iconst (pc := 790) dL_law_790 ?_
  refine ax_iadd (pc := 791) (v := i + 1) dL_law_791 (by unfold rg; omega) rfl ?_
  refine aw_sld (pc := 792) (q := (L, xs)) dL_law_792 rfl (by omega) (by show i + 1 < (L : Int); omega) ?_
  refine aw_invV (pc := 793) (md' := m_X7_thickest) (n := 1) (ci := 7) (j := 104) (as := [.inl (xs (i + 1).toNat)]) (st := [.inl _]) dL_law_793 mo_X7_thickest im_X7_thickest se_X7_thickest ml_L_126 rfl qz1.1 rfl (by omega) (Nat.le_of_ble_eq_true rfl) (by show k.1 + 0 + 0 ≤ 600000; omega) (by show k.2 + 0 + 0 ≤ 7302249; omega) ?_
  refine am_mono (y_thickest (by omega) qz1 a71) (fun r h2 _ _ z => ?_)
  obtain ⟨rfl, s2, f2, b7⟩ := z
  show AW m_L_law d _ Q 796 (LOC i) [.inl _, .inl _] h2 _
  refine aw_icmp_eq (pc := 796) (tgt := 801) dL_law_796 (by decide) (fun _ => ?_) (fun c2 => absurd rfl c2)
  exact K h2 ((LW.mk l6 qz s1 s2 f2 b6 b7))
end LAW
