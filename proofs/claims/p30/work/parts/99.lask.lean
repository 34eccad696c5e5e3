/-! the law's ask -/
section LASK
variable {d : Nat} {g : Gs} {T m b : Int}
theorem st_1 {l : List Cd} {t : Nat} (ht : t ≤ 7) {k low : Int} (hk : k = t) (hw : WL l) (hb : 0 ≤ low ∧ low < 2 ^ t) {f : Cd → Bool} (hf : ∀ c ∈ l, pa k low c = f c) (h0 : countO (k + 1) (2 * low) l = 0) : ∀ c ∈ l, pa (k + 1) (2 * low + 1) c = f c := by
  subst hk
  intro c hc
  have h1 := cnt_0 (isB_2 ht hb).1 h0 c hc
  have h2 := pa_two ht (low := low) (nm_of hw hc)
  rw [h1] at h2
  rw [← hf c hc]
  cases h3 : pa ((t : Int) + 1) (2 * low + 1) c <;> cases h4 : pa (t : Int) low c <;> simp_all
theorem st_0 {l : List Cd} {t : Nat} (ht : t ≤ 7) {k low : Int} (hk : k = t) (hw : WL l) (hb : 0 ≤ low ∧ low < 2 ^ t) {f : Cd → Bool} (hf : ∀ c ∈ l, pa k low c = f c) (h0 : countO (k + 1) (2 * low + 1) l = 0) : ∀ c ∈ l, pa (k + 1) (2 * low + 0) c = f c := by
  subst hk
  intro c hc
  have h1 := cnt_0 (isB_2 ht hb).2 h0 c hc
  have h2 := pa_two ht (low := low) (nm_of hw hc)
  rw [h1] at h2
  rw [← hf c hc, show 2 * low + 0 = 2 * low by omega]
  cases h3 : pa ((t : Int) + 1) (2 * low) c <;> cases h4 : pa (t : Int) low c <;> simp_all
theorem nOne_le (l : List Cd) : nOne l ≤ l.length := List.length_filter_le ..
theorem l_ask79_0 {k low N : Int} (hd : 20 ≤ d) (a : IV T g.1) (hT : T ≤ 1800000000) (hB : isB m b) (h : g.1.1.filter (pa m b) = []) (hN : N = 0) (hk : 0 ≤ k ∧ k ≤ 8) : LW m_L_ask d none (PO (askG m b g)) 79 [some (.inr (some 1)), some (.inl m), some (.inl b), some (.inl N), some (.inl (g.1.1.length : Int)), some (.inl (g.1.2.2 10)), some (.inl (g.1.2.1.length : Int)), some (.inl (nOne g.1.1 : Int)), some (.inl k), some (.inl low), none, none, none, none] [] g (0, 0) := by
  have h20 := a.1.1
  have hno := nOne_le g.1.1
  have h200 := a.2.2.1
  obtain ⟨p5, p6, p7, p8, p9, p11⟩ := a.2.2.2.1
  have q10 := a.2.2.2.2.2.2.1
  have qT := a.2.2.2.2.2.2.2.1
  have hB2 := hB.2.1
  have hB1 := hB.1
  have kf := ask_f0 hB a hT h
  refine lc_ask_79 hd ?_
  refine ⟨fun c1 => ?_, fun c1 => ?_⟩
  · intro v2 g3 r_v2 e_v2 f_v2
    subst f_v2
    subst e_v2
    intro v4 r_v4 e_v4
    replace e_v4 := e_v4.trans tot_3
    refine ⟨fun c5 => ?_, fun c5 => ?_⟩
    · intro v6 r_v6 e_v6
      replace e_v6 := e_v6.trans tot_3
      refine ⟨by unfold rg; omega, ?_⟩
      intro v8 r_v8 e_v8
      subst e_v6
      refine ⟨fun c9 => ?_, fun c9 => ?_⟩
      · refine ⟨fun c10 => ?_, fun c10 => ?_⟩
        · refine ⟨by unfold rg; omega, ?_⟩
          refine ⟨fun c12 => ?_, fun c12 => ?_⟩
          · exfalso; omega
          · exfalso; omega
        · refine ⟨fun c14 => ?_, fun c14 => ?_⟩
          · refine ⟨by unfold rg; omega, ?_⟩
            refine ⟨by unfold rg; omega, ?_⟩
            refine ⟨fun c18 => ?_, fun c18 => ?_⟩
            · refine ⟨by unfold rg; omega, ?_⟩
              refine ⟨by unfold rg; omega, ?_⟩
              exfalso; omega
            · refine ⟨by unfold rg; omega, ?_⟩
              exfalso; omega
          · refine ⟨fun c24 => ?_, fun c24 => ?_⟩
            · refine ⟨by unfold rg; omega, ?_⟩
              refine ⟨by unfold rg; omega, ?_⟩
              refine ⟨fun c28 => ?_, fun c28 => ?_⟩
              · refine ⟨by unfold rg; omega, ?_⟩
                refine ⟨by unfold rg; omega, ?_⟩
                exfalso; omega
              · refine ⟨by unfold rg; omega, ?_⟩
                exfalso; omega
            · refine ⟨by unfold rg; omega, ?_⟩
              refine ⟨fun c35 => ?_, fun c35 => ?_⟩
              · refine ⟨by unfold rg; omega, ?_⟩
                refine ⟨by unfold rg; omega, ?_⟩
                refine ⟨fun c39 => ?_, fun c39 => ?_⟩
                · refine ⟨by unfold rg; omega, ?_⟩
                  exfalso; omega
                · refine ⟨by unfold rg; omega, ?_⟩
                  exfalso; omega
              · refine ⟨fun c44 => ?_, fun c44 => ?_⟩
                · refine ⟨by unfold rg; omega, ?_⟩
                  refine ⟨by unfold rg; omega, ?_⟩
                  refine ⟨fun c48 => ?_, fun c48 => ?_⟩
                  · refine ⟨by unfold rg; omega, ?_⟩
                    exfalso; omega
                  · refine ⟨by unfold rg; omega, ?_⟩
                    exfalso; omega
                · refine ⟨by unfold rg; omega, ?_⟩
                  refine ⟨by unfold rg; omega, ?_⟩
                  refine ⟨fun c56 => ?_, fun c56 => ?_⟩
                  · refine ⟨by unfold rg; omega, ?_⟩
                    intro v59 r_v59 e_v59
                    replace e_v59 := e_v59.trans tot_9
                    refine ⟨fun c60 => ?_, fun c60 => ?_⟩
                    · exfalso; omega
                    · intro v61 r_v61 e_v61
                      replace e_v61 := e_v61.trans tot_0
                      refine ⟨by unfold rg; omega, ?_⟩
                      refine ⟨fun c63 => ?_, fun c63 => ?_⟩
                      · exfalso; omega
                      · intro v64 r_v64 e_v64
                        replace e_v64 := e_v64.trans tot_3
                        refine ⟨fun c66 => ?_, fun c66 => ?_⟩
                        · refine ⟨fun c67 => ?_, fun c67 => ?_⟩
                          · exfalso; omega
                          · intro v69 r_v69 e_v69
                            refine ⟨fun c70 => ?_, fun c70 => ?_⟩
                            · exact ⟨rfl, rfl⟩
                            · intro v72 r_v72 e_v72
                              replace e_v72 := e_v72.trans tot_11
                              refine ⟨fun c73 => ?_, fun c73 => ?_⟩
                              · exfalso; omega
                              · exact ⟨rfl, rfl⟩
                        · refine ⟨by unfold rg; omega, ?_⟩
                          refine ⟨fun c76 => ?_, fun c76 => ?_⟩
                          · exfalso; omega
                          · intro v78 r_v78 e_v78
                            refine ⟨fun c79 => ?_, fun c79 => ?_⟩
                            · exact ⟨rfl, rfl⟩
                            · intro v81 r_v81 e_v81
                              replace e_v81 := e_v81.trans tot_11
                              refine ⟨fun c82 => ?_, fun c82 => ?_⟩
                              · exfalso; omega
                              · exact ⟨rfl, rfl⟩
                  · refine ⟨by unfold rg; omega, ?_⟩
                    intro v86 r_v86 e_v86
                    replace e_v86 := e_v86.trans tot_9
                    refine ⟨fun c87 => ?_, fun c87 => ?_⟩
                    · exfalso; omega
                    · intro v88 r_v88 e_v88
                      replace e_v88 := e_v88.trans tot_0
                      refine ⟨by unfold rg; omega, ?_⟩
                      refine ⟨fun c90 => ?_, fun c90 => ?_⟩
                      · exfalso; omega
                      · intro v91 r_v91 e_v91
                        replace e_v91 := e_v91.trans tot_3
                        refine ⟨fun c93 => ?_, fun c93 => ?_⟩
                        · refine ⟨fun c94 => ?_, fun c94 => ?_⟩
                          · exfalso; omega
                          · intro v96 r_v96 e_v96
                            refine ⟨fun c97 => ?_, fun c97 => ?_⟩
                            · exact ⟨rfl, rfl⟩
                            · intro v99 r_v99 e_v99
                              replace e_v99 := e_v99.trans tot_11
                              refine ⟨fun c100 => ?_, fun c100 => ?_⟩
                              · exfalso; omega
                              · exact ⟨rfl, rfl⟩
                        · refine ⟨by unfold rg; omega, ?_⟩
                          refine ⟨fun c103 => ?_, fun c103 => ?_⟩
                          · exfalso; omega
                          · intro v105 r_v105 e_v105
                            refine ⟨fun c106 => ?_, fun c106 => ?_⟩
                            · exact ⟨rfl, rfl⟩
                            · intro v108 r_v108 e_v108
                              replace e_v108 := e_v108.trans tot_11
                              refine ⟨fun c109 => ?_, fun c109 => ?_⟩
                              · exfalso; omega
                              · exact ⟨rfl, rfl⟩
      · refine ⟨fun c111 => ?_, fun c111 => ?_⟩
        · exfalso; omega
        · refine ⟨by unfold rg; omega, ?_⟩
          refine ⟨by unfold rg; omega, ?_⟩
          refine ⟨by unfold rg; omega, ?_⟩
          intro v117 r_v117 e_v117
          replace e_v117 := e_v117.trans tot_9
          refine ⟨fun c118 => ?_, fun c118 => ?_⟩
          · exfalso; omega
          · intro v119 r_v119 e_v119
            replace e_v119 := e_v119.trans tot_0
            refine ⟨by unfold rg; omega, ?_⟩
            refine ⟨fun c121 => ?_, fun c121 => ?_⟩
            · exfalso; omega
            · intro v122 r_v122 e_v122
              replace e_v122 := e_v122.trans tot_3
              refine ⟨fun c124 => ?_, fun c124 => ?_⟩
              · exfalso; omega
              · exact ⟨rfl, rfl⟩
    · refine ⟨fun c127 => ?_, fun c127 => ?_⟩
      · refine ⟨fun c128 => ?_, fun c128 => ?_⟩
        · refine ⟨by unfold rg; omega, ?_⟩
          refine ⟨fun c130 => ?_, fun c130 => ?_⟩
          · exfalso; omega
          · exfalso; omega
        · refine ⟨fun c132 => ?_, fun c132 => ?_⟩
          · refine ⟨by unfold rg; omega, ?_⟩
            refine ⟨by unfold rg; omega, ?_⟩
            refine ⟨fun c136 => ?_, fun c136 => ?_⟩
            · refine ⟨by unfold rg; omega, ?_⟩
              refine ⟨by unfold rg; omega, ?_⟩
              exfalso; omega
            · refine ⟨by unfold rg; omega, ?_⟩
              exfalso; omega
          · refine ⟨fun c142 => ?_, fun c142 => ?_⟩
            · refine ⟨by unfold rg; omega, ?_⟩
              refine ⟨by unfold rg; omega, ?_⟩
              refine ⟨fun c146 => ?_, fun c146 => ?_⟩
              · refine ⟨by unfold rg; omega, ?_⟩
                refine ⟨by unfold rg; omega, ?_⟩
                exfalso; omega
              · refine ⟨by unfold rg; omega, ?_⟩
                exfalso; omega
            · refine ⟨by unfold rg; omega, ?_⟩
              refine ⟨fun c153 => ?_, fun c153 => ?_⟩
              · refine ⟨by unfold rg; omega, ?_⟩
                refine ⟨by unfold rg; omega, ?_⟩
                refine ⟨fun c157 => ?_, fun c157 => ?_⟩
                · refine ⟨by unfold rg; omega, ?_⟩
                  exfalso; omega
                · refine ⟨by unfold rg; omega, ?_⟩
                  exfalso; omega
              · refine ⟨fun c162 => ?_, fun c162 => ?_⟩
                · refine ⟨by unfold rg; omega, ?_⟩
                  refine ⟨by unfold rg; omega, ?_⟩
                  refine ⟨fun c166 => ?_, fun c166 => ?_⟩
                  · refine ⟨by unfold rg; omega, ?_⟩
                    exfalso; omega
                  · refine ⟨by unfold rg; omega, ?_⟩
                    exfalso; omega
                · refine ⟨by unfold rg; omega, ?_⟩
                  refine ⟨by unfold rg; omega, ?_⟩
                  refine ⟨fun c174 => ?_, fun c174 => ?_⟩
                  · refine ⟨by unfold rg; omega, ?_⟩
                    intro v177 r_v177 e_v177
                    replace e_v177 := e_v177.trans tot_9
                    refine ⟨fun c178 => ?_, fun c178 => ?_⟩
                    · exfalso; omega
                    · intro v179 r_v179 e_v179
                      replace e_v179 := e_v179.trans tot_0
                      refine ⟨by unfold rg; omega, ?_⟩
                      refine ⟨fun c181 => ?_, fun c181 => ?_⟩
                      · exfalso; omega
                      · intro v182 r_v182 e_v182
                        replace e_v182 := e_v182.trans tot_3
                        refine ⟨fun c184 => ?_, fun c184 => ?_⟩
                        · refine ⟨fun c185 => ?_, fun c185 => ?_⟩
                          · exfalso; omega
                          · intro v187 r_v187 e_v187
                            refine ⟨fun c188 => ?_, fun c188 => ?_⟩
                            · exact ⟨rfl, rfl⟩
                            · intro v190 r_v190 e_v190
                              replace e_v190 := e_v190.trans tot_11
                              refine ⟨fun c191 => ?_, fun c191 => ?_⟩
                              · exfalso; omega
                              · exact ⟨rfl, rfl⟩
                        · refine ⟨by unfold rg; omega, ?_⟩
                          refine ⟨fun c194 => ?_, fun c194 => ?_⟩
                          · exfalso; omega
                          · intro v196 r_v196 e_v196
                            refine ⟨fun c197 => ?_, fun c197 => ?_⟩
                            · exact ⟨rfl, rfl⟩
                            · intro v199 r_v199 e_v199
                              replace e_v199 := e_v199.trans tot_11
                              refine ⟨fun c200 => ?_, fun c200 => ?_⟩
                              · exfalso; omega
                              · exact ⟨rfl, rfl⟩
                  · refine ⟨by unfold rg; omega, ?_⟩
                    intro v204 r_v204 e_v204
                    replace e_v204 := e_v204.trans tot_9
                    refine ⟨fun c205 => ?_, fun c205 => ?_⟩
                    · exfalso; omega
                    · intro v206 r_v206 e_v206
                      replace e_v206 := e_v206.trans tot_0
                      refine ⟨by unfold rg; omega, ?_⟩
                      refine ⟨fun c208 => ?_, fun c208 => ?_⟩
                      · exfalso; omega
                      · intro v209 r_v209 e_v209
                        replace e_v209 := e_v209.trans tot_3
                        refine ⟨fun c211 => ?_, fun c211 => ?_⟩
                        · refine ⟨fun c212 => ?_, fun c212 => ?_⟩
                          · exfalso; omega
                          · intro v214 r_v214 e_v214
                            refine ⟨fun c215 => ?_, fun c215 => ?_⟩
                            · exact ⟨rfl, rfl⟩
                            · intro v217 r_v217 e_v217
                              replace e_v217 := e_v217.trans tot_11
                              refine ⟨fun c218 => ?_, fun c218 => ?_⟩
                              · exfalso; omega
                              · exact ⟨rfl, rfl⟩
                        · refine ⟨by unfold rg; omega, ?_⟩
                          refine ⟨fun c221 => ?_, fun c221 => ?_⟩
                          · exfalso; omega
                          · intro v223 r_v223 e_v223
                            refine ⟨fun c224 => ?_, fun c224 => ?_⟩
                            · exact ⟨rfl, rfl⟩
                            · intro v226 r_v226 e_v226
                              replace e_v226 := e_v226.trans tot_11
                              refine ⟨fun c227 => ?_, fun c227 => ?_⟩
                              · exfalso; omega
                              · exact ⟨rfl, rfl⟩
      · refine ⟨fun c229 => ?_, fun c229 => ?_⟩
        · exfalso; omega
        · refine ⟨by unfold rg; omega, ?_⟩
          refine ⟨by unfold rg; omega, ?_⟩
          refine ⟨by unfold rg; omega, ?_⟩
          intro v235 r_v235 e_v235
          replace e_v235 := e_v235.trans tot_9
          refine ⟨fun c236 => ?_, fun c236 => ?_⟩
          · exfalso; omega
          · intro v237 r_v237 e_v237
            replace e_v237 := e_v237.trans tot_0
            refine ⟨by unfold rg; omega, ?_⟩
            refine ⟨fun c239 => ?_, fun c239 => ?_⟩
            · exfalso; omega
            · intro v240 r_v240 e_v240
              replace e_v240 := e_v240.trans tot_3
              refine ⟨fun c242 => ?_, fun c242 => ?_⟩
              · exfalso; omega
              · exact ⟨rfl, rfl⟩
  · refine ⟨fun c245 => ?_, fun c245 => ?_⟩
    · intro v246 g247 r_v246 e_v246 f_v246
      subst f_v246
      subst e_v246
      intro v248 r_v248 e_v248
      replace e_v248 := e_v248.trans tot_3
      refine ⟨fun c249 => ?_, fun c249 => ?_⟩
      · intro v250 r_v250 e_v250
        replace e_v250 := e_v250.trans tot_3
        refine ⟨by unfold rg; omega, ?_⟩
        intro v252 r_v252 e_v252
        subst e_v250
        refine ⟨fun c253 => ?_, fun c253 => ?_⟩
        · refine ⟨fun c254 => ?_, fun c254 => ?_⟩
          · refine ⟨by unfold rg; omega, ?_⟩
            refine ⟨fun c256 => ?_, fun c256 => ?_⟩
            · exfalso; omega
            · refine ⟨by unfold rg; omega, ?_⟩
              refine ⟨by unfold rg; omega, ?_⟩
              refine ⟨fun c261 => ?_, fun c261 => ?_⟩
              · refine ⟨by unfold rg; omega, ?_⟩
                refine ⟨by unfold rg; omega, ?_⟩
                intro v265 r_v265 e_v265
                replace e_v265 := e_v265.trans tot_9
                refine ⟨fun c266 => ?_, fun c266 => ?_⟩
                · exfalso; omega
                · intro v267 r_v267 e_v267
                  replace e_v267 := e_v267.trans tot_0
                  refine ⟨by unfold rg; omega, ?_⟩
                  refine ⟨fun c269 => ?_, fun c269 => ?_⟩
                  · exfalso; omega
                  · intro v270 r_v270 e_v270
                    replace e_v270 := e_v270.trans tot_3
                    refine ⟨fun c272 => ?_, fun c272 => ?_⟩
                    · exfalso; omega
                    · exact ⟨rfl, rfl⟩
              · refine ⟨by unfold rg; omega, ?_⟩
                intro v277 r_v277 e_v277
                replace e_v277 := e_v277.trans tot_9
                refine ⟨fun c278 => ?_, fun c278 => ?_⟩
                · exfalso; omega
                · intro v279 r_v279 e_v279
                  replace e_v279 := e_v279.trans tot_0
                  refine ⟨by unfold rg; omega, ?_⟩
                  refine ⟨fun c281 => ?_, fun c281 => ?_⟩
                  · exfalso; omega
                  · intro v282 r_v282 e_v282
                    replace e_v282 := e_v282.trans tot_3
                    refine ⟨fun c284 => ?_, fun c284 => ?_⟩
                    · exfalso; omega
                    · exact ⟨rfl, rfl⟩
          · refine ⟨fun c287 => ?_, fun c287 => ?_⟩
            · refine ⟨by unfold rg; omega, ?_⟩
              refine ⟨by unfold rg; omega, ?_⟩
              refine ⟨fun c291 => ?_, fun c291 => ?_⟩
              · refine ⟨by unfold rg; omega, ?_⟩
                refine ⟨by unfold rg; omega, ?_⟩
                exfalso; omega
              · refine ⟨by unfold rg; omega, ?_⟩
                exfalso; omega
            · refine ⟨fun c297 => ?_, fun c297 => ?_⟩
              · refine ⟨by unfold rg; omega, ?_⟩
                refine ⟨by unfold rg; omega, ?_⟩
                refine ⟨fun c301 => ?_, fun c301 => ?_⟩
                · refine ⟨by unfold rg; omega, ?_⟩
                  refine ⟨by unfold rg; omega, ?_⟩
                  exfalso; omega
                · refine ⟨by unfold rg; omega, ?_⟩
                  exfalso; omega
              · refine ⟨by unfold rg; omega, ?_⟩
                refine ⟨fun c308 => ?_, fun c308 => ?_⟩
                · refine ⟨by unfold rg; omega, ?_⟩
                  refine ⟨by unfold rg; omega, ?_⟩
                  refine ⟨fun c312 => ?_, fun c312 => ?_⟩
                  · refine ⟨by unfold rg; omega, ?_⟩
                    exfalso; omega
                  · refine ⟨by unfold rg; omega, ?_⟩
                    exfalso; omega
                · refine ⟨fun c317 => ?_, fun c317 => ?_⟩
                  · refine ⟨by unfold rg; omega, ?_⟩
                    refine ⟨by unfold rg; omega, ?_⟩
                    refine ⟨fun c321 => ?_, fun c321 => ?_⟩
                    · refine ⟨by unfold rg; omega, ?_⟩
                      exfalso; omega
                    · refine ⟨by unfold rg; omega, ?_⟩
                      exfalso; omega
                  · refine ⟨by unfold rg; omega, ?_⟩
                    refine ⟨by unfold rg; omega, ?_⟩
                    refine ⟨fun c329 => ?_, fun c329 => ?_⟩
                    · refine ⟨by unfold rg; omega, ?_⟩
                      intro v332 r_v332 e_v332
                      replace e_v332 := e_v332.trans tot_9
                      refine ⟨fun c333 => ?_, fun c333 => ?_⟩
                      · exfalso; omega
                      · intro v334 r_v334 e_v334
                        replace e_v334 := e_v334.trans tot_0
                        refine ⟨by unfold rg; omega, ?_⟩
                        refine ⟨fun c336 => ?_, fun c336 => ?_⟩
                        · exfalso; omega
                        · intro v337 r_v337 e_v337
                          replace e_v337 := e_v337.trans tot_3
                          refine ⟨fun c339 => ?_, fun c339 => ?_⟩
                          · refine ⟨fun c340 => ?_, fun c340 => ?_⟩
                            · exfalso; omega
                            · intro v342 r_v342 e_v342
                              refine ⟨fun c343 => ?_, fun c343 => ?_⟩
                              · exact ⟨rfl, rfl⟩
                              · intro v345 r_v345 e_v345
                                replace e_v345 := e_v345.trans tot_11
                                refine ⟨fun c346 => ?_, fun c346 => ?_⟩
                                · exfalso; omega
                                · exact ⟨rfl, rfl⟩
                          · refine ⟨by unfold rg; omega, ?_⟩
                            refine ⟨fun c349 => ?_, fun c349 => ?_⟩
                            · exfalso; omega
                            · intro v351 r_v351 e_v351
                              refine ⟨fun c352 => ?_, fun c352 => ?_⟩
                              · exact ⟨rfl, rfl⟩
                              · intro v354 r_v354 e_v354
                                replace e_v354 := e_v354.trans tot_11
                                refine ⟨fun c355 => ?_, fun c355 => ?_⟩
                                · exfalso; omega
                                · exact ⟨rfl, rfl⟩
                    · refine ⟨by unfold rg; omega, ?_⟩
                      intro v359 r_v359 e_v359
                      replace e_v359 := e_v359.trans tot_9
                      refine ⟨fun c360 => ?_, fun c360 => ?_⟩
                      · exfalso; omega
                      · intro v361 r_v361 e_v361
                        replace e_v361 := e_v361.trans tot_0
                        refine ⟨by unfold rg; omega, ?_⟩
                        refine ⟨fun c363 => ?_, fun c363 => ?_⟩
                        · exfalso; omega
                        · intro v364 r_v364 e_v364
                          replace e_v364 := e_v364.trans tot_3
                          refine ⟨fun c366 => ?_, fun c366 => ?_⟩
                          · refine ⟨fun c367 => ?_, fun c367 => ?_⟩
                            · exfalso; omega
                            · intro v369 r_v369 e_v369
                              refine ⟨fun c370 => ?_, fun c370 => ?_⟩
                              · exact ⟨rfl, rfl⟩
                              · intro v372 r_v372 e_v372
                                replace e_v372 := e_v372.trans tot_11
                                refine ⟨fun c373 => ?_, fun c373 => ?_⟩
                                · exfalso; omega
                                · exact ⟨rfl, rfl⟩
                          · refine ⟨by unfold rg; omega, ?_⟩
                            refine ⟨fun c376 => ?_, fun c376 => ?_⟩
                            · exfalso; omega
                            · intro v378 r_v378 e_v378
                              refine ⟨fun c379 => ?_, fun c379 => ?_⟩
                              · exact ⟨rfl, rfl⟩
                              · intro v381 r_v381 e_v381
                                replace e_v381 := e_v381.trans tot_11
                                refine ⟨fun c382 => ?_, fun c382 => ?_⟩
                                · exfalso; omega
                                · exact ⟨rfl, rfl⟩
        · refine ⟨fun c384 => ?_, fun c384 => ?_⟩
          · exfalso; omega
          · refine ⟨by unfold rg; omega, ?_⟩
            refine ⟨by unfold rg; omega, ?_⟩
            refine ⟨by unfold rg; omega, ?_⟩
            intro v390 r_v390 e_v390
            replace e_v390 := e_v390.trans tot_9
            refine ⟨fun c391 => ?_, fun c391 => ?_⟩
            · exfalso; omega
            · intro v392 r_v392 e_v392
              replace e_v392 := e_v392.trans tot_0
              refine ⟨by unfold rg; omega, ?_⟩
              refine ⟨fun c394 => ?_, fun c394 => ?_⟩
              · exfalso; omega
              · intro v395 r_v395 e_v395
                replace e_v395 := e_v395.trans tot_3
                refine ⟨fun c397 => ?_, fun c397 => ?_⟩
                · exfalso; omega
                · exact ⟨rfl, rfl⟩
      · refine ⟨fun c400 => ?_, fun c400 => ?_⟩
        · refine ⟨fun c401 => ?_, fun c401 => ?_⟩
          · refine ⟨by unfold rg; omega, ?_⟩
            refine ⟨fun c403 => ?_, fun c403 => ?_⟩
            · exfalso; omega
            · refine ⟨by unfold rg; omega, ?_⟩
              refine ⟨by unfold rg; omega, ?_⟩
              refine ⟨fun c408 => ?_, fun c408 => ?_⟩
              · refine ⟨by unfold rg; omega, ?_⟩
                refine ⟨by unfold rg; omega, ?_⟩
                intro v412 r_v412 e_v412
                replace e_v412 := e_v412.trans tot_9
                refine ⟨fun c413 => ?_, fun c413 => ?_⟩
                · exfalso; omega
                · intro v414 r_v414 e_v414
                  replace e_v414 := e_v414.trans tot_0
                  refine ⟨by unfold rg; omega, ?_⟩
                  refine ⟨fun c416 => ?_, fun c416 => ?_⟩
                  · exfalso; omega
                  · intro v417 r_v417 e_v417
                    replace e_v417 := e_v417.trans tot_3
                    refine ⟨fun c419 => ?_, fun c419 => ?_⟩
                    · exfalso; omega
                    · exact ⟨rfl, rfl⟩
              · refine ⟨by unfold rg; omega, ?_⟩
                intro v424 r_v424 e_v424
                replace e_v424 := e_v424.trans tot_9
                refine ⟨fun c425 => ?_, fun c425 => ?_⟩
                · exfalso; omega
                · intro v426 r_v426 e_v426
                  replace e_v426 := e_v426.trans tot_0
                  refine ⟨by unfold rg; omega, ?_⟩
                  refine ⟨fun c428 => ?_, fun c428 => ?_⟩
                  · exfalso; omega
                  · intro v429 r_v429 e_v429
                    replace e_v429 := e_v429.trans tot_3
                    refine ⟨fun c431 => ?_, fun c431 => ?_⟩
                    · exfalso; omega
                    · exact ⟨rfl, rfl⟩
          · refine ⟨fun c434 => ?_, fun c434 => ?_⟩
            · refine ⟨by unfold rg; omega, ?_⟩
              refine ⟨by unfold rg; omega, ?_⟩
              refine ⟨fun c438 => ?_, fun c438 => ?_⟩
              · refine ⟨by unfold rg; omega, ?_⟩
                refine ⟨by unfold rg; omega, ?_⟩
                exfalso; omega
              · refine ⟨by unfold rg; omega, ?_⟩
                exfalso; omega
            · refine ⟨fun c444 => ?_, fun c444 => ?_⟩
              · refine ⟨by unfold rg; omega, ?_⟩
                refine ⟨by unfold rg; omega, ?_⟩
                refine ⟨fun c448 => ?_, fun c448 => ?_⟩
                · refine ⟨by unfold rg; omega, ?_⟩
                  refine ⟨by unfold rg; omega, ?_⟩
                  exfalso; omega
                · refine ⟨by unfold rg; omega, ?_⟩
                  exfalso; omega
              · refine ⟨by unfold rg; omega, ?_⟩
                refine ⟨fun c455 => ?_, fun c455 => ?_⟩
                · refine ⟨by unfold rg; omega, ?_⟩
                  refine ⟨by unfold rg; omega, ?_⟩
                  refine ⟨fun c459 => ?_, fun c459 => ?_⟩
                  · refine ⟨by unfold rg; omega, ?_⟩
                    exfalso; omega
                  · refine ⟨by unfold rg; omega, ?_⟩
                    exfalso; omega
                · refine ⟨fun c464 => ?_, fun c464 => ?_⟩
                  · refine ⟨by unfold rg; omega, ?_⟩
                    refine ⟨by unfold rg; omega, ?_⟩
                    refine ⟨fun c468 => ?_, fun c468 => ?_⟩
                    · refine ⟨by unfold rg; omega, ?_⟩
                      exfalso; omega
                    · refine ⟨by unfold rg; omega, ?_⟩
                      exfalso; omega
                  · refine ⟨by unfold rg; omega, ?_⟩
                    refine ⟨by unfold rg; omega, ?_⟩
                    refine ⟨fun c476 => ?_, fun c476 => ?_⟩
                    · refine ⟨by unfold rg; omega, ?_⟩
                      intro v479 r_v479 e_v479
                      replace e_v479 := e_v479.trans tot_9
                      refine ⟨fun c480 => ?_, fun c480 => ?_⟩
                      · exfalso; omega
                      · intro v481 r_v481 e_v481
                        replace e_v481 := e_v481.trans tot_0
                        refine ⟨by unfold rg; omega, ?_⟩
                        refine ⟨fun c483 => ?_, fun c483 => ?_⟩
                        · exfalso; omega
                        · intro v484 r_v484 e_v484
                          replace e_v484 := e_v484.trans tot_3
                          refine ⟨fun c486 => ?_, fun c486 => ?_⟩
                          · refine ⟨fun c487 => ?_, fun c487 => ?_⟩
                            · exfalso; omega
                            · intro v489 r_v489 e_v489
                              refine ⟨fun c490 => ?_, fun c490 => ?_⟩
                              · exact ⟨rfl, rfl⟩
                              · intro v492 r_v492 e_v492
                                replace e_v492 := e_v492.trans tot_11
                                refine ⟨fun c493 => ?_, fun c493 => ?_⟩
                                · exfalso; omega
                                · exact ⟨rfl, rfl⟩
                          · refine ⟨by unfold rg; omega, ?_⟩
                            refine ⟨fun c496 => ?_, fun c496 => ?_⟩
                            · exfalso; omega
                            · intro v498 r_v498 e_v498
                              refine ⟨fun c499 => ?_, fun c499 => ?_⟩
                              · exact ⟨rfl, rfl⟩
                              · intro v501 r_v501 e_v501
                                replace e_v501 := e_v501.trans tot_11
                                refine ⟨fun c502 => ?_, fun c502 => ?_⟩
                                · exfalso; omega
                                · exact ⟨rfl, rfl⟩
                    · refine ⟨by unfold rg; omega, ?_⟩
                      intro v506 r_v506 e_v506
                      replace e_v506 := e_v506.trans tot_9
                      refine ⟨fun c507 => ?_, fun c507 => ?_⟩
                      · exfalso; omega
                      · intro v508 r_v508 e_v508
                        replace e_v508 := e_v508.trans tot_0
                        refine ⟨by unfold rg; omega, ?_⟩
                        refine ⟨fun c510 => ?_, fun c510 => ?_⟩
                        · exfalso; omega
                        · intro v511 r_v511 e_v511
                          replace e_v511 := e_v511.trans tot_3
                          refine ⟨fun c513 => ?_, fun c513 => ?_⟩
                          · refine ⟨fun c514 => ?_, fun c514 => ?_⟩
                            · exfalso; omega
                            · intro v516 r_v516 e_v516
                              refine ⟨fun c517 => ?_, fun c517 => ?_⟩
                              · exact ⟨rfl, rfl⟩
                              · intro v519 r_v519 e_v519
                                replace e_v519 := e_v519.trans tot_11
                                refine ⟨fun c520 => ?_, fun c520 => ?_⟩
                                · exfalso; omega
                                · exact ⟨rfl, rfl⟩
                          · refine ⟨by unfold rg; omega, ?_⟩
                            refine ⟨fun c523 => ?_, fun c523 => ?_⟩
                            · exfalso; omega
                            · intro v525 r_v525 e_v525
                              refine ⟨fun c526 => ?_, fun c526 => ?_⟩
                              · exact ⟨rfl, rfl⟩
                              · intro v528 r_v528 e_v528
                                replace e_v528 := e_v528.trans tot_11
                                refine ⟨fun c529 => ?_, fun c529 => ?_⟩
                                · exfalso; omega
                                · exact ⟨rfl, rfl⟩
        · refine ⟨fun c531 => ?_, fun c531 => ?_⟩
          · exfalso; omega
          · refine ⟨by unfold rg; omega, ?_⟩
            refine ⟨by unfold rg; omega, ?_⟩
            refine ⟨by unfold rg; omega, ?_⟩
            intro v537 r_v537 e_v537
            replace e_v537 := e_v537.trans tot_9
            refine ⟨fun c538 => ?_, fun c538 => ?_⟩
            · exfalso; omega
            · intro v539 r_v539 e_v539
              replace e_v539 := e_v539.trans tot_0
              refine ⟨by unfold rg; omega, ?_⟩
              refine ⟨fun c541 => ?_, fun c541 => ?_⟩
              · exfalso; omega
              · intro v542 r_v542 e_v542
                replace e_v542 := e_v542.trans tot_3
                refine ⟨fun c544 => ?_, fun c544 => ?_⟩
                · exfalso; omega
                · exact ⟨rfl, rfl⟩
    · refine ⟨by unfold rg; omega, ?_⟩
      refine ⟨by unfold rg; omega, ?_⟩
      intro v549 r_v549 e_v549
      refine ⟨fun c550 => ?_, fun c550 => ?_⟩
      · intro v551 r_v551 e_v551
        refine ⟨fun c552 => ?_, fun c552 => ?_⟩
        · refine ⟨by unfold rg; omega, ?_⟩
          exfalso; omega
        · refine ⟨by unfold rg; omega, ?_⟩
          exfalso; omega
      · refine ⟨by unfold rg; omega, ?_⟩
        intro v556 r_v556 e_v556
        refine ⟨fun c557 => ?_, fun c557 => ?_⟩
        · intro v558 g559 r_v558 e_v558 f_v558
          subst f_v558
          subst e_v558
          intro v560 r_v560 e_v560
          replace e_v560 := e_v560.trans tot_3
          refine ⟨fun c561 => ?_, fun c561 => ?_⟩
          · intro v562 r_v562 e_v562
            replace e_v562 := e_v562.trans tot_3
            refine ⟨by unfold rg; omega, ?_⟩
            intro v564 r_v564 e_v564
            subst e_v562
            refine ⟨by unfold rg; omega, ?_⟩
            refine ⟨fun c568 => ?_, fun c568 => ?_⟩
            · exfalso; omega
            · refine ⟨by unfold rg; omega, ?_⟩
              refine ⟨by unfold rg; omega, ?_⟩
              refine ⟨fun c573 => ?_, fun c573 => ?_⟩
              · refine ⟨by unfold rg; omega, ?_⟩
                refine ⟨by unfold rg; omega, ?_⟩
                intro v577 r_v577 e_v577
                replace e_v577 := e_v577.trans tot_9
                refine ⟨fun c578 => ?_, fun c578 => ?_⟩
                · exfalso; omega
                · intro v579 r_v579 e_v579
                  replace e_v579 := e_v579.trans tot_0
                  refine ⟨by unfold rg; omega, ?_⟩
                  refine ⟨fun c581 => ?_, fun c581 => ?_⟩
                  · exfalso; omega
                  · intro v582 r_v582 e_v582
                    replace e_v582 := e_v582.trans tot_3
                    refine ⟨fun c584 => ?_, fun c584 => ?_⟩
                    · exfalso; omega
                    · exact ⟨rfl, rfl⟩
              · refine ⟨by unfold rg; omega, ?_⟩
                intro v589 r_v589 e_v589
                replace e_v589 := e_v589.trans tot_9
                refine ⟨fun c590 => ?_, fun c590 => ?_⟩
                · exfalso; omega
                · intro v591 r_v591 e_v591
                  replace e_v591 := e_v591.trans tot_0
                  refine ⟨by unfold rg; omega, ?_⟩
                  refine ⟨fun c593 => ?_, fun c593 => ?_⟩
                  · exfalso; omega
                  · intro v594 r_v594 e_v594
                    replace e_v594 := e_v594.trans tot_3
                    refine ⟨fun c596 => ?_, fun c596 => ?_⟩
                    · exfalso; omega
                    · exact ⟨rfl, rfl⟩
          · refine ⟨by unfold rg; omega, ?_⟩
            refine ⟨fun c602 => ?_, fun c602 => ?_⟩
            · exfalso; omega
            · refine ⟨by unfold rg; omega, ?_⟩
              refine ⟨by unfold rg; omega, ?_⟩
              refine ⟨fun c607 => ?_, fun c607 => ?_⟩
              · refine ⟨by unfold rg; omega, ?_⟩
                refine ⟨by unfold rg; omega, ?_⟩
                intro v611 r_v611 e_v611
                replace e_v611 := e_v611.trans tot_9
                refine ⟨fun c612 => ?_, fun c612 => ?_⟩
                · exfalso; omega
                · intro v613 r_v613 e_v613
                  replace e_v613 := e_v613.trans tot_0
                  refine ⟨by unfold rg; omega, ?_⟩
                  refine ⟨fun c615 => ?_, fun c615 => ?_⟩
                  · exfalso; omega
                  · intro v616 r_v616 e_v616
                    replace e_v616 := e_v616.trans tot_3
                    refine ⟨fun c618 => ?_, fun c618 => ?_⟩
                    · exfalso; omega
                    · exact ⟨rfl, rfl⟩
              · refine ⟨by unfold rg; omega, ?_⟩
                intro v623 r_v623 e_v623
                replace e_v623 := e_v623.trans tot_9
                refine ⟨fun c624 => ?_, fun c624 => ?_⟩
                · exfalso; omega
                · intro v625 r_v625 e_v625
                  replace e_v625 := e_v625.trans tot_0
                  refine ⟨by unfold rg; omega, ?_⟩
                  refine ⟨fun c627 => ?_, fun c627 => ?_⟩
                  · exfalso; omega
                  · intro v628 r_v628 e_v628
                    replace e_v628 := e_v628.trans tot_3
                    refine ⟨fun c630 => ?_, fun c630 => ?_⟩
                    · exfalso; omega
                    · exact ⟨rfl, rfl⟩
        · intro v633 r_v633 e_v633
          refine ⟨fun c634 => ?_, fun c634 => ?_⟩
          · refine ⟨by unfold rg; omega, ?_⟩
            exfalso; omega
          · exfalso; omega
theorem l_ask79_1 {k low N : Int} {c0 : Cd} (hd : 20 ≤ d) (a : IV T g.1) (hT : T ≤ 1800000000) (hB : isB m b) (h : g.1.1.filter (pa m b) = [c0]) (hN : N = 1) (hk : 0 ≤ k ∧ k ≤ 8) : LW m_L_ask d none (PO (askG m b g)) 79 [some (.inr (some 1)), some (.inl m), some (.inl b), some (.inl N), some (.inl (g.1.1.length : Int)), some (.inl (g.1.2.2 10)), some (.inl (g.1.2.1.length : Int)), some (.inl (nOne g.1.1 : Int)), some (.inl k), some (.inl low), none, none, none, none] [] g (0, 0) := by
  have h20 := a.1.1
  have hno := nOne_le g.1.1
  have h200 := a.2.2.1
  obtain ⟨p5, p6, p7, p8, p9, p11⟩ := a.2.2.2.1
  have q10 := a.2.2.2.2.2.2.1
  have qT := a.2.2.2.2.2.2.2.1
  have hB2 := hB.2.1
  have hB1 := hB.1
  have kf := ask_f1 hB a hT h
  refine lc_ask_79 hd ?_
  refine ⟨fun c1 => ?_, fun c1 => ?_⟩
  · intro v2 g3 r_v2 e_v2 f_v2
    subst f_v2
    subst e_v2
    intro v4 r_v4 e_v4
    replace e_v4 := e_v4.trans tot_3
    refine ⟨fun c5 => ?_, fun c5 => ?_⟩
    · intro v6 r_v6 e_v6
      replace e_v6 := e_v6.trans tot_3
      refine ⟨by unfold rg; omega, ?_⟩
      intro v8 r_v8 e_v8
      subst e_v6
      refine ⟨fun c9 => ?_, fun c9 => ?_⟩
      · refine ⟨fun c10 => ?_, fun c10 => ?_⟩
        · refine ⟨by unfold rg; omega, ?_⟩
          refine ⟨fun c12 => ?_, fun c12 => ?_⟩
          · exfalso; omega
          · exfalso; omega
        · refine ⟨fun c14 => ?_, fun c14 => ?_⟩
          · refine ⟨by unfold rg; omega, ?_⟩
            refine ⟨by unfold rg; omega, ?_⟩
            refine ⟨fun c18 => ?_, fun c18 => ?_⟩
            · refine ⟨by unfold rg; omega, ?_⟩
              refine ⟨by unfold rg; omega, ?_⟩
              exfalso; omega
            · refine ⟨by unfold rg; omega, ?_⟩
              exfalso; omega
          · refine ⟨fun c24 => ?_, fun c24 => ?_⟩
            · refine ⟨by unfold rg; omega, ?_⟩
              refine ⟨by unfold rg; omega, ?_⟩
              refine ⟨fun c28 => ?_, fun c28 => ?_⟩
              · refine ⟨by unfold rg; omega, ?_⟩
                refine ⟨by unfold rg; omega, ?_⟩
                exfalso; omega
              · refine ⟨by unfold rg; omega, ?_⟩
                exfalso; omega
            · refine ⟨by unfold rg; omega, ?_⟩
              refine ⟨fun c35 => ?_, fun c35 => ?_⟩
              · refine ⟨by unfold rg; omega, ?_⟩
                refine ⟨by unfold rg; omega, ?_⟩
                refine ⟨fun c39 => ?_, fun c39 => ?_⟩
                · refine ⟨by unfold rg; omega, ?_⟩
                  exfalso; omega
                · refine ⟨by unfold rg; omega, ?_⟩
                  exfalso; omega
              · refine ⟨fun c44 => ?_, fun c44 => ?_⟩
                · refine ⟨by unfold rg; omega, ?_⟩
                  refine ⟨by unfold rg; omega, ?_⟩
                  refine ⟨fun c48 => ?_, fun c48 => ?_⟩
                  · refine ⟨by unfold rg; omega, ?_⟩
                    exfalso; omega
                  · refine ⟨by unfold rg; omega, ?_⟩
                    exfalso; omega
                · refine ⟨by unfold rg; omega, ?_⟩
                  refine ⟨by unfold rg; omega, ?_⟩
                  refine ⟨fun c56 => ?_, fun c56 => ?_⟩
                  · refine ⟨by unfold rg; omega, ?_⟩
                    intro v59 r_v59 e_v59
                    replace e_v59 := e_v59.trans tot_9
                    refine ⟨fun c60 => ?_, fun c60 => ?_⟩
                    · exfalso; omega
                    · intro v61 r_v61 e_v61
                      replace e_v61 := e_v61.trans tot_0
                      refine ⟨by unfold rg; omega, ?_⟩
                      refine ⟨fun c63 => ?_, fun c63 => ?_⟩
                      · exfalso; omega
                      · intro v64 r_v64 e_v64
                        replace e_v64 := e_v64.trans tot_3
                        refine ⟨fun c66 => ?_, fun c66 => ?_⟩
                        · refine ⟨fun c67 => ?_, fun c67 => ?_⟩
                          · exfalso; omega
                          · intro v69 r_v69 e_v69
                            refine ⟨fun c70 => ?_, fun c70 => ?_⟩
                            · exact ⟨rfl, rfl⟩
                            · intro v72 r_v72 e_v72
                              replace e_v72 := e_v72.trans tot_11
                              refine ⟨fun c73 => ?_, fun c73 => ?_⟩
                              · exfalso; omega
                              · exact ⟨rfl, rfl⟩
                        · refine ⟨by unfold rg; omega, ?_⟩
                          refine ⟨fun c76 => ?_, fun c76 => ?_⟩
                          · exfalso; omega
                          · intro v78 r_v78 e_v78
                            refine ⟨fun c79 => ?_, fun c79 => ?_⟩
                            · exact ⟨rfl, rfl⟩
                            · intro v81 r_v81 e_v81
                              replace e_v81 := e_v81.trans tot_11
                              refine ⟨fun c82 => ?_, fun c82 => ?_⟩
                              · exfalso; omega
                              · exact ⟨rfl, rfl⟩
                  · refine ⟨by unfold rg; omega, ?_⟩
                    intro v86 r_v86 e_v86
                    replace e_v86 := e_v86.trans tot_9
                    refine ⟨fun c87 => ?_, fun c87 => ?_⟩
                    · exfalso; omega
                    · intro v88 r_v88 e_v88
                      replace e_v88 := e_v88.trans tot_0
                      refine ⟨by unfold rg; omega, ?_⟩
                      refine ⟨fun c90 => ?_, fun c90 => ?_⟩
                      · exfalso; omega
                      · intro v91 r_v91 e_v91
                        replace e_v91 := e_v91.trans tot_3
                        refine ⟨fun c93 => ?_, fun c93 => ?_⟩
                        · refine ⟨fun c94 => ?_, fun c94 => ?_⟩
                          · exfalso; omega
                          · intro v96 r_v96 e_v96
                            refine ⟨fun c97 => ?_, fun c97 => ?_⟩
                            · exact ⟨rfl, rfl⟩
                            · intro v99 r_v99 e_v99
                              replace e_v99 := e_v99.trans tot_11
                              refine ⟨fun c100 => ?_, fun c100 => ?_⟩
                              · exfalso; omega
                              · exact ⟨rfl, rfl⟩
                        · refine ⟨by unfold rg; omega, ?_⟩
                          refine ⟨fun c103 => ?_, fun c103 => ?_⟩
                          · exfalso; omega
                          · intro v105 r_v105 e_v105
                            refine ⟨fun c106 => ?_, fun c106 => ?_⟩
                            · exact ⟨rfl, rfl⟩
                            · intro v108 r_v108 e_v108
                              replace e_v108 := e_v108.trans tot_11
                              refine ⟨fun c109 => ?_, fun c109 => ?_⟩
                              · exfalso; omega
                              · exact ⟨rfl, rfl⟩
      · refine ⟨fun c111 => ?_, fun c111 => ?_⟩
        · exfalso; omega
        · refine ⟨by unfold rg; omega, ?_⟩
          refine ⟨by unfold rg; omega, ?_⟩
          refine ⟨by unfold rg; omega, ?_⟩
          intro v117 r_v117 e_v117
          replace e_v117 := e_v117.trans tot_9
          refine ⟨fun c118 => ?_, fun c118 => ?_⟩
          · exfalso; omega
          · intro v119 r_v119 e_v119
            replace e_v119 := e_v119.trans tot_0
            refine ⟨by unfold rg; omega, ?_⟩
            refine ⟨fun c121 => ?_, fun c121 => ?_⟩
            · exfalso; omega
            · intro v122 r_v122 e_v122
              replace e_v122 := e_v122.trans tot_3
              refine ⟨fun c124 => ?_, fun c124 => ?_⟩
              · exfalso; omega
              · exact ⟨rfl, rfl⟩
    · refine ⟨fun c127 => ?_, fun c127 => ?_⟩
      · refine ⟨fun c128 => ?_, fun c128 => ?_⟩
        · refine ⟨by unfold rg; omega, ?_⟩
          refine ⟨fun c130 => ?_, fun c130 => ?_⟩
          · exfalso; omega
          · exfalso; omega
        · refine ⟨fun c132 => ?_, fun c132 => ?_⟩
          · refine ⟨by unfold rg; omega, ?_⟩
            refine ⟨by unfold rg; omega, ?_⟩
            refine ⟨fun c136 => ?_, fun c136 => ?_⟩
            · refine ⟨by unfold rg; omega, ?_⟩
              refine ⟨by unfold rg; omega, ?_⟩
              exfalso; omega
            · refine ⟨by unfold rg; omega, ?_⟩
              exfalso; omega
          · refine ⟨fun c142 => ?_, fun c142 => ?_⟩
            · refine ⟨by unfold rg; omega, ?_⟩
              refine ⟨by unfold rg; omega, ?_⟩
              refine ⟨fun c146 => ?_, fun c146 => ?_⟩
              · refine ⟨by unfold rg; omega, ?_⟩
                refine ⟨by unfold rg; omega, ?_⟩
                exfalso; omega
              · refine ⟨by unfold rg; omega, ?_⟩
                exfalso; omega
            · refine ⟨by unfold rg; omega, ?_⟩
              refine ⟨fun c153 => ?_, fun c153 => ?_⟩
              · refine ⟨by unfold rg; omega, ?_⟩
                refine ⟨by unfold rg; omega, ?_⟩
                refine ⟨fun c157 => ?_, fun c157 => ?_⟩
                · refine ⟨by unfold rg; omega, ?_⟩
                  exfalso; omega
                · refine ⟨by unfold rg; omega, ?_⟩
                  exfalso; omega
              · refine ⟨fun c162 => ?_, fun c162 => ?_⟩
                · refine ⟨by unfold rg; omega, ?_⟩
                  refine ⟨by unfold rg; omega, ?_⟩
                  refine ⟨fun c166 => ?_, fun c166 => ?_⟩
                  · refine ⟨by unfold rg; omega, ?_⟩
                    exfalso; omega
                  · refine ⟨by unfold rg; omega, ?_⟩
                    exfalso; omega
                · refine ⟨by unfold rg; omega, ?_⟩
                  refine ⟨by unfold rg; omega, ?_⟩
                  refine ⟨fun c174 => ?_, fun c174 => ?_⟩
                  · refine ⟨by unfold rg; omega, ?_⟩
                    intro v177 r_v177 e_v177
                    replace e_v177 := e_v177.trans tot_9
                    refine ⟨fun c178 => ?_, fun c178 => ?_⟩
                    · exfalso; omega
                    · intro v179 r_v179 e_v179
                      replace e_v179 := e_v179.trans tot_0
                      refine ⟨by unfold rg; omega, ?_⟩
                      refine ⟨fun c181 => ?_, fun c181 => ?_⟩
                      · exfalso; omega
                      · intro v182 r_v182 e_v182
                        replace e_v182 := e_v182.trans tot_3
                        refine ⟨fun c184 => ?_, fun c184 => ?_⟩
                        · refine ⟨fun c185 => ?_, fun c185 => ?_⟩
                          · exfalso; omega
                          · intro v187 r_v187 e_v187
                            refine ⟨fun c188 => ?_, fun c188 => ?_⟩
                            · exact ⟨rfl, rfl⟩
                            · intro v190 r_v190 e_v190
                              replace e_v190 := e_v190.trans tot_11
                              refine ⟨fun c191 => ?_, fun c191 => ?_⟩
                              · exfalso; omega
                              · exact ⟨rfl, rfl⟩
                        · refine ⟨by unfold rg; omega, ?_⟩
                          refine ⟨fun c194 => ?_, fun c194 => ?_⟩
                          · exfalso; omega
                          · intro v196 r_v196 e_v196
                            refine ⟨fun c197 => ?_, fun c197 => ?_⟩
                            · exact ⟨rfl, rfl⟩
                            · intro v199 r_v199 e_v199
                              replace e_v199 := e_v199.trans tot_11
                              refine ⟨fun c200 => ?_, fun c200 => ?_⟩
                              · exfalso; omega
                              · exact ⟨rfl, rfl⟩
                  · refine ⟨by unfold rg; omega, ?_⟩
                    intro v204 r_v204 e_v204
                    replace e_v204 := e_v204.trans tot_9
                    refine ⟨fun c205 => ?_, fun c205 => ?_⟩
                    · exfalso; omega
                    · intro v206 r_v206 e_v206
                      replace e_v206 := e_v206.trans tot_0
                      refine ⟨by unfold rg; omega, ?_⟩
                      refine ⟨fun c208 => ?_, fun c208 => ?_⟩
                      · exfalso; omega
                      · intro v209 r_v209 e_v209
                        replace e_v209 := e_v209.trans tot_3
                        refine ⟨fun c211 => ?_, fun c211 => ?_⟩
                        · refine ⟨fun c212 => ?_, fun c212 => ?_⟩
                          · exfalso; omega
                          · intro v214 r_v214 e_v214
                            refine ⟨fun c215 => ?_, fun c215 => ?_⟩
                            · exact ⟨rfl, rfl⟩
                            · intro v217 r_v217 e_v217
                              replace e_v217 := e_v217.trans tot_11
                              refine ⟨fun c218 => ?_, fun c218 => ?_⟩
                              · exfalso; omega
                              · exact ⟨rfl, rfl⟩
                        · refine ⟨by unfold rg; omega, ?_⟩
                          refine ⟨fun c221 => ?_, fun c221 => ?_⟩
                          · exfalso; omega
                          · intro v223 r_v223 e_v223
                            refine ⟨fun c224 => ?_, fun c224 => ?_⟩
                            · exact ⟨rfl, rfl⟩
                            · intro v226 r_v226 e_v226
                              replace e_v226 := e_v226.trans tot_11
                              refine ⟨fun c227 => ?_, fun c227 => ?_⟩
                              · exfalso; omega
                              · exact ⟨rfl, rfl⟩
      · refine ⟨fun c229 => ?_, fun c229 => ?_⟩
        · exfalso; omega
        · refine ⟨by unfold rg; omega, ?_⟩
          refine ⟨by unfold rg; omega, ?_⟩
          refine ⟨by unfold rg; omega, ?_⟩
          intro v235 r_v235 e_v235
          replace e_v235 := e_v235.trans tot_9
          refine ⟨fun c236 => ?_, fun c236 => ?_⟩
          · exfalso; omega
          · intro v237 r_v237 e_v237
            replace e_v237 := e_v237.trans tot_0
            refine ⟨by unfold rg; omega, ?_⟩
            refine ⟨fun c239 => ?_, fun c239 => ?_⟩
            · exfalso; omega
            · intro v240 r_v240 e_v240
              replace e_v240 := e_v240.trans tot_3
              refine ⟨fun c242 => ?_, fun c242 => ?_⟩
              · exfalso; omega
              · exact ⟨rfl, rfl⟩
  · refine ⟨fun c245 => ?_, fun c245 => ?_⟩
    · intro v246 g247 r_v246 e_v246 f_v246
      subst f_v246
      subst e_v246
      intro v248 r_v248 e_v248
      replace e_v248 := e_v248.trans tot_3
      refine ⟨fun c249 => ?_, fun c249 => ?_⟩
      · intro v250 r_v250 e_v250
        replace e_v250 := e_v250.trans tot_3
        refine ⟨by unfold rg; omega, ?_⟩
        intro v252 r_v252 e_v252
        subst e_v250
        refine ⟨fun c253 => ?_, fun c253 => ?_⟩
        · refine ⟨fun c254 => ?_, fun c254 => ?_⟩
          · refine ⟨by unfold rg; omega, ?_⟩
            refine ⟨fun c256 => ?_, fun c256 => ?_⟩
            · exfalso; omega
            · refine ⟨by unfold rg; omega, ?_⟩
              refine ⟨by unfold rg; omega, ?_⟩
              refine ⟨fun c261 => ?_, fun c261 => ?_⟩
              · refine ⟨by unfold rg; omega, ?_⟩
                refine ⟨by unfold rg; omega, ?_⟩
                intro v265 r_v265 e_v265
                replace e_v265 := e_v265.trans tot_9
                refine ⟨fun c266 => ?_, fun c266 => ?_⟩
                · exfalso; omega
                · intro v267 r_v267 e_v267
                  replace e_v267 := e_v267.trans tot_0
                  refine ⟨by unfold rg; omega, ?_⟩
                  refine ⟨fun c269 => ?_, fun c269 => ?_⟩
                  · exfalso; omega
                  · intro v270 r_v270 e_v270
                    replace e_v270 := e_v270.trans tot_3
                    refine ⟨fun c272 => ?_, fun c272 => ?_⟩
                    · exfalso; omega
                    · exact ⟨rfl, rfl⟩
              · refine ⟨by unfold rg; omega, ?_⟩
                intro v277 r_v277 e_v277
                replace e_v277 := e_v277.trans tot_9
                refine ⟨fun c278 => ?_, fun c278 => ?_⟩
                · exfalso; omega
                · intro v279 r_v279 e_v279
                  replace e_v279 := e_v279.trans tot_0
                  refine ⟨by unfold rg; omega, ?_⟩
                  refine ⟨fun c281 => ?_, fun c281 => ?_⟩
                  · exfalso; omega
                  · intro v282 r_v282 e_v282
                    replace e_v282 := e_v282.trans tot_3
                    refine ⟨fun c284 => ?_, fun c284 => ?_⟩
                    · exfalso; omega
                    · exact ⟨rfl, rfl⟩
          · refine ⟨fun c287 => ?_, fun c287 => ?_⟩
            · refine ⟨by unfold rg; omega, ?_⟩
              refine ⟨by unfold rg; omega, ?_⟩
              refine ⟨fun c291 => ?_, fun c291 => ?_⟩
              · refine ⟨by unfold rg; omega, ?_⟩
                refine ⟨by unfold rg; omega, ?_⟩
                exfalso; omega
              · refine ⟨by unfold rg; omega, ?_⟩
                exfalso; omega
            · refine ⟨fun c297 => ?_, fun c297 => ?_⟩
              · refine ⟨by unfold rg; omega, ?_⟩
                refine ⟨by unfold rg; omega, ?_⟩
                refine ⟨fun c301 => ?_, fun c301 => ?_⟩
                · refine ⟨by unfold rg; omega, ?_⟩
                  refine ⟨by unfold rg; omega, ?_⟩
                  exfalso; omega
                · refine ⟨by unfold rg; omega, ?_⟩
                  exfalso; omega
              · refine ⟨by unfold rg; omega, ?_⟩
                refine ⟨fun c308 => ?_, fun c308 => ?_⟩
                · refine ⟨by unfold rg; omega, ?_⟩
                  refine ⟨by unfold rg; omega, ?_⟩
                  refine ⟨fun c312 => ?_, fun c312 => ?_⟩
                  · refine ⟨by unfold rg; omega, ?_⟩
                    exfalso; omega
                  · refine ⟨by unfold rg; omega, ?_⟩
                    exfalso; omega
                · refine ⟨fun c317 => ?_, fun c317 => ?_⟩
                  · refine ⟨by unfold rg; omega, ?_⟩
                    refine ⟨by unfold rg; omega, ?_⟩
                    refine ⟨fun c321 => ?_, fun c321 => ?_⟩
                    · refine ⟨by unfold rg; omega, ?_⟩
                      exfalso; omega
                    · refine ⟨by unfold rg; omega, ?_⟩
                      exfalso; omega
                  · refine ⟨by unfold rg; omega, ?_⟩
                    refine ⟨by unfold rg; omega, ?_⟩
                    refine ⟨fun c329 => ?_, fun c329 => ?_⟩
                    · refine ⟨by unfold rg; omega, ?_⟩
                      intro v332 r_v332 e_v332
                      replace e_v332 := e_v332.trans tot_9
                      refine ⟨fun c333 => ?_, fun c333 => ?_⟩
                      · exfalso; omega
                      · intro v334 r_v334 e_v334
                        replace e_v334 := e_v334.trans tot_0
                        refine ⟨by unfold rg; omega, ?_⟩
                        refine ⟨fun c336 => ?_, fun c336 => ?_⟩
                        · exfalso; omega
                        · intro v337 r_v337 e_v337
                          replace e_v337 := e_v337.trans tot_3
                          refine ⟨fun c339 => ?_, fun c339 => ?_⟩
                          · refine ⟨fun c340 => ?_, fun c340 => ?_⟩
                            · exfalso; omega
                            · intro v342 r_v342 e_v342
                              refine ⟨fun c343 => ?_, fun c343 => ?_⟩
                              · exact ⟨rfl, rfl⟩
                              · intro v345 r_v345 e_v345
                                replace e_v345 := e_v345.trans tot_11
                                refine ⟨fun c346 => ?_, fun c346 => ?_⟩
                                · exfalso; omega
                                · exact ⟨rfl, rfl⟩
                          · refine ⟨by unfold rg; omega, ?_⟩
                            refine ⟨fun c349 => ?_, fun c349 => ?_⟩
                            · exfalso; omega
                            · intro v351 r_v351 e_v351
                              refine ⟨fun c352 => ?_, fun c352 => ?_⟩
                              · exact ⟨rfl, rfl⟩
                              · intro v354 r_v354 e_v354
                                replace e_v354 := e_v354.trans tot_11
                                refine ⟨fun c355 => ?_, fun c355 => ?_⟩
                                · exfalso; omega
                                · exact ⟨rfl, rfl⟩
                    · refine ⟨by unfold rg; omega, ?_⟩
                      intro v359 r_v359 e_v359
                      replace e_v359 := e_v359.trans tot_9
                      refine ⟨fun c360 => ?_, fun c360 => ?_⟩
                      · exfalso; omega
                      · intro v361 r_v361 e_v361
                        replace e_v361 := e_v361.trans tot_0
                        refine ⟨by unfold rg; omega, ?_⟩
                        refine ⟨fun c363 => ?_, fun c363 => ?_⟩
                        · exfalso; omega
                        · intro v364 r_v364 e_v364
                          replace e_v364 := e_v364.trans tot_3
                          refine ⟨fun c366 => ?_, fun c366 => ?_⟩
                          · refine ⟨fun c367 => ?_, fun c367 => ?_⟩
                            · exfalso; omega
                            · intro v369 r_v369 e_v369
                              refine ⟨fun c370 => ?_, fun c370 => ?_⟩
                              · exact ⟨rfl, rfl⟩
                              · intro v372 r_v372 e_v372
                                replace e_v372 := e_v372.trans tot_11
                                refine ⟨fun c373 => ?_, fun c373 => ?_⟩
                                · exfalso; omega
                                · exact ⟨rfl, rfl⟩
                          · refine ⟨by unfold rg; omega, ?_⟩
                            refine ⟨fun c376 => ?_, fun c376 => ?_⟩
                            · exfalso; omega
                            · intro v378 r_v378 e_v378
                              refine ⟨fun c379 => ?_, fun c379 => ?_⟩
                              · exact ⟨rfl, rfl⟩
                              · intro v381 r_v381 e_v381
                                replace e_v381 := e_v381.trans tot_11
                                refine ⟨fun c382 => ?_, fun c382 => ?_⟩
                                · exfalso; omega
                                · exact ⟨rfl, rfl⟩
        · refine ⟨fun c384 => ?_, fun c384 => ?_⟩
          · exfalso; omega
          · refine ⟨by unfold rg; omega, ?_⟩
            refine ⟨by unfold rg; omega, ?_⟩
            refine ⟨by unfold rg; omega, ?_⟩
            intro v390 r_v390 e_v390
            replace e_v390 := e_v390.trans tot_9
            refine ⟨fun c391 => ?_, fun c391 => ?_⟩
            · exfalso; omega
            · intro v392 r_v392 e_v392
              replace e_v392 := e_v392.trans tot_0
              refine ⟨by unfold rg; omega, ?_⟩
              refine ⟨fun c394 => ?_, fun c394 => ?_⟩
              · exfalso; omega
              · intro v395 r_v395 e_v395
                replace e_v395 := e_v395.trans tot_3
                refine ⟨fun c397 => ?_, fun c397 => ?_⟩
                · exfalso; omega
                · exact ⟨rfl, rfl⟩
      · refine ⟨fun c400 => ?_, fun c400 => ?_⟩
        · refine ⟨fun c401 => ?_, fun c401 => ?_⟩
          · refine ⟨by unfold rg; omega, ?_⟩
            refine ⟨fun c403 => ?_, fun c403 => ?_⟩
            · exfalso; omega
            · refine ⟨by unfold rg; omega, ?_⟩
              refine ⟨by unfold rg; omega, ?_⟩
              refine ⟨fun c408 => ?_, fun c408 => ?_⟩
              · refine ⟨by unfold rg; omega, ?_⟩
                refine ⟨by unfold rg; omega, ?_⟩
                intro v412 r_v412 e_v412
                replace e_v412 := e_v412.trans tot_9
                refine ⟨fun c413 => ?_, fun c413 => ?_⟩
                · exfalso; omega
                · intro v414 r_v414 e_v414
                  replace e_v414 := e_v414.trans tot_0
                  refine ⟨by unfold rg; omega, ?_⟩
                  refine ⟨fun c416 => ?_, fun c416 => ?_⟩
                  · exfalso; omega
                  · intro v417 r_v417 e_v417
                    replace e_v417 := e_v417.trans tot_3
                    refine ⟨fun c419 => ?_, fun c419 => ?_⟩
                    · exfalso; omega
                    · exact ⟨rfl, rfl⟩
              · refine ⟨by unfold rg; omega, ?_⟩
                intro v424 r_v424 e_v424
                replace e_v424 := e_v424.trans tot_9
                refine ⟨fun c425 => ?_, fun c425 => ?_⟩
                · exfalso; omega
                · intro v426 r_v426 e_v426
                  replace e_v426 := e_v426.trans tot_0
                  refine ⟨by unfold rg; omega, ?_⟩
                  refine ⟨fun c428 => ?_, fun c428 => ?_⟩
                  · exfalso; omega
                  · intro v429 r_v429 e_v429
                    replace e_v429 := e_v429.trans tot_3
                    refine ⟨fun c431 => ?_, fun c431 => ?_⟩
                    · exfalso; omega
                    · exact ⟨rfl, rfl⟩
          · refine ⟨fun c434 => ?_, fun c434 => ?_⟩
            · refine ⟨by unfold rg; omega, ?_⟩
              refine ⟨by unfold rg; omega, ?_⟩
              refine ⟨fun c438 => ?_, fun c438 => ?_⟩
              · refine ⟨by unfold rg; omega, ?_⟩
                refine ⟨by unfold rg; omega, ?_⟩
                exfalso; omega
              · refine ⟨by unfold rg; omega, ?_⟩
                exfalso; omega
            · refine ⟨fun c444 => ?_, fun c444 => ?_⟩
              · refine ⟨by unfold rg; omega, ?_⟩
                refine ⟨by unfold rg; omega, ?_⟩
                refine ⟨fun c448 => ?_, fun c448 => ?_⟩
                · refine ⟨by unfold rg; omega, ?_⟩
                  refine ⟨by unfold rg; omega, ?_⟩
                  exfalso; omega
                · refine ⟨by unfold rg; omega, ?_⟩
                  exfalso; omega
              · refine ⟨by unfold rg; omega, ?_⟩
                refine ⟨fun c455 => ?_, fun c455 => ?_⟩
                · refine ⟨by unfold rg; omega, ?_⟩
                  refine ⟨by unfold rg; omega, ?_⟩
                  refine ⟨fun c459 => ?_, fun c459 => ?_⟩
                  · refine ⟨by unfold rg; omega, ?_⟩
                    exfalso; omega
                  · refine ⟨by unfold rg; omega, ?_⟩
                    exfalso; omega
                · refine ⟨fun c464 => ?_, fun c464 => ?_⟩
                  · refine ⟨by unfold rg; omega, ?_⟩
                    refine ⟨by unfold rg; omega, ?_⟩
                    refine ⟨fun c468 => ?_, fun c468 => ?_⟩
                    · refine ⟨by unfold rg; omega, ?_⟩
                      exfalso; omega
                    · refine ⟨by unfold rg; omega, ?_⟩
                      exfalso; omega
                  · refine ⟨by unfold rg; omega, ?_⟩
                    refine ⟨by unfold rg; omega, ?_⟩
                    refine ⟨fun c476 => ?_, fun c476 => ?_⟩
                    · refine ⟨by unfold rg; omega, ?_⟩
                      intro v479 r_v479 e_v479
                      replace e_v479 := e_v479.trans tot_9
                      refine ⟨fun c480 => ?_, fun c480 => ?_⟩
                      · exfalso; omega
                      · intro v481 r_v481 e_v481
                        replace e_v481 := e_v481.trans tot_0
                        refine ⟨by unfold rg; omega, ?_⟩
                        refine ⟨fun c483 => ?_, fun c483 => ?_⟩
                        · exfalso; omega
                        · intro v484 r_v484 e_v484
                          replace e_v484 := e_v484.trans tot_3
                          refine ⟨fun c486 => ?_, fun c486 => ?_⟩
                          · refine ⟨fun c487 => ?_, fun c487 => ?_⟩
                            · exfalso; omega
                            · intro v489 r_v489 e_v489
                              refine ⟨fun c490 => ?_, fun c490 => ?_⟩
                              · exact ⟨rfl, rfl⟩
                              · intro v492 r_v492 e_v492
                                replace e_v492 := e_v492.trans tot_11
                                refine ⟨fun c493 => ?_, fun c493 => ?_⟩
                                · exfalso; omega
                                · exact ⟨rfl, rfl⟩
                          · refine ⟨by unfold rg; omega, ?_⟩
                            refine ⟨fun c496 => ?_, fun c496 => ?_⟩
                            · exfalso; omega
                            · intro v498 r_v498 e_v498
                              refine ⟨fun c499 => ?_, fun c499 => ?_⟩
                              · exact ⟨rfl, rfl⟩
                              · intro v501 r_v501 e_v501
                                replace e_v501 := e_v501.trans tot_11
                                refine ⟨fun c502 => ?_, fun c502 => ?_⟩
                                · exfalso; omega
                                · exact ⟨rfl, rfl⟩
                    · refine ⟨by unfold rg; omega, ?_⟩
                      intro v506 r_v506 e_v506
                      replace e_v506 := e_v506.trans tot_9
                      refine ⟨fun c507 => ?_, fun c507 => ?_⟩
                      · exfalso; omega
                      · intro v508 r_v508 e_v508
                        replace e_v508 := e_v508.trans tot_0
                        refine ⟨by unfold rg; omega, ?_⟩
                        refine ⟨fun c510 => ?_, fun c510 => ?_⟩
                        · exfalso; omega
                        · intro v511 r_v511 e_v511
                          replace e_v511 := e_v511.trans tot_3
                          refine ⟨fun c513 => ?_, fun c513 => ?_⟩
                          · refine ⟨fun c514 => ?_, fun c514 => ?_⟩
                            · exfalso; omega
                            · intro v516 r_v516 e_v516
                              refine ⟨fun c517 => ?_, fun c517 => ?_⟩
                              · exact ⟨rfl, rfl⟩
                              · intro v519 r_v519 e_v519
                                replace e_v519 := e_v519.trans tot_11
                                refine ⟨fun c520 => ?_, fun c520 => ?_⟩
                                · exfalso; omega
                                · exact ⟨rfl, rfl⟩
                          · refine ⟨by unfold rg; omega, ?_⟩
                            refine ⟨fun c523 => ?_, fun c523 => ?_⟩
                            · exfalso; omega
                            · intro v525 r_v525 e_v525
                              refine ⟨fun c526 => ?_, fun c526 => ?_⟩
                              · exact ⟨rfl, rfl⟩
                              · intro v528 r_v528 e_v528
                                replace e_v528 := e_v528.trans tot_11
                                refine ⟨fun c529 => ?_, fun c529 => ?_⟩
                                · exfalso; omega
                                · exact ⟨rfl, rfl⟩
        · refine ⟨fun c531 => ?_, fun c531 => ?_⟩
          · exfalso; omega
          · refine ⟨by unfold rg; omega, ?_⟩
            refine ⟨by unfold rg; omega, ?_⟩
            refine ⟨by unfold rg; omega, ?_⟩
            intro v537 r_v537 e_v537
            replace e_v537 := e_v537.trans tot_9
            refine ⟨fun c538 => ?_, fun c538 => ?_⟩
            · exfalso; omega
            · intro v539 r_v539 e_v539
              replace e_v539 := e_v539.trans tot_0
              refine ⟨by unfold rg; omega, ?_⟩
              refine ⟨fun c541 => ?_, fun c541 => ?_⟩
              · exfalso; omega
              · intro v542 r_v542 e_v542
                replace e_v542 := e_v542.trans tot_3
                refine ⟨fun c544 => ?_, fun c544 => ?_⟩
                · exfalso; omega
                · exact ⟨rfl, rfl⟩
    · refine ⟨by unfold rg; omega, ?_⟩
      refine ⟨by unfold rg; omega, ?_⟩
      intro v549 r_v549 e_v549
      refine ⟨fun c550 => ?_, fun c550 => ?_⟩
      · intro v551 r_v551 e_v551
        refine ⟨fun c552 => ?_, fun c552 => ?_⟩
        · refine ⟨by unfold rg; omega, ?_⟩
          exfalso; omega
        · refine ⟨by unfold rg; omega, ?_⟩
          exfalso; omega
      · refine ⟨by unfold rg; omega, ?_⟩
        intro v556 r_v556 e_v556
        refine ⟨fun c557 => ?_, fun c557 => ?_⟩
        · intro v558 g559 r_v558 e_v558 f_v558
          subst f_v558
          subst e_v558
          intro v560 r_v560 e_v560
          replace e_v560 := e_v560.trans tot_3
          refine ⟨fun c561 => ?_, fun c561 => ?_⟩
          · intro v562 r_v562 e_v562
            replace e_v562 := e_v562.trans tot_3
            refine ⟨by unfold rg; omega, ?_⟩
            intro v564 r_v564 e_v564
            subst e_v562
            refine ⟨by unfold rg; omega, ?_⟩
            refine ⟨fun c568 => ?_, fun c568 => ?_⟩
            · exfalso; omega
            · refine ⟨by unfold rg; omega, ?_⟩
              refine ⟨by unfold rg; omega, ?_⟩
              refine ⟨fun c573 => ?_, fun c573 => ?_⟩
              · refine ⟨by unfold rg; omega, ?_⟩
                refine ⟨by unfold rg; omega, ?_⟩
                intro v577 r_v577 e_v577
                replace e_v577 := e_v577.trans tot_9
                refine ⟨fun c578 => ?_, fun c578 => ?_⟩
                · exfalso; omega
                · intro v579 r_v579 e_v579
                  replace e_v579 := e_v579.trans tot_0
                  refine ⟨by unfold rg; omega, ?_⟩
                  refine ⟨fun c581 => ?_, fun c581 => ?_⟩
                  · exfalso; omega
                  · intro v582 r_v582 e_v582
                    replace e_v582 := e_v582.trans tot_3
                    refine ⟨fun c584 => ?_, fun c584 => ?_⟩
                    · exfalso; omega
                    · exact ⟨rfl, rfl⟩
              · refine ⟨by unfold rg; omega, ?_⟩
                intro v589 r_v589 e_v589
                replace e_v589 := e_v589.trans tot_9
                refine ⟨fun c590 => ?_, fun c590 => ?_⟩
                · exfalso; omega
                · intro v591 r_v591 e_v591
                  replace e_v591 := e_v591.trans tot_0
                  refine ⟨by unfold rg; omega, ?_⟩
                  refine ⟨fun c593 => ?_, fun c593 => ?_⟩
                  · exfalso; omega
                  · intro v594 r_v594 e_v594
                    replace e_v594 := e_v594.trans tot_3
                    refine ⟨fun c596 => ?_, fun c596 => ?_⟩
                    · exfalso; omega
                    · exact ⟨rfl, rfl⟩
          · refine ⟨by unfold rg; omega, ?_⟩
            refine ⟨fun c602 => ?_, fun c602 => ?_⟩
            · exfalso; omega
            · refine ⟨by unfold rg; omega, ?_⟩
              refine ⟨by unfold rg; omega, ?_⟩
              refine ⟨fun c607 => ?_, fun c607 => ?_⟩
              · refine ⟨by unfold rg; omega, ?_⟩
                refine ⟨by unfold rg; omega, ?_⟩
                intro v611 r_v611 e_v611
                replace e_v611 := e_v611.trans tot_9
                refine ⟨fun c612 => ?_, fun c612 => ?_⟩
                · exfalso; omega
                · intro v613 r_v613 e_v613
                  replace e_v613 := e_v613.trans tot_0
                  refine ⟨by unfold rg; omega, ?_⟩
                  refine ⟨fun c615 => ?_, fun c615 => ?_⟩
                  · exfalso; omega
                  · intro v616 r_v616 e_v616
                    replace e_v616 := e_v616.trans tot_3
                    refine ⟨fun c618 => ?_, fun c618 => ?_⟩
                    · exfalso; omega
                    · exact ⟨rfl, rfl⟩
              · refine ⟨by unfold rg; omega, ?_⟩
                intro v623 r_v623 e_v623
                replace e_v623 := e_v623.trans tot_9
                refine ⟨fun c624 => ?_, fun c624 => ?_⟩
                · exfalso; omega
                · intro v625 r_v625 e_v625
                  replace e_v625 := e_v625.trans tot_0
                  refine ⟨by unfold rg; omega, ?_⟩
                  refine ⟨fun c627 => ?_, fun c627 => ?_⟩
                  · exfalso; omega
                  · intro v628 r_v628 e_v628
                    replace e_v628 := e_v628.trans tot_3
                    refine ⟨fun c630 => ?_, fun c630 => ?_⟩
                    · exfalso; omega
                    · exact ⟨rfl, rfl⟩
        · intro v633 r_v633 e_v633
          refine ⟨fun c634 => ?_, fun c634 => ?_⟩
          · refine ⟨by unfold rg; omega, ?_⟩
            exfalso; omega
          · exfalso; omega
theorem l_ask79_2 {N : Int} {c0 e0 : Cd} {A : List Cd} (hd : 20 ≤ d) (a : IV T g.1) (hT : T ≤ 1800000000) (hB : isB m b) (h : g.1.1.filter (pa m b) = c0 :: e0 :: A) (hN : 2 ≤ N) : ∀ (n t : Nat) (k low : Int), k = (t : Int) → t + n = 8 → 0 ≤ low ∧ low < 2 ^ t → (∀ c ∈ g.1.1, pa k low c = pa m b c) → LW m_L_ask d none (PO (askG m b g)) 79 [some (.inr (some 1)), some (.inl m), some (.inl b), some (.inl N), some (.inl (g.1.1.length : Int)), some (.inl (g.1.2.2 10)), some (.inl (g.1.2.1.length : Int)), some (.inl (nOne g.1.1 : Int)), some (.inl k), some (.inl low), none, none, none, none] [] g (0, 0) := by
  have h20 := a.1.1
  have hno := nOne_le g.1.1
  have h200 := a.2.2.1
  obtain ⟨p5, p6, p7, p8, p9, p11⟩ := a.2.2.2.1
  have q10 := a.2.2.2.2.2.2.1
  have qT := a.2.2.2.2.2.2.2.1
  have hB2 := hB.2.1
  have hB1 := hB.1
  have kf := ask_f2 hB a hT h
  intro n
  induction n with
  | zero =>
    intro t k low hk hn hb hf
    exfalso
    have e8 : k = 8 := by omega
    subst e8
    have h1 := all8 (b := low) a.1
    rw [List.filter_congr (fun c hc => hf c hc), h] at h1
    simp at h1
  | succ n ih =>
    intro t k low hk hn hb hf
    have ht : t ≤ 7 := by omega
    have hp : (2 : Int) ^ (t + 1) = 2 ^ t * 2 := Int.pow_succ 2 t
    have hp8 : (2 : Int) ^ t ≤ 128 := by
      have h1 := Nat.pow_le_pow_right (show 0 < 2 by decide) ht
      have h2 : ((2 ^ t : Nat) : Int) ≤ ((2 ^ 7 : Nat) : Int) := Int.ofNat_le.mpr h1
      rw [Int.natCast_pow] at h2
      exact h2
    have hk' : k = (t : Int) := hk
    refine lc_ask_79 hd ?_
    refine ⟨fun c1 => ?_, fun c1 => ?_⟩
    · intro v2 g3 r_v2 e_v2 f_v2
      subst f_v2
      subst e_v2
      have kfo : fo (dfs (pa m b) c0.1 g.1.1) = k := by
        first
        | (exfalso; omega)
        | (have hf2 := hf; rw [hk] at hf2 ⊢; exact fo_exit ht a.1 hf2 h (cnt_p (isB_2 ht hb).1 (by rw [← hk]; omega)) (cnt_p (isB_2 ht hb).2 (by rw [← hk]; omega)))
      intro v4 r_v4 e_v4
      replace e_v4 := e_v4.trans tot_3
      refine ⟨fun c5 => ?_, fun c5 => ?_⟩
      · intro v6 r_v6 e_v6
        replace e_v6 := e_v6.trans tot_3
        refine ⟨by unfold rg; omega, ?_⟩
        intro v8 r_v8 e_v8
        subst e_v6
        refine ⟨fun c9 => ?_, fun c9 => ?_⟩
        · refine ⟨fun c10 => ?_, fun c10 => ?_⟩
          · refine ⟨by unfold rg; omega, ?_⟩
            refine ⟨fun c12 => ?_, fun c12 => ?_⟩
            · exfalso; omega
            · exfalso; omega
          · refine ⟨fun c14 => ?_, fun c14 => ?_⟩
            · refine ⟨by unfold rg; omega, ?_⟩
              refine ⟨by unfold rg; omega, ?_⟩
              refine ⟨fun c18 => ?_, fun c18 => ?_⟩
              · refine ⟨by unfold rg; omega, ?_⟩
                refine ⟨by unfold rg; omega, ?_⟩
                exfalso; omega
              · refine ⟨by unfold rg; omega, ?_⟩
                exfalso; omega
            · refine ⟨fun c24 => ?_, fun c24 => ?_⟩
              · refine ⟨by unfold rg; omega, ?_⟩
                refine ⟨by unfold rg; omega, ?_⟩
                refine ⟨fun c28 => ?_, fun c28 => ?_⟩
                · refine ⟨by unfold rg; omega, ?_⟩
                  refine ⟨by unfold rg; omega, ?_⟩
                  exfalso; omega
                · refine ⟨by unfold rg; omega, ?_⟩
                  exfalso; omega
              · refine ⟨by unfold rg; omega, ?_⟩
                refine ⟨fun c35 => ?_, fun c35 => ?_⟩
                · refine ⟨by unfold rg; omega, ?_⟩
                  refine ⟨by unfold rg; omega, ?_⟩
                  refine ⟨fun c39 => ?_, fun c39 => ?_⟩
                  · refine ⟨by unfold rg; omega, ?_⟩
                    exfalso; omega
                  · refine ⟨by unfold rg; omega, ?_⟩
                    exfalso; omega
                · refine ⟨fun c44 => ?_, fun c44 => ?_⟩
                  · refine ⟨by unfold rg; omega, ?_⟩
                    refine ⟨by unfold rg; omega, ?_⟩
                    refine ⟨fun c48 => ?_, fun c48 => ?_⟩
                    · refine ⟨by unfold rg; omega, ?_⟩
                      exfalso; omega
                    · refine ⟨by unfold rg; omega, ?_⟩
                      exfalso; omega
                  · refine ⟨by unfold rg; omega, ?_⟩
                    refine ⟨by unfold rg; omega, ?_⟩
                    refine ⟨fun c56 => ?_, fun c56 => ?_⟩
                    · refine ⟨by unfold rg; omega, ?_⟩
                      intro v59 r_v59 e_v59
                      replace e_v59 := e_v59.trans tot_9
                      refine ⟨fun c60 => ?_, fun c60 => ?_⟩
                      · exfalso; omega
                      · intro v61 r_v61 e_v61
                        replace e_v61 := e_v61.trans tot_0
                        refine ⟨by unfold rg; omega, ?_⟩
                        refine ⟨fun c63 => ?_, fun c63 => ?_⟩
                        · exfalso; omega
                        · intro v64 r_v64 e_v64
                          replace e_v64 := e_v64.trans tot_3
                          refine ⟨fun c66 => ?_, fun c66 => ?_⟩
                          · refine ⟨fun c67 => ?_, fun c67 => ?_⟩
                            · exfalso; omega
                            · intro v69 r_v69 e_v69
                              refine ⟨fun c70 => ?_, fun c70 => ?_⟩
                              · exact ⟨rfl, rfl⟩
                              · intro v72 r_v72 e_v72
                                replace e_v72 := e_v72.trans tot_11
                                refine ⟨fun c73 => ?_, fun c73 => ?_⟩
                                · exfalso; omega
                                · exact ⟨rfl, rfl⟩
                          · refine ⟨by unfold rg; omega, ?_⟩
                            refine ⟨fun c76 => ?_, fun c76 => ?_⟩
                            · exfalso; omega
                            · intro v78 r_v78 e_v78
                              refine ⟨fun c79 => ?_, fun c79 => ?_⟩
                              · exact ⟨rfl, rfl⟩
                              · intro v81 r_v81 e_v81
                                replace e_v81 := e_v81.trans tot_11
                                refine ⟨fun c82 => ?_, fun c82 => ?_⟩
                                · exfalso; omega
                                · exact ⟨rfl, rfl⟩
                    · refine ⟨by unfold rg; omega, ?_⟩
                      intro v86 r_v86 e_v86
                      replace e_v86 := e_v86.trans tot_9
                      refine ⟨fun c87 => ?_, fun c87 => ?_⟩
                      · exfalso; omega
                      · intro v88 r_v88 e_v88
                        replace e_v88 := e_v88.trans tot_0
                        refine ⟨by unfold rg; omega, ?_⟩
                        refine ⟨fun c90 => ?_, fun c90 => ?_⟩
                        · exfalso; omega
                        · intro v91 r_v91 e_v91
                          replace e_v91 := e_v91.trans tot_3
                          refine ⟨fun c93 => ?_, fun c93 => ?_⟩
                          · refine ⟨fun c94 => ?_, fun c94 => ?_⟩
                            · exfalso; omega
                            · intro v96 r_v96 e_v96
                              refine ⟨fun c97 => ?_, fun c97 => ?_⟩
                              · exact ⟨rfl, rfl⟩
                              · intro v99 r_v99 e_v99
                                replace e_v99 := e_v99.trans tot_11
                                refine ⟨fun c100 => ?_, fun c100 => ?_⟩
                                · exfalso; omega
                                · exact ⟨rfl, rfl⟩
                          · refine ⟨by unfold rg; omega, ?_⟩
                            refine ⟨fun c103 => ?_, fun c103 => ?_⟩
                            · exfalso; omega
                            · intro v105 r_v105 e_v105
                              refine ⟨fun c106 => ?_, fun c106 => ?_⟩
                              · exact ⟨rfl, rfl⟩
                              · intro v108 r_v108 e_v108
                                replace e_v108 := e_v108.trans tot_11
                                refine ⟨fun c109 => ?_, fun c109 => ?_⟩
                                · exfalso; omega
                                · exact ⟨rfl, rfl⟩
        · refine ⟨fun c111 => ?_, fun c111 => ?_⟩
          · exfalso; omega
          · refine ⟨by unfold rg; omega, ?_⟩
            refine ⟨by unfold rg; omega, ?_⟩
            refine ⟨by unfold rg; omega, ?_⟩
            intro v117 r_v117 e_v117
            replace e_v117 := e_v117.trans tot_9
            refine ⟨fun c118 => ?_, fun c118 => ?_⟩
            · exfalso; omega
            · intro v119 r_v119 e_v119
              replace e_v119 := e_v119.trans tot_0
              refine ⟨by unfold rg; omega, ?_⟩
              refine ⟨fun c121 => ?_, fun c121 => ?_⟩
              · exfalso; omega
              · intro v122 r_v122 e_v122
                replace e_v122 := e_v122.trans tot_3
                refine ⟨fun c124 => ?_, fun c124 => ?_⟩
                · exfalso; omega
                · exact ⟨rfl, rfl⟩
      · refine ⟨fun c127 => ?_, fun c127 => ?_⟩
        · refine ⟨fun c128 => ?_, fun c128 => ?_⟩
          · refine ⟨by unfold rg; omega, ?_⟩
            refine ⟨fun c130 => ?_, fun c130 => ?_⟩
            · exfalso; omega
            · exfalso; omega
          · refine ⟨fun c132 => ?_, fun c132 => ?_⟩
            · refine ⟨by unfold rg; omega, ?_⟩
              refine ⟨by unfold rg; omega, ?_⟩
              refine ⟨fun c136 => ?_, fun c136 => ?_⟩
              · refine ⟨by unfold rg; omega, ?_⟩
                refine ⟨by unfold rg; omega, ?_⟩
                exfalso; omega
              · refine ⟨by unfold rg; omega, ?_⟩
                exfalso; omega
            · refine ⟨fun c142 => ?_, fun c142 => ?_⟩
              · refine ⟨by unfold rg; omega, ?_⟩
                refine ⟨by unfold rg; omega, ?_⟩
                refine ⟨fun c146 => ?_, fun c146 => ?_⟩
                · refine ⟨by unfold rg; omega, ?_⟩
                  refine ⟨by unfold rg; omega, ?_⟩
                  exfalso; omega
                · refine ⟨by unfold rg; omega, ?_⟩
                  exfalso; omega
              · refine ⟨by unfold rg; omega, ?_⟩
                refine ⟨fun c153 => ?_, fun c153 => ?_⟩
                · refine ⟨by unfold rg; omega, ?_⟩
                  refine ⟨by unfold rg; omega, ?_⟩
                  refine ⟨fun c157 => ?_, fun c157 => ?_⟩
                  · refine ⟨by unfold rg; omega, ?_⟩
                    exfalso; omega
                  · refine ⟨by unfold rg; omega, ?_⟩
                    exfalso; omega
                · refine ⟨fun c162 => ?_, fun c162 => ?_⟩
                  · refine ⟨by unfold rg; omega, ?_⟩
                    refine ⟨by unfold rg; omega, ?_⟩
                    refine ⟨fun c166 => ?_, fun c166 => ?_⟩
                    · refine ⟨by unfold rg; omega, ?_⟩
                      exfalso; omega
                    · refine ⟨by unfold rg; omega, ?_⟩
                      exfalso; omega
                  · refine ⟨by unfold rg; omega, ?_⟩
                    refine ⟨by unfold rg; omega, ?_⟩
                    refine ⟨fun c174 => ?_, fun c174 => ?_⟩
                    · refine ⟨by unfold rg; omega, ?_⟩
                      intro v177 r_v177 e_v177
                      replace e_v177 := e_v177.trans tot_9
                      refine ⟨fun c178 => ?_, fun c178 => ?_⟩
                      · exfalso; omega
                      · intro v179 r_v179 e_v179
                        replace e_v179 := e_v179.trans tot_0
                        refine ⟨by unfold rg; omega, ?_⟩
                        refine ⟨fun c181 => ?_, fun c181 => ?_⟩
                        · exfalso; omega
                        · intro v182 r_v182 e_v182
                          replace e_v182 := e_v182.trans tot_3
                          refine ⟨fun c184 => ?_, fun c184 => ?_⟩
                          · refine ⟨fun c185 => ?_, fun c185 => ?_⟩
                            · exfalso; omega
                            · intro v187 r_v187 e_v187
                              refine ⟨fun c188 => ?_, fun c188 => ?_⟩
                              · exact ⟨rfl, rfl⟩
                              · intro v190 r_v190 e_v190
                                replace e_v190 := e_v190.trans tot_11
                                refine ⟨fun c191 => ?_, fun c191 => ?_⟩
                                · exfalso; omega
                                · exact ⟨rfl, rfl⟩
                          · refine ⟨by unfold rg; omega, ?_⟩
                            refine ⟨fun c194 => ?_, fun c194 => ?_⟩
                            · exfalso; omega
                            · intro v196 r_v196 e_v196
                              refine ⟨fun c197 => ?_, fun c197 => ?_⟩
                              · exact ⟨rfl, rfl⟩
                              · intro v199 r_v199 e_v199
                                replace e_v199 := e_v199.trans tot_11
                                refine ⟨fun c200 => ?_, fun c200 => ?_⟩
                                · exfalso; omega
                                · exact ⟨rfl, rfl⟩
                    · refine ⟨by unfold rg; omega, ?_⟩
                      intro v204 r_v204 e_v204
                      replace e_v204 := e_v204.trans tot_9
                      refine ⟨fun c205 => ?_, fun c205 => ?_⟩
                      · exfalso; omega
                      · intro v206 r_v206 e_v206
                        replace e_v206 := e_v206.trans tot_0
                        refine ⟨by unfold rg; omega, ?_⟩
                        refine ⟨fun c208 => ?_, fun c208 => ?_⟩
                        · exfalso; omega
                        · intro v209 r_v209 e_v209
                          replace e_v209 := e_v209.trans tot_3
                          refine ⟨fun c211 => ?_, fun c211 => ?_⟩
                          · refine ⟨fun c212 => ?_, fun c212 => ?_⟩
                            · exfalso; omega
                            · intro v214 r_v214 e_v214
                              refine ⟨fun c215 => ?_, fun c215 => ?_⟩
                              · exact ⟨rfl, rfl⟩
                              · intro v217 r_v217 e_v217
                                replace e_v217 := e_v217.trans tot_11
                                refine ⟨fun c218 => ?_, fun c218 => ?_⟩
                                · exfalso; omega
                                · exact ⟨rfl, rfl⟩
                          · refine ⟨by unfold rg; omega, ?_⟩
                            refine ⟨fun c221 => ?_, fun c221 => ?_⟩
                            · exfalso; omega
                            · intro v223 r_v223 e_v223
                              refine ⟨fun c224 => ?_, fun c224 => ?_⟩
                              · exact ⟨rfl, rfl⟩
                              · intro v226 r_v226 e_v226
                                replace e_v226 := e_v226.trans tot_11
                                refine ⟨fun c227 => ?_, fun c227 => ?_⟩
                                · exfalso; omega
                                · exact ⟨rfl, rfl⟩
        · refine ⟨fun c229 => ?_, fun c229 => ?_⟩
          · exfalso; omega
          · refine ⟨by unfold rg; omega, ?_⟩
            refine ⟨by unfold rg; omega, ?_⟩
            refine ⟨by unfold rg; omega, ?_⟩
            intro v235 r_v235 e_v235
            replace e_v235 := e_v235.trans tot_9
            refine ⟨fun c236 => ?_, fun c236 => ?_⟩
            · exfalso; omega
            · intro v237 r_v237 e_v237
              replace e_v237 := e_v237.trans tot_0
              refine ⟨by unfold rg; omega, ?_⟩
              refine ⟨fun c239 => ?_, fun c239 => ?_⟩
              · exfalso; omega
              · intro v240 r_v240 e_v240
                replace e_v240 := e_v240.trans tot_3
                refine ⟨fun c242 => ?_, fun c242 => ?_⟩
                · exfalso; omega
                · exact ⟨rfl, rfl⟩
    · refine ⟨fun c245 => ?_, fun c245 => ?_⟩
      · intro v246 g247 r_v246 e_v246 f_v246
        subst f_v246
        subst e_v246
        have kfo : fo (dfs (pa m b) c0.1 g.1.1) = k := by
          first
          | (exfalso; omega)
          | (have hf2 := hf; rw [hk] at hf2 ⊢; exact fo_exit ht a.1 hf2 h (cnt_p (isB_2 ht hb).1 (by rw [← hk]; omega)) (cnt_p (isB_2 ht hb).2 (by rw [← hk]; omega)))
        intro v248 r_v248 e_v248
        replace e_v248 := e_v248.trans tot_3
        refine ⟨fun c249 => ?_, fun c249 => ?_⟩
        · intro v250 r_v250 e_v250
          replace e_v250 := e_v250.trans tot_3
          refine ⟨by unfold rg; omega, ?_⟩
          intro v252 r_v252 e_v252
          subst e_v250
          refine ⟨fun c253 => ?_, fun c253 => ?_⟩
          · refine ⟨fun c254 => ?_, fun c254 => ?_⟩
            · refine ⟨by unfold rg; omega, ?_⟩
              refine ⟨fun c256 => ?_, fun c256 => ?_⟩
              · exfalso; omega
              · refine ⟨by unfold rg; omega, ?_⟩
                refine ⟨by unfold rg; omega, ?_⟩
                refine ⟨fun c261 => ?_, fun c261 => ?_⟩
                · refine ⟨by unfold rg; omega, ?_⟩
                  refine ⟨by unfold rg; omega, ?_⟩
                  intro v265 r_v265 e_v265
                  replace e_v265 := e_v265.trans tot_9
                  refine ⟨fun c266 => ?_, fun c266 => ?_⟩
                  · exfalso; omega
                  · intro v267 r_v267 e_v267
                    replace e_v267 := e_v267.trans tot_0
                    refine ⟨by unfold rg; omega, ?_⟩
                    refine ⟨fun c269 => ?_, fun c269 => ?_⟩
                    · exfalso; omega
                    · intro v270 r_v270 e_v270
                      replace e_v270 := e_v270.trans tot_3
                      refine ⟨fun c272 => ?_, fun c272 => ?_⟩
                      · exfalso; omega
                      · exact ⟨rfl, rfl⟩
                · refine ⟨by unfold rg; omega, ?_⟩
                  intro v277 r_v277 e_v277
                  replace e_v277 := e_v277.trans tot_9
                  refine ⟨fun c278 => ?_, fun c278 => ?_⟩
                  · exfalso; omega
                  · intro v279 r_v279 e_v279
                    replace e_v279 := e_v279.trans tot_0
                    refine ⟨by unfold rg; omega, ?_⟩
                    refine ⟨fun c281 => ?_, fun c281 => ?_⟩
                    · exfalso; omega
                    · intro v282 r_v282 e_v282
                      replace e_v282 := e_v282.trans tot_3
                      refine ⟨fun c284 => ?_, fun c284 => ?_⟩
                      · exfalso; omega
                      · exact ⟨rfl, rfl⟩
            · refine ⟨fun c287 => ?_, fun c287 => ?_⟩
              · refine ⟨by unfold rg; omega, ?_⟩
                refine ⟨by unfold rg; omega, ?_⟩
                refine ⟨fun c291 => ?_, fun c291 => ?_⟩
                · refine ⟨by unfold rg; omega, ?_⟩
                  refine ⟨by unfold rg; omega, ?_⟩
                  exfalso; omega
                · refine ⟨by unfold rg; omega, ?_⟩
                  exfalso; omega
              · refine ⟨fun c297 => ?_, fun c297 => ?_⟩
                · refine ⟨by unfold rg; omega, ?_⟩
                  refine ⟨by unfold rg; omega, ?_⟩
                  refine ⟨fun c301 => ?_, fun c301 => ?_⟩
                  · refine ⟨by unfold rg; omega, ?_⟩
                    refine ⟨by unfold rg; omega, ?_⟩
                    exfalso; omega
                  · refine ⟨by unfold rg; omega, ?_⟩
                    exfalso; omega
                · refine ⟨by unfold rg; omega, ?_⟩
                  refine ⟨fun c308 => ?_, fun c308 => ?_⟩
                  · refine ⟨by unfold rg; omega, ?_⟩
                    refine ⟨by unfold rg; omega, ?_⟩
                    refine ⟨fun c312 => ?_, fun c312 => ?_⟩
                    · refine ⟨by unfold rg; omega, ?_⟩
                      exfalso; omega
                    · refine ⟨by unfold rg; omega, ?_⟩
                      exfalso; omega
                  · refine ⟨fun c317 => ?_, fun c317 => ?_⟩
                    · refine ⟨by unfold rg; omega, ?_⟩
                      refine ⟨by unfold rg; omega, ?_⟩
                      refine ⟨fun c321 => ?_, fun c321 => ?_⟩
                      · refine ⟨by unfold rg; omega, ?_⟩
                        exfalso; omega
                      · refine ⟨by unfold rg; omega, ?_⟩
                        exfalso; omega
                    · refine ⟨by unfold rg; omega, ?_⟩
                      refine ⟨by unfold rg; omega, ?_⟩
                      refine ⟨fun c329 => ?_, fun c329 => ?_⟩
                      · refine ⟨by unfold rg; omega, ?_⟩
                        intro v332 r_v332 e_v332
                        replace e_v332 := e_v332.trans tot_9
                        refine ⟨fun c333 => ?_, fun c333 => ?_⟩
                        · exfalso; omega
                        · intro v334 r_v334 e_v334
                          replace e_v334 := e_v334.trans tot_0
                          refine ⟨by unfold rg; omega, ?_⟩
                          refine ⟨fun c336 => ?_, fun c336 => ?_⟩
                          · exfalso; omega
                          · intro v337 r_v337 e_v337
                            replace e_v337 := e_v337.trans tot_3
                            refine ⟨fun c339 => ?_, fun c339 => ?_⟩
                            · refine ⟨fun c340 => ?_, fun c340 => ?_⟩
                              · exfalso; omega
                              · intro v342 r_v342 e_v342
                                refine ⟨fun c343 => ?_, fun c343 => ?_⟩
                                · exact ⟨rfl, rfl⟩
                                · intro v345 r_v345 e_v345
                                  replace e_v345 := e_v345.trans tot_11
                                  refine ⟨fun c346 => ?_, fun c346 => ?_⟩
                                  · exfalso; omega
                                  · exact ⟨rfl, rfl⟩
                            · refine ⟨by unfold rg; omega, ?_⟩
                              refine ⟨fun c349 => ?_, fun c349 => ?_⟩
                              · exfalso; omega
                              · intro v351 r_v351 e_v351
                                refine ⟨fun c352 => ?_, fun c352 => ?_⟩
                                · exact ⟨rfl, rfl⟩
                                · intro v354 r_v354 e_v354
                                  replace e_v354 := e_v354.trans tot_11
                                  refine ⟨fun c355 => ?_, fun c355 => ?_⟩
                                  · exfalso; omega
                                  · exact ⟨rfl, rfl⟩
                      · refine ⟨by unfold rg; omega, ?_⟩
                        intro v359 r_v359 e_v359
                        replace e_v359 := e_v359.trans tot_9
                        refine ⟨fun c360 => ?_, fun c360 => ?_⟩
                        · exfalso; omega
                        · intro v361 r_v361 e_v361
                          replace e_v361 := e_v361.trans tot_0
                          refine ⟨by unfold rg; omega, ?_⟩
                          refine ⟨fun c363 => ?_, fun c363 => ?_⟩
                          · exfalso; omega
                          · intro v364 r_v364 e_v364
                            replace e_v364 := e_v364.trans tot_3
                            refine ⟨fun c366 => ?_, fun c366 => ?_⟩
                            · refine ⟨fun c367 => ?_, fun c367 => ?_⟩
                              · exfalso; omega
                              · intro v369 r_v369 e_v369
                                refine ⟨fun c370 => ?_, fun c370 => ?_⟩
                                · exact ⟨rfl, rfl⟩
                                · intro v372 r_v372 e_v372
                                  replace e_v372 := e_v372.trans tot_11
                                  refine ⟨fun c373 => ?_, fun c373 => ?_⟩
                                  · exfalso; omega
                                  · exact ⟨rfl, rfl⟩
                            · refine ⟨by unfold rg; omega, ?_⟩
                              refine ⟨fun c376 => ?_, fun c376 => ?_⟩
                              · exfalso; omega
                              · intro v378 r_v378 e_v378
                                refine ⟨fun c379 => ?_, fun c379 => ?_⟩
                                · exact ⟨rfl, rfl⟩
                                · intro v381 r_v381 e_v381
                                  replace e_v381 := e_v381.trans tot_11
                                  refine ⟨fun c382 => ?_, fun c382 => ?_⟩
                                  · exfalso; omega
                                  · exact ⟨rfl, rfl⟩
          · refine ⟨fun c384 => ?_, fun c384 => ?_⟩
            · exfalso; omega
            · refine ⟨by unfold rg; omega, ?_⟩
              refine ⟨by unfold rg; omega, ?_⟩
              refine ⟨by unfold rg; omega, ?_⟩
              intro v390 r_v390 e_v390
              replace e_v390 := e_v390.trans tot_9
              refine ⟨fun c391 => ?_, fun c391 => ?_⟩
              · exfalso; omega
              · intro v392 r_v392 e_v392
                replace e_v392 := e_v392.trans tot_0
                refine ⟨by unfold rg; omega, ?_⟩
                refine ⟨fun c394 => ?_, fun c394 => ?_⟩
                · exfalso; omega
                · intro v395 r_v395 e_v395
                  replace e_v395 := e_v395.trans tot_3
                  refine ⟨fun c397 => ?_, fun c397 => ?_⟩
                  · exfalso; omega
                  · exact ⟨rfl, rfl⟩
        · refine ⟨fun c400 => ?_, fun c400 => ?_⟩
          · refine ⟨fun c401 => ?_, fun c401 => ?_⟩
            · refine ⟨by unfold rg; omega, ?_⟩
              refine ⟨fun c403 => ?_, fun c403 => ?_⟩
              · exfalso; omega
              · refine ⟨by unfold rg; omega, ?_⟩
                refine ⟨by unfold rg; omega, ?_⟩
                refine ⟨fun c408 => ?_, fun c408 => ?_⟩
                · refine ⟨by unfold rg; omega, ?_⟩
                  refine ⟨by unfold rg; omega, ?_⟩
                  intro v412 r_v412 e_v412
                  replace e_v412 := e_v412.trans tot_9
                  refine ⟨fun c413 => ?_, fun c413 => ?_⟩
                  · exfalso; omega
                  · intro v414 r_v414 e_v414
                    replace e_v414 := e_v414.trans tot_0
                    refine ⟨by unfold rg; omega, ?_⟩
                    refine ⟨fun c416 => ?_, fun c416 => ?_⟩
                    · exfalso; omega
                    · intro v417 r_v417 e_v417
                      replace e_v417 := e_v417.trans tot_3
                      refine ⟨fun c419 => ?_, fun c419 => ?_⟩
                      · exfalso; omega
                      · exact ⟨rfl, rfl⟩
                · refine ⟨by unfold rg; omega, ?_⟩
                  intro v424 r_v424 e_v424
                  replace e_v424 := e_v424.trans tot_9
                  refine ⟨fun c425 => ?_, fun c425 => ?_⟩
                  · exfalso; omega
                  · intro v426 r_v426 e_v426
                    replace e_v426 := e_v426.trans tot_0
                    refine ⟨by unfold rg; omega, ?_⟩
                    refine ⟨fun c428 => ?_, fun c428 => ?_⟩
                    · exfalso; omega
                    · intro v429 r_v429 e_v429
                      replace e_v429 := e_v429.trans tot_3
                      refine ⟨fun c431 => ?_, fun c431 => ?_⟩
                      · exfalso; omega
                      · exact ⟨rfl, rfl⟩
            · refine ⟨fun c434 => ?_, fun c434 => ?_⟩
              · refine ⟨by unfold rg; omega, ?_⟩
                refine ⟨by unfold rg; omega, ?_⟩
                refine ⟨fun c438 => ?_, fun c438 => ?_⟩
                · refine ⟨by unfold rg; omega, ?_⟩
                  refine ⟨by unfold rg; omega, ?_⟩
                  exfalso; omega
                · refine ⟨by unfold rg; omega, ?_⟩
                  exfalso; omega
              · refine ⟨fun c444 => ?_, fun c444 => ?_⟩
                · refine ⟨by unfold rg; omega, ?_⟩
                  refine ⟨by unfold rg; omega, ?_⟩
                  refine ⟨fun c448 => ?_, fun c448 => ?_⟩
                  · refine ⟨by unfold rg; omega, ?_⟩
                    refine ⟨by unfold rg; omega, ?_⟩
                    exfalso; omega
                  · refine ⟨by unfold rg; omega, ?_⟩
                    exfalso; omega
                · refine ⟨by unfold rg; omega, ?_⟩
                  refine ⟨fun c455 => ?_, fun c455 => ?_⟩
                  · refine ⟨by unfold rg; omega, ?_⟩
                    refine ⟨by unfold rg; omega, ?_⟩
                    refine ⟨fun c459 => ?_, fun c459 => ?_⟩
                    · refine ⟨by unfold rg; omega, ?_⟩
                      exfalso; omega
                    · refine ⟨by unfold rg; omega, ?_⟩
                      exfalso; omega
                  · refine ⟨fun c464 => ?_, fun c464 => ?_⟩
                    · refine ⟨by unfold rg; omega, ?_⟩
                      refine ⟨by unfold rg; omega, ?_⟩
                      refine ⟨fun c468 => ?_, fun c468 => ?_⟩
                      · refine ⟨by unfold rg; omega, ?_⟩
                        exfalso; omega
                      · refine ⟨by unfold rg; omega, ?_⟩
                        exfalso; omega
                    · refine ⟨by unfold rg; omega, ?_⟩
                      refine ⟨by unfold rg; omega, ?_⟩
                      refine ⟨fun c476 => ?_, fun c476 => ?_⟩
                      · refine ⟨by unfold rg; omega, ?_⟩
                        intro v479 r_v479 e_v479
                        replace e_v479 := e_v479.trans tot_9
                        refine ⟨fun c480 => ?_, fun c480 => ?_⟩
                        · exfalso; omega
                        · intro v481 r_v481 e_v481
                          replace e_v481 := e_v481.trans tot_0
                          refine ⟨by unfold rg; omega, ?_⟩
                          refine ⟨fun c483 => ?_, fun c483 => ?_⟩
                          · exfalso; omega
                          · intro v484 r_v484 e_v484
                            replace e_v484 := e_v484.trans tot_3
                            refine ⟨fun c486 => ?_, fun c486 => ?_⟩
                            · refine ⟨fun c487 => ?_, fun c487 => ?_⟩
                              · exfalso; omega
                              · intro v489 r_v489 e_v489
                                refine ⟨fun c490 => ?_, fun c490 => ?_⟩
                                · exact ⟨rfl, rfl⟩
                                · intro v492 r_v492 e_v492
                                  replace e_v492 := e_v492.trans tot_11
                                  refine ⟨fun c493 => ?_, fun c493 => ?_⟩
                                  · exfalso; omega
                                  · exact ⟨rfl, rfl⟩
                            · refine ⟨by unfold rg; omega, ?_⟩
                              refine ⟨fun c496 => ?_, fun c496 => ?_⟩
                              · exfalso; omega
                              · intro v498 r_v498 e_v498
                                refine ⟨fun c499 => ?_, fun c499 => ?_⟩
                                · exact ⟨rfl, rfl⟩
                                · intro v501 r_v501 e_v501
                                  replace e_v501 := e_v501.trans tot_11
                                  refine ⟨fun c502 => ?_, fun c502 => ?_⟩
                                  · exfalso; omega
                                  · exact ⟨rfl, rfl⟩
                      · refine ⟨by unfold rg; omega, ?_⟩
                        intro v506 r_v506 e_v506
                        replace e_v506 := e_v506.trans tot_9
                        refine ⟨fun c507 => ?_, fun c507 => ?_⟩
                        · exfalso; omega
                        · intro v508 r_v508 e_v508
                          replace e_v508 := e_v508.trans tot_0
                          refine ⟨by unfold rg; omega, ?_⟩
                          refine ⟨fun c510 => ?_, fun c510 => ?_⟩
                          · exfalso; omega
                          · intro v511 r_v511 e_v511
                            replace e_v511 := e_v511.trans tot_3
                            refine ⟨fun c513 => ?_, fun c513 => ?_⟩
                            · refine ⟨fun c514 => ?_, fun c514 => ?_⟩
                              · exfalso; omega
                              · intro v516 r_v516 e_v516
                                refine ⟨fun c517 => ?_, fun c517 => ?_⟩
                                · exact ⟨rfl, rfl⟩
                                · intro v519 r_v519 e_v519
                                  replace e_v519 := e_v519.trans tot_11
                                  refine ⟨fun c520 => ?_, fun c520 => ?_⟩
                                  · exfalso; omega
                                  · exact ⟨rfl, rfl⟩
                            · refine ⟨by unfold rg; omega, ?_⟩
                              refine ⟨fun c523 => ?_, fun c523 => ?_⟩
                              · exfalso; omega
                              · intro v525 r_v525 e_v525
                                refine ⟨fun c526 => ?_, fun c526 => ?_⟩
                                · exact ⟨rfl, rfl⟩
                                · intro v528 r_v528 e_v528
                                  replace e_v528 := e_v528.trans tot_11
                                  refine ⟨fun c529 => ?_, fun c529 => ?_⟩
                                  · exfalso; omega
                                  · exact ⟨rfl, rfl⟩
          · refine ⟨fun c531 => ?_, fun c531 => ?_⟩
            · exfalso; omega
            · refine ⟨by unfold rg; omega, ?_⟩
              refine ⟨by unfold rg; omega, ?_⟩
              refine ⟨by unfold rg; omega, ?_⟩
              intro v537 r_v537 e_v537
              replace e_v537 := e_v537.trans tot_9
              refine ⟨fun c538 => ?_, fun c538 => ?_⟩
              · exfalso; omega
              · intro v539 r_v539 e_v539
                replace e_v539 := e_v539.trans tot_0
                refine ⟨by unfold rg; omega, ?_⟩
                refine ⟨fun c541 => ?_, fun c541 => ?_⟩
                · exfalso; omega
                · intro v542 r_v542 e_v542
                  replace e_v542 := e_v542.trans tot_3
                  refine ⟨fun c544 => ?_, fun c544 => ?_⟩
                  · exfalso; omega
                  · exact ⟨rfl, rfl⟩
      · refine ⟨by unfold rg; omega, ?_⟩
        refine ⟨by unfold rg; omega, ?_⟩
        intro v549 r_v549 e_v549
        refine ⟨fun c550 => ?_, fun c550 => ?_⟩
        · intro v551 r_v551 e_v551
          refine ⟨fun c552 => ?_, fun c552 => ?_⟩
          · refine ⟨by unfold rg; omega, ?_⟩
            first
            | (exfalso; omega)
            | exact ih (t + 1) (k + 1) _ (by omega) (by omega) (by rw [hp]; omega) (st_0 ht hk a.1 hb hf (by omega))
          · refine ⟨by unfold rg; omega, ?_⟩
            first
            | (exfalso; omega)
            | exact ih (t + 1) (k + 1) _ (by omega) (by omega) (by rw [hp]; omega) (st_1 ht hk a.1 hb hf (by omega))
        · refine ⟨by unfold rg; omega, ?_⟩
          intro v556 r_v556 e_v556
          refine ⟨fun c557 => ?_, fun c557 => ?_⟩
          · intro v558 g559 r_v558 e_v558 f_v558
            subst f_v558
            subst e_v558
            have kfo : fo (dfs (pa m b) c0.1 g.1.1) = k := by
              first
              | (exfalso; omega)
              | (have hf2 := hf; rw [hk] at hf2 ⊢; exact fo_exit ht a.1 hf2 h (cnt_p (isB_2 ht hb).1 (by rw [← hk]; omega)) (cnt_p (isB_2 ht hb).2 (by rw [← hk]; omega)))
            intro v560 r_v560 e_v560
            replace e_v560 := e_v560.trans tot_3
            refine ⟨fun c561 => ?_, fun c561 => ?_⟩
            · intro v562 r_v562 e_v562
              replace e_v562 := e_v562.trans tot_3
              refine ⟨by unfold rg; omega, ?_⟩
              intro v564 r_v564 e_v564
              subst e_v562
              refine ⟨by unfold rg; omega, ?_⟩
              refine ⟨fun c568 => ?_, fun c568 => ?_⟩
              · exfalso; omega
              · refine ⟨by unfold rg; omega, ?_⟩
                refine ⟨by unfold rg; omega, ?_⟩
                refine ⟨fun c573 => ?_, fun c573 => ?_⟩
                · refine ⟨by unfold rg; omega, ?_⟩
                  refine ⟨by unfold rg; omega, ?_⟩
                  intro v577 r_v577 e_v577
                  replace e_v577 := e_v577.trans tot_9
                  refine ⟨fun c578 => ?_, fun c578 => ?_⟩
                  · exfalso; omega
                  · intro v579 r_v579 e_v579
                    replace e_v579 := e_v579.trans tot_0
                    refine ⟨by unfold rg; omega, ?_⟩
                    refine ⟨fun c581 => ?_, fun c581 => ?_⟩
                    · exfalso; omega
                    · intro v582 r_v582 e_v582
                      replace e_v582 := e_v582.trans tot_3
                      refine ⟨fun c584 => ?_, fun c584 => ?_⟩
                      · exfalso; omega
                      · exact ⟨rfl, rfl⟩
                · refine ⟨by unfold rg; omega, ?_⟩
                  intro v589 r_v589 e_v589
                  replace e_v589 := e_v589.trans tot_9
                  refine ⟨fun c590 => ?_, fun c590 => ?_⟩
                  · exfalso; omega
                  · intro v591 r_v591 e_v591
                    replace e_v591 := e_v591.trans tot_0
                    refine ⟨by unfold rg; omega, ?_⟩
                    refine ⟨fun c593 => ?_, fun c593 => ?_⟩
                    · exfalso; omega
                    · intro v594 r_v594 e_v594
                      replace e_v594 := e_v594.trans tot_3
                      refine ⟨fun c596 => ?_, fun c596 => ?_⟩
                      · exfalso; omega
                      · exact ⟨rfl, rfl⟩
            · refine ⟨by unfold rg; omega, ?_⟩
              refine ⟨fun c602 => ?_, fun c602 => ?_⟩
              · exfalso; omega
              · refine ⟨by unfold rg; omega, ?_⟩
                refine ⟨by unfold rg; omega, ?_⟩
                refine ⟨fun c607 => ?_, fun c607 => ?_⟩
                · refine ⟨by unfold rg; omega, ?_⟩
                  refine ⟨by unfold rg; omega, ?_⟩
                  intro v611 r_v611 e_v611
                  replace e_v611 := e_v611.trans tot_9
                  refine ⟨fun c612 => ?_, fun c612 => ?_⟩
                  · exfalso; omega
                  · intro v613 r_v613 e_v613
                    replace e_v613 := e_v613.trans tot_0
                    refine ⟨by unfold rg; omega, ?_⟩
                    refine ⟨fun c615 => ?_, fun c615 => ?_⟩
                    · exfalso; omega
                    · intro v616 r_v616 e_v616
                      replace e_v616 := e_v616.trans tot_3
                      refine ⟨fun c618 => ?_, fun c618 => ?_⟩
                      · exfalso; omega
                      · exact ⟨rfl, rfl⟩
                · refine ⟨by unfold rg; omega, ?_⟩
                  intro v623 r_v623 e_v623
                  replace e_v623 := e_v623.trans tot_9
                  refine ⟨fun c624 => ?_, fun c624 => ?_⟩
                  · exfalso; omega
                  · intro v625 r_v625 e_v625
                    replace e_v625 := e_v625.trans tot_0
                    refine ⟨by unfold rg; omega, ?_⟩
                    refine ⟨fun c627 => ?_, fun c627 => ?_⟩
                    · exfalso; omega
                    · intro v628 r_v628 e_v628
                      replace e_v628 := e_v628.trans tot_3
                      refine ⟨fun c630 => ?_, fun c630 => ?_⟩
                      · exfalso; omega
                      · exact ⟨rfl, rfl⟩
          · intro v633 r_v633 e_v633
            refine ⟨fun c634 => ?_, fun c634 => ?_⟩
            · refine ⟨by unfold rg; omega, ?_⟩
              first
              | (exfalso; omega)
              | exact ih (t + 1) (k + 1) _ (by omega) (by omega) (by rw [hp]; omega) (st_0 ht hk a.1 hb hf (by omega))
            · first
              | (exfalso; omega)
              | exact ih (t + 1) (k + 1) _ (by omega) (by omega) (by rw [hp]; omega) (st_1 ht hk a.1 hb hf (by omega))
theorem l_ask38 (hd : 20 ≤ d) (a : IV T g.1) (hT : T ≤ 1800000000) (hB : isB m b) : ∀ (n k : Nat), k + n = g.1.1.length → LW m_L_ask d none (PO (askG m b g)) 38 [some (.inr (some 1)), some (.inl m), some (.inl b), some (.inl ((g.1.1.filter (pa m b)).length : Int)), some (.inl (g.1.1.length : Int)), some (.inl (g.1.2.2 10)), some (.inl (g.1.2.1.length : Int)), some (.inl (nOne (g.1.1.take k) : Int)), some (.inl m), some (.inl (k : Int)), none, none, none, none] [] g (0, 0) := by
  have h20 := a.1.1
  have hno := nOne_le g.1.1
  have h200 := a.2.2.1
  obtain ⟨p5, p6, p7, p8, p9, p11⟩ := a.2.2.2.1
  have q10 := a.2.2.2.2.2.2.1
  have qT := a.2.2.2.2.2.2.2.1
  have hB2 := hB.2.1
  have hB1 := hB.1
  intro n
  induction n with
  | zero =>
    intro k hk
    have hk2 : k = g.1.1.length := by omega
    subst hk2
    rw [List.take_of_length_le (Nat.le_refl _)]
    refine lc_ask_38 hd ?_
    refine ⟨fun c1 => ?_, fun c1 => ?_⟩
    · cases hq : g.1.1.filter (pa m b) with
      | nil => exact l_ask79_0 hd a hT hB hq rfl ⟨hB1, hB2⟩
      | cons c0 A =>
        cases A with
        | nil => exact l_ask79_1 hd a hT hB hq rfl ⟨hB1, hB2⟩
        | cons e0 A =>
          obtain ⟨t, ht⟩ : ∃ t : Nat, m = (t : Int) := ⟨m.toNat, by omega⟩
          have hb3 := hB.2.2
          rw [ht, Int.toNat_natCast] at hb3
          exact l_ask79_2 hd a hT hB hq (by simp only [List.length_cons]; omega) (8 - t) t m b ht (by omega) hb3 (fun c hc => rfl)
    · intro v2 r_v2 e_v2
      intro v3 r_v3 e_v3
      refine ⟨fun c4 => ?_, fun c4 => ?_⟩
      · refine ⟨by unfold rg; omega, ?_⟩
        refine ⟨by unfold rg; omega, ?_⟩
        exfalso; omega
      · refine ⟨by unfold rg; omega, ?_⟩
        refine ⟨by unfold rg; omega, ?_⟩
        exfalso; omega
  | succ n ih =>
    intro k hk
    obtain ⟨c, hc⟩ := get_ex (l := g.1.1) (i := k) (by omega)
    have hcd : cardO (k : Int) g.1.1 = c.1 := by
      unfold cardO
      rw [if_neg (by omega), if_neg (by omega), Int.toNat_natCast, cat_eq hc]
    have hof := of_mem a.1 (List.mem_of_getElem? hc)
    have htk : nOne (g.1.1.take (k + 1)) = nOne (g.1.1.take k) + (if c.2.2.1 = 1 then 1 else 0) := by
      unfold nOne
      rw [filter_tk hc, List.length_append]
      by_cases q : c.2.2.1 = 1
      · simp [q]
      · simp [q]
    have hnk := nOne_le (g.1.1.take k)
    have hlk : (g.1.1.take k).length ≤ 20 := by rw [List.length_take]; omega
    have ih2 := ih (k + 1) (by omega)
    rw [Int.natCast_add] at ih2
    refine lc_ask_38 hd ?_
    refine ⟨fun c1 => ?_, fun c1 => ?_⟩
    · exfalso; omega
    · intro v2 r_v2 e_v2
      rw [hcd] at e_v2
      subst e_v2
      intro v3 r_v3 e_v3
      rw [hof.2.1] at e_v3
      refine ⟨fun c4 => ?_, fun c4 => ?_⟩
      · refine ⟨by unfold rg; omega, ?_⟩
        refine ⟨by unfold rg; omega, ?_⟩
        rw [htk, if_neg (by omega)] at ih2
        rw [Int.natCast_add] at ih2
        exact ih2
      · refine ⟨by unfold rg; omega, ?_⟩
        refine ⟨by unfold rg; omega, ?_⟩
        rw [htk, if_pos (by omega)] at ih2
        rw [Int.natCast_add] at ih2
        exact ih2
theorem l_ask (hd : 20 ≤ d) (a : IV T g.1) (hT : T ≤ 1800000000) (hB : isB m b) : LM d m_L_ask [.inr (some 1), .inl m, .inl b] g (PO (askG m b g)) := by
  refine lm_body mo_L_ask (Nat.le_of_ble_eq_true rfl) (by intro q; cases q) ?_
  show LW m_L_ask d none _ 0 [some (.inr (some 1)), some (.inl m), some (.inl b), none, none, none, none, none, none, none, none, none, none, none] [] g (0, 0)
  refine lc_ask hd ?_
  intro v1 r_v1 e_v1
  intro v2 r_v2 e_v2
  replace e_v2 := e_v2.trans tot_0
  intro v3 r_v3 e_v3
  replace e_v3 := e_v3.trans tot_9
  intro v4 r_v4 e_v4
  replace e_v4 := e_v4.trans tot_3
  rw [cnt_eq hB] at e_v1
  subst e_v1 e_v2 e_v3 e_v4
  exact l_ask38 hd a hT hB g.1.1.length 0 (by omega)
end LASK
