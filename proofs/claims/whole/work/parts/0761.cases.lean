set_option maxRecDepth 100000 in
set_option maxHeartbeats 2000000 in
theorem lc_0 {X : AX} {L b i : Nat} {xs : Nat → Int32} {σ : Mem} {Inv : Mem → Prop} (hX : CX X code 7 RL) (hR : LR X) (hI : LI X L b xs) (hi : i + 8 ≤ L) (hc : aCe X + 1 ≤ 1178 ∧ aSl X + 6 ≤ 10586) (hO : OP_publish Inv) (hJ : Inv σ) (K : ∀ (τ' : Nat → Int64) (ce sl : Nat) (σ3 : Mem), Inv σ3 → ce ≤ aCe X + 1 → sl ≤ aSl X + 6 → LW (lX X τ' ce sl) 1898 [some (.ref 115), some (.ref 0), some (.ref 94), some (.ref 114), some (.int (nI i)), none, none] [] σ3) : LW X 164 [some (.ref 115), some (.ref 0), some (.ref 94), some (.ref 114), some (.int (nI i)), none, none] [] σ := by
  obtain ⟨k, τ', σ1, bb, m2, m3, hw, hm, ht, hv, hJ3⟩ := hO (xs (i + 1)) (xs (i + 2)) (xs (i + 3)) (xs (i + 4)) (xs (i + 5)) (xs (i + 6)) σ (gt (aG X)) hJ
  have hK := K τ' (aCe X + 1) (aSl X + 6) m3 hJ3 (Nat.le_refl _) (Nat.le_refl _)
  refine a_al1 hX dL_law_164 rfl ?_
  refine a_al0 hX dL_law_165 rfl ?_
  refine a_il4 hX dL_law_166 rfl ?_
  refine a_ic 1 hX dL_law_168 (by decide) rfl ?_
  refine a_iadd hX dL_law_169 rfl ?_
  refine l_sld hI hX (c := 1) (by decide) hi (by decide) dL_law_170 rfl ?_
  refine a_al0 hX dL_law_171 rfl ?_
  refine a_il4 hX dL_law_172 rfl ?_
  refine a_ic 2 hX dL_law_174 (by decide) rfl ?_
  refine a_iadd hX dL_law_175 rfl ?_
  refine l_sld hI hX (c := 2) (by decide) hi (by decide) dL_law_176 rfl ?_
  refine a_al0 hX dL_law_177 rfl ?_
  refine a_il4 hX dL_law_178 rfl ?_
  refine a_ic 3 hX dL_law_180 (by decide) rfl ?_
  refine a_iadd hX dL_law_181 rfl ?_
  refine l_sld hI hX (c := 3) (by decide) hi (by decide) dL_law_182 rfl ?_
  refine a_al0 hX dL_law_183 rfl ?_
  refine a_il4 hX dL_law_184 rfl ?_
  refine a_ic 4 hX dL_law_186 (by decide) rfl ?_
  refine a_iadd hX dL_law_187 rfl ?_
  refine l_sld hI hX (c := 4) (by decide) hi (by decide) dL_law_188 rfl ?_
  refine a_al0 hX dL_law_189 rfl ?_
  refine a_il4 hX dL_law_190 rfl ?_
  refine a_ic 5 hX dL_law_192 (by decide) rfl ?_
  refine a_iadd hX dL_law_193 rfl ?_
  refine l_sld hI hX (c := 5) (by decide) hi (by decide) dL_law_194 rfl ?_
  refine a_al0 hX dL_law_195 rfl ?_
  refine a_il4 hX dL_law_196 rfl ?_
  refine a_bi 6 hX dL_law_198 (by decide) rfl ?_
  refine a_iadd hX dL_law_200 rfl ?_
  refine l_sld hI hX (c := 6) (by decide) hi (by decide) dL_law_201 rfl ?_
  refine a_al3 hX dL_law_202 rfl ?_
  refine l_wrap hX hR.2.2.2.2.1 hR.2.2.2.2.2.1 mlw_L_publish (cw_publish _ hR.2.2.2.2.2.2 _ _ _ _ _ _ _) hw rfl rfl ⟨by rw [hR.1]; exact Nat.le_of_ble_eq_true rfl, by rw [hR.2.1]; exact Nat.le_of_ble_eq_true rfl⟩ ⟨by rw [hR.2.2.1]; exact hc.1, by rw [hR.2.2.2.1]; exact hc.2⟩ (Nat.le_of_ble_eq_true rfl) rfl dL_law_203 rfl ?_
  have hX' : CX (lX X τ' (aCe X + 1) (aSl X + 6)) code 7 RL := hX.l
  have hI' : LI (lX X τ' (aCe X + 1) (aSl X + 6)) L b xs := hI.l
  refine a_is5 hX' dL_law_206 rfl ?_
  refine a_al2 hX' dL_law_208 rfl ?_
  refine a_al0 hX' dL_law_209 rfl ?_
  refine a_il4 hX' dL_law_210 rfl ?_
  refine a_ic 1 hX' dL_law_212 (by decide) rfl ?_
  refine a_iadd hX' dL_law_213 rfl ?_
  refine l_sld hI' hX' (c := 1) (by decide) hi (by decide) dL_law_214 rfl ?_
  refine a_al0 hX' dL_law_215 rfl ?_
  refine a_il4 hX' dL_law_216 rfl ?_
  refine a_ic 2 hX' dL_law_218 (by decide) rfl ?_
  refine a_iadd hX' dL_law_219 rfl ?_
  refine l_sld hI' hX' (c := 2) (by decide) hi (by decide) dL_law_220 rfl ?_
  refine a_al0 hX' dL_law_221 rfl ?_
  refine a_il4 hX' dL_law_222 rfl ?_
  refine a_ic 3 hX' dL_law_224 (by decide) rfl ?_
  refine a_iadd hX' dL_law_225 rfl ?_
  refine l_sld hI' hX' (c := 3) (by decide) hi (by decide) dL_law_226 rfl ?_
  refine a_al0 hX' dL_law_227 rfl ?_
  refine a_il4 hX' dL_law_228 rfl ?_
  refine a_ic 4 hX' dL_law_230 (by decide) rfl ?_
  refine a_iadd hX' dL_law_231 rfl ?_
  refine l_sld hI' hX' (c := 4) (by decide) hi (by decide) dL_law_232 rfl ?_
  refine a_al0 hX' dL_law_233 rfl ?_
  refine a_il4 hX' dL_law_234 rfl ?_
  refine a_ic 5 hX' dL_law_236 (by decide) rfl ?_
  refine a_iadd hX' dL_law_237 rfl ?_
  refine l_sld hI' hX' (c := 5) (by decide) hi (by decide) dL_law_238 rfl ?_
  refine a_al0 hX' dL_law_239 rfl ?_
  refine a_il4 hX' dL_law_240 rfl ?_
  refine a_bi 6 hX' dL_law_242 (by decide) rfl ?_
  refine a_iadd hX' dL_law_244 rfl ?_
  refine l_sld hI' hX' (c := 6) (by decide) hi (by decide) dL_law_245 rfl ?_
  refine l_callI hX' ml_L_107 (ci_X12_publish _ _ _ _ _ _ _ _) hm s_94 rfl rfl rfl ⟨by show 2 + 1 ≤ (aR X).frames; rw [hR.1]; exact Nat.le_of_ble_eq_true rfl, by show _ ≤ (aR X).locals; rw [hR.2.1]; exact Nat.le_of_ble_eq_true rfl⟩ ⟨by show aCe X + 1 ≤ (aR X).cells; rw [hR.2.2.1]; exact hc.1, by show aSl X + 6 ≤ (aR X).slots; rw [hR.2.2.2.1]; exact hc.2⟩ (Nat.le_of_ble_eq_true rfl) rfl dL_law_246 rfl ?_
  refine a_is6 hX' dL_law_249 rfl ?_
  refine a_al2 hX' dL_law_251 rfl ?_
  refine l_callI hX' ml_L_108 (ci_X12_thrown _  _) ht s_94 rfl rfl rfl ⟨by show 0 + 1 ≤ (aR X).frames; rw [hR.1]; exact Nat.le_of_ble_eq_true rfl, by show _ ≤ (aR X).locals; rw [hR.2.1]; exact Nat.le_of_ble_eq_true rfl⟩ ⟨by show aCe X + 1 ≤ (aR X).cells; rw [hR.2.2.1]; exact hc.1, by show aSl X + 6 ≤ (aR X).slots; rw [hR.2.2.2.1]; exact hc.2⟩ (Nat.le_of_ble_eq_true rfl) rfl dL_law_252 rfl ?_
  refine a_il5 hX' dL_law_255 rfl ?_
  refine l_icmp_eq_t hX' dL_law_257 (pc1 := 262) rfl rfl ?_
  refine a_il5 hX' dL_law_262 rfl ?_
  by_cases hk0 : k = 0
  · refine l_if_ne_f hX' dL_law_264 (tgt := 279) rfl hk0 rfl ?_
    refine a_al3 hX' dL_law_267 rfl ?_
    refine a_ic 0 hX' dL_law_268 (by decide) rfl ?_
    refine l_lald hX' dL_law_269 rfl ?_
    refine a_il6 hX' dL_law_270 rfl ?_
    refine l_i2l hX' dL_law_272 rfl ?_
    refine l_lcmpeq hX' dL_law_273 dL_law_274 (pc1 := 279) rfl (hv hk0) ?_
    refine a_goto hX' dL_law_279 (pc1 := 1898) rfl ?_
    exact a_sub hK (ls_s (ls_s (ls_s (ls_s (ls_s (ls_n (ls_n ls_0)))))))
  · refine l_if_ne_t hX' dL_law_264 (pc1 := 279) rfl hk0 ?_
    refine a_goto hX' dL_law_279 (pc1 := 1898) rfl ?_
    exact a_sub hK (ls_s (ls_s (ls_s (ls_s (ls_s (ls_n (ls_n ls_0)))))))

set_option maxRecDepth 100000 in
set_option maxHeartbeats 2000000 in
theorem lc_1 {X : AX} {L b i : Nat} {xs : Nat → Int32} {σ : Mem} {Inv : Mem → Prop} (hX : CX X code 7 RL) (hR : LR X) (hI : LI X L b xs) (hi : i + 8 ≤ L) (hc : aCe X + 1 ≤ 1178 ∧ aSl X + 6 ≤ 10586) (hO : OP_compare Inv) (hJ : Inv σ) (K : ∀ (τ' : Nat → Int64) (ce sl : Nat) (σ3 : Mem), Inv σ3 → ce ≤ aCe X + 1 → sl ≤ aSl X + 6 → LW (lX X τ' ce sl) 1898 [some (.ref 115), some (.ref 0), some (.ref 94), some (.ref 114), some (.int (nI i)), none, none] [] σ3) : LW X 282 [some (.ref 115), some (.ref 0), some (.ref 94), some (.ref 114), some (.int (nI i)), none, none] [] σ := by
  obtain ⟨k, τ', σ1, bb, m2, m3, hw, hm, ht, hv, hJ3⟩ := hO (xs (i + 1)) (xs (i + 2)) σ (gt (aG X)) hJ
  have hK := K τ' (aCe X + 1) (aSl X + 6) m3 hJ3 (Nat.le_refl _) (Nat.le_refl _)
  refine a_al1 hX dL_law_282 rfl ?_
  refine a_al0 hX dL_law_283 rfl ?_
  refine a_il4 hX dL_law_284 rfl ?_
  refine a_ic 1 hX dL_law_286 (by decide) rfl ?_
  refine a_iadd hX dL_law_287 rfl ?_
  refine l_sld hI hX (c := 1) (by decide) hi (by decide) dL_law_288 rfl ?_
  refine a_al0 hX dL_law_289 rfl ?_
  refine a_il4 hX dL_law_290 rfl ?_
  refine a_ic 2 hX dL_law_292 (by decide) rfl ?_
  refine a_iadd hX dL_law_293 rfl ?_
  refine l_sld hI hX (c := 2) (by decide) hi (by decide) dL_law_294 rfl ?_
  refine a_al3 hX dL_law_295 rfl ?_
  refine l_wrap hX hR.2.2.2.2.1 hR.2.2.2.2.2.1 mlw_L_compare (cw_compare _ hR.2.2.2.2.2.2 _ _ _) hw rfl rfl ⟨by rw [hR.1]; exact Nat.le_of_ble_eq_true rfl, by rw [hR.2.1]; exact Nat.le_of_ble_eq_true rfl⟩ ⟨by rw [hR.2.2.1]; exact hc.1, by rw [hR.2.2.2.1]; exact hc.2⟩ (Nat.le_of_ble_eq_true rfl) rfl dL_law_296 rfl ?_
  have hX' : CX (lX X τ' (aCe X + 1) (aSl X + 6)) code 7 RL := hX.l
  have hI' : LI (lX X τ' (aCe X + 1) (aSl X + 6)) L b xs := hI.l
  refine a_is5 hX' dL_law_299 rfl ?_
  refine a_al2 hX' dL_law_301 rfl ?_
  refine a_al0 hX' dL_law_302 rfl ?_
  refine a_il4 hX' dL_law_303 rfl ?_
  refine a_ic 1 hX' dL_law_305 (by decide) rfl ?_
  refine a_iadd hX' dL_law_306 rfl ?_
  refine l_sld hI' hX' (c := 1) (by decide) hi (by decide) dL_law_307 rfl ?_
  refine a_al0 hX' dL_law_308 rfl ?_
  refine a_il4 hX' dL_law_309 rfl ?_
  refine a_ic 2 hX' dL_law_311 (by decide) rfl ?_
  refine a_iadd hX' dL_law_312 rfl ?_
  refine l_sld hI' hX' (c := 2) (by decide) hi (by decide) dL_law_313 rfl ?_
  refine l_callI hX' ml_L_114 (ci_X12_compare _ _ _ _) hm s_94 rfl rfl rfl ⟨by show 2 + 1 ≤ (aR X).frames; rw [hR.1]; exact Nat.le_of_ble_eq_true rfl, by show _ ≤ (aR X).locals; rw [hR.2.1]; exact Nat.le_of_ble_eq_true rfl⟩ ⟨by show aCe X + 1 ≤ (aR X).cells; rw [hR.2.2.1]; exact hc.1, by show aSl X + 6 ≤ (aR X).slots; rw [hR.2.2.2.1]; exact hc.2⟩ (Nat.le_of_ble_eq_true rfl) rfl dL_law_314 rfl ?_
  refine a_is6 hX' dL_law_317 rfl ?_
  refine a_al2 hX' dL_law_319 rfl ?_
  refine l_callI hX' ml_L_108 (ci_X12_thrown _  _) ht s_94 rfl rfl rfl ⟨by show 0 + 1 ≤ (aR X).frames; rw [hR.1]; exact Nat.le_of_ble_eq_true rfl, by show _ ≤ (aR X).locals; rw [hR.2.1]; exact Nat.le_of_ble_eq_true rfl⟩ ⟨by show aCe X + 1 ≤ (aR X).cells; rw [hR.2.2.1]; exact hc.1, by show aSl X + 6 ≤ (aR X).slots; rw [hR.2.2.2.1]; exact hc.2⟩ (Nat.le_of_ble_eq_true rfl) rfl dL_law_320 rfl ?_
  refine a_il5 hX' dL_law_323 rfl ?_
  refine l_icmp_eq_t hX' dL_law_325 (pc1 := 330) rfl rfl ?_
  refine a_il5 hX' dL_law_330 rfl ?_
  by_cases hk0 : k = 0
  · refine l_if_ne_f hX' dL_law_332 (tgt := 347) rfl hk0 rfl ?_
    refine a_al3 hX' dL_law_335 rfl ?_
    refine a_ic 0 hX' dL_law_336 (by decide) rfl ?_
    refine l_lald hX' dL_law_337 rfl ?_
    refine a_il6 hX' dL_law_338 rfl ?_
    refine l_i2l hX' dL_law_340 rfl ?_
    refine l_lcmpeq hX' dL_law_341 dL_law_342 (pc1 := 347) rfl (hv hk0) ?_
    refine a_goto hX' dL_law_347 (pc1 := 1898) rfl ?_
    exact a_sub hK (ls_s (ls_s (ls_s (ls_s (ls_s (ls_n (ls_n ls_0)))))))
  · refine l_if_ne_t hX' dL_law_332 (pc1 := 347) rfl hk0 ?_
    refine a_goto hX' dL_law_347 (pc1 := 1898) rfl ?_
    exact a_sub hK (ls_s (ls_s (ls_s (ls_s (ls_s (ls_n (ls_n ls_0)))))))

set_option maxRecDepth 100000 in
set_option maxHeartbeats 2000000 in
theorem lc_2 {X : AX} {L b i : Nat} {xs : Nat → Int32} {σ : Mem} {Inv : Mem → Prop} (hX : CX X code 7 RL) (hR : LR X) (hI : LI X L b xs) (hi : i + 8 ≤ L) (hc : aCe X + 1 ≤ 1178 ∧ aSl X + 6 ≤ 10586) (hO : OP_yank Inv) (hJ : Inv σ) (K : ∀ (τ' : Nat → Int64) (ce sl : Nat) (σ3 : Mem), Inv σ3 → ce ≤ aCe X + 1 → sl ≤ aSl X + 6 → LW (lX X τ' ce sl) 1898 [some (.ref 115), some (.ref 0), some (.ref 94), some (.ref 114), some (.int (nI i)), none, none] [] σ3) : LW X 350 [some (.ref 115), some (.ref 0), some (.ref 94), some (.ref 114), some (.int (nI i)), none, none] [] σ := by
  obtain ⟨k, τ', σ1, bb, m2, m3, hw, hm, ht, hv, hJ3⟩ := hO (xs (i + 1)) σ (gt (aG X)) hJ
  have hK := K τ' (aCe X + 1) (aSl X + 6) m3 hJ3 (Nat.le_refl _) (Nat.le_refl _)
  refine a_al1 hX dL_law_350 rfl ?_
  refine a_al0 hX dL_law_351 rfl ?_
  refine a_il4 hX dL_law_352 rfl ?_
  refine a_ic 1 hX dL_law_354 (by decide) rfl ?_
  refine a_iadd hX dL_law_355 rfl ?_
  refine l_sld hI hX (c := 1) (by decide) hi (by decide) dL_law_356 rfl ?_
  refine a_al3 hX dL_law_357 rfl ?_
  refine l_wrap hX hR.2.2.2.2.1 hR.2.2.2.2.2.1 mlw_L_yank (cw_yank _ hR.2.2.2.2.2.2 _ _) hw rfl rfl ⟨by rw [hR.1]; exact Nat.le_of_ble_eq_true rfl, by rw [hR.2.1]; exact Nat.le_of_ble_eq_true rfl⟩ ⟨by rw [hR.2.2.1]; exact hc.1, by rw [hR.2.2.2.1]; exact hc.2⟩ (Nat.le_of_ble_eq_true rfl) rfl dL_law_358 rfl ?_
  have hX' : CX (lX X τ' (aCe X + 1) (aSl X + 6)) code 7 RL := hX.l
  have hI' : LI (lX X τ' (aCe X + 1) (aSl X + 6)) L b xs := hI.l
  refine a_is5 hX' dL_law_361 rfl ?_
  refine a_al2 hX' dL_law_363 rfl ?_
  refine a_al0 hX' dL_law_364 rfl ?_
  refine a_il4 hX' dL_law_365 rfl ?_
  refine a_ic 1 hX' dL_law_367 (by decide) rfl ?_
  refine a_iadd hX' dL_law_368 rfl ?_
  refine l_sld hI' hX' (c := 1) (by decide) hi (by decide) dL_law_369 rfl ?_
  refine l_callI hX' ml_L_118 (ci_X12_yank _ _ _) hm s_94 rfl rfl rfl ⟨by show 2 + 1 ≤ (aR X).frames; rw [hR.1]; exact Nat.le_of_ble_eq_true rfl, by show _ ≤ (aR X).locals; rw [hR.2.1]; exact Nat.le_of_ble_eq_true rfl⟩ ⟨by show aCe X + 1 ≤ (aR X).cells; rw [hR.2.2.1]; exact hc.1, by show aSl X + 6 ≤ (aR X).slots; rw [hR.2.2.2.1]; exact hc.2⟩ (Nat.le_of_ble_eq_true rfl) rfl dL_law_370 rfl ?_
  refine a_is6 hX' dL_law_373 rfl ?_
  refine a_al2 hX' dL_law_375 rfl ?_
  refine l_callI hX' ml_L_108 (ci_X12_thrown _  _) ht s_94 rfl rfl rfl ⟨by show 0 + 1 ≤ (aR X).frames; rw [hR.1]; exact Nat.le_of_ble_eq_true rfl, by show _ ≤ (aR X).locals; rw [hR.2.1]; exact Nat.le_of_ble_eq_true rfl⟩ ⟨by show aCe X + 1 ≤ (aR X).cells; rw [hR.2.2.1]; exact hc.1, by show aSl X + 6 ≤ (aR X).slots; rw [hR.2.2.2.1]; exact hc.2⟩ (Nat.le_of_ble_eq_true rfl) rfl dL_law_376 rfl ?_
  refine a_il5 hX' dL_law_379 rfl ?_
  refine l_icmp_eq_t hX' dL_law_381 (pc1 := 386) rfl rfl ?_
  refine a_il5 hX' dL_law_386 rfl ?_
  by_cases hk0 : k = 0
  · refine l_if_ne_f hX' dL_law_388 (tgt := 410) rfl hk0 rfl ?_
    refine a_al3 hX' dL_law_391 rfl ?_
    refine a_ic 0 hX' dL_law_392 (by decide) rfl ?_
    refine l_lald hX' dL_law_393 rfl ?_
    refine a_il6 hX' dL_law_394 rfl ?_
    have hv := hv hk0
    by_cases hb0 : bb = 0
    · refine l_if_eq_t hX' dL_law_396 (pc1 := 403) rfl hb0 ?_
      refine l_lconst (v := 0) hX' dL_law_403 rfl rfl ?_
      refine l_lcmpeq hX' dL_law_404 dL_law_405 (pc1 := 410) rfl (by rw [if_pos hb0] at hv; exact hv) ?_
      refine a_goto hX' dL_law_410 (pc1 := 1898) rfl ?_
      exact a_sub hK (ls_s (ls_s (ls_s (ls_s (ls_s (ls_n (ls_n ls_0)))))))
    · refine l_if_eq_f hX' dL_law_396 (tgt := 403) rfl hb0 rfl ?_
      refine l_lconst (v := 1) hX' dL_law_399 rfl rfl ?_
      refine a_goto hX' dL_law_400 (pc1 := 404) rfl ?_
      refine l_lcmpeq hX' dL_law_404 dL_law_405 (pc1 := 410) rfl (by rw [if_neg hb0] at hv; exact hv) ?_
      refine a_goto hX' dL_law_410 (pc1 := 1898) rfl ?_
      exact a_sub hK (ls_s (ls_s (ls_s (ls_s (ls_s (ls_n (ls_n ls_0)))))))
  · refine l_if_ne_t hX' dL_law_388 (pc1 := 410) rfl hk0 ?_
    refine a_goto hX' dL_law_410 (pc1 := 1898) rfl ?_
    exact a_sub hK (ls_s (ls_s (ls_s (ls_s (ls_s (ls_n (ls_n ls_0)))))))

set_option maxRecDepth 100000 in
set_option maxHeartbeats 2000000 in
theorem lc_3 {X : AX} {L b i : Nat} {xs : Nat → Int32} {σ : Mem} {Inv : Mem → Prop} (hX : CX X code 7 RL) (hR : LR X) (hI : LI X L b xs) (hi : i + 8 ≤ L) (hc : aCe X + 1 ≤ 1178 ∧ aSl X + 6 ≤ 10586) (hO : OP_setPlatforms Inv) (hJ : Inv σ) (K : ∀ (τ' : Nat → Int64) (ce sl : Nat) (σ3 : Mem), Inv σ3 → ce ≤ aCe X + 1 → sl ≤ aSl X + 6 → LW (lX X τ' ce sl) 1898 [some (.ref 115), some (.ref 0), some (.ref 94), some (.ref 114), some (.int (nI i)), none, none] [] σ3) : LW X 413 [some (.ref 115), some (.ref 0), some (.ref 94), some (.ref 114), some (.int (nI i)), none, none] [] σ := by
  obtain ⟨k, τ', σ1, bb, m2, m3, hw, hm, ht, hv, hJ3⟩ := hO (xs (i + 1)) (xs (i + 2)) σ (gt (aG X)) hJ
  have hK := K τ' (aCe X + 1) (aSl X + 6) m3 hJ3 (Nat.le_refl _) (Nat.le_refl _)
  refine a_al1 hX dL_law_413 rfl ?_
  refine a_al0 hX dL_law_414 rfl ?_
  refine a_il4 hX dL_law_415 rfl ?_
  refine a_ic 1 hX dL_law_417 (by decide) rfl ?_
  refine a_iadd hX dL_law_418 rfl ?_
  refine l_sld hI hX (c := 1) (by decide) hi (by decide) dL_law_419 rfl ?_
  refine a_al0 hX dL_law_420 rfl ?_
  refine a_il4 hX dL_law_421 rfl ?_
  refine a_ic 2 hX dL_law_423 (by decide) rfl ?_
  refine a_iadd hX dL_law_424 rfl ?_
  refine l_sld hI hX (c := 2) (by decide) hi (by decide) dL_law_425 rfl ?_
  refine a_al3 hX dL_law_426 rfl ?_
  refine l_wrap hX hR.2.2.2.2.1 hR.2.2.2.2.2.1 mlw_L_setPlatforms (cw_setPlatforms _ hR.2.2.2.2.2.2 _ _ _) hw rfl rfl ⟨by rw [hR.1]; exact Nat.le_of_ble_eq_true rfl, by rw [hR.2.1]; exact Nat.le_of_ble_eq_true rfl⟩ ⟨by rw [hR.2.2.1]; exact hc.1, by rw [hR.2.2.2.1]; exact hc.2⟩ (Nat.le_of_ble_eq_true rfl) rfl dL_law_427 rfl ?_
  have hX' : CX (lX X τ' (aCe X + 1) (aSl X + 6)) code 7 RL := hX.l
  have hI' : LI (lX X τ' (aCe X + 1) (aSl X + 6)) L b xs := hI.l
  refine a_is5 hX' dL_law_430 rfl ?_
  refine a_al2 hX' dL_law_432 rfl ?_
  refine a_al0 hX' dL_law_433 rfl ?_
  refine a_il4 hX' dL_law_434 rfl ?_
  refine a_ic 1 hX' dL_law_436 (by decide) rfl ?_
  refine a_iadd hX' dL_law_437 rfl ?_
  refine l_sld hI' hX' (c := 1) (by decide) hi (by decide) dL_law_438 rfl ?_
  refine a_al0 hX' dL_law_439 rfl ?_
  refine a_il4 hX' dL_law_440 rfl ?_
  refine a_ic 2 hX' dL_law_442 (by decide) rfl ?_
  refine a_iadd hX' dL_law_443 rfl ?_
  refine l_sld hI' hX' (c := 2) (by decide) hi (by decide) dL_law_444 rfl ?_
  refine l_callI hX' ml_L_121 (ci_X12_setPlatforms _ _ _ _) hm s_94 rfl rfl rfl ⟨by show 2 + 1 ≤ (aR X).frames; rw [hR.1]; exact Nat.le_of_ble_eq_true rfl, by show _ ≤ (aR X).locals; rw [hR.2.1]; exact Nat.le_of_ble_eq_true rfl⟩ ⟨by show aCe X + 1 ≤ (aR X).cells; rw [hR.2.2.1]; exact hc.1, by show aSl X + 6 ≤ (aR X).slots; rw [hR.2.2.2.1]; exact hc.2⟩ (Nat.le_of_ble_eq_true rfl) rfl dL_law_445 rfl ?_
  refine a_is6 hX' dL_law_448 rfl ?_
  refine a_al2 hX' dL_law_450 rfl ?_
  refine l_callI hX' ml_L_108 (ci_X12_thrown _  _) ht s_94 rfl rfl rfl ⟨by show 0 + 1 ≤ (aR X).frames; rw [hR.1]; exact Nat.le_of_ble_eq_true rfl, by show _ ≤ (aR X).locals; rw [hR.2.1]; exact Nat.le_of_ble_eq_true rfl⟩ ⟨by show aCe X + 1 ≤ (aR X).cells; rw [hR.2.2.1]; exact hc.1, by show aSl X + 6 ≤ (aR X).slots; rw [hR.2.2.2.1]; exact hc.2⟩ (Nat.le_of_ble_eq_true rfl) rfl dL_law_451 rfl ?_
  refine a_il5 hX' dL_law_454 rfl ?_
  refine l_icmp_eq_t hX' dL_law_456 (pc1 := 461) rfl rfl ?_
  refine a_il5 hX' dL_law_461 rfl ?_
  by_cases hk0 : k = 0
  · refine l_if_ne_f hX' dL_law_463 (tgt := 478) rfl hk0 rfl ?_
    refine a_al3 hX' dL_law_466 rfl ?_
    refine a_ic 0 hX' dL_law_467 (by decide) rfl ?_
    refine l_lald hX' dL_law_468 rfl ?_
    refine a_il6 hX' dL_law_469 rfl ?_
    refine l_i2l hX' dL_law_471 rfl ?_
    refine l_lcmpeq hX' dL_law_472 dL_law_473 (pc1 := 478) rfl (hv hk0) ?_
    refine a_goto hX' dL_law_478 (pc1 := 1898) rfl ?_
    exact a_sub hK (ls_s (ls_s (ls_s (ls_s (ls_s (ls_n (ls_n ls_0)))))))
  · refine l_if_ne_t hX' dL_law_463 (pc1 := 478) rfl hk0 ?_
    refine a_goto hX' dL_law_478 (pc1 := 1898) rfl ?_
    exact a_sub hK (ls_s (ls_s (ls_s (ls_s (ls_s (ls_n (ls_n ls_0)))))))

set_option maxRecDepth 100000 in
set_option maxHeartbeats 2000000 in
theorem lc_4 {X : AX} {L b i : Nat} {xs : Nat → Int32} {σ : Mem} {Inv : Mem → Prop} (hX : CX X code 7 RL) (hR : LR X) (hI : LI X L b xs) (hi : i + 8 ≤ L) (hc : aCe X + 1 ≤ 1178 ∧ aSl X + 6 ≤ 10586) (hO : OP_bring Inv) (hJ : Inv σ) (K : ∀ (τ' : Nat → Int64) (ce sl : Nat) (σ3 : Mem), Inv σ3 → ce ≤ aCe X + 1 → sl ≤ aSl X + 6 → LW (lX X τ' ce sl) 1898 [some (.ref 115), some (.ref 0), some (.ref 94), some (.ref 114), some (.int (nI i)), none, none] [] σ3) : LW X 481 [some (.ref 115), some (.ref 0), some (.ref 94), some (.ref 114), some (.int (nI i)), none, none] [] σ := by
  obtain ⟨k, τ', σ1, bb, m2, m3, hw, hm, ht, hv, hJ3⟩ := hO (xs (i + 1)) (xs (i + 2)) (xs (i + 3)) σ (gt (aG X)) hJ
  have hK := K τ' (aCe X + 1) (aSl X + 6) m3 hJ3 (Nat.le_refl _) (Nat.le_refl _)
  refine a_al1 hX dL_law_481 rfl ?_
  refine a_al0 hX dL_law_482 rfl ?_
  refine a_il4 hX dL_law_483 rfl ?_
  refine a_ic 1 hX dL_law_485 (by decide) rfl ?_
  refine a_iadd hX dL_law_486 rfl ?_
  refine l_sld hI hX (c := 1) (by decide) hi (by decide) dL_law_487 rfl ?_
  refine a_al0 hX dL_law_488 rfl ?_
  refine a_il4 hX dL_law_489 rfl ?_
  refine a_ic 2 hX dL_law_491 (by decide) rfl ?_
  refine a_iadd hX dL_law_492 rfl ?_
  refine l_sld hI hX (c := 2) (by decide) hi (by decide) dL_law_493 rfl ?_
  refine a_al0 hX dL_law_494 rfl ?_
  refine a_il4 hX dL_law_495 rfl ?_
  refine a_ic 3 hX dL_law_497 (by decide) rfl ?_
  refine a_iadd hX dL_law_498 rfl ?_
  refine l_sld hI hX (c := 3) (by decide) hi (by decide) dL_law_499 rfl ?_
  refine a_al3 hX dL_law_500 rfl ?_
  refine l_wrap hX hR.2.2.2.2.1 hR.2.2.2.2.2.1 mlw_L_bring (cw_bring _ hR.2.2.2.2.2.2 _ _ _ _) hw rfl rfl ⟨by rw [hR.1]; exact Nat.le_of_ble_eq_true rfl, by rw [hR.2.1]; exact Nat.le_of_ble_eq_true rfl⟩ ⟨by rw [hR.2.2.1]; exact hc.1, by rw [hR.2.2.2.1]; exact hc.2⟩ (Nat.le_of_ble_eq_true rfl) rfl dL_law_501 rfl ?_
  have hX' : CX (lX X τ' (aCe X + 1) (aSl X + 6)) code 7 RL := hX.l
  have hI' : LI (lX X τ' (aCe X + 1) (aSl X + 6)) L b xs := hI.l
  refine a_is5 hX' dL_law_504 rfl ?_
  refine a_al2 hX' dL_law_506 rfl ?_
  refine a_al0 hX' dL_law_507 rfl ?_
  refine a_il4 hX' dL_law_508 rfl ?_
  refine a_ic 1 hX' dL_law_510 (by decide) rfl ?_
  refine a_iadd hX' dL_law_511 rfl ?_
  refine l_sld hI' hX' (c := 1) (by decide) hi (by decide) dL_law_512 rfl ?_
  refine a_al0 hX' dL_law_513 rfl ?_
  refine a_il4 hX' dL_law_514 rfl ?_
  refine a_ic 2 hX' dL_law_516 (by decide) rfl ?_
  refine a_iadd hX' dL_law_517 rfl ?_
  refine l_sld hI' hX' (c := 2) (by decide) hi (by decide) dL_law_518 rfl ?_
  refine a_al0 hX' dL_law_519 rfl ?_
  refine a_il4 hX' dL_law_520 rfl ?_
  refine a_ic 3 hX' dL_law_522 (by decide) rfl ?_
  refine a_iadd hX' dL_law_523 rfl ?_
  refine l_sld hI' hX' (c := 3) (by decide) hi (by decide) dL_law_524 rfl ?_
  refine l_callI hX' ml_L_125 (ci_X12_bring _ _ _ _ _) hm s_94 rfl rfl rfl ⟨by show 2 + 1 ≤ (aR X).frames; rw [hR.1]; exact Nat.le_of_ble_eq_true rfl, by show _ ≤ (aR X).locals; rw [hR.2.1]; exact Nat.le_of_ble_eq_true rfl⟩ ⟨by show aCe X + 1 ≤ (aR X).cells; rw [hR.2.2.1]; exact hc.1, by show aSl X + 6 ≤ (aR X).slots; rw [hR.2.2.2.1]; exact hc.2⟩ (Nat.le_of_ble_eq_true rfl) rfl dL_law_525 rfl ?_
  refine a_is6 hX' dL_law_528 rfl ?_
  refine a_al2 hX' dL_law_530 rfl ?_
  refine l_callI hX' ml_L_108 (ci_X12_thrown _  _) ht s_94 rfl rfl rfl ⟨by show 0 + 1 ≤ (aR X).frames; rw [hR.1]; exact Nat.le_of_ble_eq_true rfl, by show _ ≤ (aR X).locals; rw [hR.2.1]; exact Nat.le_of_ble_eq_true rfl⟩ ⟨by show aCe X + 1 ≤ (aR X).cells; rw [hR.2.2.1]; exact hc.1, by show aSl X + 6 ≤ (aR X).slots; rw [hR.2.2.2.1]; exact hc.2⟩ (Nat.le_of_ble_eq_true rfl) rfl dL_law_531 rfl ?_
  refine a_il5 hX' dL_law_534 rfl ?_
  refine l_icmp_eq_t hX' dL_law_536 (pc1 := 541) rfl rfl ?_
  refine a_il5 hX' dL_law_541 rfl ?_
  by_cases hk0 : k = 0
  · refine l_if_ne_f hX' dL_law_543 (tgt := 565) rfl hk0 rfl ?_
    refine a_al3 hX' dL_law_546 rfl ?_
    refine a_ic 0 hX' dL_law_547 (by decide) rfl ?_
    refine l_lald hX' dL_law_548 rfl ?_
    refine a_il6 hX' dL_law_549 rfl ?_
    have hv := hv hk0
    by_cases hb0 : bb = 0
    · refine l_if_eq_t hX' dL_law_551 (pc1 := 558) rfl hb0 ?_
      refine l_lconst (v := 0) hX' dL_law_558 rfl rfl ?_
      refine l_lcmpeq hX' dL_law_559 dL_law_560 (pc1 := 565) rfl (by rw [if_pos hb0] at hv; exact hv) ?_
      refine a_goto hX' dL_law_565 (pc1 := 1898) rfl ?_
      exact a_sub hK (ls_s (ls_s (ls_s (ls_s (ls_s (ls_n (ls_n ls_0)))))))
    · refine l_if_eq_f hX' dL_law_551 (tgt := 558) rfl hb0 rfl ?_
      refine l_lconst (v := 1) hX' dL_law_554 rfl rfl ?_
      refine a_goto hX' dL_law_555 (pc1 := 559) rfl ?_
      refine l_lcmpeq hX' dL_law_559 dL_law_560 (pc1 := 565) rfl (by rw [if_neg hb0] at hv; exact hv) ?_
      refine a_goto hX' dL_law_565 (pc1 := 1898) rfl ?_
      exact a_sub hK (ls_s (ls_s (ls_s (ls_s (ls_s (ls_n (ls_n ls_0)))))))
  · refine l_if_ne_t hX' dL_law_543 (pc1 := 565) rfl hk0 ?_
    refine a_goto hX' dL_law_565 (pc1 := 1898) rfl ?_
    exact a_sub hK (ls_s (ls_s (ls_s (ls_s (ls_s (ls_n (ls_n ls_0)))))))

set_option maxRecDepth 100000 in
set_option maxHeartbeats 2000000 in
theorem lc_5 {X : AX} {L b i : Nat} {xs : Nat → Int32} {σ : Mem} {Inv : Mem → Prop} (hX : CX X code 7 RL) (hR : LR X) (hI : LI X L b xs) (hi : i + 8 ≤ L) (hc : aCe X + 1 ≤ 1178 ∧ aSl X + 6 ≤ 10586) (hO : OP_range Inv) (hJ : Inv σ) (K : ∀ (τ' : Nat → Int64) (ce sl : Nat) (σ3 : Mem), Inv σ3 → ce ≤ aCe X + 1 → sl ≤ aSl X + 6 → LW (lX X τ' ce sl) 1898 [some (.ref 115), some (.ref 0), some (.ref 94), some (.ref 114), some (.int (nI i)), none, none] [] σ3) : LW X 568 [some (.ref 115), some (.ref 0), some (.ref 94), some (.ref 114), some (.int (nI i)), none, none] [] σ := by
  obtain ⟨k, τ', σ1, bb, m2, m3, hw, hm, ht, hv, hJ3⟩ := hO (xs (i + 1)) (xs (i + 2)) (xs (i + 3)) (xs (i + 4)) (xs (i + 5)) σ (gt (aG X)) hJ
  have hK := K τ' (aCe X + 1) (aSl X + 6) m3 hJ3 (Nat.le_refl _) (Nat.le_refl _)
  refine a_al1 hX dL_law_568 rfl ?_
  refine a_al0 hX dL_law_569 rfl ?_
  refine a_il4 hX dL_law_570 rfl ?_
  refine a_ic 1 hX dL_law_572 (by decide) rfl ?_
  refine a_iadd hX dL_law_573 rfl ?_
  refine l_sld hI hX (c := 1) (by decide) hi (by decide) dL_law_574 rfl ?_
  refine a_al0 hX dL_law_575 rfl ?_
  refine a_il4 hX dL_law_576 rfl ?_
  refine a_ic 2 hX dL_law_578 (by decide) rfl ?_
  refine a_iadd hX dL_law_579 rfl ?_
  refine l_sld hI hX (c := 2) (by decide) hi (by decide) dL_law_580 rfl ?_
  refine a_al0 hX dL_law_581 rfl ?_
  refine a_il4 hX dL_law_582 rfl ?_
  refine a_ic 3 hX dL_law_584 (by decide) rfl ?_
  refine a_iadd hX dL_law_585 rfl ?_
  refine l_sld hI hX (c := 3) (by decide) hi (by decide) dL_law_586 rfl ?_
  refine a_al0 hX dL_law_587 rfl ?_
  refine a_il4 hX dL_law_588 rfl ?_
  refine a_ic 4 hX dL_law_590 (by decide) rfl ?_
  refine a_iadd hX dL_law_591 rfl ?_
  refine l_sld hI hX (c := 4) (by decide) hi (by decide) dL_law_592 rfl ?_
  refine a_al0 hX dL_law_593 rfl ?_
  refine a_il4 hX dL_law_594 rfl ?_
  refine a_ic 5 hX dL_law_596 (by decide) rfl ?_
  refine a_iadd hX dL_law_597 rfl ?_
  refine l_sld hI hX (c := 5) (by decide) hi (by decide) dL_law_598 rfl ?_
  refine a_al3 hX dL_law_599 rfl ?_
  refine l_wrap hX hR.2.2.2.2.1 hR.2.2.2.2.2.1 mlw_L_range (cw_range _ hR.2.2.2.2.2.2 _ _ _ _ _ _) hw rfl rfl ⟨by rw [hR.1]; exact Nat.le_of_ble_eq_true rfl, by rw [hR.2.1]; exact Nat.le_of_ble_eq_true rfl⟩ ⟨by rw [hR.2.2.1]; exact hc.1, by rw [hR.2.2.2.1]; exact hc.2⟩ (Nat.le_of_ble_eq_true rfl) rfl dL_law_600 rfl ?_
  have hX' : CX (lX X τ' (aCe X + 1) (aSl X + 6)) code 7 RL := hX.l
  have hI' : LI (lX X τ' (aCe X + 1) (aSl X + 6)) L b xs := hI.l
  refine a_is5 hX' dL_law_603 rfl ?_
  refine a_al2 hX' dL_law_605 rfl ?_
  refine a_al0 hX' dL_law_606 rfl ?_
  refine a_il4 hX' dL_law_607 rfl ?_
  refine a_ic 1 hX' dL_law_609 (by decide) rfl ?_
  refine a_iadd hX' dL_law_610 rfl ?_
  refine l_sld hI' hX' (c := 1) (by decide) hi (by decide) dL_law_611 rfl ?_
  refine a_al0 hX' dL_law_612 rfl ?_
  refine a_il4 hX' dL_law_613 rfl ?_
  refine a_ic 2 hX' dL_law_615 (by decide) rfl ?_
  refine a_iadd hX' dL_law_616 rfl ?_
  refine l_sld hI' hX' (c := 2) (by decide) hi (by decide) dL_law_617 rfl ?_
  refine a_al0 hX' dL_law_618 rfl ?_
  refine a_il4 hX' dL_law_619 rfl ?_
  refine a_ic 3 hX' dL_law_621 (by decide) rfl ?_
  refine a_iadd hX' dL_law_622 rfl ?_
  refine l_sld hI' hX' (c := 3) (by decide) hi (by decide) dL_law_623 rfl ?_
  refine a_al0 hX' dL_law_624 rfl ?_
  refine a_il4 hX' dL_law_625 rfl ?_
  refine a_ic 4 hX' dL_law_627 (by decide) rfl ?_
  refine a_iadd hX' dL_law_628 rfl ?_
  refine l_sld hI' hX' (c := 4) (by decide) hi (by decide) dL_law_629 rfl ?_
  refine a_al0 hX' dL_law_630 rfl ?_
  refine a_il4 hX' dL_law_631 rfl ?_
  refine a_ic 5 hX' dL_law_633 (by decide) rfl ?_
  refine a_iadd hX' dL_law_634 rfl ?_
  refine l_sld hI' hX' (c := 5) (by decide) hi (by decide) dL_law_635 rfl ?_
  refine l_callI hX' ml_L_129 (ci_X12_range _ _ _ _ _ _ _) hm s_94 rfl rfl rfl ⟨by show 4 + 1 ≤ (aR X).frames; rw [hR.1]; exact Nat.le_of_ble_eq_true rfl, by show _ ≤ (aR X).locals; rw [hR.2.1]; exact Nat.le_of_ble_eq_true rfl⟩ ⟨by show aCe X + 1 ≤ (aR X).cells; rw [hR.2.2.1]; exact hc.1, by show aSl X + 6 ≤ (aR X).slots; rw [hR.2.2.2.1]; exact hc.2⟩ (Nat.le_of_ble_eq_true rfl) rfl dL_law_636 rfl ?_
  refine a_is6 hX' dL_law_639 rfl ?_
  refine a_al2 hX' dL_law_641 rfl ?_
  refine l_callI hX' ml_L_108 (ci_X12_thrown _  _) ht s_94 rfl rfl rfl ⟨by show 0 + 1 ≤ (aR X).frames; rw [hR.1]; exact Nat.le_of_ble_eq_true rfl, by show _ ≤ (aR X).locals; rw [hR.2.1]; exact Nat.le_of_ble_eq_true rfl⟩ ⟨by show aCe X + 1 ≤ (aR X).cells; rw [hR.2.2.1]; exact hc.1, by show aSl X + 6 ≤ (aR X).slots; rw [hR.2.2.2.1]; exact hc.2⟩ (Nat.le_of_ble_eq_true rfl) rfl dL_law_642 rfl ?_
  refine a_il5 hX' dL_law_645 rfl ?_
  refine l_icmp_eq_t hX' dL_law_647 (pc1 := 652) rfl rfl ?_
  refine a_il5 hX' dL_law_652 rfl ?_
  by_cases hk0 : k = 0
  · refine l_if_ne_f hX' dL_law_654 (tgt := 669) rfl hk0 rfl ?_
    refine a_al3 hX' dL_law_657 rfl ?_
    refine a_ic 0 hX' dL_law_658 (by decide) rfl ?_
    refine l_lald hX' dL_law_659 rfl ?_
    refine a_il6 hX' dL_law_660 rfl ?_
    refine l_i2l hX' dL_law_662 rfl ?_
    refine l_lcmpeq hX' dL_law_663 dL_law_664 (pc1 := 669) rfl (hv hk0) ?_
    refine a_goto hX' dL_law_669 (pc1 := 1898) rfl ?_
    exact a_sub hK (ls_s (ls_s (ls_s (ls_s (ls_s (ls_n (ls_n ls_0)))))))
  · refine l_if_ne_t hX' dL_law_654 (pc1 := 669) rfl hk0 ?_
    refine a_goto hX' dL_law_669 (pc1 := 1898) rfl ?_
    exact a_sub hK (ls_s (ls_s (ls_s (ls_s (ls_s (ls_n (ls_n ls_0)))))))

set_option maxRecDepth 100000 in
set_option maxHeartbeats 2000000 in
theorem lc_6 {X : AX} {L b i : Nat} {xs : Nat → Int32} {σ : Mem} {Inv : Mem → Prop} (hX : CX X code 7 RL) (hR : LR X) (hI : LI X L b xs) (hi : i + 8 ≤ L) (hc : aCe X + 1 ≤ 1178 ∧ aSl X + 6 ≤ 10586) (hO : OP_join Inv) (hJ : Inv σ) (K : ∀ (τ' : Nat → Int64) (ce sl : Nat) (σ3 : Mem), Inv σ3 → ce ≤ aCe X + 1 → sl ≤ aSl X + 6 → LW (lX X τ' ce sl) 1898 [some (.ref 115), some (.ref 0), some (.ref 94), some (.ref 114), some (.int (nI i)), none, none] [] σ3) : LW X 672 [some (.ref 115), some (.ref 0), some (.ref 94), some (.ref 114), some (.int (nI i)), none, none] [] σ := by
  obtain ⟨k, τ', σ1, bb, m2, m3, hw, hm, ht, hv, hJ3⟩ := hO (xs (i + 1)) (xs (i + 2)) (xs (i + 3)) σ (gt (aG X)) hJ
  have hK := K τ' (aCe X + 1) (aSl X + 6) m3 hJ3 (Nat.le_refl _) (Nat.le_refl _)
  refine a_al1 hX dL_law_672 rfl ?_
  refine a_al0 hX dL_law_673 rfl ?_
  refine a_il4 hX dL_law_674 rfl ?_
  refine a_ic 1 hX dL_law_676 (by decide) rfl ?_
  refine a_iadd hX dL_law_677 rfl ?_
  refine l_sld hI hX (c := 1) (by decide) hi (by decide) dL_law_678 rfl ?_
  refine a_al0 hX dL_law_679 rfl ?_
  refine a_il4 hX dL_law_680 rfl ?_
  refine a_ic 2 hX dL_law_682 (by decide) rfl ?_
  refine a_iadd hX dL_law_683 rfl ?_
  refine l_sld hI hX (c := 2) (by decide) hi (by decide) dL_law_684 rfl ?_
  refine a_al0 hX dL_law_685 rfl ?_
  refine a_il4 hX dL_law_686 rfl ?_
  refine a_ic 3 hX dL_law_688 (by decide) rfl ?_
  refine a_iadd hX dL_law_689 rfl ?_
  refine l_sld hI hX (c := 3) (by decide) hi (by decide) dL_law_690 rfl ?_
  refine a_al3 hX dL_law_691 rfl ?_
  refine l_wrap hX hR.2.2.2.2.1 hR.2.2.2.2.2.1 mlw_L_join (cw_join _ hR.2.2.2.2.2.2 _ _ _ _) hw rfl rfl ⟨by rw [hR.1]; exact Nat.le_of_ble_eq_true rfl, by rw [hR.2.1]; exact Nat.le_of_ble_eq_true rfl⟩ ⟨by rw [hR.2.2.1]; exact hc.1, by rw [hR.2.2.2.1]; exact hc.2⟩ (Nat.le_of_ble_eq_true rfl) rfl dL_law_692 rfl ?_
  have hX' : CX (lX X τ' (aCe X + 1) (aSl X + 6)) code 7 RL := hX.l
  have hI' : LI (lX X τ' (aCe X + 1) (aSl X + 6)) L b xs := hI.l
  refine a_is5 hX' dL_law_695 rfl ?_
  refine a_al2 hX' dL_law_697 rfl ?_
  refine a_al0 hX' dL_law_698 rfl ?_
  refine a_il4 hX' dL_law_699 rfl ?_
  refine a_ic 1 hX' dL_law_701 (by decide) rfl ?_
  refine a_iadd hX' dL_law_702 rfl ?_
  refine l_sld hI' hX' (c := 1) (by decide) hi (by decide) dL_law_703 rfl ?_
  refine a_al0 hX' dL_law_704 rfl ?_
  refine a_il4 hX' dL_law_705 rfl ?_
  refine a_ic 2 hX' dL_law_707 (by decide) rfl ?_
  refine a_iadd hX' dL_law_708 rfl ?_
  refine l_sld hI' hX' (c := 2) (by decide) hi (by decide) dL_law_709 rfl ?_
  refine a_al0 hX' dL_law_710 rfl ?_
  refine a_il4 hX' dL_law_711 rfl ?_
  refine a_ic 3 hX' dL_law_713 (by decide) rfl ?_
  refine a_iadd hX' dL_law_714 rfl ?_
  refine l_sld hI' hX' (c := 3) (by decide) hi (by decide) dL_law_715 rfl ?_
  refine l_callI hX' ml_L_132 (ci_X12_join _ _ _ _ _) hm s_94 rfl rfl rfl ⟨by show 4 + 1 ≤ (aR X).frames; rw [hR.1]; exact Nat.le_of_ble_eq_true rfl, by show _ ≤ (aR X).locals; rw [hR.2.1]; exact Nat.le_of_ble_eq_true rfl⟩ ⟨by show aCe X + 1 ≤ (aR X).cells; rw [hR.2.2.1]; exact hc.1, by show aSl X + 6 ≤ (aR X).slots; rw [hR.2.2.2.1]; exact hc.2⟩ (Nat.le_of_ble_eq_true rfl) rfl dL_law_716 rfl ?_
  refine a_is6 hX' dL_law_719 rfl ?_
  refine a_al2 hX' dL_law_721 rfl ?_
  refine l_callI hX' ml_L_108 (ci_X12_thrown _  _) ht s_94 rfl rfl rfl ⟨by show 0 + 1 ≤ (aR X).frames; rw [hR.1]; exact Nat.le_of_ble_eq_true rfl, by show _ ≤ (aR X).locals; rw [hR.2.1]; exact Nat.le_of_ble_eq_true rfl⟩ ⟨by show aCe X + 1 ≤ (aR X).cells; rw [hR.2.2.1]; exact hc.1, by show aSl X + 6 ≤ (aR X).slots; rw [hR.2.2.2.1]; exact hc.2⟩ (Nat.le_of_ble_eq_true rfl) rfl dL_law_722 rfl ?_
  refine a_il5 hX' dL_law_725 rfl ?_
  refine l_icmp_eq_t hX' dL_law_727 (pc1 := 732) rfl rfl ?_
  refine a_il5 hX' dL_law_732 rfl ?_
  by_cases hk0 : k = 0
  · refine l_if_ne_f hX' dL_law_734 (tgt := 749) rfl hk0 rfl ?_
    refine a_al3 hX' dL_law_737 rfl ?_
    refine a_ic 0 hX' dL_law_738 (by decide) rfl ?_
    refine l_lald hX' dL_law_739 rfl ?_
    refine a_il6 hX' dL_law_740 rfl ?_
    refine l_i2l hX' dL_law_742 rfl ?_
    refine l_lcmpeq hX' dL_law_743 dL_law_744 (pc1 := 749) rfl (hv hk0) ?_
    refine a_goto hX' dL_law_749 (pc1 := 1898) rfl ?_
    exact a_sub hK (ls_s (ls_s (ls_s (ls_s (ls_s (ls_n (ls_n ls_0)))))))
  · refine l_if_ne_t hX' dL_law_734 (pc1 := 749) rfl hk0 ?_
    refine a_goto hX' dL_law_749 (pc1 := 1898) rfl ?_
    exact a_sub hK (ls_s (ls_s (ls_s (ls_s (ls_s (ls_n (ls_n ls_0)))))))

set_option maxRecDepth 100000 in
set_option maxHeartbeats 2000000 in
theorem lc_7 {X : AX} {L b i : Nat} {xs : Nat → Int32} {σ : Mem} {Inv : Mem → Prop} (hX : CX X code 7 RL) (hR : LR X) (hI : LI X L b xs) (hi : i + 8 ≤ L) (hc : aCe X + 1 ≤ 1178 ∧ aSl X + 6 ≤ 10586) (hO : OP_has Inv) (hJ : Inv σ) (K : ∀ (τ' : Nat → Int64) (ce sl : Nat) (σ3 : Mem), Inv σ3 → ce ≤ aCe X + 1 → sl ≤ aSl X + 6 → LW (lX X τ' ce sl) 1898 [some (.ref 115), some (.ref 0), some (.ref 94), some (.ref 114), some (.int (nI i)), none, none] [] σ3) : LW X 752 [some (.ref 115), some (.ref 0), some (.ref 94), some (.ref 114), some (.int (nI i)), none, none] [] σ := by
  obtain ⟨k, τ', σ1, bb, m2, m3, hw, hm, ht, hv, hJ3⟩ := hO (xs (i + 1)) (xs (i + 2)) σ (gt (aG X)) hJ
  have hK := K τ' (aCe X + 1) (aSl X + 6) m3 hJ3 (Nat.le_refl _) (Nat.le_refl _)
  refine a_al1 hX dL_law_752 rfl ?_
  refine a_al0 hX dL_law_753 rfl ?_
  refine a_il4 hX dL_law_754 rfl ?_
  refine a_ic 1 hX dL_law_756 (by decide) rfl ?_
  refine a_iadd hX dL_law_757 rfl ?_
  refine l_sld hI hX (c := 1) (by decide) hi (by decide) dL_law_758 rfl ?_
  refine a_al0 hX dL_law_759 rfl ?_
  refine a_il4 hX dL_law_760 rfl ?_
  refine a_ic 2 hX dL_law_762 (by decide) rfl ?_
  refine a_iadd hX dL_law_763 rfl ?_
  refine l_sld hI hX (c := 2) (by decide) hi (by decide) dL_law_764 rfl ?_
  refine a_al3 hX dL_law_765 rfl ?_
  refine l_wrap hX hR.2.2.2.2.1 hR.2.2.2.2.2.1 mlw_L_has (cw_has _ hR.2.2.2.2.2.2 _ _ _) hw rfl rfl ⟨by rw [hR.1]; exact Nat.le_of_ble_eq_true rfl, by rw [hR.2.1]; exact Nat.le_of_ble_eq_true rfl⟩ ⟨by rw [hR.2.2.1]; exact hc.1, by rw [hR.2.2.2.1]; exact hc.2⟩ (Nat.le_of_ble_eq_true rfl) rfl dL_law_766 rfl ?_
  have hX' : CX (lX X τ' (aCe X + 1) (aSl X + 6)) code 7 RL := hX.l
  have hI' : LI (lX X τ' (aCe X + 1) (aSl X + 6)) L b xs := hI.l
  refine a_is5 hX' dL_law_769 rfl ?_
  refine a_al2 hX' dL_law_771 rfl ?_
  refine a_al0 hX' dL_law_772 rfl ?_
  refine a_il4 hX' dL_law_773 rfl ?_
  refine a_ic 1 hX' dL_law_775 (by decide) rfl ?_
  refine a_iadd hX' dL_law_776 rfl ?_
  refine l_sld hI' hX' (c := 1) (by decide) hi (by decide) dL_law_777 rfl ?_
  refine a_al0 hX' dL_law_778 rfl ?_
  refine a_il4 hX' dL_law_779 rfl ?_
  refine a_ic 2 hX' dL_law_781 (by decide) rfl ?_
  refine a_iadd hX' dL_law_782 rfl ?_
  refine l_sld hI' hX' (c := 2) (by decide) hi (by decide) dL_law_783 rfl ?_
  refine l_callI hX' ml_L_135 (ci_X12_has _ _ _ _) hm s_94 rfl rfl rfl ⟨by show 2 + 1 ≤ (aR X).frames; rw [hR.1]; exact Nat.le_of_ble_eq_true rfl, by show _ ≤ (aR X).locals; rw [hR.2.1]; exact Nat.le_of_ble_eq_true rfl⟩ ⟨by show aCe X + 1 ≤ (aR X).cells; rw [hR.2.2.1]; exact hc.1, by show aSl X + 6 ≤ (aR X).slots; rw [hR.2.2.2.1]; exact hc.2⟩ (Nat.le_of_ble_eq_true rfl) rfl dL_law_784 rfl ?_
  refine a_is6 hX' dL_law_787 rfl ?_
  refine a_al2 hX' dL_law_789 rfl ?_
  refine l_callI hX' ml_L_108 (ci_X12_thrown _  _) ht s_94 rfl rfl rfl ⟨by show 0 + 1 ≤ (aR X).frames; rw [hR.1]; exact Nat.le_of_ble_eq_true rfl, by show _ ≤ (aR X).locals; rw [hR.2.1]; exact Nat.le_of_ble_eq_true rfl⟩ ⟨by show aCe X + 1 ≤ (aR X).cells; rw [hR.2.2.1]; exact hc.1, by show aSl X + 6 ≤ (aR X).slots; rw [hR.2.2.2.1]; exact hc.2⟩ (Nat.le_of_ble_eq_true rfl) rfl dL_law_790 rfl ?_
  refine a_il5 hX' dL_law_793 rfl ?_
  refine l_icmp_eq_t hX' dL_law_795 (pc1 := 800) rfl rfl ?_
  refine a_il5 hX' dL_law_800 rfl ?_
  by_cases hk0 : k = 0
  · refine l_if_ne_f hX' dL_law_802 (tgt := 824) rfl hk0 rfl ?_
    refine a_al3 hX' dL_law_805 rfl ?_
    refine a_ic 0 hX' dL_law_806 (by decide) rfl ?_
    refine l_lald hX' dL_law_807 rfl ?_
    refine a_il6 hX' dL_law_808 rfl ?_
    have hv := hv hk0
    by_cases hb0 : bb = 0
    · refine l_if_eq_t hX' dL_law_810 (pc1 := 817) rfl hb0 ?_
      refine l_lconst (v := 0) hX' dL_law_817 rfl rfl ?_
      refine l_lcmpeq hX' dL_law_818 dL_law_819 (pc1 := 824) rfl (by rw [if_pos hb0] at hv; exact hv) ?_
      refine a_goto hX' dL_law_824 (pc1 := 1898) rfl ?_
      exact a_sub hK (ls_s (ls_s (ls_s (ls_s (ls_s (ls_n (ls_n ls_0)))))))
    · refine l_if_eq_f hX' dL_law_810 (tgt := 817) rfl hb0 rfl ?_
      refine l_lconst (v := 1) hX' dL_law_813 rfl rfl ?_
      refine a_goto hX' dL_law_814 (pc1 := 818) rfl ?_
      refine l_lcmpeq hX' dL_law_818 dL_law_819 (pc1 := 824) rfl (by rw [if_neg hb0] at hv; exact hv) ?_
      refine a_goto hX' dL_law_824 (pc1 := 1898) rfl ?_
      exact a_sub hK (ls_s (ls_s (ls_s (ls_s (ls_s (ls_n (ls_n ls_0)))))))
  · refine l_if_ne_t hX' dL_law_802 (pc1 := 824) rfl hk0 ?_
    refine a_goto hX' dL_law_824 (pc1 := 1898) rfl ?_
    exact a_sub hK (ls_s (ls_s (ls_s (ls_s (ls_s (ls_n (ls_n ls_0)))))))

set_option maxRecDepth 100000 in
set_option maxHeartbeats 2000000 in
theorem lc_8 {X : AX} {L b i : Nat} {xs : Nat → Int32} {σ : Mem} {Inv : Mem → Prop} (hX : CX X code 7 RL) (hR : LR X) (hI : LI X L b xs) (hi : i + 8 ≤ L) (hc : aCe X + 1 ≤ 1178 ∧ aSl X + 6 ≤ 10586) (hO : OP_need Inv) (hJ : Inv σ) (K : ∀ (τ' : Nat → Int64) (ce sl : Nat) (σ3 : Mem), Inv σ3 → ce ≤ aCe X + 1 → sl ≤ aSl X + 6 → LW (lX X τ' ce sl) 1898 [some (.ref 115), some (.ref 0), some (.ref 94), some (.ref 114), some (.int (nI i)), none, none] [] σ3) : LW X 827 [some (.ref 115), some (.ref 0), some (.ref 94), some (.ref 114), some (.int (nI i)), none, none] [] σ := by
  obtain ⟨k, τ', σ1, bb, m2, m3, hw, hm, ht, hv, hJ3⟩ := hO (xs (i + 1)) (xs (i + 2)) (xs (i + 3)) (xs (i + 4)) (xs (i + 5)) (xs (i + 6)) (xs (i + 7)) σ (gt (aG X)) hJ
  have hK := K τ' (aCe X + 1) (aSl X + 6) m3 hJ3 (Nat.le_refl _) (Nat.le_refl _)
  refine a_al1 hX dL_law_827 rfl ?_
  refine a_al0 hX dL_law_828 rfl ?_
  refine a_il4 hX dL_law_829 rfl ?_
  refine a_ic 1 hX dL_law_831 (by decide) rfl ?_
  refine a_iadd hX dL_law_832 rfl ?_
  refine l_sld hI hX (c := 1) (by decide) hi (by decide) dL_law_833 rfl ?_
  refine a_al0 hX dL_law_834 rfl ?_
  refine a_il4 hX dL_law_835 rfl ?_
  refine a_ic 2 hX dL_law_837 (by decide) rfl ?_
  refine a_iadd hX dL_law_838 rfl ?_
  refine l_sld hI hX (c := 2) (by decide) hi (by decide) dL_law_839 rfl ?_
  refine a_al0 hX dL_law_840 rfl ?_
  refine a_il4 hX dL_law_841 rfl ?_
  refine a_ic 3 hX dL_law_843 (by decide) rfl ?_
  refine a_iadd hX dL_law_844 rfl ?_
  refine l_sld hI hX (c := 3) (by decide) hi (by decide) dL_law_845 rfl ?_
  refine a_al0 hX dL_law_846 rfl ?_
  refine a_il4 hX dL_law_847 rfl ?_
  refine a_ic 4 hX dL_law_849 (by decide) rfl ?_
  refine a_iadd hX dL_law_850 rfl ?_
  refine l_sld hI hX (c := 4) (by decide) hi (by decide) dL_law_851 rfl ?_
  refine a_al0 hX dL_law_852 rfl ?_
  refine a_il4 hX dL_law_853 rfl ?_
  refine a_ic 5 hX dL_law_855 (by decide) rfl ?_
  refine a_iadd hX dL_law_856 rfl ?_
  refine l_sld hI hX (c := 5) (by decide) hi (by decide) dL_law_857 rfl ?_
  refine a_al0 hX dL_law_858 rfl ?_
  refine a_il4 hX dL_law_859 rfl ?_
  refine a_bi 6 hX dL_law_861 (by decide) rfl ?_
  refine a_iadd hX dL_law_863 rfl ?_
  refine l_sld hI hX (c := 6) (by decide) hi (by decide) dL_law_864 rfl ?_
  refine a_al0 hX dL_law_865 rfl ?_
  refine a_il4 hX dL_law_866 rfl ?_
  refine a_bi 7 hX dL_law_868 (by decide) rfl ?_
  refine a_iadd hX dL_law_870 rfl ?_
  refine l_sld hI hX (c := 7) (by decide) hi (by decide) dL_law_871 rfl ?_
  refine a_al3 hX dL_law_872 rfl ?_
  refine l_wrap hX hR.2.2.2.2.1 hR.2.2.2.2.2.1 mlw_L_need (cw_need _ hR.2.2.2.2.2.2 _ _ _ _ _ _ _ _) hw rfl rfl ⟨by rw [hR.1]; exact Nat.le_of_ble_eq_true rfl, by rw [hR.2.1]; exact Nat.le_of_ble_eq_true rfl⟩ ⟨by rw [hR.2.2.1]; exact hc.1, by rw [hR.2.2.2.1]; exact hc.2⟩ (Nat.le_of_ble_eq_true rfl) rfl dL_law_873 rfl ?_
  have hX' : CX (lX X τ' (aCe X + 1) (aSl X + 6)) code 7 RL := hX.l
  have hI' : LI (lX X τ' (aCe X + 1) (aSl X + 6)) L b xs := hI.l
  refine a_is5 hX' dL_law_876 rfl ?_
  refine a_al2 hX' dL_law_878 rfl ?_
  refine a_al0 hX' dL_law_879 rfl ?_
  refine a_il4 hX' dL_law_880 rfl ?_
  refine a_ic 1 hX' dL_law_882 (by decide) rfl ?_
  refine a_iadd hX' dL_law_883 rfl ?_
  refine l_sld hI' hX' (c := 1) (by decide) hi (by decide) dL_law_884 rfl ?_
  refine a_al0 hX' dL_law_885 rfl ?_
  refine a_il4 hX' dL_law_886 rfl ?_
  refine a_ic 2 hX' dL_law_888 (by decide) rfl ?_
  refine a_iadd hX' dL_law_889 rfl ?_
  refine l_sld hI' hX' (c := 2) (by decide) hi (by decide) dL_law_890 rfl ?_
  refine a_al0 hX' dL_law_891 rfl ?_
  refine a_il4 hX' dL_law_892 rfl ?_
  refine a_ic 3 hX' dL_law_894 (by decide) rfl ?_
  refine a_iadd hX' dL_law_895 rfl ?_
  refine l_sld hI' hX' (c := 3) (by decide) hi (by decide) dL_law_896 rfl ?_
  refine a_al0 hX' dL_law_897 rfl ?_
  refine a_il4 hX' dL_law_898 rfl ?_
  refine a_ic 4 hX' dL_law_900 (by decide) rfl ?_
  refine a_iadd hX' dL_law_901 rfl ?_
  refine l_sld hI' hX' (c := 4) (by decide) hi (by decide) dL_law_902 rfl ?_
  refine a_al0 hX' dL_law_903 rfl ?_
  refine a_il4 hX' dL_law_904 rfl ?_
  refine a_ic 5 hX' dL_law_906 (by decide) rfl ?_
  refine a_iadd hX' dL_law_907 rfl ?_
  refine l_sld hI' hX' (c := 5) (by decide) hi (by decide) dL_law_908 rfl ?_
  refine a_al0 hX' dL_law_909 rfl ?_
  refine a_il4 hX' dL_law_910 rfl ?_
  refine a_bi 6 hX' dL_law_912 (by decide) rfl ?_
  refine a_iadd hX' dL_law_914 rfl ?_
  refine l_sld hI' hX' (c := 6) (by decide) hi (by decide) dL_law_915 rfl ?_
  refine a_al0 hX' dL_law_916 rfl ?_
  refine a_il4 hX' dL_law_917 rfl ?_
  refine a_bi 7 hX' dL_law_919 (by decide) rfl ?_
  refine a_iadd hX' dL_law_921 rfl ?_
  refine l_sld hI' hX' (c := 7) (by decide) hi (by decide) dL_law_922 rfl ?_
  refine l_callI hX' ml_L_139 (ci_X12_need _ _ _ _ _ _ _ _ _) hm s_94 rfl rfl rfl ⟨by show 2 + 1 ≤ (aR X).frames; rw [hR.1]; exact Nat.le_of_ble_eq_true rfl, by show _ ≤ (aR X).locals; rw [hR.2.1]; exact Nat.le_of_ble_eq_true rfl⟩ ⟨by show aCe X + 1 ≤ (aR X).cells; rw [hR.2.2.1]; exact hc.1, by show aSl X + 6 ≤ (aR X).slots; rw [hR.2.2.2.1]; exact hc.2⟩ (Nat.le_of_ble_eq_true rfl) rfl dL_law_923 rfl ?_
  refine a_is6 hX' dL_law_926 rfl ?_
  refine a_al2 hX' dL_law_928 rfl ?_
  refine l_callI hX' ml_L_108 (ci_X12_thrown _  _) ht s_94 rfl rfl rfl ⟨by show 0 + 1 ≤ (aR X).frames; rw [hR.1]; exact Nat.le_of_ble_eq_true rfl, by show _ ≤ (aR X).locals; rw [hR.2.1]; exact Nat.le_of_ble_eq_true rfl⟩ ⟨by show aCe X + 1 ≤ (aR X).cells; rw [hR.2.2.1]; exact hc.1, by show aSl X + 6 ≤ (aR X).slots; rw [hR.2.2.2.1]; exact hc.2⟩ (Nat.le_of_ble_eq_true rfl) rfl dL_law_929 rfl ?_
  refine a_il5 hX' dL_law_932 rfl ?_
  refine l_icmp_eq_t hX' dL_law_934 (pc1 := 939) rfl rfl ?_
  refine a_il5 hX' dL_law_939 rfl ?_
  by_cases hk0 : k = 0
  · refine l_if_ne_f hX' dL_law_941 (tgt := 956) rfl hk0 rfl ?_
    refine a_al3 hX' dL_law_944 rfl ?_
    refine a_ic 0 hX' dL_law_945 (by decide) rfl ?_
    refine l_lald hX' dL_law_946 rfl ?_
    refine a_il6 hX' dL_law_947 rfl ?_
    refine l_i2l hX' dL_law_949 rfl ?_
    refine l_lcmpeq hX' dL_law_950 dL_law_951 (pc1 := 956) rfl (hv hk0) ?_
    refine a_goto hX' dL_law_956 (pc1 := 1898) rfl ?_
    exact a_sub hK (ls_s (ls_s (ls_s (ls_s (ls_s (ls_n (ls_n ls_0)))))))
  · refine l_if_ne_t hX' dL_law_941 (pc1 := 956) rfl hk0 ?_
    refine a_goto hX' dL_law_956 (pc1 := 1898) rfl ?_
    exact a_sub hK (ls_s (ls_s (ls_s (ls_s (ls_s (ls_n (ls_n ls_0)))))))

set_option maxRecDepth 100000 in
set_option maxHeartbeats 2000000 in
theorem lc_9 {X : AX} {L b i : Nat} {xs : Nat → Int32} {σ : Mem} {Inv : Mem → Prop} (hX : CX X code 7 RL) (hR : LR X) (hI : LI X L b xs) (hi : i + 8 ≤ L) (hc : aCe X + 1 ≤ 1178 ∧ aSl X + 6 ≤ 10586) (hO : OP_demand Inv) (hJ : Inv σ) (K : ∀ (τ' : Nat → Int64) (ce sl : Nat) (σ3 : Mem), Inv σ3 → ce ≤ aCe X + 1 → sl ≤ aSl X + 6 → LW (lX X τ' ce sl) 1898 [some (.ref 115), some (.ref 0), some (.ref 94), some (.ref 114), some (.int (nI i)), none, none] [] σ3) : LW X 959 [some (.ref 115), some (.ref 0), some (.ref 94), some (.ref 114), some (.int (nI i)), none, none] [] σ := by
  obtain ⟨k, τ', σ1, bb, m2, m3, hw, hm, ht, hv, hJ3⟩ := hO (xs (i + 1)) (xs (i + 2)) (xs (i + 3)) (xs (i + 4)) σ (gt (aG X)) hJ
  have hK := K τ' (aCe X + 1) (aSl X + 6) m3 hJ3 (Nat.le_refl _) (Nat.le_refl _)
  refine a_al1 hX dL_law_959 rfl ?_
  refine a_al0 hX dL_law_960 rfl ?_
  refine a_il4 hX dL_law_961 rfl ?_
  refine a_ic 1 hX dL_law_963 (by decide) rfl ?_
  refine a_iadd hX dL_law_964 rfl ?_
  refine l_sld hI hX (c := 1) (by decide) hi (by decide) dL_law_965 rfl ?_
  refine a_al0 hX dL_law_966 rfl ?_
  refine a_il4 hX dL_law_967 rfl ?_
  refine a_ic 2 hX dL_law_969 (by decide) rfl ?_
  refine a_iadd hX dL_law_970 rfl ?_
  refine l_sld hI hX (c := 2) (by decide) hi (by decide) dL_law_971 rfl ?_
  refine a_al0 hX dL_law_972 rfl ?_
  refine a_il4 hX dL_law_973 rfl ?_
  refine a_ic 3 hX dL_law_975 (by decide) rfl ?_
  refine a_iadd hX dL_law_976 rfl ?_
  refine l_sld hI hX (c := 3) (by decide) hi (by decide) dL_law_977 rfl ?_
  refine a_al0 hX dL_law_978 rfl ?_
  refine a_il4 hX dL_law_979 rfl ?_
  refine a_ic 4 hX dL_law_981 (by decide) rfl ?_
  refine a_iadd hX dL_law_982 rfl ?_
  refine l_sld hI hX (c := 4) (by decide) hi (by decide) dL_law_983 rfl ?_
  refine a_al3 hX dL_law_984 rfl ?_
  refine l_wrap hX hR.2.2.2.2.1 hR.2.2.2.2.2.1 mlw_L_demand (cw_demand _ hR.2.2.2.2.2.2 _ _ _ _ _) hw rfl rfl ⟨by rw [hR.1]; exact Nat.le_of_ble_eq_true rfl, by rw [hR.2.1]; exact Nat.le_of_ble_eq_true rfl⟩ ⟨by rw [hR.2.2.1]; exact hc.1, by rw [hR.2.2.2.1]; exact hc.2⟩ (Nat.le_of_ble_eq_true rfl) rfl dL_law_985 rfl ?_
  have hX' : CX (lX X τ' (aCe X + 1) (aSl X + 6)) code 7 RL := hX.l
  have hI' : LI (lX X τ' (aCe X + 1) (aSl X + 6)) L b xs := hI.l
  refine a_is5 hX' dL_law_988 rfl ?_
  refine a_al2 hX' dL_law_990 rfl ?_
  refine a_al0 hX' dL_law_991 rfl ?_
  refine a_il4 hX' dL_law_992 rfl ?_
  refine a_ic 1 hX' dL_law_994 (by decide) rfl ?_
  refine a_iadd hX' dL_law_995 rfl ?_
  refine l_sld hI' hX' (c := 1) (by decide) hi (by decide) dL_law_996 rfl ?_
  refine a_al0 hX' dL_law_997 rfl ?_
  refine a_il4 hX' dL_law_998 rfl ?_
  refine a_ic 2 hX' dL_law_1000 (by decide) rfl ?_
  refine a_iadd hX' dL_law_1001 rfl ?_
  refine l_sld hI' hX' (c := 2) (by decide) hi (by decide) dL_law_1002 rfl ?_
  refine a_al0 hX' dL_law_1003 rfl ?_
  refine a_il4 hX' dL_law_1004 rfl ?_
  refine a_ic 3 hX' dL_law_1006 (by decide) rfl ?_
  refine a_iadd hX' dL_law_1007 rfl ?_
  refine l_sld hI' hX' (c := 3) (by decide) hi (by decide) dL_law_1008 rfl ?_
  refine a_al0 hX' dL_law_1009 rfl ?_
  refine a_il4 hX' dL_law_1010 rfl ?_
  refine a_ic 4 hX' dL_law_1012 (by decide) rfl ?_
  refine a_iadd hX' dL_law_1013 rfl ?_
  refine l_sld hI' hX' (c := 4) (by decide) hi (by decide) dL_law_1014 rfl ?_
  refine l_callI hX' ml_L_143 (ci_X12_demand _ _ _ _ _ _) hm s_94 rfl rfl rfl ⟨by show 2 + 1 ≤ (aR X).frames; rw [hR.1]; exact Nat.le_of_ble_eq_true rfl, by show _ ≤ (aR X).locals; rw [hR.2.1]; exact Nat.le_of_ble_eq_true rfl⟩ ⟨by show aCe X + 1 ≤ (aR X).cells; rw [hR.2.2.1]; exact hc.1, by show aSl X + 6 ≤ (aR X).slots; rw [hR.2.2.2.1]; exact hc.2⟩ (Nat.le_of_ble_eq_true rfl) rfl dL_law_1015 rfl ?_
  refine a_is6 hX' dL_law_1018 rfl ?_
  refine a_al2 hX' dL_law_1020 rfl ?_
  refine l_callI hX' ml_L_108 (ci_X12_thrown _  _) ht s_94 rfl rfl rfl ⟨by show 0 + 1 ≤ (aR X).frames; rw [hR.1]; exact Nat.le_of_ble_eq_true rfl, by show _ ≤ (aR X).locals; rw [hR.2.1]; exact Nat.le_of_ble_eq_true rfl⟩ ⟨by show aCe X + 1 ≤ (aR X).cells; rw [hR.2.2.1]; exact hc.1, by show aSl X + 6 ≤ (aR X).slots; rw [hR.2.2.2.1]; exact hc.2⟩ (Nat.le_of_ble_eq_true rfl) rfl dL_law_1021 rfl ?_
  refine a_il5 hX' dL_law_1024 rfl ?_
  refine l_icmp_eq_t hX' dL_law_1026 (pc1 := 1031) rfl rfl ?_
  refine a_il5 hX' dL_law_1031 rfl ?_
  by_cases hk0 : k = 0
  · refine l_if_ne_f hX' dL_law_1033 (tgt := 1048) rfl hk0 rfl ?_
    refine a_al3 hX' dL_law_1036 rfl ?_
    refine a_ic 0 hX' dL_law_1037 (by decide) rfl ?_
    refine l_lald hX' dL_law_1038 rfl ?_
    refine a_il6 hX' dL_law_1039 rfl ?_
    refine l_i2l hX' dL_law_1041 rfl ?_
    refine l_lcmpeq hX' dL_law_1042 dL_law_1043 (pc1 := 1048) rfl (hv hk0) ?_
    refine a_goto hX' dL_law_1048 (pc1 := 1898) rfl ?_
    exact a_sub hK (ls_s (ls_s (ls_s (ls_s (ls_s (ls_n (ls_n ls_0)))))))
  · refine l_if_ne_t hX' dL_law_1033 (pc1 := 1048) rfl hk0 ?_
    refine a_goto hX' dL_law_1048 (pc1 := 1898) rfl ?_
    exact a_sub hK (ls_s (ls_s (ls_s (ls_s (ls_s (ls_n (ls_n ls_0)))))))

set_option maxRecDepth 100000 in
set_option maxHeartbeats 2000000 in
theorem lc_10 {X : AX} {L b i : Nat} {xs : Nat → Int32} {σ : Mem} {Inv : Mem → Prop} (hX : CX X code 7 RL) (hR : LR X) (hI : LI X L b xs) (hi : i + 8 ≤ L) (hc : aCe X + 1 ≤ 1178 ∧ aSl X + 6 ≤ 10586) (hO : OP_advise Inv) (hJ : Inv σ) (K : ∀ (τ' : Nat → Int64) (ce sl : Nat) (σ3 : Mem), Inv σ3 → ce ≤ aCe X + 1 → sl ≤ aSl X + 6 → LW (lX X τ' ce sl) 1898 [some (.ref 115), some (.ref 0), some (.ref 94), some (.ref 114), some (.int (nI i)), none, none] [] σ3) : LW X 1051 [some (.ref 115), some (.ref 0), some (.ref 94), some (.ref 114), some (.int (nI i)), none, none] [] σ := by
  obtain ⟨k, τ', σ1, bb, m2, m3, hw, hm, ht, hv, hJ3⟩ := hO (xs (i + 1)) (xs (i + 2)) σ (gt (aG X)) hJ
  have hK := K τ' (aCe X + 1) (aSl X + 6) m3 hJ3 (Nat.le_refl _) (Nat.le_refl _)
  refine a_al1 hX dL_law_1051 rfl ?_
  refine a_al0 hX dL_law_1052 rfl ?_
  refine a_il4 hX dL_law_1053 rfl ?_
  refine a_ic 1 hX dL_law_1055 (by decide) rfl ?_
  refine a_iadd hX dL_law_1056 rfl ?_
  refine l_sld hI hX (c := 1) (by decide) hi (by decide) dL_law_1057 rfl ?_
  refine a_al0 hX dL_law_1058 rfl ?_
  refine a_il4 hX dL_law_1059 rfl ?_
  refine a_ic 2 hX dL_law_1061 (by decide) rfl ?_
  refine a_iadd hX dL_law_1062 rfl ?_
  refine l_sld hI hX (c := 2) (by decide) hi (by decide) dL_law_1063 rfl ?_
  refine a_al3 hX dL_law_1064 rfl ?_
  refine l_wrap hX hR.2.2.2.2.1 hR.2.2.2.2.2.1 mlw_L_advise (cw_advise _ hR.2.2.2.2.2.2 _ _ _) hw rfl rfl ⟨by rw [hR.1]; exact Nat.le_of_ble_eq_true rfl, by rw [hR.2.1]; exact Nat.le_of_ble_eq_true rfl⟩ ⟨by rw [hR.2.2.1]; exact hc.1, by rw [hR.2.2.2.1]; exact hc.2⟩ (Nat.le_of_ble_eq_true rfl) rfl dL_law_1065 rfl ?_
  have hX' : CX (lX X τ' (aCe X + 1) (aSl X + 6)) code 7 RL := hX.l
  have hI' : LI (lX X τ' (aCe X + 1) (aSl X + 6)) L b xs := hI.l
  refine a_is5 hX' dL_law_1068 rfl ?_
  refine a_al2 hX' dL_law_1070 rfl ?_
  refine a_al0 hX' dL_law_1071 rfl ?_
  refine a_il4 hX' dL_law_1072 rfl ?_
  refine a_ic 1 hX' dL_law_1074 (by decide) rfl ?_
  refine a_iadd hX' dL_law_1075 rfl ?_
  refine l_sld hI' hX' (c := 1) (by decide) hi (by decide) dL_law_1076 rfl ?_
  refine a_al0 hX' dL_law_1077 rfl ?_
  refine a_il4 hX' dL_law_1078 rfl ?_
  refine a_ic 2 hX' dL_law_1080 (by decide) rfl ?_
  refine a_iadd hX' dL_law_1081 rfl ?_
  refine l_sld hI' hX' (c := 2) (by decide) hi (by decide) dL_law_1082 rfl ?_
  refine l_callI hX' ml_L_146 (ci_X12_advise _ _ _ _) hm s_94 rfl rfl rfl ⟨by show 2 + 1 ≤ (aR X).frames; rw [hR.1]; exact Nat.le_of_ble_eq_true rfl, by show _ ≤ (aR X).locals; rw [hR.2.1]; exact Nat.le_of_ble_eq_true rfl⟩ ⟨by show aCe X + 1 ≤ (aR X).cells; rw [hR.2.2.1]; exact hc.1, by show aSl X + 6 ≤ (aR X).slots; rw [hR.2.2.2.1]; exact hc.2⟩ (Nat.le_of_ble_eq_true rfl) rfl dL_law_1083 rfl ?_
  refine a_is6 hX' dL_law_1086 rfl ?_
  refine a_al2 hX' dL_law_1088 rfl ?_
  refine l_callI hX' ml_L_108 (ci_X12_thrown _  _) ht s_94 rfl rfl rfl ⟨by show 0 + 1 ≤ (aR X).frames; rw [hR.1]; exact Nat.le_of_ble_eq_true rfl, by show _ ≤ (aR X).locals; rw [hR.2.1]; exact Nat.le_of_ble_eq_true rfl⟩ ⟨by show aCe X + 1 ≤ (aR X).cells; rw [hR.2.2.1]; exact hc.1, by show aSl X + 6 ≤ (aR X).slots; rw [hR.2.2.2.1]; exact hc.2⟩ (Nat.le_of_ble_eq_true rfl) rfl dL_law_1089 rfl ?_
  refine a_il5 hX' dL_law_1092 rfl ?_
  refine l_icmp_eq_t hX' dL_law_1094 (pc1 := 1099) rfl rfl ?_
  refine a_il5 hX' dL_law_1099 rfl ?_
  by_cases hk0 : k = 0
  · refine l_if_ne_f hX' dL_law_1101 (tgt := 1116) rfl hk0 rfl ?_
    refine a_al3 hX' dL_law_1104 rfl ?_
    refine a_ic 0 hX' dL_law_1105 (by decide) rfl ?_
    refine l_lald hX' dL_law_1106 rfl ?_
    refine a_il6 hX' dL_law_1107 rfl ?_
    refine l_i2l hX' dL_law_1109 rfl ?_
    refine l_lcmpeq hX' dL_law_1110 dL_law_1111 (pc1 := 1116) rfl (hv hk0) ?_
    refine a_goto hX' dL_law_1116 (pc1 := 1898) rfl ?_
    exact a_sub hK (ls_s (ls_s (ls_s (ls_s (ls_s (ls_n (ls_n ls_0)))))))
  · refine l_if_ne_t hX' dL_law_1101 (pc1 := 1116) rfl hk0 ?_
    refine a_goto hX' dL_law_1116 (pc1 := 1898) rfl ?_
    exact a_sub hK (ls_s (ls_s (ls_s (ls_s (ls_s (ls_n (ls_n ls_0)))))))

set_option maxRecDepth 100000 in
set_option maxHeartbeats 2000000 in
theorem lc_11 {X : AX} {L b i : Nat} {xs : Nat → Int32} {σ : Mem} {Inv : Mem → Prop} (hX : CX X code 7 RL) (hR : LR X) (hI : LI X L b xs) (hi : i + 8 ≤ L) (hc : aCe X + 1 ≤ 1178 ∧ aSl X + 6 ≤ 10586) (hO : OP_mending Inv) (hJ : Inv σ) (K : ∀ (τ' : Nat → Int64) (ce sl : Nat) (σ3 : Mem), Inv σ3 → ce ≤ aCe X + 1 → sl ≤ aSl X + 6 → LW (lX X τ' ce sl) 1898 [some (.ref 115), some (.ref 0), some (.ref 94), some (.ref 114), some (.int (nI i)), none, none] [] σ3) : LW X 1119 [some (.ref 115), some (.ref 0), some (.ref 94), some (.ref 114), some (.int (nI i)), none, none] [] σ := by
  obtain ⟨k, τ', σ1, bb, m2, m3, hw, hm, ht, hv, hJ3⟩ := hO (xs (i + 1)) σ (gt (aG X)) hJ
  have hK := K τ' (aCe X + 1) (aSl X + 6) m3 hJ3 (Nat.le_refl _) (Nat.le_refl _)
  refine a_al1 hX dL_law_1119 rfl ?_
  refine a_al0 hX dL_law_1120 rfl ?_
  refine a_il4 hX dL_law_1121 rfl ?_
  refine a_ic 1 hX dL_law_1123 (by decide) rfl ?_
  refine a_iadd hX dL_law_1124 rfl ?_
  refine l_sld hI hX (c := 1) (by decide) hi (by decide) dL_law_1125 rfl ?_
  refine a_al3 hX dL_law_1126 rfl ?_
  refine l_wrap hX hR.2.2.2.2.1 hR.2.2.2.2.2.1 mlw_L_mending (cw_mending _ hR.2.2.2.2.2.2 _ _) hw rfl rfl ⟨by rw [hR.1]; exact Nat.le_of_ble_eq_true rfl, by rw [hR.2.1]; exact Nat.le_of_ble_eq_true rfl⟩ ⟨by rw [hR.2.2.1]; exact hc.1, by rw [hR.2.2.2.1]; exact hc.2⟩ (Nat.le_of_ble_eq_true rfl) rfl dL_law_1127 rfl ?_
  have hX' : CX (lX X τ' (aCe X + 1) (aSl X + 6)) code 7 RL := hX.l
  have hI' : LI (lX X τ' (aCe X + 1) (aSl X + 6)) L b xs := hI.l
  refine a_is5 hX' dL_law_1130 rfl ?_
  refine a_al2 hX' dL_law_1132 rfl ?_
  refine a_al0 hX' dL_law_1133 rfl ?_
  refine a_il4 hX' dL_law_1134 rfl ?_
  refine a_ic 1 hX' dL_law_1136 (by decide) rfl ?_
  refine a_iadd hX' dL_law_1137 rfl ?_
  refine l_sld hI' hX' (c := 1) (by decide) hi (by decide) dL_law_1138 rfl ?_
  refine l_callI hX' ml_L_149 (ci_X12_mending _ _ _) hm s_94 rfl rfl rfl ⟨by show 2 + 1 ≤ (aR X).frames; rw [hR.1]; exact Nat.le_of_ble_eq_true rfl, by show _ ≤ (aR X).locals; rw [hR.2.1]; exact Nat.le_of_ble_eq_true rfl⟩ ⟨by show aCe X + 1 ≤ (aR X).cells; rw [hR.2.2.1]; exact hc.1, by show aSl X + 6 ≤ (aR X).slots; rw [hR.2.2.2.1]; exact hc.2⟩ (Nat.le_of_ble_eq_true rfl) rfl dL_law_1139 rfl ?_
  refine a_is6 hX' dL_law_1142 rfl ?_
  refine a_al2 hX' dL_law_1144 rfl ?_
  refine l_callI hX' ml_L_108 (ci_X12_thrown _  _) ht s_94 rfl rfl rfl ⟨by show 0 + 1 ≤ (aR X).frames; rw [hR.1]; exact Nat.le_of_ble_eq_true rfl, by show _ ≤ (aR X).locals; rw [hR.2.1]; exact Nat.le_of_ble_eq_true rfl⟩ ⟨by show aCe X + 1 ≤ (aR X).cells; rw [hR.2.2.1]; exact hc.1, by show aSl X + 6 ≤ (aR X).slots; rw [hR.2.2.2.1]; exact hc.2⟩ (Nat.le_of_ble_eq_true rfl) rfl dL_law_1145 rfl ?_
  refine a_il5 hX' dL_law_1148 rfl ?_
  refine l_icmp_eq_t hX' dL_law_1150 (pc1 := 1155) rfl rfl ?_
  refine a_il5 hX' dL_law_1155 rfl ?_
  by_cases hk0 : k = 0
  · refine l_if_ne_f hX' dL_law_1157 (tgt := 1172) rfl hk0 rfl ?_
    refine a_al3 hX' dL_law_1160 rfl ?_
    refine a_ic 0 hX' dL_law_1161 (by decide) rfl ?_
    refine l_lald hX' dL_law_1162 rfl ?_
    refine a_il6 hX' dL_law_1163 rfl ?_
    refine l_i2l hX' dL_law_1165 rfl ?_
    refine l_lcmpeq hX' dL_law_1166 dL_law_1167 (pc1 := 1172) rfl (hv hk0) ?_
    refine a_goto hX' dL_law_1172 (pc1 := 1898) rfl ?_
    exact a_sub hK (ls_s (ls_s (ls_s (ls_s (ls_s (ls_n (ls_n ls_0)))))))
  · refine l_if_ne_t hX' dL_law_1157 (pc1 := 1172) rfl hk0 ?_
    refine a_goto hX' dL_law_1172 (pc1 := 1898) rfl ?_
    exact a_sub hK (ls_s (ls_s (ls_s (ls_s (ls_s (ls_n (ls_n ls_0)))))))

set_option maxRecDepth 100000 in
set_option maxHeartbeats 2000000 in
theorem lc_12 {X : AX} {L b i : Nat} {xs : Nat → Int32} {σ : Mem} {Inv : Mem → Prop} (hX : CX X code 7 RL) (hR : LR X) (hI : LI X L b xs) (hi : i + 8 ≤ L) (hc : aCe X + 1 ≤ 1178 ∧ aSl X + 6 ≤ 10586) (hO : OP_replace Inv) (hJ : Inv σ) (K : ∀ (τ' : Nat → Int64) (ce sl : Nat) (σ3 : Mem), Inv σ3 → ce ≤ aCe X + 1 → sl ≤ aSl X + 6 → LW (lX X τ' ce sl) 1898 [some (.ref 115), some (.ref 0), some (.ref 94), some (.ref 114), some (.int (nI i)), none, none] [] σ3) : LW X 1175 [some (.ref 115), some (.ref 0), some (.ref 94), some (.ref 114), some (.int (nI i)), none, none] [] σ := by
  obtain ⟨k, τ', σ1, bb, m2, m3, hw, hm, ht, hv, hJ3⟩ := hO (xs (i + 1)) (xs (i + 2)) σ (gt (aG X)) hJ
  have hK := K τ' (aCe X + 1) (aSl X + 6) m3 hJ3 (Nat.le_refl _) (Nat.le_refl _)
  refine a_al1 hX dL_law_1175 rfl ?_
  refine a_al0 hX dL_law_1176 rfl ?_
  refine a_il4 hX dL_law_1177 rfl ?_
  refine a_ic 1 hX dL_law_1179 (by decide) rfl ?_
  refine a_iadd hX dL_law_1180 rfl ?_
  refine l_sld hI hX (c := 1) (by decide) hi (by decide) dL_law_1181 rfl ?_
  refine a_al0 hX dL_law_1182 rfl ?_
  refine a_il4 hX dL_law_1183 rfl ?_
  refine a_ic 2 hX dL_law_1185 (by decide) rfl ?_
  refine a_iadd hX dL_law_1186 rfl ?_
  refine l_sld hI hX (c := 2) (by decide) hi (by decide) dL_law_1187 rfl ?_
  refine a_al3 hX dL_law_1188 rfl ?_
  refine l_wrap hX hR.2.2.2.2.1 hR.2.2.2.2.2.1 mlw_L_replace (cw_replace _ hR.2.2.2.2.2.2 _ _ _) hw rfl rfl ⟨by rw [hR.1]; exact Nat.le_of_ble_eq_true rfl, by rw [hR.2.1]; exact Nat.le_of_ble_eq_true rfl⟩ ⟨by rw [hR.2.2.1]; exact hc.1, by rw [hR.2.2.2.1]; exact hc.2⟩ (Nat.le_of_ble_eq_true rfl) rfl dL_law_1189 rfl ?_
  have hX' : CX (lX X τ' (aCe X + 1) (aSl X + 6)) code 7 RL := hX.l
  have hI' : LI (lX X τ' (aCe X + 1) (aSl X + 6)) L b xs := hI.l
  refine a_is5 hX' dL_law_1192 rfl ?_
  refine a_al2 hX' dL_law_1194 rfl ?_
  refine a_al0 hX' dL_law_1195 rfl ?_
  refine a_il4 hX' dL_law_1196 rfl ?_
  refine a_ic 1 hX' dL_law_1198 (by decide) rfl ?_
  refine a_iadd hX' dL_law_1199 rfl ?_
  refine l_sld hI' hX' (c := 1) (by decide) hi (by decide) dL_law_1200 rfl ?_
  refine a_al0 hX' dL_law_1201 rfl ?_
  refine a_il4 hX' dL_law_1202 rfl ?_
  refine a_ic 2 hX' dL_law_1204 (by decide) rfl ?_
  refine a_iadd hX' dL_law_1205 rfl ?_
  refine l_sld hI' hX' (c := 2) (by decide) hi (by decide) dL_law_1206 rfl ?_
  refine l_callI hX' ml_L_152 (ci_X12_replace _ _ _ _) hm s_94 rfl rfl rfl ⟨by show 2 + 1 ≤ (aR X).frames; rw [hR.1]; exact Nat.le_of_ble_eq_true rfl, by show _ ≤ (aR X).locals; rw [hR.2.1]; exact Nat.le_of_ble_eq_true rfl⟩ ⟨by show aCe X + 1 ≤ (aR X).cells; rw [hR.2.2.1]; exact hc.1, by show aSl X + 6 ≤ (aR X).slots; rw [hR.2.2.2.1]; exact hc.2⟩ (Nat.le_of_ble_eq_true rfl) rfl dL_law_1207 rfl ?_
  refine a_is6 hX' dL_law_1210 rfl ?_
  refine a_al2 hX' dL_law_1212 rfl ?_
  refine l_callI hX' ml_L_108 (ci_X12_thrown _  _) ht s_94 rfl rfl rfl ⟨by show 0 + 1 ≤ (aR X).frames; rw [hR.1]; exact Nat.le_of_ble_eq_true rfl, by show _ ≤ (aR X).locals; rw [hR.2.1]; exact Nat.le_of_ble_eq_true rfl⟩ ⟨by show aCe X + 1 ≤ (aR X).cells; rw [hR.2.2.1]; exact hc.1, by show aSl X + 6 ≤ (aR X).slots; rw [hR.2.2.2.1]; exact hc.2⟩ (Nat.le_of_ble_eq_true rfl) rfl dL_law_1213 rfl ?_
  refine a_il5 hX' dL_law_1216 rfl ?_
  refine l_icmp_eq_t hX' dL_law_1218 (pc1 := 1223) rfl rfl ?_
  refine a_il5 hX' dL_law_1223 rfl ?_
  by_cases hk0 : k = 0
  · refine l_if_ne_f hX' dL_law_1225 (tgt := 1240) rfl hk0 rfl ?_
    refine a_al3 hX' dL_law_1228 rfl ?_
    refine a_ic 0 hX' dL_law_1229 (by decide) rfl ?_
    refine l_lald hX' dL_law_1230 rfl ?_
    refine a_il6 hX' dL_law_1231 rfl ?_
    refine l_i2l hX' dL_law_1233 rfl ?_
    refine l_lcmpeq hX' dL_law_1234 dL_law_1235 (pc1 := 1240) rfl (hv hk0) ?_
    refine a_goto hX' dL_law_1240 (pc1 := 1898) rfl ?_
    exact a_sub hK (ls_s (ls_s (ls_s (ls_s (ls_s (ls_n (ls_n ls_0)))))))
  · refine l_if_ne_t hX' dL_law_1225 (pc1 := 1240) rfl hk0 ?_
    refine a_goto hX' dL_law_1240 (pc1 := 1898) rfl ?_
    exact a_sub hK (ls_s (ls_s (ls_s (ls_s (ls_s (ls_n (ls_n ls_0)))))))

set_option maxRecDepth 100000 in
set_option maxHeartbeats 2000000 in
theorem lc_13 {X : AX} {L b i : Nat} {xs : Nat → Int32} {σ : Mem} {Inv : Mem → Prop} (hX : CX X code 7 RL) (hR : LR X) (hI : LI X L b xs) (hi : i + 8 ≤ L) (hc : aCe X + 1 ≤ 1178 ∧ aSl X + 6 ≤ 10586) (hO : OP_setPlatform Inv) (hJ : Inv σ) (K : ∀ (τ' : Nat → Int64) (ce sl : Nat) (σ3 : Mem), Inv σ3 → ce ≤ aCe X + 1 → sl ≤ aSl X + 6 → LW (lX X τ' ce sl) 1898 [some (.ref 115), some (.ref 0), some (.ref 94), some (.ref 114), some (.int (nI i)), none, none] [] σ3) : LW X 1243 [some (.ref 115), some (.ref 0), some (.ref 94), some (.ref 114), some (.int (nI i)), none, none] [] σ := by
  obtain ⟨k, τ', σ1, bb, m2, m3, hw, hm, ht, hv, hJ3⟩ := hO (xs (i + 1)) σ (gt (aG X)) hJ
  have hK := K τ' (aCe X + 1) (aSl X + 6) m3 hJ3 (Nat.le_refl _) (Nat.le_refl _)
  refine a_al1 hX dL_law_1243 rfl ?_
  refine a_al0 hX dL_law_1244 rfl ?_
  refine a_il4 hX dL_law_1245 rfl ?_
  refine a_ic 1 hX dL_law_1247 (by decide) rfl ?_
  refine a_iadd hX dL_law_1248 rfl ?_
  refine l_sld hI hX (c := 1) (by decide) hi (by decide) dL_law_1249 rfl ?_
  refine a_al3 hX dL_law_1250 rfl ?_
  refine l_wrap hX hR.2.2.2.2.1 hR.2.2.2.2.2.1 mlw_L_setPlatform (cw_setPlatform _ hR.2.2.2.2.2.2 _ _) hw rfl rfl ⟨by rw [hR.1]; exact Nat.le_of_ble_eq_true rfl, by rw [hR.2.1]; exact Nat.le_of_ble_eq_true rfl⟩ ⟨by rw [hR.2.2.1]; exact hc.1, by rw [hR.2.2.2.1]; exact hc.2⟩ (Nat.le_of_ble_eq_true rfl) rfl dL_law_1251 rfl ?_
  have hX' : CX (lX X τ' (aCe X + 1) (aSl X + 6)) code 7 RL := hX.l
  have hI' : LI (lX X τ' (aCe X + 1) (aSl X + 6)) L b xs := hI.l
  refine a_is5 hX' dL_law_1254 rfl ?_
  refine a_al2 hX' dL_law_1256 rfl ?_
  refine a_al0 hX' dL_law_1257 rfl ?_
  refine a_il4 hX' dL_law_1258 rfl ?_
  refine a_ic 1 hX' dL_law_1260 (by decide) rfl ?_
  refine a_iadd hX' dL_law_1261 rfl ?_
  refine l_sld hI' hX' (c := 1) (by decide) hi (by decide) dL_law_1262 rfl ?_
  refine l_callI hX' ml_L_155 (ci_X12_setPlatform _ _ _) hm s_94 rfl rfl rfl ⟨by show 1 + 1 ≤ (aR X).frames; rw [hR.1]; exact Nat.le_of_ble_eq_true rfl, by show _ ≤ (aR X).locals; rw [hR.2.1]; exact Nat.le_of_ble_eq_true rfl⟩ ⟨by show aCe X + 1 ≤ (aR X).cells; rw [hR.2.2.1]; exact hc.1, by show aSl X + 6 ≤ (aR X).slots; rw [hR.2.2.2.1]; exact hc.2⟩ (Nat.le_of_ble_eq_true rfl) rfl dL_law_1263 rfl ?_
  refine a_is6 hX' dL_law_1266 rfl ?_
  refine a_al2 hX' dL_law_1268 rfl ?_
  refine l_callI hX' ml_L_108 (ci_X12_thrown _  _) ht s_94 rfl rfl rfl ⟨by show 0 + 1 ≤ (aR X).frames; rw [hR.1]; exact Nat.le_of_ble_eq_true rfl, by show _ ≤ (aR X).locals; rw [hR.2.1]; exact Nat.le_of_ble_eq_true rfl⟩ ⟨by show aCe X + 1 ≤ (aR X).cells; rw [hR.2.2.1]; exact hc.1, by show aSl X + 6 ≤ (aR X).slots; rw [hR.2.2.2.1]; exact hc.2⟩ (Nat.le_of_ble_eq_true rfl) rfl dL_law_1269 rfl ?_
  refine a_il5 hX' dL_law_1272 rfl ?_
  refine l_icmp_eq_t hX' dL_law_1274 (pc1 := 1279) rfl rfl ?_
  refine a_il5 hX' dL_law_1279 rfl ?_
  by_cases hk0 : k = 0
  · refine l_if_ne_f hX' dL_law_1281 (tgt := 1296) rfl hk0 rfl ?_
    refine a_al3 hX' dL_law_1284 rfl ?_
    refine a_ic 0 hX' dL_law_1285 (by decide) rfl ?_
    refine l_lald hX' dL_law_1286 rfl ?_
    refine a_il6 hX' dL_law_1287 rfl ?_
    refine l_i2l hX' dL_law_1289 rfl ?_
    refine l_lcmpeq hX' dL_law_1290 dL_law_1291 (pc1 := 1296) rfl (hv hk0) ?_
    refine a_goto hX' dL_law_1296 (pc1 := 1898) rfl ?_
    exact a_sub hK (ls_s (ls_s (ls_s (ls_s (ls_s (ls_n (ls_n ls_0)))))))
  · refine l_if_ne_t hX' dL_law_1281 (pc1 := 1296) rfl hk0 ?_
    refine a_goto hX' dL_law_1296 (pc1 := 1898) rfl ?_
    exact a_sub hK (ls_s (ls_s (ls_s (ls_s (ls_s (ls_n (ls_n ls_0)))))))

set_option maxRecDepth 100000 in
set_option maxHeartbeats 2000000 in
theorem lc_14 {X : AX} {L b i : Nat} {xs : Nat → Int32} {σ : Mem} {Inv : Mem → Prop} (hX : CX X code 7 RL) (hR : LR X) (hI : LI X L b xs) (hi : i + 8 ≤ L) (hc : aCe X + 1 ≤ 1178 ∧ aSl X + 6 ≤ 10586) (hO : OP_solve Inv) (hJ : Inv σ) (K : ∀ (τ' : Nat → Int64) (ce sl : Nat) (σ3 : Mem), Inv σ3 → ce ≤ aCe X + 1 → sl ≤ aSl X + 6 → LW (lX X τ' ce sl) 1898 [some (.ref 115), some (.ref 0), some (.ref 94), some (.ref 114), some (.int (nI i)), none, none] [] σ3) : LW X 1299 [some (.ref 115), some (.ref 0), some (.ref 94), some (.ref 114), some (.int (nI i)), none, none] [] σ := by
  obtain ⟨k, τ', σ1, bb, m2, m3, hw, hm, ht, hv, hJ3⟩ := hO (xs (i + 1)) (xs (i + 2)) σ (gt (aG X)) hJ
  have hK := K τ' (aCe X + 1) (aSl X + 6) m3 hJ3 (Nat.le_refl _) (Nat.le_refl _)
  refine a_al1 hX dL_law_1299 rfl ?_
  refine a_al0 hX dL_law_1300 rfl ?_
  refine a_il4 hX dL_law_1301 rfl ?_
  refine a_ic 1 hX dL_law_1303 (by decide) rfl ?_
  refine a_iadd hX dL_law_1304 rfl ?_
  refine l_sld hI hX (c := 1) (by decide) hi (by decide) dL_law_1305 rfl ?_
  refine a_al0 hX dL_law_1306 rfl ?_
  refine a_il4 hX dL_law_1307 rfl ?_
  refine a_ic 2 hX dL_law_1309 (by decide) rfl ?_
  refine a_iadd hX dL_law_1310 rfl ?_
  refine l_sld hI hX (c := 2) (by decide) hi (by decide) dL_law_1311 rfl ?_
  refine a_al3 hX dL_law_1312 rfl ?_
  refine l_wrap hX hR.2.2.2.2.1 hR.2.2.2.2.2.1 mlw_L_solve (cw_solve _ hR.2.2.2.2.2.2 _ _ _) hw rfl rfl ⟨by rw [hR.1]; exact Nat.le_of_ble_eq_true rfl, by rw [hR.2.1]; exact Nat.le_of_ble_eq_true rfl⟩ ⟨by rw [hR.2.2.1]; exact hc.1, by rw [hR.2.2.2.1]; exact hc.2⟩ (Nat.le_of_ble_eq_true rfl) rfl dL_law_1313 rfl ?_
  have hX' : CX (lX X τ' (aCe X + 1) (aSl X + 6)) code 7 RL := hX.l
  have hI' : LI (lX X τ' (aCe X + 1) (aSl X + 6)) L b xs := hI.l
  refine a_is5 hX' dL_law_1316 rfl ?_
  refine a_al2 hX' dL_law_1318 rfl ?_
  refine a_al0 hX' dL_law_1319 rfl ?_
  refine a_il4 hX' dL_law_1320 rfl ?_
  refine a_ic 1 hX' dL_law_1322 (by decide) rfl ?_
  refine a_iadd hX' dL_law_1323 rfl ?_
  refine l_sld hI' hX' (c := 1) (by decide) hi (by decide) dL_law_1324 rfl ?_
  refine a_al0 hX' dL_law_1325 rfl ?_
  refine a_il4 hX' dL_law_1326 rfl ?_
  refine a_ic 2 hX' dL_law_1328 (by decide) rfl ?_
  refine a_iadd hX' dL_law_1329 rfl ?_
  refine l_sld hI' hX' (c := 2) (by decide) hi (by decide) dL_law_1330 rfl ?_
  refine l_callI hX' ml_L_158 (ci_X12_solve _ _ _ _) hm s_94 rfl rfl rfl ⟨by show 5 + 1 ≤ (aR X).frames; rw [hR.1]; exact Nat.le_of_ble_eq_true rfl, by show _ ≤ (aR X).locals; rw [hR.2.1]; exact Nat.le_of_ble_eq_true rfl⟩ ⟨by show aCe X + 1 ≤ (aR X).cells; rw [hR.2.2.1]; exact hc.1, by show aSl X + 6 ≤ (aR X).slots; rw [hR.2.2.2.1]; exact hc.2⟩ (Nat.le_of_ble_eq_true rfl) rfl dL_law_1331 rfl ?_
  refine a_is6 hX' dL_law_1334 rfl ?_
  refine a_al2 hX' dL_law_1336 rfl ?_
  refine l_callI hX' ml_L_108 (ci_X12_thrown _  _) ht s_94 rfl rfl rfl ⟨by show 0 + 1 ≤ (aR X).frames; rw [hR.1]; exact Nat.le_of_ble_eq_true rfl, by show _ ≤ (aR X).locals; rw [hR.2.1]; exact Nat.le_of_ble_eq_true rfl⟩ ⟨by show aCe X + 1 ≤ (aR X).cells; rw [hR.2.2.1]; exact hc.1, by show aSl X + 6 ≤ (aR X).slots; rw [hR.2.2.2.1]; exact hc.2⟩ (Nat.le_of_ble_eq_true rfl) rfl dL_law_1337 rfl ?_
  refine a_il5 hX' dL_law_1340 rfl ?_
  refine l_icmp_eq_t hX' dL_law_1342 (pc1 := 1347) rfl rfl ?_
  refine a_il5 hX' dL_law_1347 rfl ?_
  by_cases hk0 : k = 0
  · refine l_if_ne_f hX' dL_law_1349 (tgt := 1364) rfl hk0 rfl ?_
    refine a_al3 hX' dL_law_1352 rfl ?_
    refine a_ic 0 hX' dL_law_1353 (by decide) rfl ?_
    refine l_lald hX' dL_law_1354 rfl ?_
    refine a_il6 hX' dL_law_1355 rfl ?_
    refine l_i2l hX' dL_law_1357 rfl ?_
    refine l_lcmpeq hX' dL_law_1358 dL_law_1359 (pc1 := 1364) rfl (hv hk0) ?_
    refine a_goto hX' dL_law_1364 (pc1 := 1898) rfl ?_
    exact a_sub hK (ls_s (ls_s (ls_s (ls_s (ls_s (ls_n (ls_n ls_0)))))))
  · refine l_if_ne_t hX' dL_law_1349 (pc1 := 1364) rfl hk0 ?_
    refine a_goto hX' dL_law_1364 (pc1 := 1898) rfl ?_
    exact a_sub hK (ls_s (ls_s (ls_s (ls_s (ls_s (ls_n (ls_n ls_0)))))))

set_option maxRecDepth 100000 in
set_option maxHeartbeats 2000000 in
theorem lc_15 {X : AX} {L b i : Nat} {xs : Nat → Int32} {σ : Mem} {Inv : Mem → Prop} (hX : CX X code 7 RL) (hR : LR X) (hI : LI X L b xs) (hi : i + 8 ≤ L) (hc : aCe X + 1 ≤ 1178 ∧ aSl X + 6 ≤ 10586) (hO : OP_chosen Inv) (hJ : Inv σ) (K : ∀ (τ' : Nat → Int64) (ce sl : Nat) (σ3 : Mem), Inv σ3 → ce ≤ aCe X + 1 → sl ≤ aSl X + 6 → LW (lX X τ' ce sl) 1898 [some (.ref 115), some (.ref 0), some (.ref 94), some (.ref 114), some (.int (nI i)), none, none] [] σ3) : LW X 1367 [some (.ref 115), some (.ref 0), some (.ref 94), some (.ref 114), some (.int (nI i)), none, none] [] σ := by
  obtain ⟨k, τ', σ1, bb, m2, m3, hw, hm, ht, hv, hJ3⟩ := hO (xs (i + 1)) σ (gt (aG X)) hJ
  have hK := K τ' (aCe X + 1) (aSl X + 6) m3 hJ3 (Nat.le_refl _) (Nat.le_refl _)
  refine a_al1 hX dL_law_1367 rfl ?_
  refine a_al0 hX dL_law_1368 rfl ?_
  refine a_il4 hX dL_law_1369 rfl ?_
  refine a_ic 1 hX dL_law_1371 (by decide) rfl ?_
  refine a_iadd hX dL_law_1372 rfl ?_
  refine l_sld hI hX (c := 1) (by decide) hi (by decide) dL_law_1373 rfl ?_
  refine a_al3 hX dL_law_1374 rfl ?_
  refine l_wrap hX hR.2.2.2.2.1 hR.2.2.2.2.2.1 mlw_L_chosen (cw_chosen _ hR.2.2.2.2.2.2 _ _) hw rfl rfl ⟨by rw [hR.1]; exact Nat.le_of_ble_eq_true rfl, by rw [hR.2.1]; exact Nat.le_of_ble_eq_true rfl⟩ ⟨by rw [hR.2.2.1]; exact hc.1, by rw [hR.2.2.2.1]; exact hc.2⟩ (Nat.le_of_ble_eq_true rfl) rfl dL_law_1375 rfl ?_
  have hX' : CX (lX X τ' (aCe X + 1) (aSl X + 6)) code 7 RL := hX.l
  have hI' : LI (lX X τ' (aCe X + 1) (aSl X + 6)) L b xs := hI.l
  refine a_is5 hX' dL_law_1378 rfl ?_
  refine a_al2 hX' dL_law_1380 rfl ?_
  refine a_al0 hX' dL_law_1381 rfl ?_
  refine a_il4 hX' dL_law_1382 rfl ?_
  refine a_ic 1 hX' dL_law_1384 (by decide) rfl ?_
  refine a_iadd hX' dL_law_1385 rfl ?_
  refine l_sld hI' hX' (c := 1) (by decide) hi (by decide) dL_law_1386 rfl ?_
  refine l_callI hX' ml_L_161 (ci_X12_chosen _ _ _) hm s_94 rfl rfl rfl ⟨by show 6 + 1 ≤ (aR X).frames; rw [hR.1]; exact Nat.le_of_ble_eq_true rfl, by show _ ≤ (aR X).locals; rw [hR.2.1]; exact Nat.le_of_ble_eq_true rfl⟩ ⟨by show aCe X + 1 ≤ (aR X).cells; rw [hR.2.2.1]; exact hc.1, by show aSl X + 6 ≤ (aR X).slots; rw [hR.2.2.2.1]; exact hc.2⟩ (Nat.le_of_ble_eq_true rfl) rfl dL_law_1387 rfl ?_
  refine a_is6 hX' dL_law_1390 rfl ?_
  refine a_al2 hX' dL_law_1392 rfl ?_
  refine l_callI hX' ml_L_108 (ci_X12_thrown _  _) ht s_94 rfl rfl rfl ⟨by show 0 + 1 ≤ (aR X).frames; rw [hR.1]; exact Nat.le_of_ble_eq_true rfl, by show _ ≤ (aR X).locals; rw [hR.2.1]; exact Nat.le_of_ble_eq_true rfl⟩ ⟨by show aCe X + 1 ≤ (aR X).cells; rw [hR.2.2.1]; exact hc.1, by show aSl X + 6 ≤ (aR X).slots; rw [hR.2.2.2.1]; exact hc.2⟩ (Nat.le_of_ble_eq_true rfl) rfl dL_law_1393 rfl ?_
  refine a_il5 hX' dL_law_1396 rfl ?_
  refine l_icmp_eq_t hX' dL_law_1398 (pc1 := 1403) rfl rfl ?_
  refine a_il5 hX' dL_law_1403 rfl ?_
  by_cases hk0 : k = 0
  · refine l_if_ne_f hX' dL_law_1405 (tgt := 1420) rfl hk0 rfl ?_
    refine a_al3 hX' dL_law_1408 rfl ?_
    refine a_ic 0 hX' dL_law_1409 (by decide) rfl ?_
    refine l_lald hX' dL_law_1410 rfl ?_
    refine a_il6 hX' dL_law_1411 rfl ?_
    refine l_i2l hX' dL_law_1413 rfl ?_
    refine l_lcmpeq hX' dL_law_1414 dL_law_1415 (pc1 := 1420) rfl (hv hk0) ?_
    refine a_goto hX' dL_law_1420 (pc1 := 1898) rfl ?_
    exact a_sub hK (ls_s (ls_s (ls_s (ls_s (ls_s (ls_n (ls_n ls_0)))))))
  · refine l_if_ne_t hX' dL_law_1405 (pc1 := 1420) rfl hk0 ?_
    refine a_goto hX' dL_law_1420 (pc1 := 1898) rfl ?_
    exact a_sub hK (ls_s (ls_s (ls_s (ls_s (ls_s (ls_n (ls_n ls_0)))))))

set_option maxRecDepth 100000 in
set_option maxHeartbeats 2000000 in
theorem lc_16 {X : AX} {L b i : Nat} {xs : Nat → Int32} {σ : Mem} {Inv : Mem → Prop} (hX : CX X code 7 RL) (hR : LR X) (hI : LI X L b xs) (hi : i + 8 ≤ L) (hc : aCe X + 1 ≤ 1178 ∧ aSl X + 6 ≤ 10586) (hO : OP_chosenAnew Inv) (hJ : Inv σ) (K : ∀ (τ' : Nat → Int64) (ce sl : Nat) (σ3 : Mem), Inv σ3 → ce ≤ aCe X + 1 → sl ≤ aSl X + 6 → LW (lX X τ' ce sl) 1898 [some (.ref 115), some (.ref 0), some (.ref 94), some (.ref 114), some (.int (nI i)), none, none] [] σ3) : LW X 1423 [some (.ref 115), some (.ref 0), some (.ref 94), some (.ref 114), some (.int (nI i)), none, none] [] σ := by
  obtain ⟨k, τ', σ1, bb, m2, m3, hw, hm, ht, hv, hJ3⟩ := hO (xs (i + 1)) σ (gt (aG X)) hJ
  have hK := K τ' (aCe X + 1) (aSl X + 6) m3 hJ3 (Nat.le_refl _) (Nat.le_refl _)
  refine a_al1 hX dL_law_1423 rfl ?_
  refine a_al0 hX dL_law_1424 rfl ?_
  refine a_il4 hX dL_law_1425 rfl ?_
  refine a_ic 1 hX dL_law_1427 (by decide) rfl ?_
  refine a_iadd hX dL_law_1428 rfl ?_
  refine l_sld hI hX (c := 1) (by decide) hi (by decide) dL_law_1429 rfl ?_
  refine a_al3 hX dL_law_1430 rfl ?_
  refine l_wrap hX hR.2.2.2.2.1 hR.2.2.2.2.2.1 mlw_L_chosenAnew (cw_chosenAnew _ hR.2.2.2.2.2.2 _ _) hw rfl rfl ⟨by rw [hR.1]; exact Nat.le_of_ble_eq_true rfl, by rw [hR.2.1]; exact Nat.le_of_ble_eq_true rfl⟩ ⟨by rw [hR.2.2.1]; exact hc.1, by rw [hR.2.2.2.1]; exact hc.2⟩ (Nat.le_of_ble_eq_true rfl) rfl dL_law_1431 rfl ?_
  have hX' : CX (lX X τ' (aCe X + 1) (aSl X + 6)) code 7 RL := hX.l
  have hI' : LI (lX X τ' (aCe X + 1) (aSl X + 6)) L b xs := hI.l
  refine a_is5 hX' dL_law_1434 rfl ?_
  refine a_al2 hX' dL_law_1436 rfl ?_
  refine a_al0 hX' dL_law_1437 rfl ?_
  refine a_il4 hX' dL_law_1438 rfl ?_
  refine a_ic 1 hX' dL_law_1440 (by decide) rfl ?_
  refine a_iadd hX' dL_law_1441 rfl ?_
  refine l_sld hI' hX' (c := 1) (by decide) hi (by decide) dL_law_1442 rfl ?_
  refine l_callI hX' ml_L_164 (ci_X12_chosenAnew _ _ _) hm s_94 rfl rfl rfl ⟨by show 6 + 1 ≤ (aR X).frames; rw [hR.1]; exact Nat.le_of_ble_eq_true rfl, by show _ ≤ (aR X).locals; rw [hR.2.1]; exact Nat.le_of_ble_eq_true rfl⟩ ⟨by show aCe X + 1 ≤ (aR X).cells; rw [hR.2.2.1]; exact hc.1, by show aSl X + 6 ≤ (aR X).slots; rw [hR.2.2.2.1]; exact hc.2⟩ (Nat.le_of_ble_eq_true rfl) rfl dL_law_1443 rfl ?_
  refine a_is6 hX' dL_law_1446 rfl ?_
  refine a_al2 hX' dL_law_1448 rfl ?_
  refine l_callI hX' ml_L_108 (ci_X12_thrown _  _) ht s_94 rfl rfl rfl ⟨by show 0 + 1 ≤ (aR X).frames; rw [hR.1]; exact Nat.le_of_ble_eq_true rfl, by show _ ≤ (aR X).locals; rw [hR.2.1]; exact Nat.le_of_ble_eq_true rfl⟩ ⟨by show aCe X + 1 ≤ (aR X).cells; rw [hR.2.2.1]; exact hc.1, by show aSl X + 6 ≤ (aR X).slots; rw [hR.2.2.2.1]; exact hc.2⟩ (Nat.le_of_ble_eq_true rfl) rfl dL_law_1449 rfl ?_
  refine a_il5 hX' dL_law_1452 rfl ?_
  refine l_icmp_eq_t hX' dL_law_1454 (pc1 := 1459) rfl rfl ?_
  refine a_il5 hX' dL_law_1459 rfl ?_
  by_cases hk0 : k = 0
  · refine l_if_ne_f hX' dL_law_1461 (tgt := 1476) rfl hk0 rfl ?_
    refine a_al3 hX' dL_law_1464 rfl ?_
    refine a_ic 0 hX' dL_law_1465 (by decide) rfl ?_
    refine l_lald hX' dL_law_1466 rfl ?_
    refine a_il6 hX' dL_law_1467 rfl ?_
    refine l_i2l hX' dL_law_1469 rfl ?_
    refine l_lcmpeq hX' dL_law_1470 dL_law_1471 (pc1 := 1476) rfl (hv hk0) ?_
    refine a_goto hX' dL_law_1476 (pc1 := 1898) rfl ?_
    exact a_sub hK (ls_s (ls_s (ls_s (ls_s (ls_s (ls_n (ls_n ls_0)))))))
  · refine l_if_ne_t hX' dL_law_1461 (pc1 := 1476) rfl hk0 ?_
    refine a_goto hX' dL_law_1476 (pc1 := 1898) rfl ?_
    exact a_sub hK (ls_s (ls_s (ls_s (ls_s (ls_s (ls_n (ls_n ls_0)))))))

set_option maxRecDepth 100000 in
set_option maxHeartbeats 2000000 in
theorem lc_17 {X : AX} {L b i : Nat} {xs : Nat → Int32} {σ : Mem} {Inv : Mem → Prop} (hX : CX X code 7 RL) (hR : LR X) (hI : LI X L b xs) (hi : i + 8 ≤ L) (hc : aCe X + 1 ≤ 1178 ∧ aSl X + 6 ≤ 10586) (hO : OP_features Inv) (hJ : Inv σ) (K : ∀ (τ' : Nat → Int64) (ce sl : Nat) (σ3 : Mem), Inv σ3 → ce ≤ aCe X + 1 → sl ≤ aSl X + 6 → LW (lX X τ' ce sl) 1898 [some (.ref 115), some (.ref 0), some (.ref 94), some (.ref 114), some (.int (nI i)), none, none] [] σ3) : LW X 1479 [some (.ref 115), some (.ref 0), some (.ref 94), some (.ref 114), some (.int (nI i)), none, none] [] σ := by
  obtain ⟨k, τ', σ1, bb, m2, m3, hw, hm, ht, hv, hJ3⟩ := hO (xs (i + 1)) σ (gt (aG X)) hJ
  have hK := K τ' (aCe X + 1) (aSl X + 6) m3 hJ3 (Nat.le_refl _) (Nat.le_refl _)
  refine a_al1 hX dL_law_1479 rfl ?_
  refine a_al0 hX dL_law_1480 rfl ?_
  refine a_il4 hX dL_law_1481 rfl ?_
  refine a_ic 1 hX dL_law_1483 (by decide) rfl ?_
  refine a_iadd hX dL_law_1484 rfl ?_
  refine l_sld hI hX (c := 1) (by decide) hi (by decide) dL_law_1485 rfl ?_
  refine a_al3 hX dL_law_1486 rfl ?_
  refine l_wrap hX hR.2.2.2.2.1 hR.2.2.2.2.2.1 mlw_L_features (cw_features _ hR.2.2.2.2.2.2 _ _) hw rfl rfl ⟨by rw [hR.1]; exact Nat.le_of_ble_eq_true rfl, by rw [hR.2.1]; exact Nat.le_of_ble_eq_true rfl⟩ ⟨by rw [hR.2.2.1]; exact hc.1, by rw [hR.2.2.2.1]; exact hc.2⟩ (Nat.le_of_ble_eq_true rfl) rfl dL_law_1487 rfl ?_
  have hX' : CX (lX X τ' (aCe X + 1) (aSl X + 6)) code 7 RL := hX.l
  have hI' : LI (lX X τ' (aCe X + 1) (aSl X + 6)) L b xs := hI.l
  refine a_is5 hX' dL_law_1490 rfl ?_
  refine a_al2 hX' dL_law_1492 rfl ?_
  refine a_al0 hX' dL_law_1493 rfl ?_
  refine a_il4 hX' dL_law_1494 rfl ?_
  refine a_ic 1 hX' dL_law_1496 (by decide) rfl ?_
  refine a_iadd hX' dL_law_1497 rfl ?_
  refine l_sld hI' hX' (c := 1) (by decide) hi (by decide) dL_law_1498 rfl ?_
  refine l_callI hX' ml_L_167 (ci_X12_features _ _ _) hm s_94 rfl rfl rfl ⟨by show 6 + 1 ≤ (aR X).frames; rw [hR.1]; exact Nat.le_of_ble_eq_true rfl, by show _ ≤ (aR X).locals; rw [hR.2.1]; exact Nat.le_of_ble_eq_true rfl⟩ ⟨by show aCe X + 1 ≤ (aR X).cells; rw [hR.2.2.1]; exact hc.1, by show aSl X + 6 ≤ (aR X).slots; rw [hR.2.2.2.1]; exact hc.2⟩ (Nat.le_of_ble_eq_true rfl) rfl dL_law_1499 rfl ?_
  refine a_is6 hX' dL_law_1502 rfl ?_
  refine a_al2 hX' dL_law_1504 rfl ?_
  refine l_callI hX' ml_L_108 (ci_X12_thrown _  _) ht s_94 rfl rfl rfl ⟨by show 0 + 1 ≤ (aR X).frames; rw [hR.1]; exact Nat.le_of_ble_eq_true rfl, by show _ ≤ (aR X).locals; rw [hR.2.1]; exact Nat.le_of_ble_eq_true rfl⟩ ⟨by show aCe X + 1 ≤ (aR X).cells; rw [hR.2.2.1]; exact hc.1, by show aSl X + 6 ≤ (aR X).slots; rw [hR.2.2.2.1]; exact hc.2⟩ (Nat.le_of_ble_eq_true rfl) rfl dL_law_1505 rfl ?_
  refine a_il5 hX' dL_law_1508 rfl ?_
  refine l_icmp_eq_t hX' dL_law_1510 (pc1 := 1515) rfl rfl ?_
  refine a_il5 hX' dL_law_1515 rfl ?_
  by_cases hk0 : k = 0
  · refine l_if_ne_f hX' dL_law_1517 (tgt := 1532) rfl hk0 rfl ?_
    refine a_al3 hX' dL_law_1520 rfl ?_
    refine a_ic 0 hX' dL_law_1521 (by decide) rfl ?_
    refine l_lald hX' dL_law_1522 rfl ?_
    refine a_il6 hX' dL_law_1523 rfl ?_
    refine l_i2l hX' dL_law_1525 rfl ?_
    refine l_lcmpeq hX' dL_law_1526 dL_law_1527 (pc1 := 1532) rfl (hv hk0) ?_
    refine a_goto hX' dL_law_1532 (pc1 := 1898) rfl ?_
    exact a_sub hK (ls_s (ls_s (ls_s (ls_s (ls_s (ls_n (ls_n ls_0)))))))
  · refine l_if_ne_t hX' dL_law_1517 (pc1 := 1532) rfl hk0 ?_
    refine a_goto hX' dL_law_1532 (pc1 := 1898) rfl ?_
    exact a_sub hK (ls_s (ls_s (ls_s (ls_s (ls_s (ls_n (ls_n ls_0)))))))

set_option maxRecDepth 100000 in
set_option maxHeartbeats 2000000 in
theorem lc_18 {X : AX} {L b i : Nat} {xs : Nat → Int32} {σ : Mem} {Inv : Mem → Prop} (hX : CX X code 7 RL) (hR : LR X) (hI : LI X L b xs) (hi : i + 8 ≤ L) (hc : aCe X + 1 ≤ 1178 ∧ aSl X + 6 ≤ 10586) (hO : OP_solutions Inv) (hJ : Inv σ) (K : ∀ (τ' : Nat → Int64) (ce sl : Nat) (σ3 : Mem), Inv σ3 → ce ≤ aCe X + 1 → sl ≤ aSl X + 6 → LW (lX X τ' ce sl) 1898 [some (.ref 115), some (.ref 0), some (.ref 94), some (.ref 114), some (.int (nI i)), none, none] [] σ3) : LW X 1535 [some (.ref 115), some (.ref 0), some (.ref 94), some (.ref 114), some (.int (nI i)), none, none] [] σ := by
  obtain ⟨bb, σ1, m2, hx, hm, hJ3⟩ := hO σ hJ
  have hK : LW X 1898 [some (.ref 115), some (.ref 0), some (.ref 94), some (.ref 114), some (.int (nI i)), none, none] [] m2 := K (gt (aG X)) (aCe X) (aSl X) m2 hJ3 (Nat.le_succ _) (Nat.le_add_right _ _)
  refine a_al1 hX dL_law_1535 rfl ?_
  refine l_callI hX ml_L_168 (ci_X11_solutions _  _) hx s_0 rfl rfl rfl ⟨by show 5 + 1 ≤ (aR X).frames; rw [hR.1]; exact Nat.le_of_ble_eq_true rfl, by show _ ≤ (aR X).locals; rw [hR.2.1]; exact Nat.le_of_ble_eq_true rfl⟩ ⟨by rw [hR.2.2.1]; omega, by rw [hR.2.2.2.1]; omega⟩ (Nat.le_of_ble_eq_true rfl) rfl dL_law_1536 rfl ?_
  refine a_al2 hX dL_law_1539 rfl ?_
  refine l_callI hX ml_L_171 (ci_X12_solutions _  _) hm s_94 rfl rfl rfl ⟨by show 5 + 1 ≤ (aR X).frames; rw [hR.1]; exact Nat.le_of_ble_eq_true rfl, by show _ ≤ (aR X).locals; rw [hR.2.1]; exact Nat.le_of_ble_eq_true rfl⟩ ⟨by rw [hR.2.2.1]; omega, by rw [hR.2.2.2.1]; omega⟩ (Nat.le_of_ble_eq_true rfl) rfl dL_law_1540 rfl ?_
  refine l_icmp_eq_t hX dL_law_1543 (pc1 := 1898) rfl rfl ?_
  exact hK

set_option maxRecDepth 100000 in
set_option maxHeartbeats 2000000 in
theorem lc_19 {X : AX} {L b i : Nat} {xs : Nat → Int32} {σ : Mem} {Inv : Mem → Prop} (hX : CX X code 7 RL) (hR : LR X) (hI : LI X L b xs) (hi : i + 8 ≤ L) (hc : aCe X + 1 ≤ 1178 ∧ aSl X + 6 ≤ 10586) (hO : OP_why Inv) (hJ : Inv σ) (K : ∀ (τ' : Nat → Int64) (ce sl : Nat) (σ3 : Mem), Inv σ3 → ce ≤ aCe X + 1 → sl ≤ aSl X + 6 → LW (lX X τ' ce sl) 1898 [some (.ref 115), some (.ref 0), some (.ref 94), some (.ref 114), some (.int (nI i)), none, none] [] σ3) : LW X 1548 [some (.ref 115), some (.ref 0), some (.ref 94), some (.ref 114), some (.int (nI i)), none, none] [] σ := by
  obtain ⟨bb, σ1, m2, hx, hm, hJ3⟩ := hO σ hJ
  have hK : LW X 1898 [some (.ref 115), some (.ref 0), some (.ref 94), some (.ref 114), some (.int (nI i)), none, none] [] m2 := K (gt (aG X)) (aCe X) (aSl X) m2 hJ3 (Nat.le_succ _) (Nat.le_add_right _ _)
  refine a_al1 hX dL_law_1548 rfl ?_
  refine l_callI hX ml_L_172 (ci_X11_why _  _) hx s_0 rfl rfl rfl ⟨by show 6 + 1 ≤ (aR X).frames; rw [hR.1]; exact Nat.le_of_ble_eq_true rfl, by show _ ≤ (aR X).locals; rw [hR.2.1]; exact Nat.le_of_ble_eq_true rfl⟩ ⟨by rw [hR.2.2.1]; omega, by rw [hR.2.2.2.1]; omega⟩ (Nat.le_of_ble_eq_true rfl) rfl dL_law_1549 rfl ?_
  refine a_al2 hX dL_law_1552 rfl ?_
  refine l_callI hX ml_L_175 (ci_X12_why _  _) hm s_94 rfl rfl rfl ⟨by show 5 + 1 ≤ (aR X).frames; rw [hR.1]; exact Nat.le_of_ble_eq_true rfl, by show _ ≤ (aR X).locals; rw [hR.2.1]; exact Nat.le_of_ble_eq_true rfl⟩ ⟨by rw [hR.2.2.1]; omega, by rw [hR.2.2.2.1]; omega⟩ (Nat.le_of_ble_eq_true rfl) rfl dL_law_1553 rfl ?_
  refine l_icmp_eq_t hX dL_law_1556 (pc1 := 1898) rfl rfl ?_
  exact hK

set_option maxRecDepth 100000 in
set_option maxHeartbeats 2000000 in
theorem lc_20 {X : AX} {L b i : Nat} {xs : Nat → Int32} {σ : Mem} {Inv : Mem → Prop} (hX : CX X code 7 RL) (hR : LR X) (hI : LI X L b xs) (hi : i + 8 ≤ L) (hc : aCe X + 1 ≤ 1178 ∧ aSl X + 6 ≤ 10586) (hO : OP_against Inv) (hJ : Inv σ) (K : ∀ (τ' : Nat → Int64) (ce sl : Nat) (σ3 : Mem), Inv σ3 → ce ≤ aCe X + 1 → sl ≤ aSl X + 6 → LW (lX X τ' ce sl) 1898 [some (.ref 115), some (.ref 0), some (.ref 94), some (.ref 114), some (.int (nI i)), none, none] [] σ3) : LW X 1561 [some (.ref 115), some (.ref 0), some (.ref 94), some (.ref 114), some (.int (nI i)), none, none] [] σ := by
  obtain ⟨k, τ', σ1, bb, m2, m3, hw, hm, ht, hv, hJ3⟩ := hO (xs (i + 1)) σ (gt (aG X)) hJ
  have hK := K τ' (aCe X + 1) (aSl X + 6) m3 hJ3 (Nat.le_refl _) (Nat.le_refl _)
  refine a_al1 hX dL_law_1561 rfl ?_
  refine a_al0 hX dL_law_1562 rfl ?_
  refine a_il4 hX dL_law_1563 rfl ?_
  refine a_ic 1 hX dL_law_1565 (by decide) rfl ?_
  refine a_iadd hX dL_law_1566 rfl ?_
  refine l_sld hI hX (c := 1) (by decide) hi (by decide) dL_law_1567 rfl ?_
  refine a_al3 hX dL_law_1568 rfl ?_
  refine l_wrap hX hR.2.2.2.2.1 hR.2.2.2.2.2.1 mlw_L_against (cw_against _ hR.2.2.2.2.2.2 _ _) hw rfl rfl ⟨by rw [hR.1]; exact Nat.le_of_ble_eq_true rfl, by rw [hR.2.1]; exact Nat.le_of_ble_eq_true rfl⟩ ⟨by rw [hR.2.2.1]; exact hc.1, by rw [hR.2.2.2.1]; exact hc.2⟩ (Nat.le_of_ble_eq_true rfl) rfl dL_law_1569 rfl ?_
  have hX' : CX (lX X τ' (aCe X + 1) (aSl X + 6)) code 7 RL := hX.l
  have hI' : LI (lX X τ' (aCe X + 1) (aSl X + 6)) L b xs := hI.l
  refine a_is5 hX' dL_law_1572 rfl ?_
  refine a_al2 hX' dL_law_1574 rfl ?_
  refine a_al0 hX' dL_law_1575 rfl ?_
  refine a_il4 hX' dL_law_1576 rfl ?_
  refine a_ic 1 hX' dL_law_1578 (by decide) rfl ?_
  refine a_iadd hX' dL_law_1579 rfl ?_
  refine l_sld hI' hX' (c := 1) (by decide) hi (by decide) dL_law_1580 rfl ?_
  refine l_callI hX' ml_L_178 (ci_X12_against _ _ _) hm s_94 rfl rfl rfl ⟨by show 5 + 1 ≤ (aR X).frames; rw [hR.1]; exact Nat.le_of_ble_eq_true rfl, by show _ ≤ (aR X).locals; rw [hR.2.1]; exact Nat.le_of_ble_eq_true rfl⟩ ⟨by show aCe X + 1 ≤ (aR X).cells; rw [hR.2.2.1]; exact hc.1, by show aSl X + 6 ≤ (aR X).slots; rw [hR.2.2.2.1]; exact hc.2⟩ (Nat.le_of_ble_eq_true rfl) rfl dL_law_1581 rfl ?_
  refine a_is6 hX' dL_law_1584 rfl ?_
  refine a_al2 hX' dL_law_1586 rfl ?_
  refine l_callI hX' ml_L_108 (ci_X12_thrown _  _) ht s_94 rfl rfl rfl ⟨by show 0 + 1 ≤ (aR X).frames; rw [hR.1]; exact Nat.le_of_ble_eq_true rfl, by show _ ≤ (aR X).locals; rw [hR.2.1]; exact Nat.le_of_ble_eq_true rfl⟩ ⟨by show aCe X + 1 ≤ (aR X).cells; rw [hR.2.2.1]; exact hc.1, by show aSl X + 6 ≤ (aR X).slots; rw [hR.2.2.2.1]; exact hc.2⟩ (Nat.le_of_ble_eq_true rfl) rfl dL_law_1587 rfl ?_
  refine a_il5 hX' dL_law_1590 rfl ?_
  refine l_icmp_eq_t hX' dL_law_1592 (pc1 := 1597) rfl rfl ?_
  refine a_il5 hX' dL_law_1597 rfl ?_
  by_cases hk0 : k = 0
  · refine l_if_ne_f hX' dL_law_1599 (tgt := 1614) rfl hk0 rfl ?_
    refine a_al3 hX' dL_law_1602 rfl ?_
    refine a_ic 0 hX' dL_law_1603 (by decide) rfl ?_
    refine l_lald hX' dL_law_1604 rfl ?_
    refine a_il6 hX' dL_law_1605 rfl ?_
    refine l_i2l hX' dL_law_1607 rfl ?_
    refine l_lcmpeq hX' dL_law_1608 dL_law_1609 (pc1 := 1614) rfl (hv hk0) ?_
    refine a_goto hX' dL_law_1614 (pc1 := 1898) rfl ?_
    exact a_sub hK (ls_s (ls_s (ls_s (ls_s (ls_s (ls_n (ls_n ls_0)))))))
  · refine l_if_ne_t hX' dL_law_1599 (pc1 := 1614) rfl hk0 ?_
    refine a_goto hX' dL_law_1614 (pc1 := 1898) rfl ?_
    exact a_sub hK (ls_s (ls_s (ls_s (ls_s (ls_s (ls_n (ls_n ls_0)))))))

set_option maxRecDepth 100000 in
set_option maxHeartbeats 2000000 in
theorem lc_21 {X : AX} {L b i : Nat} {xs : Nat → Int32} {σ : Mem} {Inv : Mem → Prop} (hX : CX X code 7 RL) (hR : LR X) (hI : LI X L b xs) (hi : i + 8 ≤ L) (hc : aCe X + 1 ≤ 1178 ∧ aSl X + 6 ≤ 10586) (hO : OP_lock Inv) (hJ : Inv σ) (K : ∀ (τ' : Nat → Int64) (ce sl : Nat) (σ3 : Mem), Inv σ3 → ce ≤ aCe X + 1 → sl ≤ aSl X + 6 → LW (lX X τ' ce sl) 1898 [some (.ref 115), some (.ref 0), some (.ref 94), some (.ref 114), some (.int (nI i)), none, none] [] σ3) : LW X 1617 [some (.ref 115), some (.ref 0), some (.ref 94), some (.ref 114), some (.int (nI i)), none, none] [] σ := by
  obtain ⟨k, τ', σ1, bb, m2, m3, hw, hm, ht, hv, hJ3⟩ := hO  σ (gt (aG X)) hJ
  have hK := K τ' (aCe X + 1) (aSl X + 6) m3 hJ3 (Nat.le_refl _) (Nat.le_refl _)
  refine a_al1 hX dL_law_1617 rfl ?_
  refine a_al3 hX dL_law_1618 rfl ?_
  refine l_wrap hX hR.2.2.2.2.1 hR.2.2.2.2.2.1 mlw_L_lock (cw_lock _ hR.2.2.2.2.2.2  _) hw rfl rfl ⟨by rw [hR.1]; exact Nat.le_of_ble_eq_true rfl, by rw [hR.2.1]; exact Nat.le_of_ble_eq_true rfl⟩ ⟨by rw [hR.2.2.1]; exact hc.1, by rw [hR.2.2.2.1]; exact hc.2⟩ (Nat.le_of_ble_eq_true rfl) rfl dL_law_1619 rfl ?_
  have hX' : CX (lX X τ' (aCe X + 1) (aSl X + 6)) code 7 RL := hX.l
  have hI' : LI (lX X τ' (aCe X + 1) (aSl X + 6)) L b xs := hI.l
  refine a_is5 hX' dL_law_1622 rfl ?_
  refine a_al2 hX' dL_law_1624 rfl ?_
  refine l_callI hX' ml_L_182 (ci_X12_lock _  _) hm s_94 rfl rfl rfl ⟨by show 5 + 1 ≤ (aR X).frames; rw [hR.1]; exact Nat.le_of_ble_eq_true rfl, by show _ ≤ (aR X).locals; rw [hR.2.1]; exact Nat.le_of_ble_eq_true rfl⟩ ⟨by show aCe X + 1 ≤ (aR X).cells; rw [hR.2.2.1]; exact hc.1, by show aSl X + 6 ≤ (aR X).slots; rw [hR.2.2.2.1]; exact hc.2⟩ (Nat.le_of_ble_eq_true rfl) rfl dL_law_1625 rfl ?_
  refine a_is6 hX' dL_law_1628 rfl ?_
  refine a_al2 hX' dL_law_1630 rfl ?_
  refine l_callI hX' ml_L_108 (ci_X12_thrown _  _) ht s_94 rfl rfl rfl ⟨by show 0 + 1 ≤ (aR X).frames; rw [hR.1]; exact Nat.le_of_ble_eq_true rfl, by show _ ≤ (aR X).locals; rw [hR.2.1]; exact Nat.le_of_ble_eq_true rfl⟩ ⟨by show aCe X + 1 ≤ (aR X).cells; rw [hR.2.2.1]; exact hc.1, by show aSl X + 6 ≤ (aR X).slots; rw [hR.2.2.2.1]; exact hc.2⟩ (Nat.le_of_ble_eq_true rfl) rfl dL_law_1631 rfl ?_
  refine a_il5 hX' dL_law_1634 rfl ?_
  refine l_icmp_eq_t hX' dL_law_1636 (pc1 := 1641) rfl rfl ?_
  refine a_il5 hX' dL_law_1641 rfl ?_
  by_cases hk0 : k = 0
  · refine l_if_ne_f hX' dL_law_1643 (tgt := 1658) rfl hk0 rfl ?_
    refine a_al3 hX' dL_law_1646 rfl ?_
    refine a_ic 0 hX' dL_law_1647 (by decide) rfl ?_
    refine l_lald hX' dL_law_1648 rfl ?_
    refine a_il6 hX' dL_law_1649 rfl ?_
    refine l_i2l hX' dL_law_1651 rfl ?_
    refine l_lcmpeq hX' dL_law_1652 dL_law_1653 (pc1 := 1658) rfl (hv hk0) ?_
    refine a_goto hX' dL_law_1658 (pc1 := 1898) rfl ?_
    exact a_sub hK (ls_s (ls_s (ls_s (ls_s (ls_s (ls_n (ls_n ls_0)))))))
  · refine l_if_ne_t hX' dL_law_1643 (pc1 := 1658) rfl hk0 ?_
    refine a_goto hX' dL_law_1658 (pc1 := 1898) rfl ?_
    exact a_sub hK (ls_s (ls_s (ls_s (ls_s (ls_s (ls_n (ls_n ls_0)))))))

set_option maxRecDepth 100000 in
set_option maxHeartbeats 2000000 in
theorem lc_22 {X : AX} {L b i : Nat} {xs : Nat → Int32} {σ : Mem} {Inv : Mem → Prop} (hX : CX X code 7 RL) (hR : LR X) (hI : LI X L b xs) (hi : i + 8 ≤ L) (hc : aCe X + 1 ≤ 1178 ∧ aSl X + 6 ≤ 10586) (hO : OP_unlock Inv) (hJ : Inv σ) (K : ∀ (τ' : Nat → Int64) (ce sl : Nat) (σ3 : Mem), Inv σ3 → ce ≤ aCe X + 1 → sl ≤ aSl X + 6 → LW (lX X τ' ce sl) 1898 [some (.ref 115), some (.ref 0), some (.ref 94), some (.ref 114), some (.int (nI i)), none, none] [] σ3) : LW X 1661 [some (.ref 115), some (.ref 0), some (.ref 94), some (.ref 114), some (.int (nI i)), none, none] [] σ := by
  obtain ⟨k, τ', σ1, bb, m2, m3, hw, hm, ht, hv, hJ3⟩ := hO (xs (i + 1)) σ (gt (aG X)) hJ
  have hK := K τ' (aCe X + 1) (aSl X + 6) m3 hJ3 (Nat.le_refl _) (Nat.le_refl _)
  refine a_al1 hX dL_law_1661 rfl ?_
  refine a_al0 hX dL_law_1662 rfl ?_
  refine a_il4 hX dL_law_1663 rfl ?_
  refine a_ic 1 hX dL_law_1665 (by decide) rfl ?_
  refine a_iadd hX dL_law_1666 rfl ?_
  refine l_sld hI hX (c := 1) (by decide) hi (by decide) dL_law_1667 rfl ?_
  refine a_al3 hX dL_law_1668 rfl ?_
  refine l_wrap hX hR.2.2.2.2.1 hR.2.2.2.2.2.1 mlw_L_unlock (cw_unlock _ hR.2.2.2.2.2.2 _ _) hw rfl rfl ⟨by rw [hR.1]; exact Nat.le_of_ble_eq_true rfl, by rw [hR.2.1]; exact Nat.le_of_ble_eq_true rfl⟩ ⟨by rw [hR.2.2.1]; exact hc.1, by rw [hR.2.2.2.1]; exact hc.2⟩ (Nat.le_of_ble_eq_true rfl) rfl dL_law_1669 rfl ?_
  have hX' : CX (lX X τ' (aCe X + 1) (aSl X + 6)) code 7 RL := hX.l
  have hI' : LI (lX X τ' (aCe X + 1) (aSl X + 6)) L b xs := hI.l
  refine a_is5 hX' dL_law_1672 rfl ?_
  refine a_al2 hX' dL_law_1674 rfl ?_
  refine a_al0 hX' dL_law_1675 rfl ?_
  refine a_il4 hX' dL_law_1676 rfl ?_
  refine a_ic 1 hX' dL_law_1678 (by decide) rfl ?_
  refine a_iadd hX' dL_law_1679 rfl ?_
  refine l_sld hI' hX' (c := 1) (by decide) hi (by decide) dL_law_1680 rfl ?_
  refine l_callI hX' ml_L_185 (ci_X12_unlock _ _ _) hm s_94 rfl rfl rfl ⟨by show 2 + 1 ≤ (aR X).frames; rw [hR.1]; exact Nat.le_of_ble_eq_true rfl, by show _ ≤ (aR X).locals; rw [hR.2.1]; exact Nat.le_of_ble_eq_true rfl⟩ ⟨by show aCe X + 1 ≤ (aR X).cells; rw [hR.2.2.1]; exact hc.1, by show aSl X + 6 ≤ (aR X).slots; rw [hR.2.2.2.1]; exact hc.2⟩ (Nat.le_of_ble_eq_true rfl) rfl dL_law_1681 rfl ?_
  refine a_is6 hX' dL_law_1684 rfl ?_
  refine a_al2 hX' dL_law_1686 rfl ?_
  refine l_callI hX' ml_L_108 (ci_X12_thrown _  _) ht s_94 rfl rfl rfl ⟨by show 0 + 1 ≤ (aR X).frames; rw [hR.1]; exact Nat.le_of_ble_eq_true rfl, by show _ ≤ (aR X).locals; rw [hR.2.1]; exact Nat.le_of_ble_eq_true rfl⟩ ⟨by show aCe X + 1 ≤ (aR X).cells; rw [hR.2.2.1]; exact hc.1, by show aSl X + 6 ≤ (aR X).slots; rw [hR.2.2.2.1]; exact hc.2⟩ (Nat.le_of_ble_eq_true rfl) rfl dL_law_1687 rfl ?_
  refine a_il5 hX' dL_law_1690 rfl ?_
  refine l_icmp_eq_t hX' dL_law_1692 (pc1 := 1697) rfl rfl ?_
  refine a_il5 hX' dL_law_1697 rfl ?_
  by_cases hk0 : k = 0
  · refine l_if_ne_f hX' dL_law_1699 (tgt := 1714) rfl hk0 rfl ?_
    refine a_al3 hX' dL_law_1702 rfl ?_
    refine a_ic 0 hX' dL_law_1703 (by decide) rfl ?_
    refine l_lald hX' dL_law_1704 rfl ?_
    refine a_il6 hX' dL_law_1705 rfl ?_
    refine l_i2l hX' dL_law_1707 rfl ?_
    refine l_lcmpeq hX' dL_law_1708 dL_law_1709 (pc1 := 1714) rfl (hv hk0) ?_
    refine a_goto hX' dL_law_1714 (pc1 := 1898) rfl ?_
    exact a_sub hK (ls_s (ls_s (ls_s (ls_s (ls_s (ls_n (ls_n ls_0)))))))
  · refine l_if_ne_t hX' dL_law_1699 (pc1 := 1714) rfl hk0 ?_
    refine a_goto hX' dL_law_1714 (pc1 := 1898) rfl ?_
    exact a_sub hK (ls_s (ls_s (ls_s (ls_s (ls_s (ls_n (ls_n ls_0)))))))

set_option maxRecDepth 100000 in
set_option maxHeartbeats 2000000 in
theorem lc_23 {X : AX} {L b i : Nat} {xs : Nat → Int32} {σ : Mem} {Inv : Mem → Prop} (hX : CX X code 7 RL) (hR : LR X) (hI : LI X L b xs) (hi : i + 8 ≤ L) (hc : aCe X + 1 ≤ 1178 ∧ aSl X + 6 ≤ 10586) (hO : OP_install Inv) (hJ : Inv σ) (K : ∀ (τ' : Nat → Int64) (ce sl : Nat) (σ3 : Mem), Inv σ3 → ce ≤ aCe X + 1 → sl ≤ aSl X + 6 → LW (lX X τ' ce sl) 1898 [some (.ref 115), some (.ref 0), some (.ref 94), some (.ref 114), some (.int (nI i)), none, none] [] σ3) : LW X 1717 [some (.ref 115), some (.ref 0), some (.ref 94), some (.ref 114), some (.int (nI i)), none, none] [] σ := by
  obtain ⟨k, τ', σ1, bb, m2, m3, hw, hm, ht, hv, hJ3⟩ := hO (xs (i + 1)) σ (gt (aG X)) hJ
  have hK := K τ' (aCe X + 1) (aSl X + 6) m3 hJ3 (Nat.le_refl _) (Nat.le_refl _)
  refine a_al1 hX dL_law_1717 rfl ?_
  refine a_al0 hX dL_law_1718 rfl ?_
  refine a_il4 hX dL_law_1719 rfl ?_
  refine a_ic 1 hX dL_law_1721 (by decide) rfl ?_
  refine a_iadd hX dL_law_1722 rfl ?_
  refine l_sld hI hX (c := 1) (by decide) hi (by decide) dL_law_1723 rfl ?_
  refine a_al3 hX dL_law_1724 rfl ?_
  refine l_wrap hX hR.2.2.2.2.1 hR.2.2.2.2.2.1 mlw_L_install (cw_install _ hR.2.2.2.2.2.2 _ _) hw rfl rfl ⟨by rw [hR.1]; exact Nat.le_of_ble_eq_true rfl, by rw [hR.2.1]; exact Nat.le_of_ble_eq_true rfl⟩ ⟨by rw [hR.2.2.1]; exact hc.1, by rw [hR.2.2.2.1]; exact hc.2⟩ (Nat.le_of_ble_eq_true rfl) rfl dL_law_1725 rfl ?_
  have hX' : CX (lX X τ' (aCe X + 1) (aSl X + 6)) code 7 RL := hX.l
  have hI' : LI (lX X τ' (aCe X + 1) (aSl X + 6)) L b xs := hI.l
  refine a_is5 hX' dL_law_1728 rfl ?_
  refine a_al2 hX' dL_law_1730 rfl ?_
  refine a_al0 hX' dL_law_1731 rfl ?_
  refine a_il4 hX' dL_law_1732 rfl ?_
  refine a_ic 1 hX' dL_law_1734 (by decide) rfl ?_
  refine a_iadd hX' dL_law_1735 rfl ?_
  refine l_sld hI' hX' (c := 1) (by decide) hi (by decide) dL_law_1736 rfl ?_
  refine l_callI hX' ml_L_188 (ci_X12_install _ _ _) hm s_94 rfl rfl rfl ⟨by show 5 + 1 ≤ (aR X).frames; rw [hR.1]; exact Nat.le_of_ble_eq_true rfl, by show _ ≤ (aR X).locals; rw [hR.2.1]; exact Nat.le_of_ble_eq_true rfl⟩ ⟨by show aCe X + 1 ≤ (aR X).cells; rw [hR.2.2.1]; exact hc.1, by show aSl X + 6 ≤ (aR X).slots; rw [hR.2.2.2.1]; exact hc.2⟩ (Nat.le_of_ble_eq_true rfl) rfl dL_law_1737 rfl ?_
  refine a_is6 hX' dL_law_1740 rfl ?_
  refine a_al2 hX' dL_law_1742 rfl ?_
  refine l_callI hX' ml_L_108 (ci_X12_thrown _  _) ht s_94 rfl rfl rfl ⟨by show 0 + 1 ≤ (aR X).frames; rw [hR.1]; exact Nat.le_of_ble_eq_true rfl, by show _ ≤ (aR X).locals; rw [hR.2.1]; exact Nat.le_of_ble_eq_true rfl⟩ ⟨by show aCe X + 1 ≤ (aR X).cells; rw [hR.2.2.1]; exact hc.1, by show aSl X + 6 ≤ (aR X).slots; rw [hR.2.2.2.1]; exact hc.2⟩ (Nat.le_of_ble_eq_true rfl) rfl dL_law_1743 rfl ?_
  refine a_il5 hX' dL_law_1746 rfl ?_
  refine l_icmp_eq_t hX' dL_law_1748 (pc1 := 1753) rfl rfl ?_
  refine a_il5 hX' dL_law_1753 rfl ?_
  by_cases hk0 : k = 0
  · refine l_if_ne_f hX' dL_law_1755 (tgt := 1770) rfl hk0 rfl ?_
    refine a_al3 hX' dL_law_1758 rfl ?_
    refine a_ic 0 hX' dL_law_1759 (by decide) rfl ?_
    refine l_lald hX' dL_law_1760 rfl ?_
    refine a_il6 hX' dL_law_1761 rfl ?_
    refine l_i2l hX' dL_law_1763 rfl ?_
    refine l_lcmpeq hX' dL_law_1764 dL_law_1765 (pc1 := 1770) rfl (hv hk0) ?_
    refine a_goto hX' dL_law_1770 (pc1 := 1898) rfl ?_
    exact a_sub hK (ls_s (ls_s (ls_s (ls_s (ls_s (ls_n (ls_n ls_0)))))))
  · refine l_if_ne_t hX' dL_law_1755 (pc1 := 1770) rfl hk0 ?_
    refine a_goto hX' dL_law_1770 (pc1 := 1898) rfl ?_
    exact a_sub hK (ls_s (ls_s (ls_s (ls_s (ls_s (ls_n (ls_n ls_0)))))))

set_option maxRecDepth 100000 in
set_option maxHeartbeats 2000000 in
theorem lc_24 {X : AX} {L b i : Nat} {xs : Nat → Int32} {σ : Mem} {Inv : Mem → Prop} (hX : CX X code 7 RL) (hR : LR X) (hI : LI X L b xs) (hi : i + 8 ≤ L) (hc : aCe X + 1 ≤ 1178 ∧ aSl X + 6 ≤ 10586) (hO : OP_spoil Inv) (hJ : Inv σ) (K : ∀ (τ' : Nat → Int64) (ce sl : Nat) (σ3 : Mem), Inv σ3 → ce ≤ aCe X + 1 → sl ≤ aSl X + 6 → LW (lX X τ' ce sl) 1898 [some (.ref 115), some (.ref 0), some (.ref 94), some (.ref 114), some (.int (nI i)), none, none] [] σ3) : LW X 1773 [some (.ref 115), some (.ref 0), some (.ref 94), some (.ref 114), some (.int (nI i)), none, none] [] σ := by
  obtain ⟨k, τ', σ1, bb, m2, m3, hw, hm, ht, hv, hJ3⟩ := hO (xs (i + 1)) σ (gt (aG X)) hJ
  have hK := K τ' (aCe X + 1) (aSl X + 6) m3 hJ3 (Nat.le_refl _) (Nat.le_refl _)
  refine a_al1 hX dL_law_1773 rfl ?_
  refine a_al0 hX dL_law_1774 rfl ?_
  refine a_il4 hX dL_law_1775 rfl ?_
  refine a_ic 1 hX dL_law_1777 (by decide) rfl ?_
  refine a_iadd hX dL_law_1778 rfl ?_
  refine l_sld hI hX (c := 1) (by decide) hi (by decide) dL_law_1779 rfl ?_
  refine a_al3 hX dL_law_1780 rfl ?_
  refine l_wrap hX hR.2.2.2.2.1 hR.2.2.2.2.2.1 mlw_L_spoil (cw_spoil _ hR.2.2.2.2.2.2 _ _) hw rfl rfl ⟨by rw [hR.1]; exact Nat.le_of_ble_eq_true rfl, by rw [hR.2.1]; exact Nat.le_of_ble_eq_true rfl⟩ ⟨by rw [hR.2.2.1]; exact hc.1, by rw [hR.2.2.2.1]; exact hc.2⟩ (Nat.le_of_ble_eq_true rfl) rfl dL_law_1781 rfl ?_
  have hX' : CX (lX X τ' (aCe X + 1) (aSl X + 6)) code 7 RL := hX.l
  have hI' : LI (lX X τ' (aCe X + 1) (aSl X + 6)) L b xs := hI.l
  refine a_is5 hX' dL_law_1784 rfl ?_
  refine a_al2 hX' dL_law_1786 rfl ?_
  refine a_al0 hX' dL_law_1787 rfl ?_
  refine a_il4 hX' dL_law_1788 rfl ?_
  refine a_ic 1 hX' dL_law_1790 (by decide) rfl ?_
  refine a_iadd hX' dL_law_1791 rfl ?_
  refine l_sld hI' hX' (c := 1) (by decide) hi (by decide) dL_law_1792 rfl ?_
  refine l_callI hX' ml_L_191 (ci_X12_spoil _ _ _) hm s_94 rfl rfl rfl ⟨by show 2 + 1 ≤ (aR X).frames; rw [hR.1]; exact Nat.le_of_ble_eq_true rfl, by show _ ≤ (aR X).locals; rw [hR.2.1]; exact Nat.le_of_ble_eq_true rfl⟩ ⟨by show aCe X + 1 ≤ (aR X).cells; rw [hR.2.2.1]; exact hc.1, by show aSl X + 6 ≤ (aR X).slots; rw [hR.2.2.2.1]; exact hc.2⟩ (Nat.le_of_ble_eq_true rfl) rfl dL_law_1793 rfl ?_
  refine a_is6 hX' dL_law_1796 rfl ?_
  refine a_al2 hX' dL_law_1798 rfl ?_
  refine l_callI hX' ml_L_108 (ci_X12_thrown _  _) ht s_94 rfl rfl rfl ⟨by show 0 + 1 ≤ (aR X).frames; rw [hR.1]; exact Nat.le_of_ble_eq_true rfl, by show _ ≤ (aR X).locals; rw [hR.2.1]; exact Nat.le_of_ble_eq_true rfl⟩ ⟨by show aCe X + 1 ≤ (aR X).cells; rw [hR.2.2.1]; exact hc.1, by show aSl X + 6 ≤ (aR X).slots; rw [hR.2.2.2.1]; exact hc.2⟩ (Nat.le_of_ble_eq_true rfl) rfl dL_law_1799 rfl ?_
  refine a_il5 hX' dL_law_1802 rfl ?_
  refine l_icmp_eq_t hX' dL_law_1804 (pc1 := 1809) rfl rfl ?_
  refine a_il5 hX' dL_law_1809 rfl ?_
  by_cases hk0 : k = 0
  · refine l_if_ne_f hX' dL_law_1811 (tgt := 1826) rfl hk0 rfl ?_
    refine a_al3 hX' dL_law_1814 rfl ?_
    refine a_ic 0 hX' dL_law_1815 (by decide) rfl ?_
    refine l_lald hX' dL_law_1816 rfl ?_
    refine a_il6 hX' dL_law_1817 rfl ?_
    refine l_i2l hX' dL_law_1819 rfl ?_
    refine l_lcmpeq hX' dL_law_1820 dL_law_1821 (pc1 := 1826) rfl (hv hk0) ?_
    refine a_goto hX' dL_law_1826 (pc1 := 1898) rfl ?_
    exact a_sub hK (ls_s (ls_s (ls_s (ls_s (ls_s (ls_n (ls_n ls_0)))))))
  · refine l_if_ne_t hX' dL_law_1811 (pc1 := 1826) rfl hk0 ?_
    refine a_goto hX' dL_law_1826 (pc1 := 1898) rfl ?_
    exact a_sub hK (ls_s (ls_s (ls_s (ls_s (ls_s (ls_n (ls_n ls_0)))))))

set_option maxRecDepth 100000 in
set_option maxHeartbeats 2000000 in
theorem lc_25 {X : AX} {L b i : Nat} {xs : Nat → Int32} {σ : Mem} {Inv : Mem → Prop} (hX : CX X code 7 RL) (hR : LR X) (hI : LI X L b xs) (hi : i + 8 ≤ L) (hc : aCe X + 1 ≤ 1178 ∧ aSl X + 6 ≤ 10586) (hO : OP_onDisk Inv) (hJ : Inv σ) (K : ∀ (τ' : Nat → Int64) (ce sl : Nat) (σ3 : Mem), Inv σ3 → ce ≤ aCe X + 1 → sl ≤ aSl X + 6 → LW (lX X τ' ce sl) 1898 [some (.ref 115), some (.ref 0), some (.ref 94), some (.ref 114), some (.int (nI i)), none, none] [] σ3) : LW X 1829 [some (.ref 115), some (.ref 0), some (.ref 94), some (.ref 114), some (.int (nI i)), none, none] [] σ := by
  obtain ⟨k, τ', σ1, bb, m2, m3, hw, hm, ht, hv, hJ3⟩ := hO (xs (i + 1)) σ (gt (aG X)) hJ
  have hK := K τ' (aCe X + 1) (aSl X + 6) m3 hJ3 (Nat.le_refl _) (Nat.le_refl _)
  refine a_al1 hX dL_law_1829 rfl ?_
  refine a_al0 hX dL_law_1830 rfl ?_
  refine a_il4 hX dL_law_1831 rfl ?_
  refine a_ic 1 hX dL_law_1833 (by decide) rfl ?_
  refine a_iadd hX dL_law_1834 rfl ?_
  refine l_sld hI hX (c := 1) (by decide) hi (by decide) dL_law_1835 rfl ?_
  refine a_al3 hX dL_law_1836 rfl ?_
  refine l_wrap hX hR.2.2.2.2.1 hR.2.2.2.2.2.1 mlw_L_onDisk (cw_onDisk _ hR.2.2.2.2.2.2 _ _) hw rfl rfl ⟨by rw [hR.1]; exact Nat.le_of_ble_eq_true rfl, by rw [hR.2.1]; exact Nat.le_of_ble_eq_true rfl⟩ ⟨by rw [hR.2.2.1]; exact hc.1, by rw [hR.2.2.2.1]; exact hc.2⟩ (Nat.le_of_ble_eq_true rfl) rfl dL_law_1837 rfl ?_
  have hX' : CX (lX X τ' (aCe X + 1) (aSl X + 6)) code 7 RL := hX.l
  have hI' : LI (lX X τ' (aCe X + 1) (aSl X + 6)) L b xs := hI.l
  refine a_is5 hX' dL_law_1840 rfl ?_
  refine a_al2 hX' dL_law_1842 rfl ?_
  refine a_al0 hX' dL_law_1843 rfl ?_
  refine a_il4 hX' dL_law_1844 rfl ?_
  refine a_ic 1 hX' dL_law_1846 (by decide) rfl ?_
  refine a_iadd hX' dL_law_1847 rfl ?_
  refine l_sld hI' hX' (c := 1) (by decide) hi (by decide) dL_law_1848 rfl ?_
  refine l_callI hX' ml_L_194 (ci_X12_onDisk _ _ _) hm s_94 rfl rfl rfl ⟨by show 2 + 1 ≤ (aR X).frames; rw [hR.1]; exact Nat.le_of_ble_eq_true rfl, by show _ ≤ (aR X).locals; rw [hR.2.1]; exact Nat.le_of_ble_eq_true rfl⟩ ⟨by show aCe X + 1 ≤ (aR X).cells; rw [hR.2.2.1]; exact hc.1, by show aSl X + 6 ≤ (aR X).slots; rw [hR.2.2.2.1]; exact hc.2⟩ (Nat.le_of_ble_eq_true rfl) rfl dL_law_1849 rfl ?_
  refine a_is6 hX' dL_law_1852 rfl ?_
  refine a_al2 hX' dL_law_1854 rfl ?_
  refine l_callI hX' ml_L_108 (ci_X12_thrown _  _) ht s_94 rfl rfl rfl ⟨by show 0 + 1 ≤ (aR X).frames; rw [hR.1]; exact Nat.le_of_ble_eq_true rfl, by show _ ≤ (aR X).locals; rw [hR.2.1]; exact Nat.le_of_ble_eq_true rfl⟩ ⟨by show aCe X + 1 ≤ (aR X).cells; rw [hR.2.2.1]; exact hc.1, by show aSl X + 6 ≤ (aR X).slots; rw [hR.2.2.2.1]; exact hc.2⟩ (Nat.le_of_ble_eq_true rfl) rfl dL_law_1855 rfl ?_
  refine a_il5 hX' dL_law_1858 rfl ?_
  refine l_icmp_eq_t hX' dL_law_1860 (pc1 := 1865) rfl rfl ?_
  refine a_il5 hX' dL_law_1865 rfl ?_
  by_cases hk0 : k = 0
  · refine l_if_ne_f hX' dL_law_1867 (tgt := 1882) rfl hk0 rfl ?_
    refine a_al3 hX' dL_law_1870 rfl ?_
    refine a_ic 0 hX' dL_law_1871 (by decide) rfl ?_
    refine l_lald hX' dL_law_1872 rfl ?_
    refine a_il6 hX' dL_law_1873 rfl ?_
    refine l_i2l hX' dL_law_1875 rfl ?_
    refine l_lcmpeq hX' dL_law_1876 dL_law_1877 (pc1 := 1882) rfl (hv hk0) ?_
    refine a_goto hX' dL_law_1882 (pc1 := 1898) rfl ?_
    exact a_sub hK (ls_s (ls_s (ls_s (ls_s (ls_s (ls_n (ls_n ls_0)))))))
  · refine l_if_ne_t hX' dL_law_1867 (pc1 := 1882) rfl hk0 ?_
    refine a_goto hX' dL_law_1882 (pc1 := 1898) rfl ?_
    exact a_sub hK (ls_s (ls_s (ls_s (ls_s (ls_s (ls_n (ls_n ls_0)))))))

set_option maxRecDepth 100000 in
set_option maxHeartbeats 2000000 in
theorem lc_26 {X : AX} {L b i : Nat} {xs : Nat → Int32} {σ : Mem} {Inv : Mem → Prop} (hX : CX X code 7 RL) (hR : LR X) (hI : LI X L b xs) (hi : i + 8 ≤ L) (hc : aCe X + 1 ≤ 1178 ∧ aSl X + 6 ≤ 10586) (hO : OP_pending Inv) (hJ : Inv σ) (K : ∀ (τ' : Nat → Int64) (ce sl : Nat) (σ3 : Mem), Inv σ3 → ce ≤ aCe X + 1 → sl ≤ aSl X + 6 → LW (lX X τ' ce sl) 1898 [some (.ref 115), some (.ref 0), some (.ref 94), some (.ref 114), some (.int (nI i)), none, none] [] σ3) : LW X 1885 [some (.ref 115), some (.ref 0), some (.ref 94), some (.ref 114), some (.int (nI i)), none, none] [] σ := by
  obtain ⟨bb, σ1, m2, hx, hm, hJ3⟩ := hO σ hJ
  have hK : LW X 1898 [some (.ref 115), some (.ref 0), some (.ref 94), some (.ref 114), some (.int (nI i)), none, none] [] m2 := K (gt (aG X)) (aCe X) (aSl X) m2 hJ3 (Nat.le_succ _) (Nat.le_add_right _ _)
  refine a_al1 hX dL_law_1885 rfl ?_
  refine l_callI hX ml_L_195 (ci_X11_pending _  _) hx s_0 rfl rfl rfl ⟨by show 6 + 1 ≤ (aR X).frames; rw [hR.1]; exact Nat.le_of_ble_eq_true rfl, by show _ ≤ (aR X).locals; rw [hR.2.1]; exact Nat.le_of_ble_eq_true rfl⟩ ⟨by rw [hR.2.2.1]; omega, by rw [hR.2.2.2.1]; omega⟩ (Nat.le_of_ble_eq_true rfl) rfl dL_law_1886 rfl ?_
  refine a_al2 hX dL_law_1889 rfl ?_
  refine l_callI hX ml_L_198 (ci_X12_pending _  _) hm s_94 rfl rfl rfl ⟨by show 5 + 1 ≤ (aR X).frames; rw [hR.1]; exact Nat.le_of_ble_eq_true rfl, by show _ ≤ (aR X).locals; rw [hR.2.1]; exact Nat.le_of_ble_eq_true rfl⟩ ⟨by rw [hR.2.2.1]; omega, by rw [hR.2.2.2.1]; omega⟩ (Nat.le_of_ble_eq_true rfl) rfl dL_law_1890 rfl ?_
  refine l_icmp_eq_t hX dL_law_1893 (pc1 := 1898) rfl rfl ?_
  exact hK
theorem l_gt_t {X : AX} {cc : ByteArray} {mL : Nat} {own : String} {pc pc1 : Nat} {ls : List (Option Value)} {st : List Value} {σ : Mem} {x y : Int32} {off : Int} (hX : CX X cc mL own) (d : decode cc pc = .ok (.if_icmp .gt off, 3)) (ht : (pc : Int) + off = (pc1 : Int)) (h : y < x) (k : LW X pc1 ls st σ) : LW X pc ls (.int y :: .int x :: st) σ := fun ho H locs lsA h1 h2 h3 h4 =>
  lv_icmp_gt hX.1 hX.2.1 d ht (fun _ => k ho H locs lsA h1 h2 h3 h4) (fun c => (c h).elim)
theorem l_gt_f {X : AX} {cc : ByteArray} {mL : Nat} {own : String} {pc pc1 : Nat} {ls : List (Option Value)} {st : List Value} {σ : Mem} {x y : Int32} {off : Int} {tgt : Nat} (hX : CX X cc mL own) (d : decode cc pc = .ok (.if_icmp .gt off, 3)) (ht : (pc : Int) + off = (tgt : Int)) (h : ¬ y < x) (hp : pc + 3 = pc1) (k : LW X pc1 ls st σ) : LW X pc ls (.int y :: .int x :: st) σ := fun ho H locs lsA h1 h2 h3 h4 => by
  subst hp
  exact lv_icmp_gt hX.1 hX.2.1 d ht (fun c => (h c).elim) (fun _ => k ho H locs lsA h1 h2 h3 h4)

theorem d_sw : decode code 40 = .ok (.tableswitch 1858 0 26 #[124, 242, 310, 373, 441, 528, 632, 712, 787, 919, 1011, 1079, 1135, 1203, 1259, 1327, 1383, 1439, 1495, 1508, 1521, 1577, 1621, 1677, 1733, 1789, 1845], 124) := dL_law_40
theorem sw_in {X : AX} {ls : List (Option Value)} {σ : Mem} (hX : CX X code 7 RL) (k tgt : Nat) (hk : k < 27) (ho : (#[124, 242, 310, 373, 441, 528, 632, 712, 787, 919, 1011, 1079, 1135, 1203, 1259, 1327, 1383, 1439, 1495, 1508, 1521, 1577, 1621, 1677, 1733, 1789, 1845] : Array Int)[k]? = some ((tgt : Int) - 40)) (kk : LW X tgt ls [] σ) : LW X 40 ls [.int (nI k)] σ := fun ho2 H locs lsA h1 h2 h3 h4 => by
  have e : (nI k).toInt = k := nI_toInt (by omega)
  exact lv_tableIn hX.1 hX.2.1 d_sw (by rw [e]; omega) (by rw [e]; omega) (by rw [e]; simpa using ho) (by omega) (kk ho2 H locs lsA h1 h2 h3 h4)
theorem sw_out {X : AX} {ls : List (Option Value)} {σ : Mem} (hX : CX X code 7 RL) (k : Nat) (hk : 27 ≤ k ∧ k < 32) (kk : LW X 1898 ls [] σ) : LW X 40 ls [.int (nI k)] σ := fun ho2 H locs lsA h1 h2 h3 h4 => by
  have e : (nI k).toInt = k := nI_toInt (by omega)
  exact lv_tableOut hX.1 hX.2.1 d_sw (by rw [e]; omega) rfl (kk ho2 H locs lsA h1 h2 h3 h4)
set_option maxRecDepth 100000 in
set_option maxHeartbeats 2000000 in
theorem law_case {X : AX} {L b i : Nat} {xs : Nat → Int32} {σ : Mem} {Inv : Mem → Prop} (hX : CX X code 7 RL) (hR : LR X) (hI : LI X L b xs) (hi : i + 8 ≤ L) (hc : aCe X + 1 ≤ 1178 ∧ aSl X + 6 ≤ 10586) (hO : OPS Inv) (hJ : Inv σ) (K : ∀ (τ' : Nat → Int64) (ce sl : Nat) (σ3 : Mem), Inv σ3 → ce ≤ aCe X + 1 → sl ≤ aSl X + 6 → LW (lX X τ' ce sl) 1898 [some (.ref 115), some (.ref 0), some (.ref 94), some (.ref 114), some (.int (nI i)), none, none] [] σ3) : LW X 33 [some (.ref 115), some (.ref 0), some (.ref 94), some (.ref 114), some (.int (nI i)), none, none] [] σ := by
  refine a_al0 hX dL_law_33 rfl ?_
  refine a_il4 hX dL_law_34 rfl ?_
  refine l_sld0 hI hX hi dL_law_36 rfl ?_
  refine a_bi 31 hX dL_law_37 (by decide) rfl ?_
  refine a_iand hX dL_law_39 rfl ?_
  obtain ⟨j, hj, e⟩ := pk_andE (xs i) (m := 31) 5 (by decide)
  rw [e]
  have hj32 : j < 32 := hj
  by_cases h27 : 27 ≤ j
  · exact sw_out hX j ⟨h27, hj32⟩ (K (gt (aG X)) (aCe X) (aSl X) σ hJ (Nat.le_succ _) (Nat.le_add_right _ _))
  by_cases e0 : j = 0
  · subst e0
    exact sw_in hX 0 164 (by decide) rfl (lc_0 hX hR hI hi hc hO.1 hJ K)
  by_cases e1 : j = 1
  · subst e1
    exact sw_in hX 1 282 (by decide) rfl (lc_1 hX hR hI hi hc hO.2.1 hJ K)
  by_cases e2 : j = 2
  · subst e2
    exact sw_in hX 2 350 (by decide) rfl (lc_2 hX hR hI hi hc hO.2.2.1 hJ K)
  by_cases e3 : j = 3
  · subst e3
    exact sw_in hX 3 413 (by decide) rfl (lc_3 hX hR hI hi hc hO.2.2.2.1 hJ K)
  by_cases e4 : j = 4
  · subst e4
    exact sw_in hX 4 481 (by decide) rfl (lc_4 hX hR hI hi hc hO.2.2.2.2.1 hJ K)
  by_cases e5 : j = 5
  · subst e5
    exact sw_in hX 5 568 (by decide) rfl (lc_5 hX hR hI hi hc hO.2.2.2.2.2.1 hJ K)
  by_cases e6 : j = 6
  · subst e6
    exact sw_in hX 6 672 (by decide) rfl (lc_6 hX hR hI hi hc hO.2.2.2.2.2.2.1 hJ K)
  by_cases e7 : j = 7
  · subst e7
    exact sw_in hX 7 752 (by decide) rfl (lc_7 hX hR hI hi hc hO.2.2.2.2.2.2.2.1 hJ K)
  by_cases e8 : j = 8
  · subst e8
    exact sw_in hX 8 827 (by decide) rfl (lc_8 hX hR hI hi hc hO.2.2.2.2.2.2.2.2.1 hJ K)
  by_cases e9 : j = 9
  · subst e9
    exact sw_in hX 9 959 (by decide) rfl (lc_9 hX hR hI hi hc hO.2.2.2.2.2.2.2.2.2.1 hJ K)
  by_cases e10 : j = 10
  · subst e10
    exact sw_in hX 10 1051 (by decide) rfl (lc_10 hX hR hI hi hc hO.2.2.2.2.2.2.2.2.2.2.1 hJ K)
  by_cases e11 : j = 11
  · subst e11
    exact sw_in hX 11 1119 (by decide) rfl (lc_11 hX hR hI hi hc hO.2.2.2.2.2.2.2.2.2.2.2.1 hJ K)
  by_cases e12 : j = 12
  · subst e12
    exact sw_in hX 12 1175 (by decide) rfl (lc_12 hX hR hI hi hc hO.2.2.2.2.2.2.2.2.2.2.2.2.1 hJ K)
  by_cases e13 : j = 13
  · subst e13
    exact sw_in hX 13 1243 (by decide) rfl (lc_13 hX hR hI hi hc hO.2.2.2.2.2.2.2.2.2.2.2.2.2.1 hJ K)
  by_cases e14 : j = 14
  · subst e14
    exact sw_in hX 14 1299 (by decide) rfl (lc_14 hX hR hI hi hc hO.2.2.2.2.2.2.2.2.2.2.2.2.2.2.1 hJ K)
  by_cases e15 : j = 15
  · subst e15
    exact sw_in hX 15 1367 (by decide) rfl (lc_15 hX hR hI hi hc hO.2.2.2.2.2.2.2.2.2.2.2.2.2.2.2.1 hJ K)
  by_cases e16 : j = 16
  · subst e16
    exact sw_in hX 16 1423 (by decide) rfl (lc_16 hX hR hI hi hc hO.2.2.2.2.2.2.2.2.2.2.2.2.2.2.2.2.1 hJ K)
  by_cases e17 : j = 17
  · subst e17
    exact sw_in hX 17 1479 (by decide) rfl (lc_17 hX hR hI hi hc hO.2.2.2.2.2.2.2.2.2.2.2.2.2.2.2.2.2.1 hJ K)
  by_cases e18 : j = 18
  · subst e18
    exact sw_in hX 18 1535 (by decide) rfl (lc_18 hX hR hI hi hc hO.2.2.2.2.2.2.2.2.2.2.2.2.2.2.2.2.2.2.1 hJ K)
  by_cases e19 : j = 19
  · subst e19
    exact sw_in hX 19 1548 (by decide) rfl (lc_19 hX hR hI hi hc hO.2.2.2.2.2.2.2.2.2.2.2.2.2.2.2.2.2.2.2.1 hJ K)
  by_cases e20 : j = 20
  · subst e20
    exact sw_in hX 20 1561 (by decide) rfl (lc_20 hX hR hI hi hc hO.2.2.2.2.2.2.2.2.2.2.2.2.2.2.2.2.2.2.2.2.1 hJ K)
  by_cases e21 : j = 21
  · subst e21
    exact sw_in hX 21 1617 (by decide) rfl (lc_21 hX hR hI hi hc hO.2.2.2.2.2.2.2.2.2.2.2.2.2.2.2.2.2.2.2.2.2.1 hJ K)
  by_cases e22 : j = 22
  · subst e22
    exact sw_in hX 22 1661 (by decide) rfl (lc_22 hX hR hI hi hc hO.2.2.2.2.2.2.2.2.2.2.2.2.2.2.2.2.2.2.2.2.2.2.1 hJ K)
  by_cases e23 : j = 23
  · subst e23
    exact sw_in hX 23 1717 (by decide) rfl (lc_23 hX hR hI hi hc hO.2.2.2.2.2.2.2.2.2.2.2.2.2.2.2.2.2.2.2.2.2.2.2.1 hJ K)
  by_cases e24 : j = 24
  · subst e24
    exact sw_in hX 24 1773 (by decide) rfl (lc_24 hX hR hI hi hc hO.2.2.2.2.2.2.2.2.2.2.2.2.2.2.2.2.2.2.2.2.2.2.2.2.1 hJ K)
  by_cases e25 : j = 25
  · subst e25
    exact sw_in hX 25 1829 (by decide) rfl (lc_25 hX hR hI hi hc hO.2.2.2.2.2.2.2.2.2.2.2.2.2.2.2.2.2.2.2.2.2.2.2.2.2.1 hJ K)
  by_cases e26 : j = 26
  · subst e26
    exact sw_in hX 26 1885 (by decide) rfl (lc_26 hX hR hI hi hc hO.2.2.2.2.2.2.2.2.2.2.2.2.2.2.2.2.2.2.2.2.2.2.2.2.2.2 hJ K)
  omega
/-- the loop: from its head, with room left for each call to come, to the row behind it -/
theorem law_loop {L b : Nat} {xs : Nat → Int32} {Inv : Mem → Prop} (hO : OPS Inv) : ∀ (n i : Nat) (X : AX) (σ : Mem), CX X code 7 RL → LR X → LI X L b xs → i ≤ L → L ≤ i + 8 * n + 7 → aCe X + n ≤ 1178 → aSl X + 6 * n ≤ 10586 → Inv σ →
    (∀ (i' : Nat) (τ' : Nat → Int64) (ce sl : Nat) (σ3 : Mem), ce ≤ 1178 → sl ≤ 10586 → LW (lX X τ' ce sl) 1904 [some (.ref 115), some (.ref 0), some (.ref 94), some (.ref 114), some (.int (nI i')), none, none] [] σ3) → LW X 23 [some (.ref 115), some (.ref 0), some (.ref 94), some (.ref 114), some (.int (nI i)), none, none] [] σ := by
  intro n
  induction n with
  | zero =>
    intro i X σ hX hR hI hiL hn hce hsl hJ K
    have hL : L ≤ 4096 := hI.2.2.2.2
    refine a_il4 hX dL_law_23 rfl ?_
    refine a_al0 hX dL_law_25 rfl ?_
    refine l_slen hI hX dL_law_26 rfl ?_
    refine a_bi 8 hX dL_law_27 (by decide) rfl ?_
    refine a_isub hX dL_law_29 rfl ?_
    refine l_gt_t hX dL_law_30 (pc1 := 1904) rfl ?_ (K i (gt (aG X)) (aCe X) (aSl X) σ (by omega) (by omega))
    rw [Int32.lt_iff_toInt_lt, show (8 : Int32) = nI 8 from rfl, pk_sub_toInt (by omega) (by omega), nI_toInt (by omega)]
    omega
  | succ n ih =>
    intro i X σ hX hR hI hiL hn hce hsl hJ K
    have hL : L ≤ 4096 := hI.2.2.2.2
    refine a_il4 hX dL_law_23 rfl ?_
    refine a_al0 hX dL_law_25 rfl ?_
    refine l_slen hI hX dL_law_26 rfl ?_
    refine a_bi 8 hX dL_law_27 (by decide) rfl ?_
    refine a_isub hX dL_law_29 rfl ?_
    by_cases hi : i + 8 ≤ L
    · refine l_gt_f hX dL_law_30 (tgt := 1904) rfl ?_ rfl ?_
      · rw [Int32.lt_iff_toInt_lt, show (8 : Int32) = nI 8 from rfl, pk_sub_toInt (by omega) (by omega), nI_toInt (by omega)]
        omega
      · refine law_case hX hR hI hi ⟨by omega, by omega⟩ hO hJ (fun τ' ce sl σ3 hJ3 h1 h2 => ?_)
        refine a_inc4 8 hX.l dL_law_1898 (by decide) rfl ?_
        refine a_goto hX.l dL_law_1901 (pc1 := 23) rfl ?_
        have e : nI i + 8 = nI (i + 8) := nI_plus rfl
        rw [e]
        exact ih (i + 8) (lX X τ' ce sl) σ3 hX.l hR.l hI.l hi (by omega) (by show ce + n ≤ 1178; omega) (by show sl + 6 * n ≤ 10586; omega) hJ3 K
    · refine l_gt_t hX dL_law_30 (pc1 := 1904) rfl ?_ (K i (gt (aG X)) (aCe X) (aSl X) σ (by omega) (by omega))
      rw [Int32.lt_iff_toInt_lt, show (8 : Int32) = nI 8 from rfl, pk_sub_toInt (by omega) (by omega), nI_toInt (by omega)]
      omega
