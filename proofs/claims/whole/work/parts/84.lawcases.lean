/-! the law's 24 cases -/
set_option maxHeartbeats 1000000 in
theorem g_feed {X : Cx} {c0 s0 cells slots n i : Nat} {f : Nat → Int32} (G : GX X c0 s0 n f cells slots i) {M : Mem} (hR : Rel M) (kk : ∀ M', Rel M' → Wat X (cells + 1) (slots + 6) LY 1298 (lvL i) [] M') : Wat X cells slots LY 152 (lvL i) [] M := by
  refine s_aload_n G.1 dL_law_152 rfl ?_
  refine s_aload_n G.1 dL_law_153 rfl ?_
  refine s_iload G.1 dL_law_154 rfl ?_
  refine s_iconst (v := nI 1) G.1 dL_law_156 rfl ?_
  refine s_iadd G.1 dL_law_157 ?_
  refine s_sld G.1 G.2.2.1 (j := i + 1) (by have := G.2.2.2.1; omega) (by have := G.2.2.2.1; have := G.2.2.2.2.1; omega) (nI_add i 1) dL_law_158 ?_
  refine s_i2l G.1 dL_law_159 ?_
  refine s_bipush (v := nI 32) G.1 dL_law_160 rfl ?_
  refine s_lshl G.1 dL_law_162 ?_
  refine s_aload_n G.1 dL_law_163 rfl ?_
  refine s_iload G.1 dL_law_164 rfl ?_
  refine s_iconst (v := nI 2) G.1 dL_law_166 rfl ?_
  refine s_iadd G.1 dL_law_167 ?_
  refine s_sld G.1 G.2.2.1 (j := i + 2) (by have := G.2.2.2.1; omega) (by have := G.2.2.2.1; have := G.2.2.2.2.1; omega) (nI_add i 2) dL_law_168 ?_
  refine s_i2l G.1 dL_law_169 ?_
  refine s_ldc2 G.1 wd_cj_L_30 dL_law_170 ?_
  refine s_land G.1 dL_law_173 ?_
  refine s_lor G.1 dL_law_174 ?_
  refine s_aload_n G.1 dL_law_175 rfl ?_
  refine s_iload G.1 dL_law_176 rfl ?_
  refine s_iconst (v := nI 3) G.1 dL_law_178 rfl ?_
  refine s_iadd G.1 dL_law_179 ?_
  refine s_sld G.1 G.2.2.1 (j := i + 3) (by have := G.2.2.2.1; omega) (by have := G.2.2.2.1; have := G.2.2.2.2.1; omega) (nI_add i 3) dL_law_180 ?_
  refine s_i2l G.1 dL_law_181 ?_
  refine s_bipush (v := nI 32) G.1 dL_law_182 rfl ?_
  refine s_lshl G.1 dL_law_184 ?_
  refine s_aload_n G.1 dL_law_185 rfl ?_
  refine s_iload G.1 dL_law_186 rfl ?_
  refine s_iconst (v := nI 4) G.1 dL_law_188 rfl ?_
  refine s_iadd G.1 dL_law_189 ?_
  refine s_sld G.1 G.2.2.1 (j := i + 4) (by have := G.2.2.2.1; omega) (by have := G.2.2.2.1; have := G.2.2.2.2.1; omega) (nI_add i 4) dL_law_190 ?_
  refine s_i2l G.1 dL_law_191 ?_
  refine s_ldc2 G.1 wd_cj_L_30 dL_law_192 ?_
  refine s_land G.1 dL_law_195 ?_
  refine s_lor G.1 dL_law_196 ?_
  refine s_aload_n G.1 dL_law_197 rfl ?_
  refine s_iload G.1 dL_law_198 rfl ?_
  refine s_iconst (v := nI 5) G.1 dL_law_200 rfl ?_
  refine s_iadd G.1 dL_law_201 ?_
  refine s_sld G.1 G.2.2.1 (j := i + 5) (by have := G.2.2.2.1; omega) (by have := G.2.2.2.1; have := G.2.2.2.2.1; omega) (nI_add i 5) dL_law_202 ?_
  refine s_i2l G.1 dL_law_203 ?_
  refine s_bipush (v := nI 32) G.1 dL_law_204 rfl ?_
  refine s_lshl G.1 dL_law_206 ?_
  refine s_aload_n G.1 dL_law_207 rfl ?_
  refine s_iload G.1 dL_law_208 rfl ?_
  refine s_bipush (v := nI 6) G.1 dL_law_210 rfl ?_
  refine s_iadd G.1 dL_law_212 ?_
  refine s_sld G.1 G.2.2.1 (j := i + 6) (by have := G.2.2.2.1; omega) (by have := G.2.2.2.1; have := G.2.2.2.2.1; omega) (nI_add i 6) dL_law_213 ?_
  refine s_i2l G.1 dL_law_214 ?_
  refine s_ldc2 G.1 wd_cj_L_30 dL_law_215 ?_
  refine s_land G.1 dL_law_218 ?_
  refine s_lor G.1 dL_law_219 ?_
  refine s_cvi (as := [vl (((Int32.toInt64 (f (i + 1))) <<< (Int32.toInt64 (nI 32) &&& 63)) ||| ((Int32.toInt64 (f (i + 2))) &&& (4294967295))), vl (((Int32.toInt64 (f (i + 3))) <<< (Int32.toInt64 (nI 32) &&& 63)) ||| ((Int32.toInt64 (f (i + 4))) &&& (4294967295))), vl (((Int32.toInt64 (f (i + 5))) <<< (Int32.toInt64 (nI 32) &&& 63)) ||| ((Int32.toInt64 (f (i + 6))) &&& (4294967295)))]) (rest := []) G.1 (c_Top_feed (r_feed hR)) mv_Top_feed wd_ml_L_32 dL_law_220 ly_c_xx rfl rfl (Nat.le_of_ble_eq_true rfl) rfl (by decide) ⟨by have := G.2.2.2.2.2.1; omega, by have := G.2.2.2.2.2.2; omega⟩ (fun r1 M1 h => ?_)
  refine s_aload_n G.1 dL_law_223 rfl ?_
  refine s_aload_n G.1 dL_law_224 rfl ?_
  refine s_iload G.1 dL_law_225 rfl ?_
  refine s_iconst (v := nI 1) G.1 dL_law_227 rfl ?_
  refine s_iadd G.1 dL_law_228 ?_
  refine s_sld G.1 G.2.2.1 (j := i + 1) (by have := G.2.2.2.1; omega) (by have := G.2.2.2.1; have := G.2.2.2.2.1; omega) (nI_add i 1) dL_law_229 ?_
  refine s_i2l G.1 dL_law_230 ?_
  refine s_bipush (v := nI 32) G.1 dL_law_231 rfl ?_
  refine s_lshl G.1 dL_law_233 ?_
  refine s_aload_n G.1 dL_law_234 rfl ?_
  refine s_iload G.1 dL_law_235 rfl ?_
  refine s_iconst (v := nI 2) G.1 dL_law_237 rfl ?_
  refine s_iadd G.1 dL_law_238 ?_
  refine s_sld G.1 G.2.2.1 (j := i + 2) (by have := G.2.2.2.1; omega) (by have := G.2.2.2.1; have := G.2.2.2.2.1; omega) (nI_add i 2) dL_law_239 ?_
  refine s_i2l G.1 dL_law_240 ?_
  refine s_ldc2 G.1 wd_cj_L_30 dL_law_241 ?_
  refine s_land G.1 dL_law_244 ?_
  refine s_lor G.1 dL_law_245 ?_
  refine s_aload_n G.1 dL_law_246 rfl ?_
  refine s_iload G.1 dL_law_247 rfl ?_
  refine s_iconst (v := nI 3) G.1 dL_law_249 rfl ?_
  refine s_iadd G.1 dL_law_250 ?_
  refine s_sld G.1 G.2.2.1 (j := i + 3) (by have := G.2.2.2.1; omega) (by have := G.2.2.2.1; have := G.2.2.2.2.1; omega) (nI_add i 3) dL_law_251 ?_
  refine s_i2l G.1 dL_law_252 ?_
  refine s_bipush (v := nI 32) G.1 dL_law_253 rfl ?_
  refine s_lshl G.1 dL_law_255 ?_
  refine s_aload_n G.1 dL_law_256 rfl ?_
  refine s_iload G.1 dL_law_257 rfl ?_
  refine s_iconst (v := nI 4) G.1 dL_law_259 rfl ?_
  refine s_iadd G.1 dL_law_260 ?_
  refine s_sld G.1 G.2.2.1 (j := i + 4) (by have := G.2.2.2.1; omega) (by have := G.2.2.2.1; have := G.2.2.2.2.1; omega) (nI_add i 4) dL_law_261 ?_
  refine s_i2l G.1 dL_law_262 ?_
  refine s_ldc2 G.1 wd_cj_L_30 dL_law_263 ?_
  refine s_land G.1 dL_law_266 ?_
  refine s_lor G.1 dL_law_267 ?_
  refine s_aload_n G.1 dL_law_268 rfl ?_
  refine s_iload G.1 dL_law_269 rfl ?_
  refine s_iconst (v := nI 5) G.1 dL_law_271 rfl ?_
  refine s_iadd G.1 dL_law_272 ?_
  refine s_sld G.1 G.2.2.1 (j := i + 5) (by have := G.2.2.2.1; omega) (by have := G.2.2.2.1; have := G.2.2.2.2.1; omega) (nI_add i 5) dL_law_273 ?_
  refine s_i2l G.1 dL_law_274 ?_
  refine s_bipush (v := nI 32) G.1 dL_law_275 rfl ?_
  refine s_lshl G.1 dL_law_277 ?_
  refine s_aload_n G.1 dL_law_278 rfl ?_
  refine s_iload G.1 dL_law_279 rfl ?_
  refine s_bipush (v := nI 6) G.1 dL_law_281 rfl ?_
  refine s_iadd G.1 dL_law_283 ?_
  refine s_sld G.1 G.2.2.1 (j := i + 6) (by have := G.2.2.2.1; omega) (by have := G.2.2.2.1; have := G.2.2.2.2.1; omega) (nI_add i 6) dL_law_284 ?_
  refine s_i2l G.1 dL_law_285 ?_
  refine s_ldc2 G.1 wd_cj_L_30 dL_law_286 ?_
  refine s_land G.1 dL_law_289 ?_
  refine s_lor G.1 dL_law_290 ?_
  refine s_cvi (as := [vl (((Int32.toInt64 (f (i + 1))) <<< (Int32.toInt64 (nI 32) &&& 63)) ||| ((Int32.toInt64 (f (i + 2))) &&& (4294967295))), vl (((Int32.toInt64 (f (i + 3))) <<< (Int32.toInt64 (nI 32) &&& 63)) ||| ((Int32.toInt64 (f (i + 4))) &&& (4294967295))), vl (((Int32.toInt64 (f (i + 5))) <<< (Int32.toInt64 (nI 32) &&& 63)) ||| ((Int32.toInt64 (f (i + 6))) &&& (4294967295)))]) (rest := [vi r1]) G.1 (c_Mo_feed h) mv_Mo_feed wd_ml_L_36 dL_law_291 ly_c_mo rfl rfl (Nat.le_of_ble_eq_true rfl) rfl (by decide) ⟨by have := G.2.2.2.2.2.1; omega, by have := G.2.2.2.2.2.2; omega⟩ (fun r2 M2 h => ?_)
  obtain ⟨e, hR2, -, -⟩ := h
  subst e
  exact s_icmp_eq (tgt := 1298) G.1 dL_law_294 (by decide) (fun _ => s_widen (by omega) (by omega) (kk _ hR2)) (fun c => absurd rfl c)
set_option maxHeartbeats 1000000 in
theorem g_hills {X : Cx} {c0 s0 cells slots n i : Nat} {f : Nat → Int32} (G : GX X c0 s0 n f cells slots i) {M : Mem} (hR : Rel M) (kk : ∀ M', Rel M' → Wat X (cells + 1) (slots + 6) LY 1298 (lvL i) [] M') : Wat X cells slots LY 299 (lvL i) [] M := by
  refine s_aload_n G.1 dL_law_299 rfl ?_
  refine s_cvi (as := []) (rest := []) G.1 (c_Top_hills (r_hills hR)) mv_Top_hills wd_ml_L_37 dL_law_300 ly_c_xx rfl rfl (Nat.le_of_ble_eq_true rfl) rfl (by decide) ⟨by have := G.2.2.2.2.2.1; omega, by have := G.2.2.2.2.2.2; omega⟩ (fun r1 M1 h => ?_)
  refine s_aload_n G.1 dL_law_303 rfl ?_
  refine s_cvi (as := []) (rest := [vi r1]) G.1 (c_Mo_hills h) mv_Mo_hills wd_ml_L_41 dL_law_304 ly_c_mo rfl rfl (Nat.le_of_ble_eq_true rfl) rfl (by decide) ⟨by have := G.2.2.2.2.2.1; omega, by have := G.2.2.2.2.2.2; omega⟩ (fun r2 M2 h => ?_)
  obtain ⟨e, hR2, -, -⟩ := h
  subst e
  exact s_icmp_eq (tgt := 1298) G.1 dL_law_307 (by decide) (fun _ => s_widen (by omega) (by omega) (kk _ hR2)) (fun c => absurd rfl c)
set_option maxHeartbeats 1000000 in
theorem g_person {X : Cx} {c0 s0 cells slots n i : Nat} {f : Nat → Int32} (G : GX X c0 s0 n f cells slots i) {M : Mem} (hR : Rel M) (kk : ∀ M', Rel M' → Wat X (cells + 1) (slots + 6) LY 1298 (lvL i) [] M') : Wat X cells slots LY 312 (lvL i) [] M := by
  refine s_aload_n G.1 dL_law_312 rfl ?_
  refine s_aload_n G.1 dL_law_313 rfl ?_
  refine s_iload G.1 dL_law_314 rfl ?_
  refine s_iconst (v := nI 1) G.1 dL_law_316 rfl ?_
  refine s_iadd G.1 dL_law_317 ?_
  refine s_sld G.1 G.2.2.1 (j := i + 1) (by have := G.2.2.2.1; omega) (by have := G.2.2.2.1; have := G.2.2.2.2.1; omega) (nI_add i 1) dL_law_318 ?_
  refine s_aload_n G.1 dL_law_319 rfl ?_
  refine s_iload G.1 dL_law_320 rfl ?_
  refine s_iconst (v := nI 2) G.1 dL_law_322 rfl ?_
  refine s_iadd G.1 dL_law_323 ?_
  refine s_sld G.1 G.2.2.1 (j := i + 2) (by have := G.2.2.2.1; omega) (by have := G.2.2.2.1; have := G.2.2.2.2.1; omega) (nI_add i 2) dL_law_324 ?_
  refine s_cvi (as := [vi (f (i + 1)), vi (f (i + 2))]) (rest := []) G.1 (c_Top_person (r_person hR)) mv_Top_person wd_ml_L_42 dL_law_325 ly_c_xx rfl rfl (Nat.le_of_ble_eq_true rfl) rfl (by decide) ⟨by have := G.2.2.2.2.2.1; omega, by have := G.2.2.2.2.2.2; omega⟩ (fun r1 M1 h => ?_)
  refine s_aload_n G.1 dL_law_328 rfl ?_
  refine s_aload_n G.1 dL_law_329 rfl ?_
  refine s_iload G.1 dL_law_330 rfl ?_
  refine s_iconst (v := nI 1) G.1 dL_law_332 rfl ?_
  refine s_iadd G.1 dL_law_333 ?_
  refine s_sld G.1 G.2.2.1 (j := i + 1) (by have := G.2.2.2.1; omega) (by have := G.2.2.2.1; have := G.2.2.2.2.1; omega) (nI_add i 1) dL_law_334 ?_
  refine s_aload_n G.1 dL_law_335 rfl ?_
  refine s_iload G.1 dL_law_336 rfl ?_
  refine s_iconst (v := nI 2) G.1 dL_law_338 rfl ?_
  refine s_iadd G.1 dL_law_339 ?_
  refine s_sld G.1 G.2.2.1 (j := i + 2) (by have := G.2.2.2.1; omega) (by have := G.2.2.2.1; have := G.2.2.2.2.1; omega) (nI_add i 2) dL_law_340 ?_
  refine s_cvi (as := [vi (f (i + 1)), vi (f (i + 2))]) (rest := [vi r1]) G.1 (c_Mo_person h) mv_Mo_person wd_ml_L_45 dL_law_341 ly_c_mo rfl rfl (Nat.le_of_ble_eq_true rfl) rfl (by decide) ⟨by have := G.2.2.2.2.2.1; omega, by have := G.2.2.2.2.2.2; omega⟩ (fun r2 M2 h => ?_)
  obtain ⟨e, hR2, -, -⟩ := h
  subst e
  exact s_icmp_eq (tgt := 1298) G.1 dL_law_344 (by decide) (fun _ => s_widen (by omega) (by omega) (kk _ hR2)) (fun c => absurd rfl c)
set_option maxHeartbeats 1000000 in
theorem g_place {X : Cx} {c0 s0 cells slots n i : Nat} {f : Nat → Int32} (G : GX X c0 s0 n f cells slots i) {M : Mem} (hR : Rel M) (kk : ∀ M', Rel M' → Wat X (cells + 1) (slots + 6) LY 1298 (lvL i) [] M') : Wat X cells slots LY 349 (lvL i) [] M := by
  refine s_aload_n G.1 dL_law_349 rfl ?_
  refine s_aload_n G.1 dL_law_350 rfl ?_
  refine s_iload G.1 dL_law_351 rfl ?_
  refine s_iconst (v := nI 1) G.1 dL_law_353 rfl ?_
  refine s_iadd G.1 dL_law_354 ?_
  refine s_sld G.1 G.2.2.1 (j := i + 1) (by have := G.2.2.2.1; omega) (by have := G.2.2.2.1; have := G.2.2.2.2.1; omega) (nI_add i 1) dL_law_355 ?_
  refine s_aload_n G.1 dL_law_356 rfl ?_
  refine s_iload G.1 dL_law_357 rfl ?_
  refine s_iconst (v := nI 2) G.1 dL_law_359 rfl ?_
  refine s_iadd G.1 dL_law_360 ?_
  refine s_sld G.1 G.2.2.1 (j := i + 2) (by have := G.2.2.2.1; omega) (by have := G.2.2.2.1; have := G.2.2.2.2.1; omega) (nI_add i 2) dL_law_361 ?_
  refine s_cvi (as := [vi (f (i + 1)), vi (f (i + 2))]) (rest := []) G.1 (c_Top_place (r_place hR)) mv_Top_place wd_ml_L_46 dL_law_362 ly_c_xx rfl rfl (Nat.le_of_ble_eq_true rfl) rfl (by decide) ⟨by have := G.2.2.2.2.2.1; omega, by have := G.2.2.2.2.2.2; omega⟩ (fun r1 M1 h => ?_)
  refine s_aload_n G.1 dL_law_365 rfl ?_
  refine s_aload_n G.1 dL_law_366 rfl ?_
  refine s_iload G.1 dL_law_367 rfl ?_
  refine s_iconst (v := nI 1) G.1 dL_law_369 rfl ?_
  refine s_iadd G.1 dL_law_370 ?_
  refine s_sld G.1 G.2.2.1 (j := i + 1) (by have := G.2.2.2.1; omega) (by have := G.2.2.2.1; have := G.2.2.2.2.1; omega) (nI_add i 1) dL_law_371 ?_
  refine s_aload_n G.1 dL_law_372 rfl ?_
  refine s_iload G.1 dL_law_373 rfl ?_
  refine s_iconst (v := nI 2) G.1 dL_law_375 rfl ?_
  refine s_iadd G.1 dL_law_376 ?_
  refine s_sld G.1 G.2.2.1 (j := i + 2) (by have := G.2.2.2.1; omega) (by have := G.2.2.2.1; have := G.2.2.2.2.1; omega) (nI_add i 2) dL_law_377 ?_
  refine s_cvi (as := [vi (f (i + 1)), vi (f (i + 2))]) (rest := [vi r1]) G.1 (c_Mo_place h) mv_Mo_place wd_ml_L_49 dL_law_378 ly_c_mo rfl rfl (Nat.le_of_ble_eq_true rfl) rfl (by decide) ⟨by have := G.2.2.2.2.2.1; omega, by have := G.2.2.2.2.2.2; omega⟩ (fun r2 M2 h => ?_)
  obtain ⟨e, hR2, -, -⟩ := h
  subst e
  exact s_icmp_eq (tgt := 1298) G.1 dL_law_381 (by decide) (fun _ => s_widen (by omega) (by omega) (kk _ hR2)) (fun c => absurd rfl c)
set_option maxHeartbeats 1000000 in
theorem g_bird {X : Cx} {c0 s0 cells slots n i : Nat} {f : Nat → Int32} (G : GX X c0 s0 n f cells slots i) {M : Mem} (hR : Rel M) (kk : ∀ M', Rel M' → Wat X (cells + 1) (slots + 6) LY 1298 (lvL i) [] M') : Wat X cells slots LY 386 (lvL i) [] M := by
  refine s_aload_n G.1 dL_law_386 rfl ?_
  refine s_aload_n G.1 dL_law_387 rfl ?_
  refine s_iload G.1 dL_law_388 rfl ?_
  refine s_iconst (v := nI 1) G.1 dL_law_390 rfl ?_
  refine s_iadd G.1 dL_law_391 ?_
  refine s_sld G.1 G.2.2.1 (j := i + 1) (by have := G.2.2.2.1; omega) (by have := G.2.2.2.1; have := G.2.2.2.2.1; omega) (nI_add i 1) dL_law_392 ?_
  refine s_aload_n G.1 dL_law_393 rfl ?_
  refine s_iload G.1 dL_law_394 rfl ?_
  refine s_iconst (v := nI 2) G.1 dL_law_396 rfl ?_
  refine s_iadd G.1 dL_law_397 ?_
  refine s_sld G.1 G.2.2.1 (j := i + 2) (by have := G.2.2.2.1; omega) (by have := G.2.2.2.1; have := G.2.2.2.2.1; omega) (nI_add i 2) dL_law_398 ?_
  refine s_cvi (as := [vi (f (i + 1)), vi (f (i + 2))]) (rest := []) G.1 (c_Top_bird (r_bird hR)) mv_Top_bird wd_ml_L_50 dL_law_399 ly_c_xx rfl rfl (Nat.le_of_ble_eq_true rfl) rfl (by decide) ⟨by have := G.2.2.2.2.2.1; omega, by have := G.2.2.2.2.2.2; omega⟩ (fun r1 M1 h => ?_)
  refine s_aload_n G.1 dL_law_402 rfl ?_
  refine s_aload_n G.1 dL_law_403 rfl ?_
  refine s_iload G.1 dL_law_404 rfl ?_
  refine s_iconst (v := nI 1) G.1 dL_law_406 rfl ?_
  refine s_iadd G.1 dL_law_407 ?_
  refine s_sld G.1 G.2.2.1 (j := i + 1) (by have := G.2.2.2.1; omega) (by have := G.2.2.2.1; have := G.2.2.2.2.1; omega) (nI_add i 1) dL_law_408 ?_
  refine s_aload_n G.1 dL_law_409 rfl ?_
  refine s_iload G.1 dL_law_410 rfl ?_
  refine s_iconst (v := nI 2) G.1 dL_law_412 rfl ?_
  refine s_iadd G.1 dL_law_413 ?_
  refine s_sld G.1 G.2.2.1 (j := i + 2) (by have := G.2.2.2.1; omega) (by have := G.2.2.2.1; have := G.2.2.2.2.1; omega) (nI_add i 2) dL_law_414 ?_
  refine s_cvi (as := [vi (f (i + 1)), vi (f (i + 2))]) (rest := [vi r1]) G.1 (c_Mo_bird h) mv_Mo_bird wd_ml_L_53 dL_law_415 ly_c_mo rfl rfl (Nat.le_of_ble_eq_true rfl) rfl (by decide) ⟨by have := G.2.2.2.2.2.1; omega, by have := G.2.2.2.2.2.2; omega⟩ (fun r2 M2 h => ?_)
  obtain ⟨e, hR2, -, -⟩ := h
  subst e
  exact s_icmp_eq (tgt := 1298) G.1 dL_law_418 (by decide) (fun _ => s_widen (by omega) (by omega) (kk _ hR2)) (fun c => absurd rfl c)
set_option maxHeartbeats 1000000 in
theorem g_calls {X : Cx} {c0 s0 cells slots n i : Nat} {f : Nat → Int32} (G : GX X c0 s0 n f cells slots i) {M : Mem} (hR : Rel M) (kk : ∀ M', Rel M' → Wat X (cells + 1) (slots + 6) LY 1298 (lvL i) [] M') : Wat X cells slots LY 423 (lvL i) [] M := by
  refine s_aload_n G.1 dL_law_423 rfl ?_
  refine s_aload_n G.1 dL_law_424 rfl ?_
  refine s_iload G.1 dL_law_425 rfl ?_
  refine s_iconst (v := nI 1) G.1 dL_law_427 rfl ?_
  refine s_iadd G.1 dL_law_428 ?_
  refine s_sld G.1 G.2.2.1 (j := i + 1) (by have := G.2.2.2.1; omega) (by have := G.2.2.2.1; have := G.2.2.2.2.1; omega) (nI_add i 1) dL_law_429 ?_
  refine s_aload_n G.1 dL_law_430 rfl ?_
  refine s_iload G.1 dL_law_431 rfl ?_
  refine s_iconst (v := nI 2) G.1 dL_law_433 rfl ?_
  refine s_iadd G.1 dL_law_434 ?_
  refine s_sld G.1 G.2.2.1 (j := i + 2) (by have := G.2.2.2.1; omega) (by have := G.2.2.2.1; have := G.2.2.2.2.1; omega) (nI_add i 2) dL_law_435 ?_
  refine s_cvi (as := [vi (f (i + 1)), vi (f (i + 2))]) (rest := []) G.1 (c_Top_calls (r_calls hR)) mv_Top_calls wd_ml_L_54 dL_law_436 ly_c_xx rfl rfl (Nat.le_of_ble_eq_true rfl) rfl (by decide) ⟨by have := G.2.2.2.2.2.1; omega, by have := G.2.2.2.2.2.2; omega⟩ (fun r1 M1 h => ?_)
  refine s_aload_n G.1 dL_law_439 rfl ?_
  refine s_aload_n G.1 dL_law_440 rfl ?_
  refine s_iload G.1 dL_law_441 rfl ?_
  refine s_iconst (v := nI 1) G.1 dL_law_443 rfl ?_
  refine s_iadd G.1 dL_law_444 ?_
  refine s_sld G.1 G.2.2.1 (j := i + 1) (by have := G.2.2.2.1; omega) (by have := G.2.2.2.1; have := G.2.2.2.2.1; omega) (nI_add i 1) dL_law_445 ?_
  refine s_aload_n G.1 dL_law_446 rfl ?_
  refine s_iload G.1 dL_law_447 rfl ?_
  refine s_iconst (v := nI 2) G.1 dL_law_449 rfl ?_
  refine s_iadd G.1 dL_law_450 ?_
  refine s_sld G.1 G.2.2.1 (j := i + 2) (by have := G.2.2.2.1; omega) (by have := G.2.2.2.1; have := G.2.2.2.2.1; omega) (nI_add i 2) dL_law_451 ?_
  refine s_cvi (as := [vi (f (i + 1)), vi (f (i + 2))]) (rest := [vi r1]) G.1 (c_Mo_calls h) mv_Mo_calls wd_ml_L_57 dL_law_452 ly_c_mo rfl rfl (Nat.le_of_ble_eq_true rfl) rfl (by decide) ⟨by have := G.2.2.2.2.2.1; omega, by have := G.2.2.2.2.2.2; omega⟩ (fun r2 M2 h => ?_)
  obtain ⟨e, hR2, -, -⟩ := h
  subst e
  exact s_icmp_eq (tgt := 1298) G.1 dL_law_455 (by decide) (fun _ => s_widen (by omega) (by omega) (kk _ hR2)) (fun c => absurd rfl c)
set_option maxHeartbeats 1000000 in
theorem g_entry {X : Cx} {c0 s0 cells slots n i : Nat} {f : Nat → Int32} (G : GX X c0 s0 n f cells slots i) {M : Mem} (hR : Rel M) (kk : ∀ M', Rel M' → Wat X (cells + 1) (slots + 6) LY 1298 (lvL i) [] M') : Wat X cells slots LY 460 (lvL i) [] M := by
  refine s_aload_n G.1 dL_law_460 rfl ?_
  refine s_aload_n G.1 dL_law_461 rfl ?_
  refine s_iload G.1 dL_law_462 rfl ?_
  refine s_iconst (v := nI 1) G.1 dL_law_464 rfl ?_
  refine s_iadd G.1 dL_law_465 ?_
  refine s_sld G.1 G.2.2.1 (j := i + 1) (by have := G.2.2.2.1; omega) (by have := G.2.2.2.1; have := G.2.2.2.2.1; omega) (nI_add i 1) dL_law_466 ?_
  refine s_aload_n G.1 dL_law_467 rfl ?_
  refine s_iload G.1 dL_law_468 rfl ?_
  refine s_iconst (v := nI 2) G.1 dL_law_470 rfl ?_
  refine s_iadd G.1 dL_law_471 ?_
  refine s_sld G.1 G.2.2.1 (j := i + 2) (by have := G.2.2.2.1; omega) (by have := G.2.2.2.1; have := G.2.2.2.2.1; omega) (nI_add i 2) dL_law_472 ?_
  refine s_aload_n G.1 dL_law_473 rfl ?_
  refine s_iload G.1 dL_law_474 rfl ?_
  refine s_iconst (v := nI 3) G.1 dL_law_476 rfl ?_
  refine s_iadd G.1 dL_law_477 ?_
  refine s_sld G.1 G.2.2.1 (j := i + 3) (by have := G.2.2.2.1; omega) (by have := G.2.2.2.1; have := G.2.2.2.2.1; omega) (nI_add i 3) dL_law_478 ?_
  refine s_aload_n G.1 dL_law_479 rfl ?_
  refine s_iload G.1 dL_law_480 rfl ?_
  refine s_iconst (v := nI 4) G.1 dL_law_482 rfl ?_
  refine s_iadd G.1 dL_law_483 ?_
  refine s_sld G.1 G.2.2.1 (j := i + 4) (by have := G.2.2.2.1; omega) (by have := G.2.2.2.1; have := G.2.2.2.2.1; omega) (nI_add i 4) dL_law_484 ?_
  refine s_nz (tgt := 492) G.1 dL_law_485 (by decide) dL_law_488 (tgt2 := 493) dL_law_489 (by decide) dL_law_492 ?_
  refine s_cvi (as := [vi (f (i + 1)), vi (f (i + 2)), vi (f (i + 3)), vi (nzI (f (i + 4)))]) (rest := []) G.1 (c_Top_entry (r_entry hR)) mv_Top_entry wd_ml_L_58 dL_law_493 ly_c_xx rfl rfl (Nat.le_of_ble_eq_true rfl) rfl (by decide) ⟨by have := G.2.2.2.2.2.1; omega, by have := G.2.2.2.2.2.2; omega⟩ (fun r1 M1 h => ?_)
  refine s_aload_n G.1 dL_law_496 rfl ?_
  refine s_aload_n G.1 dL_law_497 rfl ?_
  refine s_iload G.1 dL_law_498 rfl ?_
  refine s_iconst (v := nI 1) G.1 dL_law_500 rfl ?_
  refine s_iadd G.1 dL_law_501 ?_
  refine s_sld G.1 G.2.2.1 (j := i + 1) (by have := G.2.2.2.1; omega) (by have := G.2.2.2.1; have := G.2.2.2.2.1; omega) (nI_add i 1) dL_law_502 ?_
  refine s_aload_n G.1 dL_law_503 rfl ?_
  refine s_iload G.1 dL_law_504 rfl ?_
  refine s_iconst (v := nI 2) G.1 dL_law_506 rfl ?_
  refine s_iadd G.1 dL_law_507 ?_
  refine s_sld G.1 G.2.2.1 (j := i + 2) (by have := G.2.2.2.1; omega) (by have := G.2.2.2.1; have := G.2.2.2.2.1; omega) (nI_add i 2) dL_law_508 ?_
  refine s_aload_n G.1 dL_law_509 rfl ?_
  refine s_iload G.1 dL_law_510 rfl ?_
  refine s_iconst (v := nI 3) G.1 dL_law_512 rfl ?_
  refine s_iadd G.1 dL_law_513 ?_
  refine s_sld G.1 G.2.2.1 (j := i + 3) (by have := G.2.2.2.1; omega) (by have := G.2.2.2.1; have := G.2.2.2.2.1; omega) (nI_add i 3) dL_law_514 ?_
  refine s_aload_n G.1 dL_law_515 rfl ?_
  refine s_iload G.1 dL_law_516 rfl ?_
  refine s_iconst (v := nI 4) G.1 dL_law_518 rfl ?_
  refine s_iadd G.1 dL_law_519 ?_
  refine s_sld G.1 G.2.2.1 (j := i + 4) (by have := G.2.2.2.1; omega) (by have := G.2.2.2.1; have := G.2.2.2.2.1; omega) (nI_add i 4) dL_law_520 ?_
  refine s_nz (tgt := 528) G.1 dL_law_521 (by decide) dL_law_524 (tgt2 := 529) dL_law_525 (by decide) dL_law_528 ?_
  refine s_cvi (as := [vi (f (i + 1)), vi (f (i + 2)), vi (f (i + 3)), vi (nzI (f (i + 4)))]) (rest := [vi r1]) G.1 (c_Mo_entry h) mv_Mo_entry wd_ml_L_62 dL_law_529 ly_c_mo rfl rfl (Nat.le_of_ble_eq_true rfl) rfl (by decide) ⟨by have := G.2.2.2.2.2.1; omega, by have := G.2.2.2.2.2.2; omega⟩ (fun r2 M2 h => ?_)
  obtain ⟨e, hR2, -, -⟩ := h
  subst e
  exact s_icmp_eq (tgt := 1298) G.1 dL_law_532 (by decide) (fun _ => s_widen (by omega) (by omega) (kk _ hR2)) (fun c => absurd rfl c)
set_option maxHeartbeats 1000000 in
theorem g_owed {X : Cx} {c0 s0 cells slots n i : Nat} {f : Nat → Int32} (G : GX X c0 s0 n f cells slots i) {M : Mem} (hR : Rel M) (kk : ∀ M', Rel M' → Wat X (cells + 1) (slots + 6) LY 1298 (lvL i) [] M') : Wat X cells slots LY 537 (lvL i) [] M := by
  refine s_aload_n G.1 dL_law_537 rfl ?_
  refine s_aload_n G.1 dL_law_538 rfl ?_
  refine s_iload G.1 dL_law_539 rfl ?_
  refine s_iconst (v := nI 1) G.1 dL_law_541 rfl ?_
  refine s_iadd G.1 dL_law_542 ?_
  refine s_sld G.1 G.2.2.1 (j := i + 1) (by have := G.2.2.2.1; omega) (by have := G.2.2.2.1; have := G.2.2.2.2.1; omega) (nI_add i 1) dL_law_543 ?_
  refine s_aload_n G.1 dL_law_544 rfl ?_
  refine s_iload G.1 dL_law_545 rfl ?_
  refine s_iconst (v := nI 2) G.1 dL_law_547 rfl ?_
  refine s_iadd G.1 dL_law_548 ?_
  refine s_sld G.1 G.2.2.1 (j := i + 2) (by have := G.2.2.2.1; omega) (by have := G.2.2.2.1; have := G.2.2.2.2.1; omega) (nI_add i 2) dL_law_549 ?_
  refine s_cvi (as := [vi (f (i + 1)), vi (f (i + 2))]) (rest := []) G.1 (c_Top_owed (r_owed hR)) mv_Top_owed wd_ml_L_63 dL_law_550 ly_c_xx rfl rfl (Nat.le_of_ble_eq_true rfl) rfl (by decide) ⟨by have := G.2.2.2.2.2.1; omega, by have := G.2.2.2.2.2.2; omega⟩ (fun r1 M1 h => ?_)
  refine s_aload_n G.1 dL_law_553 rfl ?_
  refine s_aload_n G.1 dL_law_554 rfl ?_
  refine s_iload G.1 dL_law_555 rfl ?_
  refine s_iconst (v := nI 1) G.1 dL_law_557 rfl ?_
  refine s_iadd G.1 dL_law_558 ?_
  refine s_sld G.1 G.2.2.1 (j := i + 1) (by have := G.2.2.2.1; omega) (by have := G.2.2.2.1; have := G.2.2.2.2.1; omega) (nI_add i 1) dL_law_559 ?_
  refine s_aload_n G.1 dL_law_560 rfl ?_
  refine s_iload G.1 dL_law_561 rfl ?_
  refine s_iconst (v := nI 2) G.1 dL_law_563 rfl ?_
  refine s_iadd G.1 dL_law_564 ?_
  refine s_sld G.1 G.2.2.1 (j := i + 2) (by have := G.2.2.2.1; omega) (by have := G.2.2.2.1; have := G.2.2.2.2.1; omega) (nI_add i 2) dL_law_565 ?_
  refine s_cvi (as := [vi (f (i + 1)), vi (f (i + 2))]) (rest := [vi r1]) G.1 (c_Mo_owed h) mv_Mo_owed wd_ml_L_66 dL_law_566 ly_c_mo rfl rfl (Nat.le_of_ble_eq_true rfl) rfl (by decide) ⟨by have := G.2.2.2.2.2.1; omega, by have := G.2.2.2.2.2.2; omega⟩ (fun r2 M2 h => ?_)
  obtain ⟨e, hR2, -, -⟩ := h
  subst e
  exact s_icmp_eq (tgt := 1298) G.1 dL_law_569 (by decide) (fun _ => s_widen (by omega) (by omega) (kk _ hR2)) (fun c => absurd rfl c)
set_option maxHeartbeats 1000000 in
theorem g_balance {X : Cx} {c0 s0 cells slots n i : Nat} {f : Nat → Int32} (G : GX X c0 s0 n f cells slots i) {M : Mem} (hR : Rel M) (kk : ∀ M', Rel M' → Wat X (cells + 1) (slots + 6) LY 1298 (lvL i) [] M') : Wat X cells slots LY 574 (lvL i) [] M := by
  refine s_aload_n G.1 dL_law_574 rfl ?_
  refine s_aload_n G.1 dL_law_575 rfl ?_
  refine s_iload G.1 dL_law_576 rfl ?_
  refine s_iconst (v := nI 1) G.1 dL_law_578 rfl ?_
  refine s_iadd G.1 dL_law_579 ?_
  refine s_sld G.1 G.2.2.1 (j := i + 1) (by have := G.2.2.2.1; omega) (by have := G.2.2.2.1; have := G.2.2.2.2.1; omega) (nI_add i 1) dL_law_580 ?_
  refine s_aload_n G.1 dL_law_581 rfl ?_
  refine s_csx (as := [vr c_xx, vi (f (i + 1)), vr c_outc]) (rest := []) (Qn := fun k M9 => w_Mo_balance (f (i + 1)) M9 (okT k)) G.1 G.2.1 (c_L_balance (r_balance hR)) msw_L_balance wd_ml_L_67 dL_law_582 rfl (Nat.le_of_ble_eq_true rfl) rfl (by decide) ⟨G.2.2.2.2.2.1, G.2.2.2.2.2.2⟩ (fun k0 M1 h => ?_)
  refine s_istore (lv' := [some (vr 95), some (vr c_xx), some (vr c_mo), some (vr c_outc), some (vi (nI i)), some (vi k0), none]) G.1 dL_law_585 rfl rfl (Nat.le_of_ble_eq_true rfl) ?_
  refine s_aload_n G.1 dL_law_587 rfl ?_
  refine s_aload_n G.1 dL_law_588 rfl ?_
  refine s_iload G.1 dL_law_589 rfl ?_
  refine s_iconst (v := nI 1) G.1 dL_law_591 rfl ?_
  refine s_iadd G.1 dL_law_592 ?_
  refine s_sld G.1 G.2.2.1 (j := i + 1) (by have := G.2.2.2.1; omega) (by have := G.2.2.2.1; have := G.2.2.2.2.1; omega) (nI_add i 1) dL_law_593 ?_
  refine s_cvi (as := [vi (f (i + 1))]) (rest := []) G.1 (c_Mo_balance h) mv_Mo_balance wd_ml_L_72 dL_law_594 ly_c_mo rfl rfl (Nat.le_of_ble_eq_true rfl) rfl (by decide) ⟨by have := G.2.2.2.2.2.1; omega, by have := G.2.2.2.2.2.2; omega⟩ (fun r2 M2 h => ?_)
  refine s_istore (lv' := [some (vr 95), some (vr c_xx), some (vr c_mo), some (vr c_outc), some (vi (nI i)), some (vi k0), some (vi r2)]) G.1 dL_law_597 rfl rfl (Nat.le_of_ble_eq_true rfl) ?_
  refine s_aload_n G.1 dL_law_599 rfl ?_
  refine s_cvi (as := []) (rest := []) (Qn := fun v M9 => v = M2.1 c_mo Mo_thrown ∧ M9 = M2) G.1 (c_Mo_thrown ⟨rfl, rfl⟩) mv_Mo_thrown wd_ml_L_73 dL_law_600 ly_c_mo rfl rfl (Nat.le_of_ble_eq_true rfl) rfl (by decide) ⟨by have := G.2.2.2.2.2.1; omega, by have := G.2.2.2.2.2.2; omega⟩ (fun r3 M9 h9 => ?_)
  obtain ⟨rfl, rfl⟩ := h9
  refine s_iload G.1 dL_law_603 rfl ?_
  obtain ⟨e1, e2, hR2⟩ := h
  refine s_icmp_eq (tgt := 610) G.1 dL_law_605 (by decide) (fun _ => ?_) (fun c => absurd e1 c)
  refine s_iload G.1 dL_law_610 rfl ?_
  have fin : Wat X _ _ LY 627 [some (vr 95), some (vr c_xx), some (vr c_mo), some (vr c_outc), some (vi (nI i)), some (vi k0), some (vi r2)] [] _ := s_goto (tgt := 1298) G.1 dL_law_627 (by decide) (s_forget (lv' := lvL i) rfl (fg_ok) (kk _ hR2))
  refine s_if_ne (tgt := 627) G.1 dL_law_612 (by decide) (fun _ => fin) (fun c => ?_)
  refine s_aload_n G.1 dL_law_615 rfl ?_
  refine s_iconst (v := 0) G.1 dL_law_616 rfl ?_
  refine s_lald G.1 ly_c_outc (vp_in_nI (n := 0) (N := 1) (by decide) (by decide)) dL_law_617 ?_
  refine s_iload G.1 dL_law_618 rfl ?_
  refine s_i2l G.1 dL_law_620 ?_
  refine s_lcmp G.1 dL_law_621 ?_
  exact s_if_eq (tgt := 627) G.1 dL_law_622 (by decide) (fun _ => fin) (fun c2 => absurd ((lg_cmp_eq _ _).mpr (e2 c)) c2)
set_option maxHeartbeats 1000000 in
theorem g_call {X : Cx} {c0 s0 cells slots n i : Nat} {f : Nat → Int32} (G : GX X c0 s0 n f cells slots i) {M : Mem} (hR : Rel M) (kk : ∀ M', Rel M' → Wat X (cells + 1) (slots + 6) LY 1298 (lvL i) [] M') : Wat X cells slots LY 630 (lvL i) [] M := by
  refine s_aload_n G.1 dL_law_630 rfl ?_
  refine s_aload_n G.1 dL_law_631 rfl ?_
  refine s_iload G.1 dL_law_632 rfl ?_
  refine s_iconst (v := nI 1) G.1 dL_law_634 rfl ?_
  refine s_iadd G.1 dL_law_635 ?_
  refine s_sld G.1 G.2.2.1 (j := i + 1) (by have := G.2.2.2.1; omega) (by have := G.2.2.2.1; have := G.2.2.2.2.1; omega) (nI_add i 1) dL_law_636 ?_
  refine s_aload_n G.1 dL_law_637 rfl ?_
  refine s_iload G.1 dL_law_638 rfl ?_
  refine s_iconst (v := nI 2) G.1 dL_law_640 rfl ?_
  refine s_iadd G.1 dL_law_641 ?_
  refine s_sld G.1 G.2.2.1 (j := i + 2) (by have := G.2.2.2.1; omega) (by have := G.2.2.2.1; have := G.2.2.2.2.1; omega) (nI_add i 2) dL_law_642 ?_
  refine s_aload_n G.1 dL_law_643 rfl ?_
  refine s_iload G.1 dL_law_644 rfl ?_
  refine s_iconst (v := nI 3) G.1 dL_law_646 rfl ?_
  refine s_iadd G.1 dL_law_647 ?_
  refine s_sld G.1 G.2.2.1 (j := i + 3) (by have := G.2.2.2.1; omega) (by have := G.2.2.2.1; have := G.2.2.2.2.1; omega) (nI_add i 3) dL_law_648 ?_
  refine s_cvi (as := [vi (f (i + 1)), vi (f (i + 2)), vi (f (i + 3))]) (rest := []) G.1 (c_Top_call (r_call hR)) mv_Top_call wd_ml_L_76 dL_law_649 ly_c_xx rfl rfl (Nat.le_of_ble_eq_true rfl) rfl (by decide) ⟨by have := G.2.2.2.2.2.1; omega, by have := G.2.2.2.2.2.2; omega⟩ (fun r1 M1 h => ?_)
  obtain ⟨b1, rfl, h⟩ := h
  refine s_aload_n G.1 dL_law_652 rfl ?_
  refine s_aload_n G.1 dL_law_653 rfl ?_
  refine s_iload G.1 dL_law_654 rfl ?_
  refine s_iconst (v := nI 1) G.1 dL_law_656 rfl ?_
  refine s_iadd G.1 dL_law_657 ?_
  refine s_sld G.1 G.2.2.1 (j := i + 1) (by have := G.2.2.2.1; omega) (by have := G.2.2.2.1; have := G.2.2.2.2.1; omega) (nI_add i 1) dL_law_658 ?_
  refine s_aload_n G.1 dL_law_659 rfl ?_
  refine s_iload G.1 dL_law_660 rfl ?_
  refine s_iconst (v := nI 2) G.1 dL_law_662 rfl ?_
  refine s_iadd G.1 dL_law_663 ?_
  refine s_sld G.1 G.2.2.1 (j := i + 2) (by have := G.2.2.2.1; omega) (by have := G.2.2.2.1; have := G.2.2.2.2.1; omega) (nI_add i 2) dL_law_664 ?_
  refine s_aload_n G.1 dL_law_665 rfl ?_
  refine s_iload G.1 dL_law_666 rfl ?_
  refine s_iconst (v := nI 3) G.1 dL_law_668 rfl ?_
  refine s_iadd G.1 dL_law_669 ?_
  refine s_sld G.1 G.2.2.1 (j := i + 3) (by have := G.2.2.2.1; omega) (by have := G.2.2.2.1; have := G.2.2.2.2.1; omega) (nI_add i 3) dL_law_670 ?_
  refine s_cvi (as := [vi (f (i + 1)), vi (f (i + 2)), vi (f (i + 3))]) (rest := [vi (b2i b1)]) G.1 (c_Mo_call h) mv_Mo_call wd_ml_L_80 dL_law_671 ly_c_mo rfl rfl (Nat.le_of_ble_eq_true rfl) rfl (by decide) ⟨by have := G.2.2.2.2.2.1; omega, by have := G.2.2.2.2.2.2; omega⟩ (fun r2 M2 h => ?_)
  obtain ⟨b2, rfl, h⟩ := h
  obtain ⟨e, hR2, -, -⟩ := h
  subst e
  exact s_icmp_eq (tgt := 1298) G.1 dL_law_674 (by decide) (fun _ => s_widen (by omega) (by omega) (kk _ hR2)) (fun c => absurd rfl c)
set_option maxHeartbeats 1000000 in
theorem g_shoot {X : Cx} {c0 s0 cells slots n i : Nat} {f : Nat → Int32} (G : GX X c0 s0 n f cells slots i) {M : Mem} (hR : Rel M) (kk : ∀ M', Rel M' → Wat X (cells + 1) (slots + 6) LY 1298 (lvL i) [] M') : Wat X cells slots LY 679 (lvL i) [] M := by
  refine s_aload_n G.1 dL_law_679 rfl ?_
  refine s_aload_n G.1 dL_law_680 rfl ?_
  refine s_iload G.1 dL_law_681 rfl ?_
  refine s_iconst (v := nI 1) G.1 dL_law_683 rfl ?_
  refine s_iadd G.1 dL_law_684 ?_
  refine s_sld G.1 G.2.2.1 (j := i + 1) (by have := G.2.2.2.1; omega) (by have := G.2.2.2.1; have := G.2.2.2.2.1; omega) (nI_add i 1) dL_law_685 ?_
  refine s_aload_n G.1 dL_law_686 rfl ?_
  refine s_iload G.1 dL_law_687 rfl ?_
  refine s_iconst (v := nI 2) G.1 dL_law_689 rfl ?_
  refine s_iadd G.1 dL_law_690 ?_
  refine s_sld G.1 G.2.2.1 (j := i + 2) (by have := G.2.2.2.1; omega) (by have := G.2.2.2.1; have := G.2.2.2.2.1; omega) (nI_add i 2) dL_law_691 ?_
  refine s_nz (tgt := 699) G.1 dL_law_692 (by decide) dL_law_695 (tgt2 := 700) dL_law_696 (by decide) dL_law_699 ?_
  refine s_cvi (as := [vi (f (i + 1)), vi (nzI (f (i + 2)))]) (rest := []) G.1 (c_Top_shoot (r_shoot hR)) mv_Top_shoot wd_ml_L_81 dL_law_700 ly_c_xx rfl rfl (Nat.le_of_ble_eq_true rfl) rfl (by decide) ⟨by have := G.2.2.2.2.2.1; omega, by have := G.2.2.2.2.2.2; omega⟩ (fun r1 M1 h => ?_)
  obtain ⟨b1, rfl, h⟩ := h
  refine s_aload_n G.1 dL_law_703 rfl ?_
  refine s_aload_n G.1 dL_law_704 rfl ?_
  refine s_iload G.1 dL_law_705 rfl ?_
  refine s_iconst (v := nI 1) G.1 dL_law_707 rfl ?_
  refine s_iadd G.1 dL_law_708 ?_
  refine s_sld G.1 G.2.2.1 (j := i + 1) (by have := G.2.2.2.1; omega) (by have := G.2.2.2.1; have := G.2.2.2.2.1; omega) (nI_add i 1) dL_law_709 ?_
  refine s_aload_n G.1 dL_law_710 rfl ?_
  refine s_iload G.1 dL_law_711 rfl ?_
  refine s_iconst (v := nI 2) G.1 dL_law_713 rfl ?_
  refine s_iadd G.1 dL_law_714 ?_
  refine s_sld G.1 G.2.2.1 (j := i + 2) (by have := G.2.2.2.1; omega) (by have := G.2.2.2.1; have := G.2.2.2.2.1; omega) (nI_add i 2) dL_law_715 ?_
  refine s_nz (tgt := 723) G.1 dL_law_716 (by decide) dL_law_719 (tgt2 := 724) dL_law_720 (by decide) dL_law_723 ?_
  refine s_cvi (as := [vi (f (i + 1)), vi (nzI (f (i + 2)))]) (rest := [vi (b2i b1)]) G.1 (c_Mo_shoot h) mv_Mo_shoot wd_ml_L_85 dL_law_724 ly_c_mo rfl rfl (Nat.le_of_ble_eq_true rfl) rfl (by decide) ⟨by have := G.2.2.2.2.2.1; omega, by have := G.2.2.2.2.2.2; omega⟩ (fun r2 M2 h => ?_)
  obtain ⟨b2, rfl, h⟩ := h
  obtain ⟨e, hR2, -, -⟩ := h
  subst e
  exact s_icmp_eq (tgt := 1298) G.1 dL_law_727 (by decide) (fun _ => s_widen (by omega) (by omega) (kk _ hR2)) (fun c => absurd rfl c)
set_option maxHeartbeats 1000000 in
theorem g_undo {X : Cx} {c0 s0 cells slots n i : Nat} {f : Nat → Int32} (G : GX X c0 s0 n f cells slots i) {M : Mem} (hR : Rel M) (kk : ∀ M', Rel M' → Wat X (cells + 1) (slots + 6) LY 1298 (lvL i) [] M') : Wat X cells slots LY 732 (lvL i) [] M := by
  refine s_aload_n G.1 dL_law_732 rfl ?_
  refine s_cvi (as := []) (rest := []) G.1 (c_Top_undo (r_undo hR)) mv_Top_undo wd_ml_L_86 dL_law_733 ly_c_xx rfl rfl (Nat.le_of_ble_eq_true rfl) rfl (by decide) ⟨by have := G.2.2.2.2.2.1; omega, by have := G.2.2.2.2.2.2; omega⟩ (fun r1 M1 h => ?_)
  obtain ⟨b1, rfl, h⟩ := h
  refine s_aload_n G.1 dL_law_736 rfl ?_
  refine s_cvi (as := []) (rest := [vi (b2i b1)]) G.1 (c_Mo_undo h) mv_Mo_undo wd_ml_L_90 dL_law_737 ly_c_mo rfl rfl (Nat.le_of_ble_eq_true rfl) rfl (by decide) ⟨by have := G.2.2.2.2.2.1; omega, by have := G.2.2.2.2.2.2; omega⟩ (fun r2 M2 h => ?_)
  obtain ⟨b2, rfl, h⟩ := h
  obtain ⟨e, hR2, -, -⟩ := h
  subst e
  exact s_icmp_eq (tgt := 1298) G.1 dL_law_740 (by decide) (fun _ => s_widen (by omega) (by omega) (kk _ hR2)) (fun c => absurd rfl c)
set_option maxHeartbeats 1000000 in
theorem g_stand {X : Cx} {c0 s0 cells slots n i : Nat} {f : Nat → Int32} (G : GX X c0 s0 n f cells slots i) {M : Mem} (hR : Rel M) (kk : ∀ M', Rel M' → Wat X (cells + 1) (slots + 6) LY 1298 (lvL i) [] M') : Wat X cells slots LY 745 (lvL i) [] M := by
  refine s_aload_n G.1 dL_law_745 rfl ?_
  refine s_aload_n G.1 dL_law_746 rfl ?_
  refine s_iload G.1 dL_law_747 rfl ?_
  refine s_iconst (v := nI 1) G.1 dL_law_749 rfl ?_
  refine s_iadd G.1 dL_law_750 ?_
  refine s_sld G.1 G.2.2.1 (j := i + 1) (by have := G.2.2.2.1; omega) (by have := G.2.2.2.1; have := G.2.2.2.2.1; omega) (nI_add i 1) dL_law_751 ?_
  refine s_aload_n G.1 dL_law_752 rfl ?_
  refine s_iload G.1 dL_law_753 rfl ?_
  refine s_iconst (v := nI 2) G.1 dL_law_755 rfl ?_
  refine s_iadd G.1 dL_law_756 ?_
  refine s_sld G.1 G.2.2.1 (j := i + 2) (by have := G.2.2.2.1; omega) (by have := G.2.2.2.1; have := G.2.2.2.2.1; omega) (nI_add i 2) dL_law_757 ?_
  refine s_aload_n G.1 dL_law_758 rfl ?_
  refine s_iload G.1 dL_law_759 rfl ?_
  refine s_iconst (v := nI 3) G.1 dL_law_761 rfl ?_
  refine s_iadd G.1 dL_law_762 ?_
  refine s_sld G.1 G.2.2.1 (j := i + 3) (by have := G.2.2.2.1; omega) (by have := G.2.2.2.1; have := G.2.2.2.2.1; omega) (nI_add i 3) dL_law_763 ?_
  refine s_aload_n G.1 dL_law_764 rfl ?_
  refine s_iload G.1 dL_law_765 rfl ?_
  refine s_iconst (v := nI 4) G.1 dL_law_767 rfl ?_
  refine s_iadd G.1 dL_law_768 ?_
  refine s_sld G.1 G.2.2.1 (j := i + 4) (by have := G.2.2.2.1; omega) (by have := G.2.2.2.1; have := G.2.2.2.2.1; omega) (nI_add i 4) dL_law_769 ?_
  refine s_aload_n G.1 dL_law_770 rfl ?_
  refine s_csx (as := [vr c_xx, vi (f (i + 1)), vi (f (i + 2)), vi (f (i + 3)), vi (f (i + 4)), vr c_outc]) (rest := []) (Qn := fun k M9 => w_Mo_stand (f (i + 1)) (f (i + 2)) (f (i + 3)) (f (i + 4)) M9 (okT k)) G.1 G.2.1 (c_L_stand (r_stand hR)) msw_L_stand wd_ml_L_91 dL_law_771 rfl (Nat.le_of_ble_eq_true rfl) rfl (by decide) ⟨G.2.2.2.2.2.1, G.2.2.2.2.2.2⟩ (fun k0 M1 h => ?_)
  refine s_istore (lv' := [some (vr 95), some (vr c_xx), some (vr c_mo), some (vr c_outc), some (vi (nI i)), some (vi k0), none]) G.1 dL_law_774 rfl rfl (Nat.le_of_ble_eq_true rfl) ?_
  refine s_aload_n G.1 dL_law_776 rfl ?_
  refine s_aload_n G.1 dL_law_777 rfl ?_
  refine s_iload G.1 dL_law_778 rfl ?_
  refine s_iconst (v := nI 1) G.1 dL_law_780 rfl ?_
  refine s_iadd G.1 dL_law_781 ?_
  refine s_sld G.1 G.2.2.1 (j := i + 1) (by have := G.2.2.2.1; omega) (by have := G.2.2.2.1; have := G.2.2.2.2.1; omega) (nI_add i 1) dL_law_782 ?_
  refine s_aload_n G.1 dL_law_783 rfl ?_
  refine s_iload G.1 dL_law_784 rfl ?_
  refine s_iconst (v := nI 2) G.1 dL_law_786 rfl ?_
  refine s_iadd G.1 dL_law_787 ?_
  refine s_sld G.1 G.2.2.1 (j := i + 2) (by have := G.2.2.2.1; omega) (by have := G.2.2.2.1; have := G.2.2.2.2.1; omega) (nI_add i 2) dL_law_788 ?_
  refine s_aload_n G.1 dL_law_789 rfl ?_
  refine s_iload G.1 dL_law_790 rfl ?_
  refine s_iconst (v := nI 3) G.1 dL_law_792 rfl ?_
  refine s_iadd G.1 dL_law_793 ?_
  refine s_sld G.1 G.2.2.1 (j := i + 3) (by have := G.2.2.2.1; omega) (by have := G.2.2.2.1; have := G.2.2.2.2.1; omega) (nI_add i 3) dL_law_794 ?_
  refine s_aload_n G.1 dL_law_795 rfl ?_
  refine s_iload G.1 dL_law_796 rfl ?_
  refine s_iconst (v := nI 4) G.1 dL_law_798 rfl ?_
  refine s_iadd G.1 dL_law_799 ?_
  refine s_sld G.1 G.2.2.1 (j := i + 4) (by have := G.2.2.2.1; omega) (by have := G.2.2.2.1; have := G.2.2.2.2.1; omega) (nI_add i 4) dL_law_800 ?_
  refine s_cvi (as := [vi (f (i + 1)), vi (f (i + 2)), vi (f (i + 3)), vi (f (i + 4))]) (rest := []) G.1 (c_Mo_stand h) mv_Mo_stand wd_ml_L_94 dL_law_801 ly_c_mo rfl rfl (Nat.le_of_ble_eq_true rfl) rfl (by decide) ⟨by have := G.2.2.2.2.2.1; omega, by have := G.2.2.2.2.2.2; omega⟩ (fun r2 M2 h => ?_)
  refine s_istore (lv' := [some (vr 95), some (vr c_xx), some (vr c_mo), some (vr c_outc), some (vi (nI i)), some (vi k0), some (vi r2)]) G.1 dL_law_804 rfl rfl (Nat.le_of_ble_eq_true rfl) ?_
  refine s_aload_n G.1 dL_law_806 rfl ?_
  refine s_cvi (as := []) (rest := []) (Qn := fun v M9 => v = M2.1 c_mo Mo_thrown ∧ M9 = M2) G.1 (c_Mo_thrown ⟨rfl, rfl⟩) mv_Mo_thrown wd_ml_L_73 dL_law_807 ly_c_mo rfl rfl (Nat.le_of_ble_eq_true rfl) rfl (by decide) ⟨by have := G.2.2.2.2.2.1; omega, by have := G.2.2.2.2.2.2; omega⟩ (fun r3 M9 h9 => ?_)
  obtain ⟨rfl, rfl⟩ := h9
  refine s_iload G.1 dL_law_810 rfl ?_
  obtain ⟨e1, e2, hR2⟩ := h
  refine s_icmp_eq (tgt := 817) G.1 dL_law_812 (by decide) (fun _ => ?_) (fun c => absurd e1 c)
  refine s_iload G.1 dL_law_817 rfl ?_
  have fin : Wat X _ _ LY 834 [some (vr 95), some (vr c_xx), some (vr c_mo), some (vr c_outc), some (vi (nI i)), some (vi k0), some (vi r2)] [] _ := s_goto (tgt := 1298) G.1 dL_law_834 (by decide) (s_forget (lv' := lvL i) rfl (fg_ok) (kk _ hR2))
  refine s_if_ne (tgt := 834) G.1 dL_law_819 (by decide) (fun _ => fin) (fun c => ?_)
  refine s_aload_n G.1 dL_law_822 rfl ?_
  refine s_iconst (v := 0) G.1 dL_law_823 rfl ?_
  refine s_lald G.1 ly_c_outc (vp_in_nI (n := 0) (N := 1) (by decide) (by decide)) dL_law_824 ?_
  refine s_iload G.1 dL_law_825 rfl ?_
  refine s_i2l G.1 dL_law_827 ?_
  refine s_lcmp G.1 dL_law_828 ?_
  exact s_if_eq (tgt := 834) G.1 dL_law_829 (by decide) (fun _ => fin) (fun c2 => absurd ((lg_cmp_eq _ _).mpr (e2 c)) c2)
set_option maxHeartbeats 1000000 in
theorem g_played {X : Cx} {c0 s0 cells slots n i : Nat} {f : Nat → Int32} (G : GX X c0 s0 n f cells slots i) {M : Mem} (hR : Rel M) (kk : ∀ M', Rel M' → Wat X (cells + 1) (slots + 6) LY 1298 (lvL i) [] M') : Wat X cells slots LY 837 (lvL i) [] M := by
  refine s_aload_n G.1 dL_law_837 rfl ?_
  refine s_aload_n G.1 dL_law_838 rfl ?_
  refine s_iload G.1 dL_law_839 rfl ?_
  refine s_iconst (v := nI 1) G.1 dL_law_841 rfl ?_
  refine s_iadd G.1 dL_law_842 ?_
  refine s_sld G.1 G.2.2.1 (j := i + 1) (by have := G.2.2.2.1; omega) (by have := G.2.2.2.1; have := G.2.2.2.2.1; omega) (nI_add i 1) dL_law_843 ?_
  refine s_aload_n G.1 dL_law_844 rfl ?_
  refine s_iload G.1 dL_law_845 rfl ?_
  refine s_iconst (v := nI 2) G.1 dL_law_847 rfl ?_
  refine s_iadd G.1 dL_law_848 ?_
  refine s_sld G.1 G.2.2.1 (j := i + 2) (by have := G.2.2.2.1; omega) (by have := G.2.2.2.1; have := G.2.2.2.2.1; omega) (nI_add i 2) dL_law_849 ?_
  refine s_aload_n G.1 dL_law_850 rfl ?_
  refine s_iload G.1 dL_law_851 rfl ?_
  refine s_iconst (v := nI 3) G.1 dL_law_853 rfl ?_
  refine s_iadd G.1 dL_law_854 ?_
  refine s_sld G.1 G.2.2.1 (j := i + 3) (by have := G.2.2.2.1; omega) (by have := G.2.2.2.1; have := G.2.2.2.2.1; omega) (nI_add i 3) dL_law_855 ?_
  refine s_cvi (as := [vi (f (i + 1)), vi (f (i + 2)), vi (f (i + 3))]) (rest := []) G.1 (c_Top_played (r_played hR)) mv_Top_played wd_ml_L_95 dL_law_856 ly_c_xx rfl rfl (Nat.le_of_ble_eq_true rfl) rfl (by decide) ⟨by have := G.2.2.2.2.2.1; omega, by have := G.2.2.2.2.2.2; omega⟩ (fun r1 M1 h => ?_)
  refine s_aload_n G.1 dL_law_859 rfl ?_
  refine s_aload_n G.1 dL_law_860 rfl ?_
  refine s_iload G.1 dL_law_861 rfl ?_
  refine s_iconst (v := nI 1) G.1 dL_law_863 rfl ?_
  refine s_iadd G.1 dL_law_864 ?_
  refine s_sld G.1 G.2.2.1 (j := i + 1) (by have := G.2.2.2.1; omega) (by have := G.2.2.2.1; have := G.2.2.2.2.1; omega) (nI_add i 1) dL_law_865 ?_
  refine s_aload_n G.1 dL_law_866 rfl ?_
  refine s_iload G.1 dL_law_867 rfl ?_
  refine s_iconst (v := nI 2) G.1 dL_law_869 rfl ?_
  refine s_iadd G.1 dL_law_870 ?_
  refine s_sld G.1 G.2.2.1 (j := i + 2) (by have := G.2.2.2.1; omega) (by have := G.2.2.2.1; have := G.2.2.2.2.1; omega) (nI_add i 2) dL_law_871 ?_
  refine s_aload_n G.1 dL_law_872 rfl ?_
  refine s_iload G.1 dL_law_873 rfl ?_
  refine s_iconst (v := nI 3) G.1 dL_law_875 rfl ?_
  refine s_iadd G.1 dL_law_876 ?_
  refine s_sld G.1 G.2.2.1 (j := i + 3) (by have := G.2.2.2.1; omega) (by have := G.2.2.2.1; have := G.2.2.2.2.1; omega) (nI_add i 3) dL_law_877 ?_
  refine s_cvi (as := [vi (f (i + 1)), vi (f (i + 2)), vi (f (i + 3))]) (rest := [vi r1]) G.1 (c_Mo_played h) mv_Mo_played wd_ml_L_99 dL_law_878 ly_c_mo rfl rfl (Nat.le_of_ble_eq_true rfl) rfl (by decide) ⟨by have := G.2.2.2.2.2.1; omega, by have := G.2.2.2.2.2.2; omega⟩ (fun r2 M2 h => ?_)
  obtain ⟨e, hR2, -, -⟩ := h
  subst e
  exact s_icmp_eq (tgt := 1298) G.1 dL_law_881 (by decide) (fun _ => s_widen (by omega) (by omega) (kk _ hR2)) (fun c => absurd rfl c)
set_option maxHeartbeats 1000000 in
theorem g_picnic {X : Cx} {c0 s0 cells slots n i : Nat} {f : Nat → Int32} (G : GX X c0 s0 n f cells slots i) {M : Mem} (hR : Rel M) (kk : ∀ M', Rel M' → Wat X (cells + 1) (slots + 6) LY 1298 (lvL i) [] M') : Wat X cells slots LY 886 (lvL i) [] M := by
  refine s_aload_n G.1 dL_law_886 rfl ?_
  refine s_aload_n G.1 dL_law_887 rfl ?_
  refine s_iload G.1 dL_law_888 rfl ?_
  refine s_iconst (v := nI 1) G.1 dL_law_890 rfl ?_
  refine s_iadd G.1 dL_law_891 ?_
  refine s_sld G.1 G.2.2.1 (j := i + 1) (by have := G.2.2.2.1; omega) (by have := G.2.2.2.1; have := G.2.2.2.2.1; omega) (nI_add i 1) dL_law_892 ?_
  refine s_aload_n G.1 dL_law_893 rfl ?_
  refine s_iload G.1 dL_law_894 rfl ?_
  refine s_iconst (v := nI 2) G.1 dL_law_896 rfl ?_
  refine s_iadd G.1 dL_law_897 ?_
  refine s_sld G.1 G.2.2.1 (j := i + 2) (by have := G.2.2.2.1; omega) (by have := G.2.2.2.1; have := G.2.2.2.2.1; omega) (nI_add i 2) dL_law_898 ?_
  refine s_aload_n G.1 dL_law_899 rfl ?_
  refine s_iload G.1 dL_law_900 rfl ?_
  refine s_iconst (v := nI 3) G.1 dL_law_902 rfl ?_
  refine s_iadd G.1 dL_law_903 ?_
  refine s_sld G.1 G.2.2.1 (j := i + 3) (by have := G.2.2.2.1; omega) (by have := G.2.2.2.1; have := G.2.2.2.2.1; omega) (nI_add i 3) dL_law_904 ?_
  refine s_aload_n G.1 dL_law_905 rfl ?_
  refine s_iload G.1 dL_law_906 rfl ?_
  refine s_iconst (v := nI 4) G.1 dL_law_908 rfl ?_
  refine s_iadd G.1 dL_law_909 ?_
  refine s_sld G.1 G.2.2.1 (j := i + 4) (by have := G.2.2.2.1; omega) (by have := G.2.2.2.1; have := G.2.2.2.2.1; omega) (nI_add i 4) dL_law_910 ?_
  refine s_aload_n G.1 dL_law_911 rfl ?_
  refine s_csx (as := [vr c_xx, vi (f (i + 1)), vi (f (i + 2)), vi (f (i + 3)), vi (f (i + 4)), vr c_outc]) (rest := []) (Qn := fun k M9 => w_Mo_picnic (f (i + 1)) (f (i + 2)) (f (i + 3)) (f (i + 4)) M9 (okT k)) G.1 G.2.1 (c_L_picnic (r_picnic hR)) msw_L_picnic wd_ml_L_100 dL_law_912 rfl (Nat.le_of_ble_eq_true rfl) rfl (by decide) ⟨G.2.2.2.2.2.1, G.2.2.2.2.2.2⟩ (fun k0 M1 h => ?_)
  refine s_istore (lv' := [some (vr 95), some (vr c_xx), some (vr c_mo), some (vr c_outc), some (vi (nI i)), some (vi k0), none]) G.1 dL_law_915 rfl rfl (Nat.le_of_ble_eq_true rfl) ?_
  refine s_aload_n G.1 dL_law_917 rfl ?_
  refine s_aload_n G.1 dL_law_918 rfl ?_
  refine s_iload G.1 dL_law_919 rfl ?_
  refine s_iconst (v := nI 1) G.1 dL_law_921 rfl ?_
  refine s_iadd G.1 dL_law_922 ?_
  refine s_sld G.1 G.2.2.1 (j := i + 1) (by have := G.2.2.2.1; omega) (by have := G.2.2.2.1; have := G.2.2.2.2.1; omega) (nI_add i 1) dL_law_923 ?_
  refine s_aload_n G.1 dL_law_924 rfl ?_
  refine s_iload G.1 dL_law_925 rfl ?_
  refine s_iconst (v := nI 2) G.1 dL_law_927 rfl ?_
  refine s_iadd G.1 dL_law_928 ?_
  refine s_sld G.1 G.2.2.1 (j := i + 2) (by have := G.2.2.2.1; omega) (by have := G.2.2.2.1; have := G.2.2.2.2.1; omega) (nI_add i 2) dL_law_929 ?_
  refine s_aload_n G.1 dL_law_930 rfl ?_
  refine s_iload G.1 dL_law_931 rfl ?_
  refine s_iconst (v := nI 3) G.1 dL_law_933 rfl ?_
  refine s_iadd G.1 dL_law_934 ?_
  refine s_sld G.1 G.2.2.1 (j := i + 3) (by have := G.2.2.2.1; omega) (by have := G.2.2.2.1; have := G.2.2.2.2.1; omega) (nI_add i 3) dL_law_935 ?_
  refine s_aload_n G.1 dL_law_936 rfl ?_
  refine s_iload G.1 dL_law_937 rfl ?_
  refine s_iconst (v := nI 4) G.1 dL_law_939 rfl ?_
  refine s_iadd G.1 dL_law_940 ?_
  refine s_sld G.1 G.2.2.1 (j := i + 4) (by have := G.2.2.2.1; omega) (by have := G.2.2.2.1; have := G.2.2.2.2.1; omega) (nI_add i 4) dL_law_941 ?_
  refine s_cvi (as := [vi (f (i + 1)), vi (f (i + 2)), vi (f (i + 3)), vi (f (i + 4))]) (rest := []) G.1 (c_Mo_picnic h) mv_Mo_picnic wd_ml_L_102 dL_law_942 ly_c_mo rfl rfl (Nat.le_of_ble_eq_true rfl) rfl (by decide) ⟨by have := G.2.2.2.2.2.1; omega, by have := G.2.2.2.2.2.2; omega⟩ (fun r2 M2 h => ?_)
  refine s_istore (lv' := [some (vr 95), some (vr c_xx), some (vr c_mo), some (vr c_outc), some (vi (nI i)), some (vi k0), some (vi r2)]) G.1 dL_law_945 rfl rfl (Nat.le_of_ble_eq_true rfl) ?_
  refine s_aload_n G.1 dL_law_947 rfl ?_
  refine s_cvi (as := []) (rest := []) (Qn := fun v M9 => v = M2.1 c_mo Mo_thrown ∧ M9 = M2) G.1 (c_Mo_thrown ⟨rfl, rfl⟩) mv_Mo_thrown wd_ml_L_73 dL_law_948 ly_c_mo rfl rfl (Nat.le_of_ble_eq_true rfl) rfl (by decide) ⟨by have := G.2.2.2.2.2.1; omega, by have := G.2.2.2.2.2.2; omega⟩ (fun r3 M9 h9 => ?_)
  obtain ⟨rfl, rfl⟩ := h9
  refine s_iload G.1 dL_law_951 rfl ?_
  obtain ⟨e1, e2, hR2⟩ := h
  refine s_icmp_eq (tgt := 958) G.1 dL_law_953 (by decide) (fun _ => ?_) (fun c => absurd e1 c)
  refine s_iload G.1 dL_law_958 rfl ?_
  have fin : Wat X _ _ LY 975 [some (vr 95), some (vr c_xx), some (vr c_mo), some (vr c_outc), some (vi (nI i)), some (vi k0), some (vi r2)] [] _ := s_goto (tgt := 1298) G.1 dL_law_975 (by decide) (s_forget (lv' := lvL i) rfl (fg_ok) (kk _ hR2))
  refine s_if_ne (tgt := 975) G.1 dL_law_960 (by decide) (fun _ => fin) (fun c => ?_)
  refine s_aload_n G.1 dL_law_963 rfl ?_
  refine s_iconst (v := 0) G.1 dL_law_964 rfl ?_
  refine s_lald G.1 ly_c_outc (vp_in_nI (n := 0) (N := 1) (by decide) (by decide)) dL_law_965 ?_
  refine s_iload G.1 dL_law_966 rfl ?_
  refine s_i2l G.1 dL_law_968 ?_
  refine s_lcmp G.1 dL_law_969 ?_
  exact s_if_eq (tgt := 975) G.1 dL_law_970 (by decide) (fun _ => fin) (fun c2 => absurd ((lg_cmp_eq _ _).mpr (e2 c)) c2)
set_option maxHeartbeats 1000000 in
theorem g_netted {X : Cx} {c0 s0 cells slots n i : Nat} {f : Nat → Int32} (G : GX X c0 s0 n f cells slots i) {M : Mem} (hR : Rel M) (kk : ∀ M', Rel M' → Wat X (cells + 1) (slots + 6) LY 1298 (lvL i) [] M') : Wat X cells slots LY 978 (lvL i) [] M := by
  refine s_aload_n G.1 dL_law_978 rfl ?_
  refine s_cvi (as := []) (rest := []) G.1 (c_Top_netted (r_netted hR)) mv_Top_netted wd_ml_L_103 dL_law_979 ly_c_xx rfl rfl (Nat.le_of_ble_eq_true rfl) rfl (by decide) ⟨by have := G.2.2.2.2.2.1; omega, by have := G.2.2.2.2.2.2; omega⟩ (fun r1 M1 h => ?_)
  refine s_aload_n G.1 dL_law_982 rfl ?_
  refine s_cvi (as := []) (rest := [vi r1]) G.1 (c_Mo_netted h) mv_Mo_netted wd_ml_L_106 dL_law_983 ly_c_mo rfl rfl (Nat.le_of_ble_eq_true rfl) rfl (by decide) ⟨by have := G.2.2.2.2.2.1; omega, by have := G.2.2.2.2.2.2; omega⟩ (fun r2 M2 h => ?_)
  obtain ⟨e, hR2, -, -⟩ := h
  subst e
  exact s_icmp_eq (tgt := 1298) G.1 dL_law_986 (by decide) (fun _ => s_widen (by omega) (by omega) (kk _ hR2)) (fun c => absurd rfl c)
set_option maxHeartbeats 1000000 in
theorem g_without {X : Cx} {c0 s0 cells slots n i : Nat} {f : Nat → Int32} (G : GX X c0 s0 n f cells slots i) {M : Mem} (hR : Rel M) (kk : ∀ M', Rel M' → Wat X (cells + 1) (slots + 6) LY 1298 (lvL i) [] M') : Wat X cells slots LY 991 (lvL i) [] M := by
  refine s_aload_n G.1 dL_law_991 rfl ?_
  refine s_aload_n G.1 dL_law_992 rfl ?_
  refine s_iload G.1 dL_law_993 rfl ?_
  refine s_iconst (v := nI 1) G.1 dL_law_995 rfl ?_
  refine s_iadd G.1 dL_law_996 ?_
  refine s_sld G.1 G.2.2.1 (j := i + 1) (by have := G.2.2.2.1; omega) (by have := G.2.2.2.1; have := G.2.2.2.2.1; omega) (nI_add i 1) dL_law_997 ?_
  refine s_aload_n G.1 dL_law_998 rfl ?_
  refine s_iload G.1 dL_law_999 rfl ?_
  refine s_iconst (v := nI 2) G.1 dL_law_1001 rfl ?_
  refine s_iadd G.1 dL_law_1002 ?_
  refine s_sld G.1 G.2.2.1 (j := i + 2) (by have := G.2.2.2.1; omega) (by have := G.2.2.2.1; have := G.2.2.2.2.1; omega) (nI_add i 2) dL_law_1003 ?_
  refine s_aload_n G.1 dL_law_1004 rfl ?_
  refine s_csx (as := [vr c_xx, vi (f (i + 1)), vi (f (i + 2)), vr c_outc]) (rest := []) (Qn := fun k M9 => w_Mo_without (f (i + 1)) (f (i + 2)) M9 (okT k)) G.1 G.2.1 (c_L_without (r_without hR)) msw_L_without wd_ml_L_107 dL_law_1005 rfl (Nat.le_of_ble_eq_true rfl) rfl (by decide) ⟨G.2.2.2.2.2.1, G.2.2.2.2.2.2⟩ (fun k0 M1 h => ?_)
  refine s_istore (lv' := [some (vr 95), some (vr c_xx), some (vr c_mo), some (vr c_outc), some (vi (nI i)), some (vi k0), none]) G.1 dL_law_1008 rfl rfl (Nat.le_of_ble_eq_true rfl) ?_
  refine s_aload_n G.1 dL_law_1010 rfl ?_
  refine s_aload_n G.1 dL_law_1011 rfl ?_
  refine s_iload G.1 dL_law_1012 rfl ?_
  refine s_iconst (v := nI 1) G.1 dL_law_1014 rfl ?_
  refine s_iadd G.1 dL_law_1015 ?_
  refine s_sld G.1 G.2.2.1 (j := i + 1) (by have := G.2.2.2.1; omega) (by have := G.2.2.2.1; have := G.2.2.2.2.1; omega) (nI_add i 1) dL_law_1016 ?_
  refine s_aload_n G.1 dL_law_1017 rfl ?_
  refine s_iload G.1 dL_law_1018 rfl ?_
  refine s_iconst (v := nI 2) G.1 dL_law_1020 rfl ?_
  refine s_iadd G.1 dL_law_1021 ?_
  refine s_sld G.1 G.2.2.1 (j := i + 2) (by have := G.2.2.2.1; omega) (by have := G.2.2.2.1; have := G.2.2.2.2.1; omega) (nI_add i 2) dL_law_1022 ?_
  refine s_cvi (as := [vi (f (i + 1)), vi (f (i + 2))]) (rest := []) G.1 (c_Mo_without h) mv_Mo_without wd_ml_L_110 dL_law_1023 ly_c_mo rfl rfl (Nat.le_of_ble_eq_true rfl) rfl (by decide) ⟨by have := G.2.2.2.2.2.1; omega, by have := G.2.2.2.2.2.2; omega⟩ (fun r2 M2 h => ?_)
  refine s_istore (lv' := [some (vr 95), some (vr c_xx), some (vr c_mo), some (vr c_outc), some (vi (nI i)), some (vi k0), some (vi r2)]) G.1 dL_law_1026 rfl rfl (Nat.le_of_ble_eq_true rfl) ?_
  refine s_aload_n G.1 dL_law_1028 rfl ?_
  refine s_cvi (as := []) (rest := []) (Qn := fun v M9 => v = M2.1 c_mo Mo_thrown ∧ M9 = M2) G.1 (c_Mo_thrown ⟨rfl, rfl⟩) mv_Mo_thrown wd_ml_L_73 dL_law_1029 ly_c_mo rfl rfl (Nat.le_of_ble_eq_true rfl) rfl (by decide) ⟨by have := G.2.2.2.2.2.1; omega, by have := G.2.2.2.2.2.2; omega⟩ (fun r3 M9 h9 => ?_)
  obtain ⟨rfl, rfl⟩ := h9
  refine s_iload G.1 dL_law_1032 rfl ?_
  obtain ⟨e1, e2, hR2⟩ := h
  refine s_icmp_eq (tgt := 1039) G.1 dL_law_1034 (by decide) (fun _ => ?_) (fun c => absurd e1 c)
  refine s_iload G.1 dL_law_1039 rfl ?_
  have fin : Wat X _ _ LY 1056 [some (vr 95), some (vr c_xx), some (vr c_mo), some (vr c_outc), some (vi (nI i)), some (vi k0), some (vi r2)] [] _ := s_goto (tgt := 1298) G.1 dL_law_1056 (by decide) (s_forget (lv' := lvL i) rfl (fg_ok) (kk _ hR2))
  refine s_if_ne (tgt := 1056) G.1 dL_law_1041 (by decide) (fun _ => fin) (fun c => ?_)
  refine s_aload_n G.1 dL_law_1044 rfl ?_
  refine s_iconst (v := 0) G.1 dL_law_1045 rfl ?_
  refine s_lald G.1 ly_c_outc (vp_in_nI (n := 0) (N := 1) (by decide) (by decide)) dL_law_1046 ?_
  refine s_iload G.1 dL_law_1047 rfl ?_
  refine s_i2l G.1 dL_law_1049 ?_
  refine s_lcmp G.1 dL_law_1050 ?_
  exact s_if_eq (tgt := 1056) G.1 dL_law_1051 (by decide) (fun _ => fin) (fun c2 => absurd ((lg_cmp_eq _ _).mpr (e2 c)) c2)
set_option maxHeartbeats 1000000 in
theorem g_told {X : Cx} {c0 s0 cells slots n i : Nat} {f : Nat → Int32} (G : GX X c0 s0 n f cells slots i) {M : Mem} (hR : Rel M) (kk : ∀ M', Rel M' → Wat X (cells + 1) (slots + 6) LY 1298 (lvL i) [] M') : Wat X cells slots LY 1059 (lvL i) [] M := by
  refine s_aload_n G.1 dL_law_1059 rfl ?_
  refine s_aload_n G.1 dL_law_1060 rfl ?_
  refine s_iload G.1 dL_law_1061 rfl ?_
  refine s_iconst (v := nI 1) G.1 dL_law_1063 rfl ?_
  refine s_iadd G.1 dL_law_1064 ?_
  refine s_sld G.1 G.2.2.1 (j := i + 1) (by have := G.2.2.2.1; omega) (by have := G.2.2.2.1; have := G.2.2.2.2.1; omega) (nI_add i 1) dL_law_1065 ?_
  refine s_aload_n G.1 dL_law_1066 rfl ?_
  refine s_iload G.1 dL_law_1067 rfl ?_
  refine s_iconst (v := nI 2) G.1 dL_law_1069 rfl ?_
  refine s_iadd G.1 dL_law_1070 ?_
  refine s_sld G.1 G.2.2.1 (j := i + 2) (by have := G.2.2.2.1; omega) (by have := G.2.2.2.1; have := G.2.2.2.2.1; omega) (nI_add i 2) dL_law_1071 ?_
  refine s_cvi (as := [vi (f (i + 1)), vi (f (i + 2))]) (rest := []) G.1 (c_Top_told (r_told hR)) mv_Top_told wd_ml_L_111 dL_law_1072 ly_c_xx rfl rfl (Nat.le_of_ble_eq_true rfl) rfl (by decide) ⟨by have := G.2.2.2.2.2.1; omega, by have := G.2.2.2.2.2.2; omega⟩ (fun r1 M1 h => ?_)
  obtain ⟨b1, rfl, h⟩ := h
  refine s_aload_n G.1 dL_law_1075 rfl ?_
  refine s_aload_n G.1 dL_law_1076 rfl ?_
  refine s_iload G.1 dL_law_1077 rfl ?_
  refine s_iconst (v := nI 1) G.1 dL_law_1079 rfl ?_
  refine s_iadd G.1 dL_law_1080 ?_
  refine s_sld G.1 G.2.2.1 (j := i + 1) (by have := G.2.2.2.1; omega) (by have := G.2.2.2.1; have := G.2.2.2.2.1; omega) (nI_add i 1) dL_law_1081 ?_
  refine s_aload_n G.1 dL_law_1082 rfl ?_
  refine s_iload G.1 dL_law_1083 rfl ?_
  refine s_iconst (v := nI 2) G.1 dL_law_1085 rfl ?_
  refine s_iadd G.1 dL_law_1086 ?_
  refine s_sld G.1 G.2.2.1 (j := i + 2) (by have := G.2.2.2.1; omega) (by have := G.2.2.2.1; have := G.2.2.2.2.1; omega) (nI_add i 2) dL_law_1087 ?_
  refine s_cvi (as := [vi (f (i + 1)), vi (f (i + 2))]) (rest := [vi (b2i b1)]) G.1 (c_Mo_told h) mv_Mo_told wd_ml_L_115 dL_law_1088 ly_c_mo rfl rfl (Nat.le_of_ble_eq_true rfl) rfl (by decide) ⟨by have := G.2.2.2.2.2.1; omega, by have := G.2.2.2.2.2.2; omega⟩ (fun r2 M2 h => ?_)
  obtain ⟨b2, rfl, h⟩ := h
  obtain ⟨e, hR2, -, -⟩ := h
  subst e
  exact s_icmp_eq (tgt := 1298) G.1 dL_law_1091 (by decide) (fun _ => s_widen (by omega) (by omega) (kk _ hR2)) (fun c => absurd rfl c)
set_option maxHeartbeats 1000000 in
theorem g_sang {X : Cx} {c0 s0 cells slots n i : Nat} {f : Nat → Int32} (G : GX X c0 s0 n f cells slots i) {M : Mem} (hR : Rel M) (kk : ∀ M', Rel M' → Wat X (cells + 1) (slots + 6) LY 1298 (lvL i) [] M') : Wat X cells slots LY 1096 (lvL i) [] M := by
  refine s_aload_n G.1 dL_law_1096 rfl ?_
  refine s_aload_n G.1 dL_law_1097 rfl ?_
  refine s_iload G.1 dL_law_1098 rfl ?_
  refine s_iconst (v := nI 1) G.1 dL_law_1100 rfl ?_
  refine s_iadd G.1 dL_law_1101 ?_
  refine s_sld G.1 G.2.2.1 (j := i + 1) (by have := G.2.2.2.1; omega) (by have := G.2.2.2.1; have := G.2.2.2.2.1; omega) (nI_add i 1) dL_law_1102 ?_
  refine s_cvi (as := [vi (f (i + 1))]) (rest := []) G.1 (c_Top_sang (r_sang hR)) mv_Top_sang wd_ml_L_116 dL_law_1103 ly_c_xx rfl rfl (Nat.le_of_ble_eq_true rfl) rfl (by decide) ⟨by have := G.2.2.2.2.2.1; omega, by have := G.2.2.2.2.2.2; omega⟩ (fun r1 M1 h => ?_)
  refine s_aload_n G.1 dL_law_1106 rfl ?_
  refine s_aload_n G.1 dL_law_1107 rfl ?_
  refine s_iload G.1 dL_law_1108 rfl ?_
  refine s_iconst (v := nI 1) G.1 dL_law_1110 rfl ?_
  refine s_iadd G.1 dL_law_1111 ?_
  refine s_sld G.1 G.2.2.1 (j := i + 1) (by have := G.2.2.2.1; omega) (by have := G.2.2.2.1; have := G.2.2.2.2.1; omega) (nI_add i 1) dL_law_1112 ?_
  refine s_cvi (as := [vi (f (i + 1))]) (rest := [vi r1]) G.1 (c_Mo_sang h) mv_Mo_sang wd_ml_L_119 dL_law_1113 ly_c_mo rfl rfl (Nat.le_of_ble_eq_true rfl) rfl (by decide) ⟨by have := G.2.2.2.2.2.1; omega, by have := G.2.2.2.2.2.2; omega⟩ (fun r2 M2 h => ?_)
  obtain ⟨e, hR2, -, -⟩ := h
  subst e
  exact s_icmp_eq (tgt := 1298) G.1 dL_law_1116 (by decide) (fun _ => s_widen (by omega) (by omega) (kk _ hR2)) (fun c => absurd rfl c)
set_option maxHeartbeats 1000000 in
theorem g_song {X : Cx} {c0 s0 cells slots n i : Nat} {f : Nat → Int32} (G : GX X c0 s0 n f cells slots i) {M : Mem} (hR : Rel M) (kk : ∀ M', Rel M' → Wat X (cells + 1) (slots + 6) LY 1298 (lvL i) [] M') : Wat X cells slots LY 1121 (lvL i) [] M := by
  refine s_aload_n G.1 dL_law_1121 rfl ?_
  refine s_aload_n G.1 dL_law_1122 rfl ?_
  refine s_iload G.1 dL_law_1123 rfl ?_
  refine s_iconst (v := nI 1) G.1 dL_law_1125 rfl ?_
  refine s_iadd G.1 dL_law_1126 ?_
  refine s_sld G.1 G.2.2.1 (j := i + 1) (by have := G.2.2.2.1; omega) (by have := G.2.2.2.1; have := G.2.2.2.2.1; omega) (nI_add i 1) dL_law_1127 ?_
  refine s_aload_n G.1 dL_law_1128 rfl ?_
  refine s_iload G.1 dL_law_1129 rfl ?_
  refine s_iconst (v := nI 2) G.1 dL_law_1131 rfl ?_
  refine s_iadd G.1 dL_law_1132 ?_
  refine s_sld G.1 G.2.2.1 (j := i + 2) (by have := G.2.2.2.1; omega) (by have := G.2.2.2.1; have := G.2.2.2.2.1; omega) (nI_add i 2) dL_law_1133 ?_
  refine s_aload_n G.1 dL_law_1134 rfl ?_
  refine s_iload G.1 dL_law_1135 rfl ?_
  refine s_iconst (v := nI 3) G.1 dL_law_1137 rfl ?_
  refine s_iadd G.1 dL_law_1138 ?_
  refine s_sld G.1 G.2.2.1 (j := i + 3) (by have := G.2.2.2.1; omega) (by have := G.2.2.2.1; have := G.2.2.2.2.1; omega) (nI_add i 3) dL_law_1139 ?_
  refine s_cvi (as := [vi (f (i + 1)), vi (f (i + 2)), vi (f (i + 3))]) (rest := []) G.1 (c_Top_song (r_song hR)) mv_Top_song wd_ml_L_120 dL_law_1140 ly_c_xx rfl rfl (Nat.le_of_ble_eq_true rfl) rfl (by decide) ⟨by have := G.2.2.2.2.2.1; omega, by have := G.2.2.2.2.2.2; omega⟩ (fun r1 M1 h => ?_)
  refine s_aload_n G.1 dL_law_1143 rfl ?_
  refine s_aload_n G.1 dL_law_1144 rfl ?_
  refine s_iload G.1 dL_law_1145 rfl ?_
  refine s_iconst (v := nI 1) G.1 dL_law_1147 rfl ?_
  refine s_iadd G.1 dL_law_1148 ?_
  refine s_sld G.1 G.2.2.1 (j := i + 1) (by have := G.2.2.2.1; omega) (by have := G.2.2.2.1; have := G.2.2.2.2.1; omega) (nI_add i 1) dL_law_1149 ?_
  refine s_aload_n G.1 dL_law_1150 rfl ?_
  refine s_iload G.1 dL_law_1151 rfl ?_
  refine s_iconst (v := nI 2) G.1 dL_law_1153 rfl ?_
  refine s_iadd G.1 dL_law_1154 ?_
  refine s_sld G.1 G.2.2.1 (j := i + 2) (by have := G.2.2.2.1; omega) (by have := G.2.2.2.1; have := G.2.2.2.2.1; omega) (nI_add i 2) dL_law_1155 ?_
  refine s_aload_n G.1 dL_law_1156 rfl ?_
  refine s_iload G.1 dL_law_1157 rfl ?_
  refine s_iconst (v := nI 3) G.1 dL_law_1159 rfl ?_
  refine s_iadd G.1 dL_law_1160 ?_
  refine s_sld G.1 G.2.2.1 (j := i + 3) (by have := G.2.2.2.1; omega) (by have := G.2.2.2.1; have := G.2.2.2.2.1; omega) (nI_add i 3) dL_law_1161 ?_
  refine s_cvi (as := [vi (f (i + 1)), vi (f (i + 2)), vi (f (i + 3))]) (rest := [vi r1]) G.1 (c_Mo_song h) mv_Mo_song wd_ml_L_123 dL_law_1162 ly_c_mo rfl rfl (Nat.le_of_ble_eq_true rfl) rfl (by decide) ⟨by have := G.2.2.2.2.2.1; omega, by have := G.2.2.2.2.2.2; omega⟩ (fun r2 M2 h => ?_)
  obtain ⟨e, hR2, -, -⟩ := h
  subst e
  exact s_icmp_eq (tgt := 1298) G.1 dL_law_1165 (by decide) (fun _ => s_widen (by omega) (by omega) (kk _ hR2)) (fun c => absurd rfl c)
set_option maxHeartbeats 1000000 in
theorem g_wooden {X : Cx} {c0 s0 cells slots n i : Nat} {f : Nat → Int32} (G : GX X c0 s0 n f cells slots i) {M : Mem} (hR : Rel M) (kk : ∀ M', Rel M' → Wat X (cells + 1) (slots + 6) LY 1298 (lvL i) [] M') : Wat X cells slots LY 1170 (lvL i) [] M := by
  refine s_aload_n G.1 dL_law_1170 rfl ?_
  refine s_aload_n G.1 dL_law_1171 rfl ?_
  refine s_iload G.1 dL_law_1172 rfl ?_
  refine s_iconst (v := nI 1) G.1 dL_law_1174 rfl ?_
  refine s_iadd G.1 dL_law_1175 ?_
  refine s_sld G.1 G.2.2.1 (j := i + 1) (by have := G.2.2.2.1; omega) (by have := G.2.2.2.1; have := G.2.2.2.2.1; omega) (nI_add i 1) dL_law_1176 ?_
  refine s_cvi (as := [vi (f (i + 1))]) (rest := []) G.1 (c_Top_wooden (r_wooden hR)) mv_Top_wooden wd_ml_L_124 dL_law_1177 ly_c_xx rfl rfl (Nat.le_of_ble_eq_true rfl) rfl (by decide) ⟨by have := G.2.2.2.2.2.1; omega, by have := G.2.2.2.2.2.2; omega⟩ (fun r1 M1 h => ?_)
  refine s_aload_n G.1 dL_law_1180 rfl ?_
  refine s_aload_n G.1 dL_law_1181 rfl ?_
  refine s_iload G.1 dL_law_1182 rfl ?_
  refine s_iconst (v := nI 1) G.1 dL_law_1184 rfl ?_
  refine s_iadd G.1 dL_law_1185 ?_
  refine s_sld G.1 G.2.2.1 (j := i + 1) (by have := G.2.2.2.1; omega) (by have := G.2.2.2.1; have := G.2.2.2.2.1; omega) (nI_add i 1) dL_law_1186 ?_
  refine s_cvi (as := [vi (f (i + 1))]) (rest := [vi r1]) G.1 (c_Mo_wooden h) mv_Mo_wooden wd_ml_L_127 dL_law_1187 ly_c_mo rfl rfl (Nat.le_of_ble_eq_true rfl) rfl (by decide) ⟨by have := G.2.2.2.2.2.1; omega, by have := G.2.2.2.2.2.2; omega⟩ (fun r2 M2 h => ?_)
  obtain ⟨e, hR2, -, -⟩ := h
  subst e
  exact s_icmp_eq (tgt := 1298) G.1 dL_law_1190 (by decide) (fun _ => s_widen (by omega) (by omega) (kk _ hR2)) (fun c => absurd rfl c)
set_option maxHeartbeats 1000000 in
theorem g_june {X : Cx} {c0 s0 cells slots n i : Nat} {f : Nat → Int32} (G : GX X c0 s0 n f cells slots i) {M : Mem} (hR : Rel M) (kk : ∀ M', Rel M' → Wat X (cells + 1) (slots + 6) LY 1298 (lvL i) [] M') : Wat X cells slots LY 1195 (lvL i) [] M := by
  refine s_aload_n G.1 dL_law_1195 rfl ?_
  refine s_aload_n G.1 dL_law_1196 rfl ?_
  refine s_iload G.1 dL_law_1197 rfl ?_
  refine s_iconst (v := nI 1) G.1 dL_law_1199 rfl ?_
  refine s_iadd G.1 dL_law_1200 ?_
  refine s_sld G.1 G.2.2.1 (j := i + 1) (by have := G.2.2.2.1; omega) (by have := G.2.2.2.1; have := G.2.2.2.2.1; omega) (nI_add i 1) dL_law_1201 ?_
  refine s_cvi (as := [vi (f (i + 1))]) (rest := []) G.1 (c_Top_june (r_june hR)) mv_Top_june wd_ml_L_128 dL_law_1202 ly_c_xx rfl rfl (Nat.le_of_ble_eq_true rfl) rfl (by decide) ⟨by have := G.2.2.2.2.2.1; omega, by have := G.2.2.2.2.2.2; omega⟩ (fun r1 M1 h => ?_)
  refine s_aload_n G.1 dL_law_1205 rfl ?_
  refine s_aload_n G.1 dL_law_1206 rfl ?_
  refine s_iload G.1 dL_law_1207 rfl ?_
  refine s_iconst (v := nI 1) G.1 dL_law_1209 rfl ?_
  refine s_iadd G.1 dL_law_1210 ?_
  refine s_sld G.1 G.2.2.1 (j := i + 1) (by have := G.2.2.2.1; omega) (by have := G.2.2.2.1; have := G.2.2.2.2.1; omega) (nI_add i 1) dL_law_1211 ?_
  refine s_cvi (as := [vi (f (i + 1))]) (rest := [vi r1]) G.1 (c_Mo_june h) mv_Mo_june wd_ml_L_131 dL_law_1212 ly_c_mo rfl rfl (Nat.le_of_ble_eq_true rfl) rfl (by decide) ⟨by have := G.2.2.2.2.2.1; omega, by have := G.2.2.2.2.2.2; omega⟩ (fun r2 M2 h => ?_)
  obtain ⟨e, hR2, -, -⟩ := h
  subst e
  exact s_icmp_eq (tgt := 1298) G.1 dL_law_1215 (by decide) (fun _ => s_widen (by omega) (by omega) (kk _ hR2)) (fun c => absurd rfl c)
set_option maxHeartbeats 1000000 in
theorem g_mark {X : Cx} {c0 s0 cells slots n i : Nat} {f : Nat → Int32} (G : GX X c0 s0 n f cells slots i) {M : Mem} (hR : Rel M) (kk : ∀ M', Rel M' → Wat X (cells + 1) (slots + 6) LY 1298 (lvL i) [] M') : Wat X cells slots LY 1220 (lvL i) [] M := by
  refine s_aload_n G.1 dL_law_1220 rfl ?_
  refine s_aload_n G.1 dL_law_1221 rfl ?_
  refine s_iload G.1 dL_law_1222 rfl ?_
  refine s_iconst (v := nI 1) G.1 dL_law_1224 rfl ?_
  refine s_iadd G.1 dL_law_1225 ?_
  refine s_sld G.1 G.2.2.1 (j := i + 1) (by have := G.2.2.2.1; omega) (by have := G.2.2.2.1; have := G.2.2.2.2.1; omega) (nI_add i 1) dL_law_1226 ?_
  refine s_aload_n G.1 dL_law_1227 rfl ?_
  refine s_iload G.1 dL_law_1228 rfl ?_
  refine s_iconst (v := nI 2) G.1 dL_law_1230 rfl ?_
  refine s_iadd G.1 dL_law_1231 ?_
  refine s_sld G.1 G.2.2.1 (j := i + 2) (by have := G.2.2.2.1; omega) (by have := G.2.2.2.1; have := G.2.2.2.2.1; omega) (nI_add i 2) dL_law_1232 ?_
  refine s_nz (tgt := 1240) G.1 dL_law_1233 (by decide) dL_law_1236 (tgt2 := 1241) dL_law_1237 (by decide) dL_law_1240 ?_
  refine s_cvi (as := [vi (f (i + 1)), vi (nzI (f (i + 2)))]) (rest := []) G.1 (c_Top_mark (r_mark hR)) mv_Top_mark wd_ml_L_132 dL_law_1241 ly_c_xx rfl rfl (Nat.le_of_ble_eq_true rfl) rfl (by decide) ⟨by have := G.2.2.2.2.2.1; omega, by have := G.2.2.2.2.2.2; omega⟩ (fun r1 M1 h => ?_)
  obtain ⟨b1, rfl, h⟩ := h
  refine s_aload_n G.1 dL_law_1244 rfl ?_
  refine s_aload_n G.1 dL_law_1245 rfl ?_
  refine s_iload G.1 dL_law_1246 rfl ?_
  refine s_iconst (v := nI 1) G.1 dL_law_1248 rfl ?_
  refine s_iadd G.1 dL_law_1249 ?_
  refine s_sld G.1 G.2.2.1 (j := i + 1) (by have := G.2.2.2.1; omega) (by have := G.2.2.2.1; have := G.2.2.2.2.1; omega) (nI_add i 1) dL_law_1250 ?_
  refine s_aload_n G.1 dL_law_1251 rfl ?_
  refine s_iload G.1 dL_law_1252 rfl ?_
  refine s_iconst (v := nI 2) G.1 dL_law_1254 rfl ?_
  refine s_iadd G.1 dL_law_1255 ?_
  refine s_sld G.1 G.2.2.1 (j := i + 2) (by have := G.2.2.2.1; omega) (by have := G.2.2.2.1; have := G.2.2.2.2.1; omega) (nI_add i 2) dL_law_1256 ?_
  refine s_nz (tgt := 1264) G.1 dL_law_1257 (by decide) dL_law_1260 (tgt2 := 1265) dL_law_1261 (by decide) dL_law_1264 ?_
  refine s_cvi (as := [vi (f (i + 1)), vi (nzI (f (i + 2)))]) (rest := [vi (b2i b1)]) G.1 (c_Mo_mark h) mv_Mo_mark wd_ml_L_135 dL_law_1265 ly_c_mo rfl rfl (Nat.le_of_ble_eq_true rfl) rfl (by decide) ⟨by have := G.2.2.2.2.2.1; omega, by have := G.2.2.2.2.2.2; omega⟩ (fun r2 M2 h => ?_)
  obtain ⟨b2, rfl, h⟩ := h
  obtain ⟨e, hR2, -, -⟩ := h
  subst e
  exact s_icmp_eq (tgt := 1298) G.1 dL_law_1268 (by decide) (fun _ => s_widen (by omega) (by omega) (kk _ hR2)) (fun c => absurd rfl c)
set_option maxHeartbeats 1000000 in
theorem g_count {X : Cx} {c0 s0 cells slots n i : Nat} {f : Nat → Int32} (G : GX X c0 s0 n f cells slots i) {M : Mem} (hR : Rel M) (kk : ∀ M', Rel M' → Wat X (cells + 1) (slots + 6) LY 1298 (lvL i) [] M') : Wat X cells slots LY 1273 (lvL i) [] M := by
  refine s_aload_n G.1 dL_law_1273 rfl ?_
  refine s_aload_n G.1 dL_law_1274 rfl ?_
  refine s_iload G.1 dL_law_1275 rfl ?_
  refine s_iconst (v := nI 1) G.1 dL_law_1277 rfl ?_
  refine s_iadd G.1 dL_law_1278 ?_
  refine s_sld G.1 G.2.2.1 (j := i + 1) (by have := G.2.2.2.1; omega) (by have := G.2.2.2.1; have := G.2.2.2.2.1; omega) (nI_add i 1) dL_law_1279 ?_
  refine s_cvi (as := [vi (f (i + 1))]) (rest := []) G.1 (c_Top_count (r_count hR)) mv_Top_count wd_ml_L_136 dL_law_1280 ly_c_xx rfl rfl (Nat.le_of_ble_eq_true rfl) rfl (by decide) ⟨by have := G.2.2.2.2.2.1; omega, by have := G.2.2.2.2.2.2; omega⟩ (fun r1 M1 h => ?_)
  refine s_aload_n G.1 dL_law_1283 rfl ?_
  refine s_aload_n G.1 dL_law_1284 rfl ?_
  refine s_iload G.1 dL_law_1285 rfl ?_
  refine s_iconst (v := nI 1) G.1 dL_law_1287 rfl ?_
  refine s_iadd G.1 dL_law_1288 ?_
  refine s_sld G.1 G.2.2.1 (j := i + 1) (by have := G.2.2.2.1; omega) (by have := G.2.2.2.1; have := G.2.2.2.2.1; omega) (nI_add i 1) dL_law_1289 ?_
  refine s_cvi (as := [vi (f (i + 1))]) (rest := [vi r1]) G.1 (c_Mo_count h) mv_Mo_count wd_ml_L_139 dL_law_1290 ly_c_mo rfl rfl (Nat.le_of_ble_eq_true rfl) rfl (by decide) ⟨by have := G.2.2.2.2.2.1; omega, by have := G.2.2.2.2.2.2; omega⟩ (fun r2 M2 h => ?_)
  obtain ⟨e, hR2, -, -⟩ := h
  subst e
  exact s_icmp_eq (tgt := 1298) G.1 dL_law_1293 (by decide) (fun _ => s_widen (by omega) (by omega) (kk _ hR2)) (fun c => absurd rfl c)
