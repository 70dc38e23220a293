def K_cylinder (J : kT → Prop) : Prop := ∀ (a1 : Int32) (a2 : Int32) (τ : kT), J τ → T_X10_cylinder a1 a2 τ (fun r1 τ1 => T_X11_cylinder a1 a2 τ1 (fun r2 τ2 => r1 = r2 ∧ J τ2))
set_option maxRecDepth 100000 in
set_option maxHeartbeats 4000000 in
theorem law_0 {d N j : Nat} {xs : Nat → Int32} {τ : kT} {NX : kT → Prop} (hN : N ≤ 3072) (hj : j + 6 ≤ N) (nx : ∀ τ2, NX τ2 → UL (d + 72) N xs 1442 (lLs (nI j)) [] τ2) (h : T_X10_cylinder (xs (j + 1)) (xs (j + 2)) τ (fun r1 τ1 => T_X11_cylinder (xs (j + 1)) (xs (j + 2)) τ1 (fun r2 τ2 => r1 = r2 ∧ NX τ2))) : UL (d + 72) N xs 212 (lLs (nI j)) [] τ := by
  refine v_aload_n dL_law_212 rfl rfl ?_
  refine v_aload_n dL_law_213 rfl rfl ?_
  refine v_iload_n dL_law_214 rfl rfl ?_
  refine v_iconst (v := 1) dL_law_215 (by decide) ?_
  refine v_iadd dL_law_216 ?_
  refine v_sld dL_law_217 (nI_add j 1) (show j + 1 < (N + 1) - 1 by omega) (show N + 1 < 2 ^ 31 by omega) ?_
  refine v_aload_n dL_law_218 rfl rfl ?_
  refine v_iload_n dL_law_219 rfl rfl ?_
  refine v_iconst (v := 2) dL_law_220 (by decide) ?_
  refine v_iadd dL_law_221 ?_
  refine v_sld dL_law_222 (nI_add j 2) (show j + 2 < (N + 1) - 1 by omega) (show N + 1 < 2 ^ 31 by omega) ?_
  refine u_callL [.int (xs (j + 1)), .int (xs (j + 2))] mX10_cylinder iX10_cylinder lL_13 dL_law_223 sh_0 rfl rfl (by decide) rfl rfl (Nat.le_of_ble_eq_true rfl) (Nat.le_of_ble_eq_true rfl) (v_X10_cylinder (d := d + 66) (xs (j + 1)) (xs (j + 2)) _ _ h) ?_
  rintro _ τ1 ⟨r1, rfl, h⟩
  refine v_aload_n dL_law_226 rfl rfl ?_
  refine v_aload_n dL_law_227 rfl rfl ?_
  refine v_iload_n dL_law_228 rfl rfl ?_
  refine v_iconst (v := 1) dL_law_229 (by decide) ?_
  refine v_iadd dL_law_230 ?_
  refine v_sld dL_law_231 (nI_add j 1) (show j + 1 < (N + 1) - 1 by omega) (show N + 1 < 2 ^ 31 by omega) ?_
  refine v_aload_n dL_law_232 rfl rfl ?_
  refine v_iload_n dL_law_233 rfl rfl ?_
  refine v_iconst (v := 2) dL_law_234 (by decide) ?_
  refine v_iadd dL_law_235 ?_
  refine v_sld dL_law_236 (nI_add j 2) (show j + 2 < (N + 1) - 1 by omega) (show N + 1 < 2 ^ 31 by omega) ?_
  refine u_callL [.int (xs (j + 1)), .int (xs (j + 2))] mX11_cylinder iX11_cylinder lL_17 dL_law_237 sh_66 rfl rfl (by decide) rfl rfl (Nat.le_of_ble_eq_true rfl) (Nat.le_of_ble_eq_true rfl) (v_X11_cylinder (d := d + 69) (xs (j + 1)) (xs (j + 2)) _ _ h) ?_
  rintro _ τ2 ⟨r2, rfl, h⟩
  obtain ⟨e_r, h⟩ := h
  refine v_icmp_eq (tgt := 1442) dL_law_240 (by decide) (fun c9 => ?_) (fun c9 => ?_)
  · exact nx _ h
  · exact absurd e_r c9
def K_twin (J : kT → Prop) : Prop := ∀ (a1 : Int32) (a2 : Int32) (τ : kT), J τ → T_X10_twin a1 a2 τ (fun r1 τ1 => T_X11_twin a1 a2 τ1 (fun r2 τ2 => r1 = r2 ∧ J τ2))
set_option maxRecDepth 100000 in
set_option maxHeartbeats 4000000 in
theorem law_1 {d N j : Nat} {xs : Nat → Int32} {τ : kT} {NX : kT → Prop} (hN : N ≤ 3072) (hj : j + 6 ≤ N) (nx : ∀ τ2, NX τ2 → UL (d + 72) N xs 1442 (lLs (nI j)) [] τ2) (h : T_X10_twin (xs (j + 1)) (xs (j + 2)) τ (fun r1 τ1 => T_X11_twin (xs (j + 1)) (xs (j + 2)) τ1 (fun r2 τ2 => r1 = r2 ∧ NX τ2))) : UL (d + 72) N xs 245 (lLs (nI j)) [] τ := by
  refine v_aload_n dL_law_245 rfl rfl ?_
  refine v_aload_n dL_law_246 rfl rfl ?_
  refine v_iload_n dL_law_247 rfl rfl ?_
  refine v_iconst (v := 1) dL_law_248 (by decide) ?_
  refine v_iadd dL_law_249 ?_
  refine v_sld dL_law_250 (nI_add j 1) (show j + 1 < (N + 1) - 1 by omega) (show N + 1 < 2 ^ 31 by omega) ?_
  refine v_aload_n dL_law_251 rfl rfl ?_
  refine v_iload_n dL_law_252 rfl rfl ?_
  refine v_iconst (v := 2) dL_law_253 (by decide) ?_
  refine v_iadd dL_law_254 ?_
  refine v_sld dL_law_255 (nI_add j 2) (show j + 2 < (N + 1) - 1 by omega) (show N + 1 < 2 ^ 31 by omega) ?_
  refine u_callL [.int (xs (j + 1)), .int (xs (j + 2))] mX10_twin iX10_twin lL_18 dL_law_256 sh_0 rfl rfl (by decide) rfl rfl (Nat.le_of_ble_eq_true rfl) (Nat.le_of_ble_eq_true rfl) (v_X10_twin (d := d + 65) (xs (j + 1)) (xs (j + 2)) _ _ h) ?_
  rintro _ τ1 ⟨r1, rfl, h⟩
  refine v_aload_n dL_law_259 rfl rfl ?_
  refine v_aload_n dL_law_260 rfl rfl ?_
  refine v_iload_n dL_law_261 rfl rfl ?_
  refine v_iconst (v := 1) dL_law_262 (by decide) ?_
  refine v_iadd dL_law_263 ?_
  refine v_sld dL_law_264 (nI_add j 1) (show j + 1 < (N + 1) - 1 by omega) (show N + 1 < 2 ^ 31 by omega) ?_
  refine v_aload_n dL_law_265 rfl rfl ?_
  refine v_iload_n dL_law_266 rfl rfl ?_
  refine v_iconst (v := 2) dL_law_267 (by decide) ?_
  refine v_iadd dL_law_268 ?_
  refine v_sld dL_law_269 (nI_add j 2) (show j + 2 < (N + 1) - 1 by omega) (show N + 1 < 2 ^ 31 by omega) ?_
  refine u_callL [.int (xs (j + 1)), .int (xs (j + 2))] mX11_twin iX11_twin lL_21 dL_law_270 sh_66 rfl rfl (by decide) rfl rfl (Nat.le_of_ble_eq_true rfl) (Nat.le_of_ble_eq_true rfl) (v_X11_twin (d := d + 69) (xs (j + 1)) (xs (j + 2)) _ _ h) ?_
  rintro _ τ2 ⟨r2, rfl, h⟩
  obtain ⟨e_r, h⟩ := h
  refine v_icmp_eq (tgt := 1442) dL_law_273 (by decide) (fun c9 => ?_) (fun c9 => ?_)
  · exact nx _ h
  · exact absurd e_r c9
def K_height (J : kT → Prop) : Prop := ∀ (a1 : Int32) (a2 : Int32) (a3 : Int32) (a4 : Int32) (τ : kT), J τ → T_X10_height a1 a2 a3 a4 τ (fun r1 τ1 => T_X11_height a1 a2 a3 a4 τ1 (fun r2 τ2 => r1 = r2 ∧ J τ2))
set_option maxRecDepth 100000 in
set_option maxHeartbeats 4000000 in
theorem law_2 {d N j : Nat} {xs : Nat → Int32} {τ : kT} {NX : kT → Prop} (hN : N ≤ 3072) (hj : j + 6 ≤ N) (nx : ∀ τ2, NX τ2 → UL (d + 72) N xs 1442 (lLs (nI j)) [] τ2) (h : ((xs (j + 4)) = 0 → T_X10_height (xs (j + 1)) (xs (j + 2)) (xs (j + 3)) (0 : Int32) τ (fun r1 τ1 => T_X11_height (xs (j + 1)) (xs (j + 2)) (xs (j + 3)) (0 : Int32) τ1 (fun r2 τ2 => r1 = r2 ∧ NX τ2))) ∧ (¬ (xs (j + 4)) = 0 → T_X10_height (xs (j + 1)) (xs (j + 2)) (xs (j + 3)) (1 : Int32) τ (fun r1 τ1 => T_X11_height (xs (j + 1)) (xs (j + 2)) (xs (j + 3)) (1 : Int32) τ1 (fun r2 τ2 => r1 = r2 ∧ NX τ2)))) : UL (d + 72) N xs 278 (lLs (nI j)) [] τ := by
  refine v_aload_n dL_law_278 rfl rfl ?_
  refine v_aload_n dL_law_279 rfl rfl ?_
  refine v_iload_n dL_law_280 rfl rfl ?_
  refine v_iconst (v := 1) dL_law_281 (by decide) ?_
  refine v_iadd dL_law_282 ?_
  refine v_sld dL_law_283 (nI_add j 1) (show j + 1 < (N + 1) - 1 by omega) (show N + 1 < 2 ^ 31 by omega) ?_
  refine v_aload_n dL_law_284 rfl rfl ?_
  refine v_iload_n dL_law_285 rfl rfl ?_
  refine v_iconst (v := 2) dL_law_286 (by decide) ?_
  refine v_iadd dL_law_287 ?_
  refine v_sld dL_law_288 (nI_add j 2) (show j + 2 < (N + 1) - 1 by omega) (show N + 1 < 2 ^ 31 by omega) ?_
  refine v_aload_n dL_law_289 rfl rfl ?_
  refine v_iload_n dL_law_290 rfl rfl ?_
  refine v_iconst (v := 3) dL_law_291 (by decide) ?_
  refine v_iadd dL_law_292 ?_
  refine v_sld dL_law_293 (nI_add j 3) (show j + 3 < (N + 1) - 1 by omega) (show N + 1 < 2 ^ 31 by omega) ?_
  refine v_aload_n dL_law_294 rfl rfl ?_
  refine v_iload_n dL_law_295 rfl rfl ?_
  refine v_iconst (v := 4) dL_law_296 (by decide) ?_
  refine v_iadd dL_law_297 ?_
  refine v_sld dL_law_298 (nI_add j 4) (show j + 4 < (N + 1) - 1 by omega) (show N + 1 < 2 ^ 31 by omega) ?_
  refine v_if_eq (tgt := 306) dL_law_299 (by decide) (fun c1 => ?_) (fun c1 => ?_)
  · have h := h.1 c1
    refine v_iconst (v := 0) dL_law_306 (by decide) ?_
    refine u_callL [.int (xs (j + 1)), .int (xs (j + 2)), .int (xs (j + 3)), .int (0 : Int32)] mX10_height iX10_height lL_22 dL_law_307 sh_0 rfl rfl (by decide) rfl rfl (Nat.le_of_ble_eq_true rfl) (Nat.le_of_ble_eq_true rfl) (v_X10_height (d := d + 66) (xs (j + 1)) (xs (j + 2)) (xs (j + 3)) (0 : Int32) _ _ h) ?_
    rintro _ τ1 ⟨r1, rfl, h⟩
    refine v_aload_n dL_law_310 rfl rfl ?_
    refine v_aload_n dL_law_311 rfl rfl ?_
    refine v_iload_n dL_law_312 rfl rfl ?_
    refine v_iconst (v := 1) dL_law_313 (by decide) ?_
    refine v_iadd dL_law_314 ?_
    refine v_sld dL_law_315 (nI_add j 1) (show j + 1 < (N + 1) - 1 by omega) (show N + 1 < 2 ^ 31 by omega) ?_
    refine v_aload_n dL_law_316 rfl rfl ?_
    refine v_iload_n dL_law_317 rfl rfl ?_
    refine v_iconst (v := 2) dL_law_318 (by decide) ?_
    refine v_iadd dL_law_319 ?_
    refine v_sld dL_law_320 (nI_add j 2) (show j + 2 < (N + 1) - 1 by omega) (show N + 1 < 2 ^ 31 by omega) ?_
    refine v_aload_n dL_law_321 rfl rfl ?_
    refine v_iload_n dL_law_322 rfl rfl ?_
    refine v_iconst (v := 3) dL_law_323 (by decide) ?_
    refine v_iadd dL_law_324 ?_
    refine v_sld dL_law_325 (nI_add j 3) (show j + 3 < (N + 1) - 1 by omega) (show N + 1 < 2 ^ 31 by omega) ?_
    refine v_aload_n dL_law_326 rfl rfl ?_
    refine v_iload_n dL_law_327 rfl rfl ?_
    refine v_iconst (v := 4) dL_law_328 (by decide) ?_
    refine v_iadd dL_law_329 ?_
    refine v_sld dL_law_330 (nI_add j 4) (show j + 4 < (N + 1) - 1 by omega) (show N + 1 < 2 ^ 31 by omega) ?_
    refine v_if_eq (tgt := 338) dL_law_331 (by decide) (fun c2 => ?_) (fun c2 => ?_)
    · refine v_iconst (v := 0) dL_law_338 (by decide) ?_
      refine u_callL [.int (xs (j + 1)), .int (xs (j + 2)), .int (xs (j + 3)), .int (0 : Int32)] mX11_height iX11_height lL_26 dL_law_339 sh_66 rfl rfl (by decide) rfl rfl (Nat.le_of_ble_eq_true rfl) (Nat.le_of_ble_eq_true rfl) (v_X11_height (d := d + 69) (xs (j + 1)) (xs (j + 2)) (xs (j + 3)) (0 : Int32) _ _ h) ?_
      rintro _ τ2 ⟨r2, rfl, h⟩
      obtain ⟨e_r, h⟩ := h
      refine v_icmp_eq (tgt := 1442) dL_law_342 (by decide) (fun c9 => ?_) (fun c9 => ?_)
      · exact nx _ h
      · exact absurd e_r c9
    · exact absurd c1 c2
  · have h := h.2 c1
    refine v_iconst (v := 1) dL_law_302 (by decide) ?_
    refine v_goto (tgt := 307) dL_law_303 (by decide) ?_
    refine u_callL [.int (xs (j + 1)), .int (xs (j + 2)), .int (xs (j + 3)), .int (1 : Int32)] mX10_height iX10_height lL_22 dL_law_307 sh_0 rfl rfl (by decide) rfl rfl (Nat.le_of_ble_eq_true rfl) (Nat.le_of_ble_eq_true rfl) (v_X10_height (d := d + 66) (xs (j + 1)) (xs (j + 2)) (xs (j + 3)) (1 : Int32) _ _ h) ?_
    rintro _ τ1 ⟨r1, rfl, h⟩
    refine v_aload_n dL_law_310 rfl rfl ?_
    refine v_aload_n dL_law_311 rfl rfl ?_
    refine v_iload_n dL_law_312 rfl rfl ?_
    refine v_iconst (v := 1) dL_law_313 (by decide) ?_
    refine v_iadd dL_law_314 ?_
    refine v_sld dL_law_315 (nI_add j 1) (show j + 1 < (N + 1) - 1 by omega) (show N + 1 < 2 ^ 31 by omega) ?_
    refine v_aload_n dL_law_316 rfl rfl ?_
    refine v_iload_n dL_law_317 rfl rfl ?_
    refine v_iconst (v := 2) dL_law_318 (by decide) ?_
    refine v_iadd dL_law_319 ?_
    refine v_sld dL_law_320 (nI_add j 2) (show j + 2 < (N + 1) - 1 by omega) (show N + 1 < 2 ^ 31 by omega) ?_
    refine v_aload_n dL_law_321 rfl rfl ?_
    refine v_iload_n dL_law_322 rfl rfl ?_
    refine v_iconst (v := 3) dL_law_323 (by decide) ?_
    refine v_iadd dL_law_324 ?_
    refine v_sld dL_law_325 (nI_add j 3) (show j + 3 < (N + 1) - 1 by omega) (show N + 1 < 2 ^ 31 by omega) ?_
    refine v_aload_n dL_law_326 rfl rfl ?_
    refine v_iload_n dL_law_327 rfl rfl ?_
    refine v_iconst (v := 4) dL_law_328 (by decide) ?_
    refine v_iadd dL_law_329 ?_
    refine v_sld dL_law_330 (nI_add j 4) (show j + 4 < (N + 1) - 1 by omega) (show N + 1 < 2 ^ 31 by omega) ?_
    refine v_if_eq (tgt := 338) dL_law_331 (by decide) (fun c2 => ?_) (fun c2 => ?_)
    · exact absurd c2 c1
    · refine v_iconst (v := 1) dL_law_334 (by decide) ?_
      refine v_goto (tgt := 339) dL_law_335 (by decide) ?_
      refine u_callL [.int (xs (j + 1)), .int (xs (j + 2)), .int (xs (j + 3)), .int (1 : Int32)] mX11_height iX11_height lL_26 dL_law_339 sh_66 rfl rfl (by decide) rfl rfl (Nat.le_of_ble_eq_true rfl) (Nat.le_of_ble_eq_true rfl) (v_X11_height (d := d + 69) (xs (j + 1)) (xs (j + 2)) (xs (j + 3)) (1 : Int32) _ _ h) ?_
      rintro _ τ2 ⟨r2, rfl, h⟩
      obtain ⟨e_r, h⟩ := h
      refine v_icmp_eq (tgt := 1442) dL_law_342 (by decide) (fun c9 => ?_) (fun c9 => ?_)
      · exact nx _ h
      · exact absurd e_r c9
def K_heightAt (J : kT → Prop) : Prop := ∀ (a1 : Int32) (a2 : Int32) (a3 : Int32) (τ : kT), J τ → T_X10_heightAt a1 a2 a3 τ (fun r1 τ1 => T_X11_heightAt a1 a2 a3 τ1 (fun r2 τ2 => r1 = r2 ∧ J τ2))
set_option maxRecDepth 100000 in
set_option maxHeartbeats 4000000 in
theorem law_3 {d N j : Nat} {xs : Nat → Int32} {τ : kT} {NX : kT → Prop} (hN : N ≤ 3072) (hj : j + 6 ≤ N) (nx : ∀ τ2, NX τ2 → UL (d + 72) N xs 1442 (lLs (nI j)) [] τ2) (h : T_X10_heightAt (xs (j + 1)) (xs (j + 2)) (xs (j + 3)) τ (fun r1 τ1 => T_X11_heightAt (xs (j + 1)) (xs (j + 2)) (xs (j + 3)) τ1 (fun r2 τ2 => r1 = r2 ∧ NX τ2))) : UL (d + 72) N xs 347 (lLs (nI j)) [] τ := by
  refine v_aload_n dL_law_347 rfl rfl ?_
  refine v_aload_n dL_law_348 rfl rfl ?_
  refine v_iload_n dL_law_349 rfl rfl ?_
  refine v_iconst (v := 1) dL_law_350 (by decide) ?_
  refine v_iadd dL_law_351 ?_
  refine v_sld dL_law_352 (nI_add j 1) (show j + 1 < (N + 1) - 1 by omega) (show N + 1 < 2 ^ 31 by omega) ?_
  refine v_aload_n dL_law_353 rfl rfl ?_
  refine v_iload_n dL_law_354 rfl rfl ?_
  refine v_iconst (v := 2) dL_law_355 (by decide) ?_
  refine v_iadd dL_law_356 ?_
  refine v_sld dL_law_357 (nI_add j 2) (show j + 2 < (N + 1) - 1 by omega) (show N + 1 < 2 ^ 31 by omega) ?_
  refine v_aload_n dL_law_358 rfl rfl ?_
  refine v_iload_n dL_law_359 rfl rfl ?_
  refine v_iconst (v := 3) dL_law_360 (by decide) ?_
  refine v_iadd dL_law_361 ?_
  refine v_sld dL_law_362 (nI_add j 3) (show j + 3 < (N + 1) - 1 by omega) (show N + 1 < 2 ^ 31 by omega) ?_
  refine u_callL [.int (xs (j + 1)), .int (xs (j + 2)), .int (xs (j + 3))] mX10_heightAt iX10_heightAt lL_27 dL_law_363 sh_0 rfl rfl (by decide) rfl rfl (Nat.le_of_ble_eq_true rfl) (Nat.le_of_ble_eq_true rfl) (v_X10_heightAt (d := d + 66) (xs (j + 1)) (xs (j + 2)) (xs (j + 3)) _ _ h) ?_
  rintro _ τ1 ⟨r1, rfl, h⟩
  refine v_aload_n dL_law_366 rfl rfl ?_
  refine v_aload_n dL_law_367 rfl rfl ?_
  refine v_iload_n dL_law_368 rfl rfl ?_
  refine v_iconst (v := 1) dL_law_369 (by decide) ?_
  refine v_iadd dL_law_370 ?_
  refine v_sld dL_law_371 (nI_add j 1) (show j + 1 < (N + 1) - 1 by omega) (show N + 1 < 2 ^ 31 by omega) ?_
  refine v_aload_n dL_law_372 rfl rfl ?_
  refine v_iload_n dL_law_373 rfl rfl ?_
  refine v_iconst (v := 2) dL_law_374 (by decide) ?_
  refine v_iadd dL_law_375 ?_
  refine v_sld dL_law_376 (nI_add j 2) (show j + 2 < (N + 1) - 1 by omega) (show N + 1 < 2 ^ 31 by omega) ?_
  refine v_aload_n dL_law_377 rfl rfl ?_
  refine v_iload_n dL_law_378 rfl rfl ?_
  refine v_iconst (v := 3) dL_law_379 (by decide) ?_
  refine v_iadd dL_law_380 ?_
  refine v_sld dL_law_381 (nI_add j 3) (show j + 3 < (N + 1) - 1 by omega) (show N + 1 < 2 ^ 31 by omega) ?_
  refine u_callL [.int (xs (j + 1)), .int (xs (j + 2)), .int (xs (j + 3))] mX11_heightAt iX11_heightAt lL_31 dL_law_382 sh_66 rfl rfl (by decide) rfl rfl (Nat.le_of_ble_eq_true rfl) (Nat.le_of_ble_eq_true rfl) (v_X11_heightAt (d := d + 69) (xs (j + 1)) (xs (j + 2)) (xs (j + 3)) _ _ h) ?_
  rintro _ τ2 ⟨r2, rfl, h⟩
  obtain ⟨e_r, h⟩ := h
  refine v_icmp_eq (tgt := 1442) dL_law_385 (by decide) (fun c9 => ?_) (fun c9 => ?_)
  · exact nx _ h
  · exact absurd e_r c9
def K_takeCore (J : kT → Prop) : Prop := ∀ (a1 : Int32) (τ : kT), J τ → T_X10_takeCore a1 τ (fun r1 τ1 => T_X11_takeCore a1 τ1 (fun r2 τ2 => r1 = r2 ∧ J τ2))
set_option maxRecDepth 100000 in
set_option maxHeartbeats 4000000 in
theorem law_4 {d N j : Nat} {xs : Nat → Int32} {τ : kT} {NX : kT → Prop} (hN : N ≤ 3072) (hj : j + 6 ≤ N) (nx : ∀ τ2, NX τ2 → UL (d + 72) N xs 1442 (lLs (nI j)) [] τ2) (h : T_X10_takeCore (xs (j + 1)) τ (fun r1 τ1 => T_X11_takeCore (xs (j + 1)) τ1 (fun r2 τ2 => r1 = r2 ∧ NX τ2))) : UL (d + 72) N xs 390 (lLs (nI j)) [] τ := by
  refine v_aload_n dL_law_390 rfl rfl ?_
  refine v_aload_n dL_law_391 rfl rfl ?_
  refine v_iload_n dL_law_392 rfl rfl ?_
  refine v_iconst (v := 1) dL_law_393 (by decide) ?_
  refine v_iadd dL_law_394 ?_
  refine v_sld dL_law_395 (nI_add j 1) (show j + 1 < (N + 1) - 1 by omega) (show N + 1 < 2 ^ 31 by omega) ?_
  refine u_callL [.int (xs (j + 1))] mX10_takeCore iX10_takeCore lL_32 dL_law_396 sh_0 rfl rfl (by decide) rfl rfl (Nat.le_of_ble_eq_true rfl) (Nat.le_of_ble_eq_true rfl) (v_X10_takeCore (d := d + 66) (xs (j + 1)) _ _ h) ?_
  rintro _ τ1 ⟨r1, rfl, h⟩
  refine v_aload_n dL_law_399 rfl rfl ?_
  refine v_aload_n dL_law_400 rfl rfl ?_
  refine v_iload_n dL_law_401 rfl rfl ?_
  refine v_iconst (v := 1) dL_law_402 (by decide) ?_
  refine v_iadd dL_law_403 ?_
  refine v_sld dL_law_404 (nI_add j 1) (show j + 1 < (N + 1) - 1 by omega) (show N + 1 < 2 ^ 31 by omega) ?_
  refine u_callL [.int (xs (j + 1))] mX11_takeCore iX11_takeCore lL_36 dL_law_405 sh_66 rfl rfl (by decide) rfl rfl (Nat.le_of_ble_eq_true rfl) (Nat.le_of_ble_eq_true rfl) (v_X11_takeCore (d := d + 69) (xs (j + 1)) _ _ h) ?_
  rintro _ τ2 ⟨r2, rfl, h⟩
  obtain ⟨e_r, h⟩ := h
  refine v_icmp_eq (tgt := 1442) dL_law_408 (by decide) (fun c9 => ?_) (fun c9 => ?_)
  · exact nx _ h
  · exact absurd e_r c9
def K_putCore (J : kT → Prop) : Prop := ∀ (a1 : Int32) (τ : kT), J τ → T_X10_putCore a1 τ (fun r1 τ1 => T_X11_putCore a1 τ1 (fun r2 τ2 => r1 = r2 ∧ J τ2))
set_option maxRecDepth 100000 in
set_option maxHeartbeats 4000000 in
theorem law_5 {d N j : Nat} {xs : Nat → Int32} {τ : kT} {NX : kT → Prop} (hN : N ≤ 3072) (hj : j + 6 ≤ N) (nx : ∀ τ2, NX τ2 → UL (d + 72) N xs 1442 (lLs (nI j)) [] τ2) (h : T_X10_putCore (xs (j + 1)) τ (fun r1 τ1 => T_X11_putCore (xs (j + 1)) τ1 (fun r2 τ2 => r1 = r2 ∧ NX τ2))) : UL (d + 72) N xs 413 (lLs (nI j)) [] τ := by
  refine v_aload_n dL_law_413 rfl rfl ?_
  refine v_aload_n dL_law_414 rfl rfl ?_
  refine v_iload_n dL_law_415 rfl rfl ?_
  refine v_iconst (v := 1) dL_law_416 (by decide) ?_
  refine v_iadd dL_law_417 ?_
  refine v_sld dL_law_418 (nI_add j 1) (show j + 1 < (N + 1) - 1 by omega) (show N + 1 < 2 ^ 31 by omega) ?_
  refine u_callL [.int (xs (j + 1))] mX10_putCore iX10_putCore lL_37 dL_law_419 sh_0 rfl rfl (by decide) rfl rfl (Nat.le_of_ble_eq_true rfl) (Nat.le_of_ble_eq_true rfl) (v_X10_putCore (d := d + 66) (xs (j + 1)) _ _ h) ?_
  rintro _ τ1 ⟨r1, rfl, h⟩
  refine v_aload_n dL_law_422 rfl rfl ?_
  refine v_aload_n dL_law_423 rfl rfl ?_
  refine v_iload_n dL_law_424 rfl rfl ?_
  refine v_iconst (v := 1) dL_law_425 (by decide) ?_
  refine v_iadd dL_law_426 ?_
  refine v_sld dL_law_427 (nI_add j 1) (show j + 1 < (N + 1) - 1 by omega) (show N + 1 < 2 ^ 31 by omega) ?_
  refine u_callL [.int (xs (j + 1))] mX11_putCore iX11_putCore lL_40 dL_law_428 sh_66 rfl rfl (by decide) rfl rfl (Nat.le_of_ble_eq_true rfl) (Nat.le_of_ble_eq_true rfl) (v_X11_putCore (d := d + 69) (xs (j + 1)) _ _ h) ?_
  rintro _ τ2 ⟨r2, rfl, h⟩
  obtain ⟨e_r, h⟩ := h
  refine v_icmp_eq (tgt := 1442) dL_law_431 (by decide) (fun c9 => ?_) (fun c9 => ?_)
  · exact nx _ h
  · exact absurd e_r c9
def K_kind (J : kT → Prop) : Prop := ∀ (a1 : Int32) (τ : kT), J τ → T_X10_kind a1 τ (fun r1 τ1 => T_X11_kind a1 τ1 (fun r2 τ2 => r1 = r2 ∧ J τ2))
set_option maxRecDepth 100000 in
set_option maxHeartbeats 4000000 in
theorem law_6 {d N j : Nat} {xs : Nat → Int32} {τ : kT} {NX : kT → Prop} (hN : N ≤ 3072) (hj : j + 6 ≤ N) (nx : ∀ τ2, NX τ2 → UL (d + 72) N xs 1442 (lLs (nI j)) [] τ2) (h : T_X10_kind (xs (j + 1)) τ (fun r1 τ1 => T_X11_kind (xs (j + 1)) τ1 (fun r2 τ2 => r1 = r2 ∧ NX τ2))) : UL (d + 72) N xs 436 (lLs (nI j)) [] τ := by
  refine v_aload_n dL_law_436 rfl rfl ?_
  refine v_aload_n dL_law_437 rfl rfl ?_
  refine v_iload_n dL_law_438 rfl rfl ?_
  refine v_iconst (v := 1) dL_law_439 (by decide) ?_
  refine v_iadd dL_law_440 ?_
  refine v_sld dL_law_441 (nI_add j 1) (show j + 1 < (N + 1) - 1 by omega) (show N + 1 < 2 ^ 31 by omega) ?_
  refine u_callL [.int (xs (j + 1))] mX10_kind iX10_kind lL_41 dL_law_442 sh_0 rfl rfl (by decide) rfl rfl (Nat.le_of_ble_eq_true rfl) (Nat.le_of_ble_eq_true rfl) (v_X10_kind (d := d + 70) (xs (j + 1)) _ _ h) ?_
  rintro _ τ1 ⟨r1, rfl, h⟩
  refine v_aload_n dL_law_445 rfl rfl ?_
  refine v_aload_n dL_law_446 rfl rfl ?_
  refine v_iload_n dL_law_447 rfl rfl ?_
  refine v_iconst (v := 1) dL_law_448 (by decide) ?_
  refine v_iadd dL_law_449 ?_
  refine v_sld dL_law_450 (nI_add j 1) (show j + 1 < (N + 1) - 1 by omega) (show N + 1 < 2 ^ 31 by omega) ?_
  refine u_callL [.int (xs (j + 1))] mX11_kind iX11_kind lL_44 dL_law_451 sh_66 rfl rfl (by decide) rfl rfl (Nat.le_of_ble_eq_true rfl) (Nat.le_of_ble_eq_true rfl) (v_X11_kind (d := d + 69) (xs (j + 1)) _ _ h) ?_
  rintro _ τ2 ⟨r2, rfl, h⟩
  obtain ⟨e_r, h⟩ := h
  refine v_icmp_eq (tgt := 1442) dL_law_454 (by decide) (fun c9 => ?_) (fun c9 => ?_)
  · exact nx _ h
  · exact absurd e_r c9
def K_chambers (J : kT → Prop) : Prop := ∀ (a1 : Int32) (τ : kT), J τ → T_X10_chambers a1 τ (fun r1 τ1 => T_X11_chambers a1 τ1 (fun r2 τ2 => r1 = r2 ∧ J τ2))
set_option maxRecDepth 100000 in
set_option maxHeartbeats 4000000 in
theorem law_7 {d N j : Nat} {xs : Nat → Int32} {τ : kT} {NX : kT → Prop} (hN : N ≤ 3072) (hj : j + 6 ≤ N) (nx : ∀ τ2, NX τ2 → UL (d + 72) N xs 1442 (lLs (nI j)) [] τ2) (h : T_X10_chambers (xs (j + 1)) τ (fun r1 τ1 => T_X11_chambers (xs (j + 1)) τ1 (fun r2 τ2 => r1 = r2 ∧ NX τ2))) : UL (d + 72) N xs 459 (lLs (nI j)) [] τ := by
  refine v_aload_n dL_law_459 rfl rfl ?_
  refine v_aload_n dL_law_460 rfl rfl ?_
  refine v_iload_n dL_law_461 rfl rfl ?_
  refine v_iconst (v := 1) dL_law_462 (by decide) ?_
  refine v_iadd dL_law_463 ?_
  refine v_sld dL_law_464 (nI_add j 1) (show j + 1 < (N + 1) - 1 by omega) (show N + 1 < 2 ^ 31 by omega) ?_
  refine u_callL [.int (xs (j + 1))] mX10_chambers iX10_chambers lL_45 dL_law_465 sh_0 rfl rfl (by decide) rfl rfl (Nat.le_of_ble_eq_true rfl) (Nat.le_of_ble_eq_true rfl) (v_X10_chambers (d := d + 68) (xs (j + 1)) _ _ h) ?_
  rintro _ τ1 ⟨r1, rfl, h⟩
  refine v_aload_n dL_law_468 rfl rfl ?_
  refine v_aload_n dL_law_469 rfl rfl ?_
  refine v_iload_n dL_law_470 rfl rfl ?_
  refine v_iconst (v := 1) dL_law_471 (by decide) ?_
  refine v_iadd dL_law_472 ?_
  refine v_sld dL_law_473 (nI_add j 1) (show j + 1 < (N + 1) - 1 by omega) (show N + 1 < 2 ^ 31 by omega) ?_
  refine u_callL [.int (xs (j + 1))] mX11_chambers iX11_chambers lL_48 dL_law_474 sh_66 rfl rfl (by decide) rfl rfl (Nat.le_of_ble_eq_true rfl) (Nat.le_of_ble_eq_true rfl) (v_X11_chambers (d := d + 69) (xs (j + 1)) _ _ h) ?_
  rintro _ τ2 ⟨r2, rfl, h⟩
  obtain ⟨e_r, h⟩ := h
  refine v_icmp_eq (tgt := 1442) dL_law_477 (by decide) (fun c9 => ?_) (fun c9 => ?_)
  · exact nx _ h
  · exact absurd e_r c9
def K_weight (J : kT → Prop) : Prop := ∀ (a1 : Int32) (τ : kT), J τ → T_X10_weight a1 τ (fun r1 τ1 => T_X11_weight a1 τ1 (fun r2 τ2 => r1 = r2 ∧ J τ2))
set_option maxRecDepth 100000 in
set_option maxHeartbeats 4000000 in
theorem law_8 {d N j : Nat} {xs : Nat → Int32} {τ : kT} {NX : kT → Prop} (hN : N ≤ 3072) (hj : j + 6 ≤ N) (nx : ∀ τ2, NX τ2 → UL (d + 72) N xs 1442 (lLs (nI j)) [] τ2) (h : T_X10_weight (xs (j + 1)) τ (fun r1 τ1 => T_X11_weight (xs (j + 1)) τ1 (fun r2 τ2 => r1 = r2 ∧ NX τ2))) : UL (d + 72) N xs 482 (lLs (nI j)) [] τ := by
  refine v_aload_n dL_law_482 rfl rfl ?_
  refine v_aload_n dL_law_483 rfl rfl ?_
  refine v_iload_n dL_law_484 rfl rfl ?_
  refine v_iconst (v := 1) dL_law_485 (by decide) ?_
  refine v_iadd dL_law_486 ?_
  refine v_sld dL_law_487 (nI_add j 1) (show j + 1 < (N + 1) - 1 by omega) (show N + 1 < 2 ^ 31 by omega) ?_
  refine u_callL [.int (xs (j + 1))] mX10_weight iX10_weight lL_49 dL_law_488 sh_0 rfl rfl (by decide) rfl rfl (Nat.le_of_ble_eq_true rfl) (Nat.le_of_ble_eq_true rfl) (v_X10_weight (d := d + 65) (xs (j + 1)) _ _ h) ?_
  rintro _ τ1 ⟨r1, rfl, h⟩
  refine v_aload_n dL_law_491 rfl rfl ?_
  refine v_aload_n dL_law_492 rfl rfl ?_
  refine v_iload_n dL_law_493 rfl rfl ?_
  refine v_iconst (v := 1) dL_law_494 (by decide) ?_
  refine v_iadd dL_law_495 ?_
  refine v_sld dL_law_496 (nI_add j 1) (show j + 1 < (N + 1) - 1 by omega) (show N + 1 < 2 ^ 31 by omega) ?_
  refine u_callL [.int (xs (j + 1))] mX11_weight iX11_weight lL_52 dL_law_497 sh_66 rfl rfl (by decide) rfl rfl (Nat.le_of_ble_eq_true rfl) (Nat.le_of_ble_eq_true rfl) (v_X11_weight (d := d + 67) (xs (j + 1)) _ _ h) ?_
  rintro _ τ2 ⟨r2, rfl, h⟩
  obtain ⟨e_r, h⟩ := h
  refine v_icmp_eq (tgt := 1442) dL_law_500 (by decide) (fun c9 => ?_) (fun c9 => ?_)
  · exact nx _ h
  · exact absurd e_r c9
def K_blanks (J : kT → Prop) : Prop := ∀ (a1 : Int32) (τ : kT), J τ → T_X10_blanks a1 τ (fun r1 τ1 => T_X11_blanks a1 τ1 (fun r2 τ2 => r1 = r2 ∧ J τ2))
set_option maxRecDepth 100000 in
set_option maxHeartbeats 4000000 in
theorem law_9 {d N j : Nat} {xs : Nat → Int32} {τ : kT} {NX : kT → Prop} (hN : N ≤ 3072) (hj : j + 6 ≤ N) (nx : ∀ τ2, NX τ2 → UL (d + 72) N xs 1442 (lLs (nI j)) [] τ2) (h : T_X10_blanks (xs (j + 1)) τ (fun r1 τ1 => T_X11_blanks (xs (j + 1)) τ1 (fun r2 τ2 => r1 = r2 ∧ NX τ2))) : UL (d + 72) N xs 505 (lLs (nI j)) [] τ := by
  refine v_aload_n dL_law_505 rfl rfl ?_
  refine v_aload_n dL_law_506 rfl rfl ?_
  refine v_iload_n dL_law_507 rfl rfl ?_
  refine v_iconst (v := 1) dL_law_508 (by decide) ?_
  refine v_iadd dL_law_509 ?_
  refine v_sld dL_law_510 (nI_add j 1) (show j + 1 < (N + 1) - 1 by omega) (show N + 1 < 2 ^ 31 by omega) ?_
  refine u_callL [.int (xs (j + 1))] mX10_blanks iX10_blanks lL_53 dL_law_511 sh_0 rfl rfl (by decide) rfl rfl (Nat.le_of_ble_eq_true rfl) (Nat.le_of_ble_eq_true rfl) (v_X10_blanks (d := d + 67) (xs (j + 1)) _ _ h) ?_
  rintro _ τ1 ⟨r1, rfl, h⟩
  refine v_aload_n dL_law_514 rfl rfl ?_
  refine v_aload_n dL_law_515 rfl rfl ?_
  refine v_iload_n dL_law_516 rfl rfl ?_
  refine v_iconst (v := 1) dL_law_517 (by decide) ?_
  refine v_iadd dL_law_518 ?_
  refine v_sld dL_law_519 (nI_add j 1) (show j + 1 < (N + 1) - 1 by omega) (show N + 1 < 2 ^ 31 by omega) ?_
  refine u_callL [.int (xs (j + 1))] mX11_blanks iX11_blanks lL_56 dL_law_520 sh_66 rfl rfl (by decide) rfl rfl (Nat.le_of_ble_eq_true rfl) (Nat.le_of_ble_eq_true rfl) (v_X11_blanks (d := d + 70) (xs (j + 1)) _ _ h) ?_
  rintro _ τ2 ⟨r2, rfl, h⟩
  obtain ⟨e_r, h⟩ := h
  refine v_icmp_eq (tgt := 1442) dL_law_523 (by decide) (fun c9 => ?_) (fun c9 => ?_)
  · exact nx _ h
  · exact absurd e_r c9
def K_key (J : kT → Prop) : Prop := ∀ (a1 : Int32) (a2 : Int64) (τ : kT), J τ → T_X10_key a1 a2 τ (fun r1 τ1 => T_X11_key a1 a2 τ1 (fun r2 τ2 => r1 = r2 ∧ J τ2))
set_option maxRecDepth 100000 in
set_option maxHeartbeats 4000000 in
theorem law_10 {d N j : Nat} {xs : Nat → Int32} {τ : kT} {NX : kT → Prop} (hN : N ≤ 3072) (hj : j + 6 ≤ N) (nx : ∀ τ2, NX τ2 → UL (d + 72) N xs 1442 (lLs (nI j)) [] τ2) (h : T_X10_key (xs (j + 1)) (((((xs (j + 2))).toInt64) <<< ((32 : Int32).toInt64 &&& 63)) ||| ((((xs (j + 3))).toInt64) &&& (4294967295 : Int64))) τ (fun r1 τ1 => T_X11_key (xs (j + 1)) (((((xs (j + 2))).toInt64) <<< ((32 : Int32).toInt64 &&& 63)) ||| ((((xs (j + 3))).toInt64) &&& (4294967295 : Int64))) τ1 (fun r2 τ2 => r1 = r2 ∧ NX τ2))) : UL (d + 72) N xs 528 (lLs (nI j)) [] τ := by
  refine v_aload_n dL_law_528 rfl rfl ?_
  refine v_aload_n dL_law_529 rfl rfl ?_
  refine v_iload_n dL_law_530 rfl rfl ?_
  refine v_iconst (v := 1) dL_law_531 (by decide) ?_
  refine v_iadd dL_law_532 ?_
  refine v_sld dL_law_533 (nI_add j 1) (show j + 1 < (N + 1) - 1 by omega) (show N + 1 < 2 ^ 31 by omega) ?_
  refine v_aload_n dL_law_534 rfl rfl ?_
  refine v_iload_n dL_law_535 rfl rfl ?_
  refine v_iconst (v := 2) dL_law_536 (by decide) ?_
  refine v_iadd dL_law_537 ?_
  refine v_sld dL_law_538 (nI_add j 2) (show j + 2 < (N + 1) - 1 by omega) (show N + 1 < 2 ^ 31 by omega) ?_
  refine v_i2l dL_law_539 ?_
  refine v_bipush (v := 32) dL_law_540 (by decide) ?_
  refine v_lshl dL_law_542 rfl ?_
  refine v_aload_n dL_law_543 rfl rfl ?_
  refine v_iload_n dL_law_544 rfl rfl ?_
  refine v_iconst (v := 3) dL_law_545 (by decide) ?_
  refine v_iadd dL_law_546 ?_
  refine v_sld dL_law_547 (nI_add j 3) (show j + 3 < (N + 1) - 1 by omega) (show N + 1 < 2 ^ 31 by omega) ?_
  refine v_i2l dL_law_548 ?_
  refine v_ldc2 kL_57 dL_law_549 ?_
  refine v_land dL_law_552 ?_
  refine v_lor dL_law_553 ?_
  refine u_callL [.int (xs (j + 1)), .long (((((xs (j + 2))).toInt64) <<< ((32 : Int32).toInt64 &&& 63)) ||| ((((xs (j + 3))).toInt64) &&& (4294967295 : Int64)))] mX10_key iX10_key lL_59 dL_law_554 sh_0 rfl rfl (by decide) rfl rfl (Nat.le_of_ble_eq_true rfl) (Nat.le_of_ble_eq_true rfl) (v_X10_key (d := d + 66) (xs (j + 1)) (((((xs (j + 2))).toInt64) <<< ((32 : Int32).toInt64 &&& 63)) ||| ((((xs (j + 3))).toInt64) &&& (4294967295 : Int64))) _ _ h) ?_
  rintro _ τ1 ⟨r1, rfl, h⟩
  refine v_aload_n dL_law_557 rfl rfl ?_
  refine v_aload_n dL_law_558 rfl rfl ?_
  refine v_iload_n dL_law_559 rfl rfl ?_
  refine v_iconst (v := 1) dL_law_560 (by decide) ?_
  refine v_iadd dL_law_561 ?_
  refine v_sld dL_law_562 (nI_add j 1) (show j + 1 < (N + 1) - 1 by omega) (show N + 1 < 2 ^ 31 by omega) ?_
  refine v_aload_n dL_law_563 rfl rfl ?_
  refine v_iload_n dL_law_564 rfl rfl ?_
  refine v_iconst (v := 2) dL_law_565 (by decide) ?_
  refine v_iadd dL_law_566 ?_
  refine v_sld dL_law_567 (nI_add j 2) (show j + 2 < (N + 1) - 1 by omega) (show N + 1 < 2 ^ 31 by omega) ?_
  refine v_i2l dL_law_568 ?_
  refine v_bipush (v := 32) dL_law_569 (by decide) ?_
  refine v_lshl dL_law_571 rfl ?_
  refine v_aload_n dL_law_572 rfl rfl ?_
  refine v_iload_n dL_law_573 rfl rfl ?_
  refine v_iconst (v := 3) dL_law_574 (by decide) ?_
  refine v_iadd dL_law_575 ?_
  refine v_sld dL_law_576 (nI_add j 3) (show j + 3 < (N + 1) - 1 by omega) (show N + 1 < 2 ^ 31 by omega) ?_
  refine v_i2l dL_law_577 ?_
  refine v_ldc2 kL_57 dL_law_578 ?_
  refine v_land dL_law_581 ?_
  refine v_lor dL_law_582 ?_
  refine u_callL [.int (xs (j + 1)), .long (((((xs (j + 2))).toInt64) <<< ((32 : Int32).toInt64 &&& 63)) ||| ((((xs (j + 3))).toInt64) &&& (4294967295 : Int64)))] mX11_key iX11_key lL_63 dL_law_583 sh_66 rfl rfl (by decide) rfl rfl (Nat.le_of_ble_eq_true rfl) (Nat.le_of_ble_eq_true rfl) (v_X11_key (d := d + 69) (xs (j + 1)) (((((xs (j + 2))).toInt64) <<< ((32 : Int32).toInt64 &&& 63)) ||| ((((xs (j + 3))).toInt64) &&& (4294967295 : Int64))) _ _ h) ?_
  rintro _ τ2 ⟨r2, rfl, h⟩
  obtain ⟨e_r, h⟩ := h
  refine v_icmp_eq (tgt := 1442) dL_law_586 (by decide) (fun c9 => ?_) (fun c9 => ?_)
  · exact nx _ h
  · exact absurd e_r c9
def K_turned (J : kT → Prop) : Prop := ∀ (a1 : Int32) (a2 : Int32) (τ : kT), J τ → T_X10_turned a1 a2 τ (fun r1 τ1 => T_X11_turned a1 a2 τ1 (fun r2 τ2 => r1 = r2 ∧ J τ2))
set_option maxRecDepth 100000 in
set_option maxHeartbeats 4000000 in
theorem law_11 {d N j : Nat} {xs : Nat → Int32} {τ : kT} {NX : kT → Prop} (hN : N ≤ 3072) (hj : j + 6 ≤ N) (nx : ∀ τ2, NX τ2 → UL (d + 72) N xs 1442 (lLs (nI j)) [] τ2) (h : T_X10_turned (xs (j + 1)) (xs (j + 2)) τ (fun r1 τ1 => T_X11_turned (xs (j + 1)) (xs (j + 2)) τ1 (fun r2 τ2 => r1 = r2 ∧ NX τ2))) : UL (d + 72) N xs 591 (lLs (nI j)) [] τ := by
  refine v_aload_n dL_law_591 rfl rfl ?_
  refine v_aload_n dL_law_592 rfl rfl ?_
  refine v_iload_n dL_law_593 rfl rfl ?_
  refine v_iconst (v := 1) dL_law_594 (by decide) ?_
  refine v_iadd dL_law_595 ?_
  refine v_sld dL_law_596 (nI_add j 1) (show j + 1 < (N + 1) - 1 by omega) (show N + 1 < 2 ^ 31 by omega) ?_
  refine v_aload_n dL_law_597 rfl rfl ?_
  refine v_iload_n dL_law_598 rfl rfl ?_
  refine v_iconst (v := 2) dL_law_599 (by decide) ?_
  refine v_iadd dL_law_600 ?_
  refine v_sld dL_law_601 (nI_add j 2) (show j + 2 < (N + 1) - 1 by omega) (show N + 1 < 2 ^ 31 by omega) ?_
  refine u_callL [.int (xs (j + 1)), .int (xs (j + 2))] mX10_turned iX10_turned lL_64 dL_law_602 sh_0 rfl rfl (by decide) rfl rfl (Nat.le_of_ble_eq_true rfl) (Nat.le_of_ble_eq_true rfl) (v_X10_turned (d := d + 66) (xs (j + 1)) (xs (j + 2)) _ _ h) ?_
  rintro _ τ1 ⟨r1, rfl, h⟩
  refine v_aload_n dL_law_605 rfl rfl ?_
  refine v_aload_n dL_law_606 rfl rfl ?_
  refine v_iload_n dL_law_607 rfl rfl ?_
  refine v_iconst (v := 1) dL_law_608 (by decide) ?_
  refine v_iadd dL_law_609 ?_
  refine v_sld dL_law_610 (nI_add j 1) (show j + 1 < (N + 1) - 1 by omega) (show N + 1 < 2 ^ 31 by omega) ?_
  refine v_aload_n dL_law_611 rfl rfl ?_
  refine v_iload_n dL_law_612 rfl rfl ?_
  refine v_iconst (v := 2) dL_law_613 (by decide) ?_
  refine v_iadd dL_law_614 ?_
  refine v_sld dL_law_615 (nI_add j 2) (show j + 2 < (N + 1) - 1 by omega) (show N + 1 < 2 ^ 31 by omega) ?_
  refine u_callL [.int (xs (j + 1)), .int (xs (j + 2))] mX11_turned iX11_turned lL_67 dL_law_616 sh_66 rfl rfl (by decide) rfl rfl (Nat.le_of_ble_eq_true rfl) (Nat.le_of_ble_eq_true rfl) (v_X11_turned (d := d + 69) (xs (j + 1)) (xs (j + 2)) _ _ h) ?_
  rintro _ τ2 ⟨r2, rfl, h⟩
  obtain ⟨e_r, h⟩ := h
  refine v_icmp_eq (tgt := 1442) dL_law_619 (by decide) (fun c9 => ?_) (fun c9 => ?_)
  · exact nx _ h
  · exact absurd e_r c9
def K_cut (J : kT → Prop) : Prop := ∀ (a1 : Int32) (a2 : Int32) (τ : kT), J τ → T_X10_cut a1 a2 τ (fun r1 τ1 => T_X11_cut a1 a2 τ1 (fun r2 τ2 => r1 = r2 ∧ J τ2))
set_option maxRecDepth 100000 in
set_option maxHeartbeats 4000000 in
theorem law_12 {d N j : Nat} {xs : Nat → Int32} {τ : kT} {NX : kT → Prop} (hN : N ≤ 3072) (hj : j + 6 ≤ N) (nx : ∀ τ2, NX τ2 → UL (d + 72) N xs 1442 (lLs (nI j)) [] τ2) (h : T_X10_cut (xs (j + 1)) (xs (j + 2)) τ (fun r1 τ1 => T_X11_cut (xs (j + 1)) (xs (j + 2)) τ1 (fun r2 τ2 => r1 = r2 ∧ NX τ2))) : UL (d + 72) N xs 624 (lLs (nI j)) [] τ := by
  refine v_aload_n dL_law_624 rfl rfl ?_
  refine v_aload_n dL_law_625 rfl rfl ?_
  refine v_iload_n dL_law_626 rfl rfl ?_
  refine v_iconst (v := 1) dL_law_627 (by decide) ?_
  refine v_iadd dL_law_628 ?_
  refine v_sld dL_law_629 (nI_add j 1) (show j + 1 < (N + 1) - 1 by omega) (show N + 1 < 2 ^ 31 by omega) ?_
  refine v_aload_n dL_law_630 rfl rfl ?_
  refine v_iload_n dL_law_631 rfl rfl ?_
  refine v_iconst (v := 2) dL_law_632 (by decide) ?_
  refine v_iadd dL_law_633 ?_
  refine v_sld dL_law_634 (nI_add j 2) (show j + 2 < (N + 1) - 1 by omega) (show N + 1 < 2 ^ 31 by omega) ?_
  refine u_callL [.int (xs (j + 1)), .int (xs (j + 2))] mX10_cut iX10_cut lL_68 dL_law_635 sh_0 rfl rfl (by decide) rfl rfl (Nat.le_of_ble_eq_true rfl) (Nat.le_of_ble_eq_true rfl) (v_X10_cut (d := d + 68) (xs (j + 1)) (xs (j + 2)) _ _ h) ?_
  rintro _ τ1 ⟨r1, rfl, h⟩
  refine v_aload_n dL_law_638 rfl rfl ?_
  refine v_aload_n dL_law_639 rfl rfl ?_
  refine v_iload_n dL_law_640 rfl rfl ?_
  refine v_iconst (v := 1) dL_law_641 (by decide) ?_
  refine v_iadd dL_law_642 ?_
  refine v_sld dL_law_643 (nI_add j 1) (show j + 1 < (N + 1) - 1 by omega) (show N + 1 < 2 ^ 31 by omega) ?_
  refine v_aload_n dL_law_644 rfl rfl ?_
  refine v_iload_n dL_law_645 rfl rfl ?_
  refine v_iconst (v := 2) dL_law_646 (by decide) ?_
  refine v_iadd dL_law_647 ?_
  refine v_sld dL_law_648 (nI_add j 2) (show j + 2 < (N + 1) - 1 by omega) (show N + 1 < 2 ^ 31 by omega) ?_
  refine u_callL [.int (xs (j + 1)), .int (xs (j + 2))] mX11_cut iX11_cut lL_71 dL_law_649 sh_66 rfl rfl (by decide) rfl rfl (Nat.le_of_ble_eq_true rfl) (Nat.le_of_ble_eq_true rfl) (v_X11_cut (d := d + 69) (xs (j + 1)) (xs (j + 2)) _ _ h) ?_
  rintro _ τ2 ⟨r2, rfl, h⟩
  obtain ⟨e_r, h⟩ := h
  refine v_icmp_eq (tgt := 1442) dL_law_652 (by decide) (fun c9 => ?_) (fun c9 => ?_)
  · exact nx _ h
  · exact absurd e_r c9
def K_length (J : kT → Prop) : Prop := ∀ (a1 : Int32) (τ : kT), J τ → T_X10_length a1 τ (fun r1 τ1 => T_X11_length a1 τ1 (fun r2 τ2 => r1 = r2 ∧ J τ2))
set_option maxRecDepth 100000 in
set_option maxHeartbeats 4000000 in
theorem law_13 {d N j : Nat} {xs : Nat → Int32} {τ : kT} {NX : kT → Prop} (hN : N ≤ 3072) (hj : j + 6 ≤ N) (nx : ∀ τ2, NX τ2 → UL (d + 72) N xs 1442 (lLs (nI j)) [] τ2) (h : T_X10_length (xs (j + 1)) τ (fun r1 τ1 => T_X11_length (xs (j + 1)) τ1 (fun r2 τ2 => r1 = r2 ∧ NX τ2))) : UL (d + 72) N xs 657 (lLs (nI j)) [] τ := by
  refine v_aload_n dL_law_657 rfl rfl ?_
  refine v_aload_n dL_law_658 rfl rfl ?_
  refine v_iload_n dL_law_659 rfl rfl ?_
  refine v_iconst (v := 1) dL_law_660 (by decide) ?_
  refine v_iadd dL_law_661 ?_
  refine v_sld dL_law_662 (nI_add j 1) (show j + 1 < (N + 1) - 1 by omega) (show N + 1 < 2 ^ 31 by omega) ?_
  refine u_callL [.int (xs (j + 1))] mX10_length iX10_length lL_72 dL_law_663 sh_0 rfl rfl (by decide) rfl rfl (Nat.le_of_ble_eq_true rfl) (Nat.le_of_ble_eq_true rfl) (v_X10_length (d := d + 70) (xs (j + 1)) _ _ h) ?_
  rintro _ τ1 ⟨r1, rfl, h⟩
  refine v_aload_n dL_law_666 rfl rfl ?_
  refine v_aload_n dL_law_667 rfl rfl ?_
  refine v_iload_n dL_law_668 rfl rfl ?_
  refine v_iconst (v := 1) dL_law_669 (by decide) ?_
  refine v_iadd dL_law_670 ?_
  refine v_sld dL_law_671 (nI_add j 1) (show j + 1 < (N + 1) - 1 by omega) (show N + 1 < 2 ^ 31 by omega) ?_
  refine u_callL [.int (xs (j + 1))] mX11_length iX11_length lL_75 dL_law_672 sh_66 rfl rfl (by decide) rfl rfl (Nat.le_of_ble_eq_true rfl) (Nat.le_of_ble_eq_true rfl) (v_X11_length (d := d + 69) (xs (j + 1)) _ _ h) ?_
  rintro _ τ2 ⟨r2, rfl, h⟩
  obtain ⟨e_r, h⟩ := h
  refine v_icmp_eq (tgt := 1442) dL_law_675 (by decide) (fun c9 => ?_) (fun c9 => ?_)
  · exact nx _ h
  · exact absurd e_r c9
def K_turn (J : kT → Prop) : Prop := ∀ (a1 : Int32) (a2 : Int32) (τ : kT), J τ → T_X10_turn a1 a2 τ (fun r1 τ1 => T_X11_turn a1 a2 τ1 (fun r2 τ2 => r1 = r2 ∧ J τ2))
set_option maxRecDepth 100000 in
set_option maxHeartbeats 4000000 in
theorem law_14 {d N j : Nat} {xs : Nat → Int32} {τ : kT} {NX : kT → Prop} (hN : N ≤ 3072) (hj : j + 6 ≤ N) (nx : ∀ τ2, NX τ2 → UL (d + 72) N xs 1442 (lLs (nI j)) [] τ2) (h : T_X10_turn (xs (j + 1)) (xs (j + 2)) τ (fun r1 τ1 => T_X11_turn (xs (j + 1)) (xs (j + 2)) τ1 (fun r2 τ2 => r1 = r2 ∧ NX τ2))) : UL (d + 72) N xs 680 (lLs (nI j)) [] τ := by
  refine v_aload_n dL_law_680 rfl rfl ?_
  refine v_aload_n dL_law_681 rfl rfl ?_
  refine v_iload_n dL_law_682 rfl rfl ?_
  refine v_iconst (v := 1) dL_law_683 (by decide) ?_
  refine v_iadd dL_law_684 ?_
  refine v_sld dL_law_685 (nI_add j 1) (show j + 1 < (N + 1) - 1 by omega) (show N + 1 < 2 ^ 31 by omega) ?_
  refine v_aload_n dL_law_686 rfl rfl ?_
  refine v_iload_n dL_law_687 rfl rfl ?_
  refine v_iconst (v := 2) dL_law_688 (by decide) ?_
  refine v_iadd dL_law_689 ?_
  refine v_sld dL_law_690 (nI_add j 2) (show j + 2 < (N + 1) - 1 by omega) (show N + 1 < 2 ^ 31 by omega) ?_
  refine u_callL [.int (xs (j + 1)), .int (xs (j + 2))] mX10_turn iX10_turn lL_76 dL_law_691 sh_0 rfl rfl (by decide) rfl rfl (Nat.le_of_ble_eq_true rfl) (Nat.le_of_ble_eq_true rfl) (v_X10_turn (d := d + 67) (xs (j + 1)) (xs (j + 2)) _ _ h) ?_
  rintro _ τ1 ⟨r1, rfl, h⟩
  refine v_aload_n dL_law_694 rfl rfl ?_
  refine v_aload_n dL_law_695 rfl rfl ?_
  refine v_iload_n dL_law_696 rfl rfl ?_
  refine v_iconst (v := 1) dL_law_697 (by decide) ?_
  refine v_iadd dL_law_698 ?_
  refine v_sld dL_law_699 (nI_add j 1) (show j + 1 < (N + 1) - 1 by omega) (show N + 1 < 2 ^ 31 by omega) ?_
  refine v_aload_n dL_law_700 rfl rfl ?_
  refine v_iload_n dL_law_701 rfl rfl ?_
  refine v_iconst (v := 2) dL_law_702 (by decide) ?_
  refine v_iadd dL_law_703 ?_
  refine v_sld dL_law_704 (nI_add j 2) (show j + 2 < (N + 1) - 1 by omega) (show N + 1 < 2 ^ 31 by omega) ?_
  refine u_callL [.int (xs (j + 1)), .int (xs (j + 2))] mX11_turn iX11_turn lL_79 dL_law_705 sh_66 rfl rfl (by decide) rfl rfl (Nat.le_of_ble_eq_true rfl) (Nat.le_of_ble_eq_true rfl) (v_X11_turn (d := d + 66) (xs (j + 1)) (xs (j + 2)) _ _ h) ?_
  rintro _ τ2 ⟨r2, rfl, h⟩
  obtain ⟨e_r, h⟩ := h
  refine v_icmp_eq (tgt := 1442) dL_law_708 (by decide) (fun c9 => ?_) (fun c9 => ?_)
  · exact nx _ h
  · exact absurd e_r c9
def K_opens (J : kT → Prop) : Prop := ∀ (a1 : Int32) (a2 : Int32) (τ : kT), J τ → T_X10_opens a1 a2 τ (fun r1 τ1 => T_X11_opens a1 a2 τ1 (fun r2 τ2 => r1 = r2 ∧ J τ2))
set_option maxRecDepth 100000 in
set_option maxHeartbeats 4000000 in
theorem law_15 {d N j : Nat} {xs : Nat → Int32} {τ : kT} {NX : kT → Prop} (hN : N ≤ 3072) (hj : j + 6 ≤ N) (nx : ∀ τ2, NX τ2 → UL (d + 72) N xs 1442 (lLs (nI j)) [] τ2) (h : T_X10_opens (xs (j + 1)) (xs (j + 2)) τ (fun r1 τ1 => T_X11_opens (xs (j + 1)) (xs (j + 2)) τ1 (fun r2 τ2 => r1 = r2 ∧ NX τ2))) : UL (d + 72) N xs 713 (lLs (nI j)) [] τ := by
  refine v_aload_n dL_law_713 rfl rfl ?_
  refine v_aload_n dL_law_714 rfl rfl ?_
  refine v_iload_n dL_law_715 rfl rfl ?_
  refine v_iconst (v := 1) dL_law_716 (by decide) ?_
  refine v_iadd dL_law_717 ?_
  refine v_sld dL_law_718 (nI_add j 1) (show j + 1 < (N + 1) - 1 by omega) (show N + 1 < 2 ^ 31 by omega) ?_
  refine v_aload_n dL_law_719 rfl rfl ?_
  refine v_iload_n dL_law_720 rfl rfl ?_
  refine v_iconst (v := 2) dL_law_721 (by decide) ?_
  refine v_iadd dL_law_722 ?_
  refine v_sld dL_law_723 (nI_add j 2) (show j + 2 < (N + 1) - 1 by omega) (show N + 1 < 2 ^ 31 by omega) ?_
  refine u_callL [.int (xs (j + 1)), .int (xs (j + 2))] mX10_opens iX10_opens lL_80 dL_law_724 sh_0 rfl rfl (by decide) rfl rfl (Nat.le_of_ble_eq_true rfl) (Nat.le_of_ble_eq_true rfl) (v_X10_opens (d := d + 67) (xs (j + 1)) (xs (j + 2)) _ _ h) ?_
  rintro _ τ1 ⟨r1, rfl, h⟩
  refine v_aload_n dL_law_727 rfl rfl ?_
  refine v_aload_n dL_law_728 rfl rfl ?_
  refine v_iload_n dL_law_729 rfl rfl ?_
  refine v_iconst (v := 1) dL_law_730 (by decide) ?_
  refine v_iadd dL_law_731 ?_
  refine v_sld dL_law_732 (nI_add j 1) (show j + 1 < (N + 1) - 1 by omega) (show N + 1 < 2 ^ 31 by omega) ?_
  refine v_aload_n dL_law_733 rfl rfl ?_
  refine v_iload_n dL_law_734 rfl rfl ?_
  refine v_iconst (v := 2) dL_law_735 (by decide) ?_
  refine v_iadd dL_law_736 ?_
  refine v_sld dL_law_737 (nI_add j 2) (show j + 2 < (N + 1) - 1 by omega) (show N + 1 < 2 ^ 31 by omega) ?_
  refine u_callL [.int (xs (j + 1)), .int (xs (j + 2))] mX11_opens iX11_opens lL_83 dL_law_738 sh_66 rfl rfl (by decide) rfl rfl (Nat.le_of_ble_eq_true rfl) (Nat.le_of_ble_eq_true rfl) (v_X11_opens (d := d + 66) (xs (j + 1)) (xs (j + 2)) _ _ h) ?_
  rintro _ τ2 ⟨r2, rfl, h⟩
  obtain ⟨e_r, h⟩ := h
  refine v_icmp_eq (tgt := 1442) dL_law_741 (by decide) (fun c9 => ?_) (fun c9 => ?_)
  · exact nx _ h
  · exact absurd e_r c9
def K_turnAll (J : kT → Prop) : Prop := ∀ (a1 : Int32) (a2 : Int32) (τ : kT), J τ → T_X10_turnAll a1 a2 τ (fun r1 τ1 => T_X11_turnAll a1 a2 τ1 (fun r2 τ2 => r1 = r2 ∧ J τ2))
set_option maxRecDepth 100000 in
set_option maxHeartbeats 4000000 in
theorem law_16 {d N j : Nat} {xs : Nat → Int32} {τ : kT} {NX : kT → Prop} (hN : N ≤ 3072) (hj : j + 6 ≤ N) (nx : ∀ τ2, NX τ2 → UL (d + 72) N xs 1442 (lLs (nI j)) [] τ2) (h : T_X10_turnAll (xs (j + 1)) (xs (j + 2)) τ (fun r1 τ1 => T_X11_turnAll (xs (j + 1)) (xs (j + 2)) τ1 (fun r2 τ2 => r1 = r2 ∧ NX τ2))) : UL (d + 72) N xs 746 (lLs (nI j)) [] τ := by
  refine v_aload_n dL_law_746 rfl rfl ?_
  refine v_aload_n dL_law_747 rfl rfl ?_
  refine v_iload_n dL_law_748 rfl rfl ?_
  refine v_iconst (v := 1) dL_law_749 (by decide) ?_
  refine v_iadd dL_law_750 ?_
  refine v_sld dL_law_751 (nI_add j 1) (show j + 1 < (N + 1) - 1 by omega) (show N + 1 < 2 ^ 31 by omega) ?_
  refine v_aload_n dL_law_752 rfl rfl ?_
  refine v_iload_n dL_law_753 rfl rfl ?_
  refine v_iconst (v := 2) dL_law_754 (by decide) ?_
  refine v_iadd dL_law_755 ?_
  refine v_sld dL_law_756 (nI_add j 2) (show j + 2 < (N + 1) - 1 by omega) (show N + 1 < 2 ^ 31 by omega) ?_
  refine u_callL [.int (xs (j + 1)), .int (xs (j + 2))] mX10_turnAll iX10_turnAll lL_84 dL_law_757 sh_0 rfl rfl (by decide) rfl rfl (Nat.le_of_ble_eq_true rfl) (Nat.le_of_ble_eq_true rfl) (v_X10_turnAll (d := d + 66) (xs (j + 1)) (xs (j + 2)) _ _ h) ?_
  rintro _ τ1 ⟨r1, rfl, h⟩
  refine v_aload_n dL_law_760 rfl rfl ?_
  refine v_aload_n dL_law_761 rfl rfl ?_
  refine v_iload_n dL_law_762 rfl rfl ?_
  refine v_iconst (v := 1) dL_law_763 (by decide) ?_
  refine v_iadd dL_law_764 ?_
  refine v_sld dL_law_765 (nI_add j 1) (show j + 1 < (N + 1) - 1 by omega) (show N + 1 < 2 ^ 31 by omega) ?_
  refine v_aload_n dL_law_766 rfl rfl ?_
  refine v_iload_n dL_law_767 rfl rfl ?_
  refine v_iconst (v := 2) dL_law_768 (by decide) ?_
  refine v_iadd dL_law_769 ?_
  refine v_sld dL_law_770 (nI_add j 2) (show j + 2 < (N + 1) - 1 by omega) (show N + 1 < 2 ^ 31 by omega) ?_
  refine u_callL [.int (xs (j + 1)), .int (xs (j + 2))] mX11_turnAll iX11_turnAll lL_87 dL_law_771 sh_66 rfl rfl (by decide) rfl rfl (Nat.le_of_ble_eq_true rfl) (Nat.le_of_ble_eq_true rfl) (v_X11_turnAll (d := d + 67) (xs (j + 1)) (xs (j + 2)) _ _ h) ?_
  rintro _ τ2 ⟨r2, rfl, h⟩
  obtain ⟨e_r, h⟩ := h
  refine v_icmp_eq (tgt := 1442) dL_law_774 (by decide) (fun c9 => ?_) (fun c9 => ?_)
  · exact nx _ h
  · exact absurd e_r c9
def K_at (J : kT → Prop) : Prop := ∀ (τ : kT), J τ → T_X10_at  τ (fun r1 τ1 => T_X11_at  τ1 (fun r2 τ2 => r1 = r2 ∧ J τ2))
set_option maxRecDepth 100000 in
set_option maxHeartbeats 4000000 in
theorem law_17 {d N j : Nat} {xs : Nat → Int32} {τ : kT} {NX : kT → Prop} (hN : N ≤ 3072) (hj : j + 6 ≤ N) (nx : ∀ τ2, NX τ2 → UL (d + 72) N xs 1442 (lLs (nI j)) [] τ2) (h : T_X10_at  τ (fun r1 τ1 => T_X11_at  τ1 (fun r2 τ2 => r1 = r2 ∧ NX τ2))) : UL (d + 72) N xs 779 (lLs (nI j)) [] τ := by
  refine v_aload_n dL_law_779 rfl rfl ?_
  refine u_callL [] mX10_at iX10_at lL_88 dL_law_780 sh_0 rfl rfl (by decide) rfl rfl (Nat.le_of_ble_eq_true rfl) (Nat.le_of_ble_eq_true rfl) (v_X10_at (d := d + 71)  _ _ h) ?_
  rintro _ τ1 ⟨r1, rfl, h⟩
  refine v_aload_n dL_law_783 rfl rfl ?_
  refine u_callL [] mX11_at iX11_at lL_92 dL_law_784 sh_66 rfl rfl (by decide) rfl rfl (Nat.le_of_ble_eq_true rfl) (Nat.le_of_ble_eq_true rfl) (v_X11_at (d := d + 71)  _ _ h) ?_
  rintro _ τ2 ⟨r2, rfl, h⟩
  obtain ⟨e_r, h⟩ := h
  refine v_icmp_eq (tgt := 1442) dL_law_787 (by decide) (fun c9 => ?_) (fun c9 => ?_)
  · exact nx _ h
  · exact absurd e_r c9
def K_cabinet (J : kT → Prop) : Prop := ∀ (a1 : Int32) (a2 : Int32) (τ : kT), J τ → T_X10_cabinet a1 a2 τ (fun r1 τ1 => T_X11_cabinet a1 a2 τ1 (fun r2 τ2 => r1 = r2 ∧ J τ2))
set_option maxRecDepth 100000 in
set_option maxHeartbeats 4000000 in
theorem law_18 {d N j : Nat} {xs : Nat → Int32} {τ : kT} {NX : kT → Prop} (hN : N ≤ 3072) (hj : j + 6 ≤ N) (nx : ∀ τ2, NX τ2 → UL (d + 72) N xs 1442 (lLs (nI j)) [] τ2) (h : T_X10_cabinet (xs (j + 1)) (xs (j + 2)) τ (fun r1 τ1 => T_X11_cabinet (xs (j + 1)) (xs (j + 2)) τ1 (fun r2 τ2 => r1 = r2 ∧ NX τ2))) : UL (d + 72) N xs 792 (lLs (nI j)) [] τ := by
  refine v_aload_n dL_law_792 rfl rfl ?_
  refine v_aload_n dL_law_793 rfl rfl ?_
  refine v_iload_n dL_law_794 rfl rfl ?_
  refine v_iconst (v := 1) dL_law_795 (by decide) ?_
  refine v_iadd dL_law_796 ?_
  refine v_sld dL_law_797 (nI_add j 1) (show j + 1 < (N + 1) - 1 by omega) (show N + 1 < 2 ^ 31 by omega) ?_
  refine v_aload_n dL_law_798 rfl rfl ?_
  refine v_iload_n dL_law_799 rfl rfl ?_
  refine v_iconst (v := 2) dL_law_800 (by decide) ?_
  refine v_iadd dL_law_801 ?_
  refine v_sld dL_law_802 (nI_add j 2) (show j + 2 < (N + 1) - 1 by omega) (show N + 1 < 2 ^ 31 by omega) ?_
  refine u_callL [.int (xs (j + 1)), .int (xs (j + 2))] mX10_cabinet iX10_cabinet lL_93 dL_law_803 sh_0 rfl rfl (by decide) rfl rfl (Nat.le_of_ble_eq_true rfl) (Nat.le_of_ble_eq_true rfl) (v_X10_cabinet (d := d + 65) (xs (j + 1)) (xs (j + 2)) _ _ h) ?_
  rintro _ τ1 ⟨r1, rfl, h⟩
  refine v_aload_n dL_law_806 rfl rfl ?_
  refine v_aload_n dL_law_807 rfl rfl ?_
  refine v_iload_n dL_law_808 rfl rfl ?_
  refine v_iconst (v := 1) dL_law_809 (by decide) ?_
  refine v_iadd dL_law_810 ?_
  refine v_sld dL_law_811 (nI_add j 1) (show j + 1 < (N + 1) - 1 by omega) (show N + 1 < 2 ^ 31 by omega) ?_
  refine v_aload_n dL_law_812 rfl rfl ?_
  refine v_iload_n dL_law_813 rfl rfl ?_
  refine v_iconst (v := 2) dL_law_814 (by decide) ?_
  refine v_iadd dL_law_815 ?_
  refine v_sld dL_law_816 (nI_add j 2) (show j + 2 < (N + 1) - 1 by omega) (show N + 1 < 2 ^ 31 by omega) ?_
  refine u_callL [.int (xs (j + 1)), .int (xs (j + 2))] mX11_cabinet iX11_cabinet lL_96 dL_law_817 sh_66 rfl rfl (by decide) rfl rfl (Nat.le_of_ble_eq_true rfl) (Nat.le_of_ble_eq_true rfl) (v_X11_cabinet (d := d + 70) (xs (j + 1)) (xs (j + 2)) _ _ h) ?_
  rintro _ τ2 ⟨r2, rfl, h⟩
  obtain ⟨e_r, h⟩ := h
  refine v_icmp_eq (tgt := 1442) dL_law_820 (by decide) (fun c9 => ?_) (fun c9 => ?_)
  · exact nx _ h
  · exact absurd e_r c9
def K_put (J : kT → Prop) : Prop := ∀ (a1 : Int32) (a2 : Int32) (a3 : Int32) (τ : kT), J τ → T_X10_put a1 a2 a3 τ (fun r1 τ1 => T_X11_put a1 a2 a3 τ1 (fun r2 τ2 => r1 = r2 ∧ J τ2))
set_option maxRecDepth 100000 in
set_option maxHeartbeats 4000000 in
theorem law_19 {d N j : Nat} {xs : Nat → Int32} {τ : kT} {NX : kT → Prop} (hN : N ≤ 3072) (hj : j + 6 ≤ N) (nx : ∀ τ2, NX τ2 → UL (d + 72) N xs 1442 (lLs (nI j)) [] τ2) (h : T_X10_put (xs (j + 1)) (xs (j + 2)) (xs (j + 3)) τ (fun r1 τ1 => T_X11_put (xs (j + 1)) (xs (j + 2)) (xs (j + 3)) τ1 (fun r2 τ2 => r1 = r2 ∧ NX τ2))) : UL (d + 72) N xs 825 (lLs (nI j)) [] τ := by
  refine v_aload_n dL_law_825 rfl rfl ?_
  refine v_aload_n dL_law_826 rfl rfl ?_
  refine v_iload_n dL_law_827 rfl rfl ?_
  refine v_iconst (v := 1) dL_law_828 (by decide) ?_
  refine v_iadd dL_law_829 ?_
  refine v_sld dL_law_830 (nI_add j 1) (show j + 1 < (N + 1) - 1 by omega) (show N + 1 < 2 ^ 31 by omega) ?_
  refine v_aload_n dL_law_831 rfl rfl ?_
  refine v_iload_n dL_law_832 rfl rfl ?_
  refine v_iconst (v := 2) dL_law_833 (by decide) ?_
  refine v_iadd dL_law_834 ?_
  refine v_sld dL_law_835 (nI_add j 2) (show j + 2 < (N + 1) - 1 by omega) (show N + 1 < 2 ^ 31 by omega) ?_
  refine v_aload_n dL_law_836 rfl rfl ?_
  refine v_iload_n dL_law_837 rfl rfl ?_
  refine v_iconst (v := 3) dL_law_838 (by decide) ?_
  refine v_iadd dL_law_839 ?_
  refine v_sld dL_law_840 (nI_add j 3) (show j + 3 < (N + 1) - 1 by omega) (show N + 1 < 2 ^ 31 by omega) ?_
  refine u_callL [.int (xs (j + 1)), .int (xs (j + 2)), .int (xs (j + 3))] mX10_put iX10_put lL_97 dL_law_841 sh_0 rfl rfl (by decide) rfl rfl (Nat.le_of_ble_eq_true rfl) (Nat.le_of_ble_eq_true rfl) (v_X10_put (d := d + 66) (xs (j + 1)) (xs (j + 2)) (xs (j + 3)) _ _ h) ?_
  rintro _ τ1 ⟨r1, rfl, h⟩
  refine v_aload_n dL_law_844 rfl rfl ?_
  refine v_aload_n dL_law_845 rfl rfl ?_
  refine v_iload_n dL_law_846 rfl rfl ?_
  refine v_iconst (v := 1) dL_law_847 (by decide) ?_
  refine v_iadd dL_law_848 ?_
  refine v_sld dL_law_849 (nI_add j 1) (show j + 1 < (N + 1) - 1 by omega) (show N + 1 < 2 ^ 31 by omega) ?_
  refine v_aload_n dL_law_850 rfl rfl ?_
  refine v_iload_n dL_law_851 rfl rfl ?_
  refine v_iconst (v := 2) dL_law_852 (by decide) ?_
  refine v_iadd dL_law_853 ?_
  refine v_sld dL_law_854 (nI_add j 2) (show j + 2 < (N + 1) - 1 by omega) (show N + 1 < 2 ^ 31 by omega) ?_
  refine v_aload_n dL_law_855 rfl rfl ?_
  refine v_iload_n dL_law_856 rfl rfl ?_
  refine v_iconst (v := 3) dL_law_857 (by decide) ?_
  refine v_iadd dL_law_858 ?_
  refine v_sld dL_law_859 (nI_add j 3) (show j + 3 < (N + 1) - 1 by omega) (show N + 1 < 2 ^ 31 by omega) ?_
  refine u_callL [.int (xs (j + 1)), .int (xs (j + 2)), .int (xs (j + 3))] mX11_put iX11_put lL_100 dL_law_860 sh_66 rfl rfl (by decide) rfl rfl (Nat.le_of_ble_eq_true rfl) (Nat.le_of_ble_eq_true rfl) (v_X11_put (d := d + 69) (xs (j + 1)) (xs (j + 2)) (xs (j + 3)) _ _ h) ?_
  rintro _ τ2 ⟨r2, rfl, h⟩
  obtain ⟨e_r, h⟩ := h
  refine v_icmp_eq (tgt := 1442) dL_law_863 (by decide) (fun c9 => ?_) (fun c9 => ?_)
  · exact nx _ h
  · exact absurd e_r c9
def K_inside (J : kT → Prop) : Prop := ∀ (a1 : Int32) (a2 : Int32) (τ : kT), J τ → T_X10_inside a1 a2 τ (fun r1 τ1 => T_X11_inside a1 a2 τ1 (fun r2 τ2 => r1 = r2 ∧ J τ2))
set_option maxRecDepth 100000 in
set_option maxHeartbeats 4000000 in
theorem law_20 {d N j : Nat} {xs : Nat → Int32} {τ : kT} {NX : kT → Prop} (hN : N ≤ 3072) (hj : j + 6 ≤ N) (nx : ∀ τ2, NX τ2 → UL (d + 72) N xs 1442 (lLs (nI j)) [] τ2) (h : T_X10_inside (xs (j + 1)) (xs (j + 2)) τ (fun r1 τ1 => T_X11_inside (xs (j + 1)) (xs (j + 2)) τ1 (fun r2 τ2 => r1 = r2 ∧ NX τ2))) : UL (d + 72) N xs 868 (lLs (nI j)) [] τ := by
  refine v_aload_n dL_law_868 rfl rfl ?_
  refine v_aload_n dL_law_869 rfl rfl ?_
  refine v_iload_n dL_law_870 rfl rfl ?_
  refine v_iconst (v := 1) dL_law_871 (by decide) ?_
  refine v_iadd dL_law_872 ?_
  refine v_sld dL_law_873 (nI_add j 1) (show j + 1 < (N + 1) - 1 by omega) (show N + 1 < 2 ^ 31 by omega) ?_
  refine v_aload_n dL_law_874 rfl rfl ?_
  refine v_iload_n dL_law_875 rfl rfl ?_
  refine v_iconst (v := 2) dL_law_876 (by decide) ?_
  refine v_iadd dL_law_877 ?_
  refine v_sld dL_law_878 (nI_add j 2) (show j + 2 < (N + 1) - 1 by omega) (show N + 1 < 2 ^ 31 by omega) ?_
  refine u_callL [.int (xs (j + 1)), .int (xs (j + 2))] mX10_inside iX10_inside lL_101 dL_law_879 sh_0 rfl rfl (by decide) rfl rfl (Nat.le_of_ble_eq_true rfl) (Nat.le_of_ble_eq_true rfl) (v_X10_inside (d := d + 68) (xs (j + 1)) (xs (j + 2)) _ _ h) ?_
  rintro _ τ1 ⟨r1, rfl, h⟩
  refine v_aload_n dL_law_882 rfl rfl ?_
  refine v_aload_n dL_law_883 rfl rfl ?_
  refine v_iload_n dL_law_884 rfl rfl ?_
  refine v_iconst (v := 1) dL_law_885 (by decide) ?_
  refine v_iadd dL_law_886 ?_
  refine v_sld dL_law_887 (nI_add j 1) (show j + 1 < (N + 1) - 1 by omega) (show N + 1 < 2 ^ 31 by omega) ?_
  refine v_aload_n dL_law_888 rfl rfl ?_
  refine v_iload_n dL_law_889 rfl rfl ?_
  refine v_iconst (v := 2) dL_law_890 (by decide) ?_
  refine v_iadd dL_law_891 ?_
  refine v_sld dL_law_892 (nI_add j 2) (show j + 2 < (N + 1) - 1 by omega) (show N + 1 < 2 ^ 31 by omega) ?_
  refine u_callL [.int (xs (j + 1)), .int (xs (j + 2))] mX11_inside iX11_inside lL_104 dL_law_893 sh_66 rfl rfl (by decide) rfl rfl (Nat.le_of_ble_eq_true rfl) (Nat.le_of_ble_eq_true rfl) (v_X11_inside (d := d + 70) (xs (j + 1)) (xs (j + 2)) _ _ h) ?_
  rintro _ τ2 ⟨r2, rfl, h⟩
  obtain ⟨e_r, h⟩ := h
  refine v_icmp_eq (tgt := 1442) dL_law_896 (by decide) (fun c9 => ?_) (fun c9 => ?_)
  · exact nx _ h
  · exact absurd e_r c9
def K_door (J : kT → Prop) : Prop := ∀ (τ : kT), J τ → T_X10_door  τ (fun r1 τ1 => T_X11_door  τ1 (fun r2 τ2 => r1 = r2 ∧ J τ2))
set_option maxRecDepth 100000 in
set_option maxHeartbeats 4000000 in
theorem law_21 {d N j : Nat} {xs : Nat → Int32} {τ : kT} {NX : kT → Prop} (hN : N ≤ 3072) (hj : j + 6 ≤ N) (nx : ∀ τ2, NX τ2 → UL (d + 72) N xs 1442 (lLs (nI j)) [] τ2) (h : T_X10_door  τ (fun r1 τ1 => T_X11_door  τ1 (fun r2 τ2 => r1 = r2 ∧ NX τ2))) : UL (d + 72) N xs 901 (lLs (nI j)) [] τ := by
  refine v_aload_n dL_law_901 rfl rfl ?_
  refine u_callL [] mX10_door iX10_door lL_105 dL_law_902 sh_0 rfl rfl (by decide) rfl rfl (Nat.le_of_ble_eq_true rfl) (Nat.le_of_ble_eq_true rfl) (v_X10_door (d := d + 67)  _ _ h) ?_
  rintro _ τ1 ⟨r1, rfl, h⟩
  refine v_aload_n dL_law_905 rfl rfl ?_
  refine u_callL [] mX11_door iX11_door lL_108 dL_law_906 sh_66 rfl rfl (by decide) rfl rfl (Nat.le_of_ble_eq_true rfl) (Nat.le_of_ble_eq_true rfl) (v_X11_door (d := d + 70)  _ _ h) ?_
  rintro _ τ2 ⟨r2, rfl, h⟩
  obtain ⟨e_r, h⟩ := h
  refine v_icmp_eq (tgt := 1442) dL_law_909 (by decide) (fun c9 => ?_) (fun c9 => ?_)
  · exact nx _ h
  · exact absurd e_r c9
def K_fit (J : kT → Prop) : Prop := ∀ (a1 : Int32) (a2 : Int32) (τ : kT), J τ → T_X10_fit a1 a2 τ (fun r1 τ1 => T_X11_fit a1 a2 τ1 (fun r2 τ2 => r1 = r2 ∧ J τ2))
set_option maxRecDepth 100000 in
set_option maxHeartbeats 4000000 in
theorem law_22 {d N j : Nat} {xs : Nat → Int32} {τ : kT} {NX : kT → Prop} (hN : N ≤ 3072) (hj : j + 6 ≤ N) (nx : ∀ τ2, NX τ2 → UL (d + 72) N xs 1442 (lLs (nI j)) [] τ2) (h : T_X10_fit (xs (j + 1)) (xs (j + 2)) τ (fun r1 τ1 => T_X11_fit (xs (j + 1)) (xs (j + 2)) τ1 (fun r2 τ2 => r1 = r2 ∧ NX τ2))) : UL (d + 72) N xs 914 (lLs (nI j)) [] τ := by
  refine v_aload_n dL_law_914 rfl rfl ?_
  refine v_aload_n dL_law_915 rfl rfl ?_
  refine v_iload_n dL_law_916 rfl rfl ?_
  refine v_iconst (v := 1) dL_law_917 (by decide) ?_
  refine v_iadd dL_law_918 ?_
  refine v_sld dL_law_919 (nI_add j 1) (show j + 1 < (N + 1) - 1 by omega) (show N + 1 < 2 ^ 31 by omega) ?_
  refine v_aload_n dL_law_920 rfl rfl ?_
  refine v_iload_n dL_law_921 rfl rfl ?_
  refine v_iconst (v := 2) dL_law_922 (by decide) ?_
  refine v_iadd dL_law_923 ?_
  refine v_sld dL_law_924 (nI_add j 2) (show j + 2 < (N + 1) - 1 by omega) (show N + 1 < 2 ^ 31 by omega) ?_
  refine u_callL [.int (xs (j + 1)), .int (xs (j + 2))] mX10_fit iX10_fit lL_109 dL_law_925 sh_0 rfl rfl (by decide) rfl rfl (Nat.le_of_ble_eq_true rfl) (Nat.le_of_ble_eq_true rfl) (v_X10_fit (d := d + 67) (xs (j + 1)) (xs (j + 2)) _ _ h) ?_
  rintro _ τ1 ⟨r1, rfl, h⟩
  refine v_aload_n dL_law_928 rfl rfl ?_
  refine v_aload_n dL_law_929 rfl rfl ?_
  refine v_iload_n dL_law_930 rfl rfl ?_
  refine v_iconst (v := 1) dL_law_931 (by decide) ?_
  refine v_iadd dL_law_932 ?_
  refine v_sld dL_law_933 (nI_add j 1) (show j + 1 < (N + 1) - 1 by omega) (show N + 1 < 2 ^ 31 by omega) ?_
  refine v_aload_n dL_law_934 rfl rfl ?_
  refine v_iload_n dL_law_935 rfl rfl ?_
  refine v_iconst (v := 2) dL_law_936 (by decide) ?_
  refine v_iadd dL_law_937 ?_
  refine v_sld dL_law_938 (nI_add j 2) (show j + 2 < (N + 1) - 1 by omega) (show N + 1 < 2 ^ 31 by omega) ?_
  refine u_callL [.int (xs (j + 1)), .int (xs (j + 2))] mX11_fit iX11_fit lL_112 dL_law_939 sh_66 rfl rfl (by decide) rfl rfl (Nat.le_of_ble_eq_true rfl) (Nat.le_of_ble_eq_true rfl) (v_X11_fit (d := d + 69) (xs (j + 1)) (xs (j + 2)) _ _ h) ?_
  rintro _ τ2 ⟨r2, rfl, h⟩
  obtain ⟨e_r, h⟩ := h
  refine v_icmp_eq (tgt := 1442) dL_law_942 (by decide) (fun c9 => ?_) (fun c9 => ?_)
  · exact nx _ h
  · exact absurd e_r c9
def K_person (J : kT → Prop) : Prop := ∀ (τ : kT), J τ → T_X10_person  τ (fun r1 τ1 => T_X11_person  τ1 (fun r2 τ2 => r1 = r2 ∧ J τ2))
set_option maxRecDepth 100000 in
set_option maxHeartbeats 4000000 in
theorem law_23 {d N j : Nat} {xs : Nat → Int32} {τ : kT} {NX : kT → Prop} (hN : N ≤ 3072) (hj : j + 6 ≤ N) (nx : ∀ τ2, NX τ2 → UL (d + 72) N xs 1442 (lLs (nI j)) [] τ2) (h : T_X10_person  τ (fun r1 τ1 => T_X11_person  τ1 (fun r2 τ2 => r1 = r2 ∧ NX τ2))) : UL (d + 72) N xs 947 (lLs (nI j)) [] τ := by
  refine v_aload_n dL_law_947 rfl rfl ?_
  refine u_callL [] mX10_person iX10_person lL_113 dL_law_948 sh_0 rfl rfl (by decide) rfl rfl (Nat.le_of_ble_eq_true rfl) (Nat.le_of_ble_eq_true rfl) (v_X10_person (d := d + 67)  _ _ h) ?_
  rintro _ τ1 ⟨r1, rfl, h⟩
  refine v_aload_n dL_law_951 rfl rfl ?_
  refine u_callL [] mX11_person iX11_person lL_116 dL_law_952 sh_66 rfl rfl (by decide) rfl rfl (Nat.le_of_ble_eq_true rfl) (Nat.le_of_ble_eq_true rfl) (v_X11_person (d := d + 70)  _ _ h) ?_
  rintro _ τ2 ⟨r2, rfl, h⟩
  obtain ⟨e_r, h⟩ := h
  refine v_icmp_eq (tgt := 1442) dL_law_955 (by decide) (fun c9 => ?_) (fun c9 => ?_)
  · exact nx _ h
  · exact absurd e_r c9
def K_lend (J : kT → Prop) : Prop := ∀ (a1 : Int32) (a2 : Int32) (τ : kT), J τ → T_X10_lend a1 a2 τ (fun r1 τ1 => T_X11_lend a1 a2 τ1 (fun r2 τ2 => r1 = r2 ∧ J τ2))
set_option maxRecDepth 100000 in
set_option maxHeartbeats 4000000 in
theorem law_24 {d N j : Nat} {xs : Nat → Int32} {τ : kT} {NX : kT → Prop} (hN : N ≤ 3072) (hj : j + 6 ≤ N) (nx : ∀ τ2, NX τ2 → UL (d + 72) N xs 1442 (lLs (nI j)) [] τ2) (h : T_X10_lend (xs (j + 1)) (xs (j + 2)) τ (fun r1 τ1 => T_X11_lend (xs (j + 1)) (xs (j + 2)) τ1 (fun r2 τ2 => r1 = r2 ∧ NX τ2))) : UL (d + 72) N xs 960 (lLs (nI j)) [] τ := by
  refine v_aload_n dL_law_960 rfl rfl ?_
  refine v_aload_n dL_law_961 rfl rfl ?_
  refine v_iload_n dL_law_962 rfl rfl ?_
  refine v_iconst (v := 1) dL_law_963 (by decide) ?_
  refine v_iadd dL_law_964 ?_
  refine v_sld dL_law_965 (nI_add j 1) (show j + 1 < (N + 1) - 1 by omega) (show N + 1 < 2 ^ 31 by omega) ?_
  refine v_aload_n dL_law_966 rfl rfl ?_
  refine v_iload_n dL_law_967 rfl rfl ?_
  refine v_iconst (v := 2) dL_law_968 (by decide) ?_
  refine v_iadd dL_law_969 ?_
  refine v_sld dL_law_970 (nI_add j 2) (show j + 2 < (N + 1) - 1 by omega) (show N + 1 < 2 ^ 31 by omega) ?_
  refine u_callL [.int (xs (j + 1)), .int (xs (j + 2))] mX10_lend iX10_lend lL_117 dL_law_971 sh_0 rfl rfl (by decide) rfl rfl (Nat.le_of_ble_eq_true rfl) (Nat.le_of_ble_eq_true rfl) (v_X10_lend (d := d + 67) (xs (j + 1)) (xs (j + 2)) _ _ h) ?_
  rintro _ τ1 ⟨r1, rfl, h⟩
  refine v_aload_n dL_law_974 rfl rfl ?_
  refine v_aload_n dL_law_975 rfl rfl ?_
  refine v_iload_n dL_law_976 rfl rfl ?_
  refine v_iconst (v := 1) dL_law_977 (by decide) ?_
  refine v_iadd dL_law_978 ?_
  refine v_sld dL_law_979 (nI_add j 1) (show j + 1 < (N + 1) - 1 by omega) (show N + 1 < 2 ^ 31 by omega) ?_
  refine v_aload_n dL_law_980 rfl rfl ?_
  refine v_iload_n dL_law_981 rfl rfl ?_
  refine v_iconst (v := 2) dL_law_982 (by decide) ?_
  refine v_iadd dL_law_983 ?_
  refine v_sld dL_law_984 (nI_add j 2) (show j + 2 < (N + 1) - 1 by omega) (show N + 1 < 2 ^ 31 by omega) ?_
  refine u_callL [.int (xs (j + 1)), .int (xs (j + 2))] mX11_lend iX11_lend lL_120 dL_law_985 sh_66 rfl rfl (by decide) rfl rfl (Nat.le_of_ble_eq_true rfl) (Nat.le_of_ble_eq_true rfl) (v_X11_lend (d := d + 69) (xs (j + 1)) (xs (j + 2)) _ _ h) ?_
  rintro _ τ2 ⟨r2, rfl, h⟩
  obtain ⟨e_r, h⟩ := h
  refine v_icmp_eq (tgt := 1442) dL_law_988 (by decide) (fun c9 => ?_) (fun c9 => ?_)
  · exact nx _ h
  · exact absurd e_r c9
def K_bringBack (J : kT → Prop) : Prop := ∀ (a1 : Int32) (τ : kT), J τ → T_X10_bringBack a1 τ (fun r1 τ1 => T_X11_bringBack a1 τ1 (fun r2 τ2 => r1 = r2 ∧ J τ2))
set_option maxRecDepth 100000 in
set_option maxHeartbeats 4000000 in
theorem law_25 {d N j : Nat} {xs : Nat → Int32} {τ : kT} {NX : kT → Prop} (hN : N ≤ 3072) (hj : j + 6 ≤ N) (nx : ∀ τ2, NX τ2 → UL (d + 72) N xs 1442 (lLs (nI j)) [] τ2) (h : T_X10_bringBack (xs (j + 1)) τ (fun r1 τ1 => T_X11_bringBack (xs (j + 1)) τ1 (fun r2 τ2 => r1 = r2 ∧ NX τ2))) : UL (d + 72) N xs 993 (lLs (nI j)) [] τ := by
  refine v_aload_n dL_law_993 rfl rfl ?_
  refine v_aload_n dL_law_994 rfl rfl ?_
  refine v_iload_n dL_law_995 rfl rfl ?_
  refine v_iconst (v := 1) dL_law_996 (by decide) ?_
  refine v_iadd dL_law_997 ?_
  refine v_sld dL_law_998 (nI_add j 1) (show j + 1 < (N + 1) - 1 by omega) (show N + 1 < 2 ^ 31 by omega) ?_
  refine u_callL [.int (xs (j + 1))] mX10_bringBack iX10_bringBack lL_121 dL_law_999 sh_0 rfl rfl (by decide) rfl rfl (Nat.le_of_ble_eq_true rfl) (Nat.le_of_ble_eq_true rfl) (v_X10_bringBack (d := d + 67) (xs (j + 1)) _ _ h) ?_
  rintro _ τ1 ⟨r1, rfl, h⟩
  refine v_aload_n dL_law_1002 rfl rfl ?_
  refine v_aload_n dL_law_1003 rfl rfl ?_
  refine v_iload_n dL_law_1004 rfl rfl ?_
  refine v_iconst (v := 1) dL_law_1005 (by decide) ?_
  refine v_iadd dL_law_1006 ?_
  refine v_sld dL_law_1007 (nI_add j 1) (show j + 1 < (N + 1) - 1 by omega) (show N + 1 < 2 ^ 31 by omega) ?_
  refine u_callL [.int (xs (j + 1))] mX11_bringBack iX11_bringBack lL_124 dL_law_1008 sh_66 rfl rfl (by decide) rfl rfl (Nat.le_of_ble_eq_true rfl) (Nat.le_of_ble_eq_true rfl) (v_X11_bringBack (d := d + 69) (xs (j + 1)) _ _ h) ?_
  rintro _ τ2 ⟨r2, rfl, h⟩
  obtain ⟨e_r, h⟩ := h
  refine v_icmp_eq (tgt := 1442) dL_law_1011 (by decide) (fun c9 => ?_) (fun c9 => ?_)
  · exact nx _ h
  · exact absurd e_r c9
def K_lose (J : kT → Prop) : Prop := ∀ (a1 : Int32) (τ : kT), J τ → T_X10_lose a1 τ (fun r1 τ1 => T_X11_lose a1 τ1 (fun r2 τ2 => r1 = r2 ∧ J τ2))
set_option maxRecDepth 100000 in
set_option maxHeartbeats 4000000 in
theorem law_26 {d N j : Nat} {xs : Nat → Int32} {τ : kT} {NX : kT → Prop} (hN : N ≤ 3072) (hj : j + 6 ≤ N) (nx : ∀ τ2, NX τ2 → UL (d + 72) N xs 1442 (lLs (nI j)) [] τ2) (h : T_X10_lose (xs (j + 1)) τ (fun r1 τ1 => T_X11_lose (xs (j + 1)) τ1 (fun r2 τ2 => r1 = r2 ∧ NX τ2))) : UL (d + 72) N xs 1016 (lLs (nI j)) [] τ := by
  refine v_aload_n dL_law_1016 rfl rfl ?_
  refine v_aload_n dL_law_1017 rfl rfl ?_
  refine v_iload_n dL_law_1018 rfl rfl ?_
  refine v_iconst (v := 1) dL_law_1019 (by decide) ?_
  refine v_iadd dL_law_1020 ?_
  refine v_sld dL_law_1021 (nI_add j 1) (show j + 1 < (N + 1) - 1 by omega) (show N + 1 < 2 ^ 31 by omega) ?_
  refine u_callL [.int (xs (j + 1))] mX10_lose iX10_lose lL_125 dL_law_1022 sh_0 rfl rfl (by decide) rfl rfl (Nat.le_of_ble_eq_true rfl) (Nat.le_of_ble_eq_true rfl) (v_X10_lose (d := d + 67) (xs (j + 1)) _ _ h) ?_
  rintro _ τ1 ⟨r1, rfl, h⟩
  refine v_aload_n dL_law_1025 rfl rfl ?_
  refine v_aload_n dL_law_1026 rfl rfl ?_
  refine v_iload_n dL_law_1027 rfl rfl ?_
  refine v_iconst (v := 1) dL_law_1028 (by decide) ?_
  refine v_iadd dL_law_1029 ?_
  refine v_sld dL_law_1030 (nI_add j 1) (show j + 1 < (N + 1) - 1 by omega) (show N + 1 < 2 ^ 31 by omega) ?_
  refine u_callL [.int (xs (j + 1))] mX11_lose iX11_lose lL_128 dL_law_1031 sh_66 rfl rfl (by decide) rfl rfl (Nat.le_of_ble_eq_true rfl) (Nat.le_of_ble_eq_true rfl) (v_X11_lose (d := d + 69) (xs (j + 1)) _ _ h) ?_
  rintro _ τ2 ⟨r2, rfl, h⟩
  obtain ⟨e_r, h⟩ := h
  refine v_icmp_eq (tgt := 1442) dL_law_1034 (by decide) (fun c9 => ?_) (fun c9 => ?_)
  · exact nx _ h
  · exact absurd e_r c9
def K_found (J : kT → Prop) : Prop := ∀ (a1 : Int32) (τ : kT), J τ → T_X10_found a1 τ (fun r1 τ1 => T_X11_found a1 τ1 (fun r2 τ2 => r1 = r2 ∧ J τ2))
set_option maxRecDepth 100000 in
set_option maxHeartbeats 4000000 in
theorem law_27 {d N j : Nat} {xs : Nat → Int32} {τ : kT} {NX : kT → Prop} (hN : N ≤ 3072) (hj : j + 6 ≤ N) (nx : ∀ τ2, NX τ2 → UL (d + 72) N xs 1442 (lLs (nI j)) [] τ2) (h : T_X10_found (xs (j + 1)) τ (fun r1 τ1 => T_X11_found (xs (j + 1)) τ1 (fun r2 τ2 => r1 = r2 ∧ NX τ2))) : UL (d + 72) N xs 1039 (lLs (nI j)) [] τ := by
  refine v_aload_n dL_law_1039 rfl rfl ?_
  refine v_aload_n dL_law_1040 rfl rfl ?_
  refine v_iload_n dL_law_1041 rfl rfl ?_
  refine v_iconst (v := 1) dL_law_1042 (by decide) ?_
  refine v_iadd dL_law_1043 ?_
  refine v_sld dL_law_1044 (nI_add j 1) (show j + 1 < (N + 1) - 1 by omega) (show N + 1 < 2 ^ 31 by omega) ?_
  refine u_callL [.int (xs (j + 1))] mX10_found iX10_found lL_129 dL_law_1045 sh_0 rfl rfl (by decide) rfl rfl (Nat.le_of_ble_eq_true rfl) (Nat.le_of_ble_eq_true rfl) (v_X10_found (d := d + 67) (xs (j + 1)) _ _ h) ?_
  rintro _ τ1 ⟨r1, rfl, h⟩
  refine v_aload_n dL_law_1048 rfl rfl ?_
  refine v_aload_n dL_law_1049 rfl rfl ?_
  refine v_iload_n dL_law_1050 rfl rfl ?_
  refine v_iconst (v := 1) dL_law_1051 (by decide) ?_
  refine v_iadd dL_law_1052 ?_
  refine v_sld dL_law_1053 (nI_add j 1) (show j + 1 < (N + 1) - 1 by omega) (show N + 1 < 2 ^ 31 by omega) ?_
  refine u_callL [.int (xs (j + 1))] mX11_found iX11_found lL_132 dL_law_1054 sh_66 rfl rfl (by decide) rfl rfl (Nat.le_of_ble_eq_true rfl) (Nat.le_of_ble_eq_true rfl) (v_X11_found (d := d + 69) (xs (j + 1)) _ _ h) ?_
  rintro _ τ2 ⟨r2, rfl, h⟩
  obtain ⟨e_r, h⟩ := h
  refine v_icmp_eq (tgt := 1442) dL_law_1057 (by decide) (fun c9 => ?_) (fun c9 => ?_)
  · exact nx _ h
  · exact absurd e_r c9
def K_holder (J : kT → Prop) : Prop := ∀ (a1 : Int32) (τ : kT), J τ → T_X10_holder a1 τ (fun r1 τ1 => T_X11_holder a1 τ1 (fun r2 τ2 => r1 = r2 ∧ J τ2))
set_option maxRecDepth 100000 in
set_option maxHeartbeats 4000000 in
theorem law_28 {d N j : Nat} {xs : Nat → Int32} {τ : kT} {NX : kT → Prop} (hN : N ≤ 3072) (hj : j + 6 ≤ N) (nx : ∀ τ2, NX τ2 → UL (d + 72) N xs 1442 (lLs (nI j)) [] τ2) (h : T_X10_holder (xs (j + 1)) τ (fun r1 τ1 => T_X11_holder (xs (j + 1)) τ1 (fun r2 τ2 => r1 = r2 ∧ NX τ2))) : UL (d + 72) N xs 1062 (lLs (nI j)) [] τ := by
  refine v_aload_n dL_law_1062 rfl rfl ?_
  refine v_aload_n dL_law_1063 rfl rfl ?_
  refine v_iload_n dL_law_1064 rfl rfl ?_
  refine v_iconst (v := 1) dL_law_1065 (by decide) ?_
  refine v_iadd dL_law_1066 ?_
  refine v_sld dL_law_1067 (nI_add j 1) (show j + 1 < (N + 1) - 1 by omega) (show N + 1 < 2 ^ 31 by omega) ?_
  refine u_callL [.int (xs (j + 1))] mX10_holder iX10_holder lL_133 dL_law_1068 sh_0 rfl rfl (by decide) rfl rfl (Nat.le_of_ble_eq_true rfl) (Nat.le_of_ble_eq_true rfl) (v_X10_holder (d := d + 70) (xs (j + 1)) _ _ h) ?_
  rintro _ τ1 ⟨r1, rfl, h⟩
  refine v_aload_n dL_law_1071 rfl rfl ?_
  refine v_aload_n dL_law_1072 rfl rfl ?_
  refine v_iload_n dL_law_1073 rfl rfl ?_
  refine v_iconst (v := 1) dL_law_1074 (by decide) ?_
  refine v_iadd dL_law_1075 ?_
  refine v_sld dL_law_1076 (nI_add j 1) (show j + 1 < (N + 1) - 1 by omega) (show N + 1 < 2 ^ 31 by omega) ?_
  refine u_callL [.int (xs (j + 1))] mX11_holder iX11_holder lL_136 dL_law_1077 sh_66 rfl rfl (by decide) rfl rfl (Nat.le_of_ble_eq_true rfl) (Nat.le_of_ble_eq_true rfl) (v_X11_holder (d := d + 69) (xs (j + 1)) _ _ h) ?_
  rintro _ τ2 ⟨r2, rfl, h⟩
  obtain ⟨e_r, h⟩ := h
  refine v_icmp_eq (tgt := 1442) dL_law_1080 (by decide) (fun c9 => ?_) (fun c9 => ?_)
  · exact nx _ h
  · exact absurd e_r c9
def K_wish (J : kT → Prop) : Prop := ∀ (a1 : Int32) (a2 : Int32) (a3 : Int32) (τ : kT), J τ → T_X10_wish a1 a2 a3 τ (fun r1 τ1 => T_X11_wish a1 a2 a3 τ1 (fun r2 τ2 => r1 = r2 ∧ J τ2))
set_option maxRecDepth 100000 in
set_option maxHeartbeats 4000000 in
theorem law_29 {d N j : Nat} {xs : Nat → Int32} {τ : kT} {NX : kT → Prop} (hN : N ≤ 3072) (hj : j + 6 ≤ N) (nx : ∀ τ2, NX τ2 → UL (d + 72) N xs 1442 (lLs (nI j)) [] τ2) (h : T_X10_wish (xs (j + 1)) (xs (j + 2)) (xs (j + 3)) τ (fun r1 τ1 => T_X11_wish (xs (j + 1)) (xs (j + 2)) (xs (j + 3)) τ1 (fun r2 τ2 => r1 = r2 ∧ NX τ2))) : UL (d + 72) N xs 1085 (lLs (nI j)) [] τ := by
  refine v_aload_n dL_law_1085 rfl rfl ?_
  refine v_aload_n dL_law_1086 rfl rfl ?_
  refine v_iload_n dL_law_1087 rfl rfl ?_
  refine v_iconst (v := 1) dL_law_1088 (by decide) ?_
  refine v_iadd dL_law_1089 ?_
  refine v_sld dL_law_1090 (nI_add j 1) (show j + 1 < (N + 1) - 1 by omega) (show N + 1 < 2 ^ 31 by omega) ?_
  refine v_aload_n dL_law_1091 rfl rfl ?_
  refine v_iload_n dL_law_1092 rfl rfl ?_
  refine v_iconst (v := 2) dL_law_1093 (by decide) ?_
  refine v_iadd dL_law_1094 ?_
  refine v_sld dL_law_1095 (nI_add j 2) (show j + 2 < (N + 1) - 1 by omega) (show N + 1 < 2 ^ 31 by omega) ?_
  refine v_aload_n dL_law_1096 rfl rfl ?_
  refine v_iload_n dL_law_1097 rfl rfl ?_
  refine v_iconst (v := 3) dL_law_1098 (by decide) ?_
  refine v_iadd dL_law_1099 ?_
  refine v_sld dL_law_1100 (nI_add j 3) (show j + 3 < (N + 1) - 1 by omega) (show N + 1 < 2 ^ 31 by omega) ?_
  refine u_callL [.int (xs (j + 1)), .int (xs (j + 2)), .int (xs (j + 3))] mX10_wish iX10_wish lL_137 dL_law_1101 sh_0 rfl rfl (by decide) rfl rfl (Nat.le_of_ble_eq_true rfl) (Nat.le_of_ble_eq_true rfl) (v_X10_wish (d := d + 67) (xs (j + 1)) (xs (j + 2)) (xs (j + 3)) _ _ h) ?_
  rintro _ τ1 ⟨r1, rfl, h⟩
  refine v_aload_n dL_law_1104 rfl rfl ?_
  refine v_aload_n dL_law_1105 rfl rfl ?_
  refine v_iload_n dL_law_1106 rfl rfl ?_
  refine v_iconst (v := 1) dL_law_1107 (by decide) ?_
  refine v_iadd dL_law_1108 ?_
  refine v_sld dL_law_1109 (nI_add j 1) (show j + 1 < (N + 1) - 1 by omega) (show N + 1 < 2 ^ 31 by omega) ?_
  refine v_aload_n dL_law_1110 rfl rfl ?_
  refine v_iload_n dL_law_1111 rfl rfl ?_
  refine v_iconst (v := 2) dL_law_1112 (by decide) ?_
  refine v_iadd dL_law_1113 ?_
  refine v_sld dL_law_1114 (nI_add j 2) (show j + 2 < (N + 1) - 1 by omega) (show N + 1 < 2 ^ 31 by omega) ?_
  refine v_aload_n dL_law_1115 rfl rfl ?_
  refine v_iload_n dL_law_1116 rfl rfl ?_
  refine v_iconst (v := 3) dL_law_1117 (by decide) ?_
  refine v_iadd dL_law_1118 ?_
  refine v_sld dL_law_1119 (nI_add j 3) (show j + 3 < (N + 1) - 1 by omega) (show N + 1 < 2 ^ 31 by omega) ?_
  refine u_callL [.int (xs (j + 1)), .int (xs (j + 2)), .int (xs (j + 3))] mX11_wish iX11_wish lL_140 dL_law_1120 sh_66 rfl rfl (by decide) rfl rfl (Nat.le_of_ble_eq_true rfl) (Nat.le_of_ble_eq_true rfl) (v_X11_wish (d := d + 69) (xs (j + 1)) (xs (j + 2)) (xs (j + 3)) _ _ h) ?_
  rintro _ τ2 ⟨r2, rfl, h⟩
  obtain ⟨e_r, h⟩ := h
  refine v_icmp_eq (tgt := 1442) dL_law_1123 (by decide) (fun c9 => ?_) (fun c9 => ?_)
  · exact nx _ h
  · exact absurd e_r c9
def K_work (J : kT → Prop) : Prop := ∀ (a1 : Int32) (a2 : Int32) (a3 : Int32) (a4 : Int32) (τ : kT), J τ → T_X10_work a1 a2 a3 a4 τ (fun r1 τ1 => T_X11_work a1 a2 a3 a4 τ1 (fun r2 τ2 => r1 = r2 ∧ J τ2))
set_option maxRecDepth 100000 in
set_option maxHeartbeats 4000000 in
theorem law_30 {d N j : Nat} {xs : Nat → Int32} {τ : kT} {NX : kT → Prop} (hN : N ≤ 3072) (hj : j + 6 ≤ N) (nx : ∀ τ2, NX τ2 → UL (d + 72) N xs 1442 (lLs (nI j)) [] τ2) (h : T_X10_work (xs (j + 1)) (xs (j + 2)) (xs (j + 3)) (xs (j + 4)) τ (fun r1 τ1 => T_X11_work (xs (j + 1)) (xs (j + 2)) (xs (j + 3)) (xs (j + 4)) τ1 (fun r2 τ2 => r1 = r2 ∧ NX τ2))) : UL (d + 72) N xs 1128 (lLs (nI j)) [] τ := by
  refine v_aload_n dL_law_1128 rfl rfl ?_
  refine v_aload_n dL_law_1129 rfl rfl ?_
  refine v_iload_n dL_law_1130 rfl rfl ?_
  refine v_iconst (v := 1) dL_law_1131 (by decide) ?_
  refine v_iadd dL_law_1132 ?_
  refine v_sld dL_law_1133 (nI_add j 1) (show j + 1 < (N + 1) - 1 by omega) (show N + 1 < 2 ^ 31 by omega) ?_
  refine v_aload_n dL_law_1134 rfl rfl ?_
  refine v_iload_n dL_law_1135 rfl rfl ?_
  refine v_iconst (v := 2) dL_law_1136 (by decide) ?_
  refine v_iadd dL_law_1137 ?_
  refine v_sld dL_law_1138 (nI_add j 2) (show j + 2 < (N + 1) - 1 by omega) (show N + 1 < 2 ^ 31 by omega) ?_
  refine v_aload_n dL_law_1139 rfl rfl ?_
  refine v_iload_n dL_law_1140 rfl rfl ?_
  refine v_iconst (v := 3) dL_law_1141 (by decide) ?_
  refine v_iadd dL_law_1142 ?_
  refine v_sld dL_law_1143 (nI_add j 3) (show j + 3 < (N + 1) - 1 by omega) (show N + 1 < 2 ^ 31 by omega) ?_
  refine v_aload_n dL_law_1144 rfl rfl ?_
  refine v_iload_n dL_law_1145 rfl rfl ?_
  refine v_iconst (v := 4) dL_law_1146 (by decide) ?_
  refine v_iadd dL_law_1147 ?_
  refine v_sld dL_law_1148 (nI_add j 4) (show j + 4 < (N + 1) - 1 by omega) (show N + 1 < 2 ^ 31 by omega) ?_
  refine u_callL [.int (xs (j + 1)), .int (xs (j + 2)), .int (xs (j + 3)), .int (xs (j + 4))] mX10_work iX10_work lL_141 dL_law_1149 sh_0 rfl rfl (by decide) rfl rfl (Nat.le_of_ble_eq_true rfl) (Nat.le_of_ble_eq_true rfl) (v_X10_work (d := d + 2) (xs (j + 1)) (xs (j + 2)) (xs (j + 3)) (xs (j + 4)) _ _ h) ?_
  rintro _ τ1 ⟨r1, rfl, h⟩
  refine v_aload_n dL_law_1152 rfl rfl ?_
  refine v_aload_n dL_law_1153 rfl rfl ?_
  refine v_iload_n dL_law_1154 rfl rfl ?_
  refine v_iconst (v := 1) dL_law_1155 (by decide) ?_
  refine v_iadd dL_law_1156 ?_
  refine v_sld dL_law_1157 (nI_add j 1) (show j + 1 < (N + 1) - 1 by omega) (show N + 1 < 2 ^ 31 by omega) ?_
  refine v_aload_n dL_law_1158 rfl rfl ?_
  refine v_iload_n dL_law_1159 rfl rfl ?_
  refine v_iconst (v := 2) dL_law_1160 (by decide) ?_
  refine v_iadd dL_law_1161 ?_
  refine v_sld dL_law_1162 (nI_add j 2) (show j + 2 < (N + 1) - 1 by omega) (show N + 1 < 2 ^ 31 by omega) ?_
  refine v_aload_n dL_law_1163 rfl rfl ?_
  refine v_iload_n dL_law_1164 rfl rfl ?_
  refine v_iconst (v := 3) dL_law_1165 (by decide) ?_
  refine v_iadd dL_law_1166 ?_
  refine v_sld dL_law_1167 (nI_add j 3) (show j + 3 < (N + 1) - 1 by omega) (show N + 1 < 2 ^ 31 by omega) ?_
  refine v_aload_n dL_law_1168 rfl rfl ?_
  refine v_iload_n dL_law_1169 rfl rfl ?_
  refine v_iconst (v := 4) dL_law_1170 (by decide) ?_
  refine v_iadd dL_law_1171 ?_
  refine v_sld dL_law_1172 (nI_add j 4) (show j + 4 < (N + 1) - 1 by omega) (show N + 1 < 2 ^ 31 by omega) ?_
  refine u_callL [.int (xs (j + 1)), .int (xs (j + 2)), .int (xs (j + 3)), .int (xs (j + 4))] mX11_work iX11_work lL_145 dL_law_1173 sh_66 rfl rfl (by decide) rfl rfl (Nat.le_of_ble_eq_true rfl) (Nat.le_of_ble_eq_true rfl) (v_X11_work (d := d + 65) (xs (j + 1)) (xs (j + 2)) (xs (j + 3)) (xs (j + 4)) _ _ h) ?_
  rintro _ τ2 ⟨r2, rfl, h⟩
  obtain ⟨e_r, h⟩ := h
  refine v_icmp_eq (tgt := 1442) dL_law_1176 (by decide) (fun c9 => ?_) (fun c9 => ?_)
  · exact nx _ h
  · exact absurd e_r c9
def K_anew (J : kT → Prop) : Prop := ∀ (a1 : Int32) (a2 : Int32) (a3 : Int32) (a4 : Int32) (a5 : Int32) (τ : kT), J τ → T_X10_anew a1 a2 a3 a4 a5 τ (fun r1 τ1 => T_X11_anew a1 a2 a3 a4 a5 τ1 (fun r2 τ2 => r1 = r2 ∧ J τ2))
set_option maxRecDepth 100000 in
set_option maxHeartbeats 4000000 in
theorem law_31 {d N j : Nat} {xs : Nat → Int32} {τ : kT} {NX : kT → Prop} (hN : N ≤ 3072) (hj : j + 6 ≤ N) (nx : ∀ τ2, NX τ2 → UL (d + 72) N xs 1442 (lLs (nI j)) [] τ2) (h : T_X10_anew (xs (j + 1)) (xs (j + 2)) (xs (j + 3)) (xs (j + 4)) (xs (j + 5)) τ (fun r1 τ1 => T_X11_anew (xs (j + 1)) (xs (j + 2)) (xs (j + 3)) (xs (j + 4)) (xs (j + 5)) τ1 (fun r2 τ2 => r1 = r2 ∧ NX τ2))) : UL (d + 72) N xs 1181 (lLs (nI j)) [] τ := by
  refine v_aload_n dL_law_1181 rfl rfl ?_
  refine v_aload_n dL_law_1182 rfl rfl ?_
  refine v_iload_n dL_law_1183 rfl rfl ?_
  refine v_iconst (v := 1) dL_law_1184 (by decide) ?_
  refine v_iadd dL_law_1185 ?_
  refine v_sld dL_law_1186 (nI_add j 1) (show j + 1 < (N + 1) - 1 by omega) (show N + 1 < 2 ^ 31 by omega) ?_
  refine v_aload_n dL_law_1187 rfl rfl ?_
  refine v_iload_n dL_law_1188 rfl rfl ?_
  refine v_iconst (v := 2) dL_law_1189 (by decide) ?_
  refine v_iadd dL_law_1190 ?_
  refine v_sld dL_law_1191 (nI_add j 2) (show j + 2 < (N + 1) - 1 by omega) (show N + 1 < 2 ^ 31 by omega) ?_
  refine v_aload_n dL_law_1192 rfl rfl ?_
  refine v_iload_n dL_law_1193 rfl rfl ?_
  refine v_iconst (v := 3) dL_law_1194 (by decide) ?_
  refine v_iadd dL_law_1195 ?_
  refine v_sld dL_law_1196 (nI_add j 3) (show j + 3 < (N + 1) - 1 by omega) (show N + 1 < 2 ^ 31 by omega) ?_
  refine v_aload_n dL_law_1197 rfl rfl ?_
  refine v_iload_n dL_law_1198 rfl rfl ?_
  refine v_iconst (v := 4) dL_law_1199 (by decide) ?_
  refine v_iadd dL_law_1200 ?_
  refine v_sld dL_law_1201 (nI_add j 4) (show j + 4 < (N + 1) - 1 by omega) (show N + 1 < 2 ^ 31 by omega) ?_
  refine v_aload_n dL_law_1202 rfl rfl ?_
  refine v_iload_n dL_law_1203 rfl rfl ?_
  refine v_iconst (v := 5) dL_law_1204 (by decide) ?_
  refine v_iadd dL_law_1205 ?_
  refine v_sld dL_law_1206 (nI_add j 5) (show j + 5 < (N + 1) - 1 by omega) (show N + 1 < 2 ^ 31 by omega) ?_
  refine u_callL [.int (xs (j + 1)), .int (xs (j + 2)), .int (xs (j + 3)), .int (xs (j + 4)), .int (xs (j + 5))] mX10_anew iX10_anew lL_146 dL_law_1207 sh_0 rfl rfl (by decide) rfl rfl (Nat.le_of_ble_eq_true rfl) (Nat.le_of_ble_eq_true rfl) (v_X10_anew (d := d + 2) (xs (j + 1)) (xs (j + 2)) (xs (j + 3)) (xs (j + 4)) (xs (j + 5)) _ _ h) ?_
  rintro _ τ1 ⟨r1, rfl, h⟩
  refine v_aload_n dL_law_1210 rfl rfl ?_
  refine v_aload_n dL_law_1211 rfl rfl ?_
  refine v_iload_n dL_law_1212 rfl rfl ?_
  refine v_iconst (v := 1) dL_law_1213 (by decide) ?_
  refine v_iadd dL_law_1214 ?_
  refine v_sld dL_law_1215 (nI_add j 1) (show j + 1 < (N + 1) - 1 by omega) (show N + 1 < 2 ^ 31 by omega) ?_
  refine v_aload_n dL_law_1216 rfl rfl ?_
  refine v_iload_n dL_law_1217 rfl rfl ?_
  refine v_iconst (v := 2) dL_law_1218 (by decide) ?_
  refine v_iadd dL_law_1219 ?_
  refine v_sld dL_law_1220 (nI_add j 2) (show j + 2 < (N + 1) - 1 by omega) (show N + 1 < 2 ^ 31 by omega) ?_
  refine v_aload_n dL_law_1221 rfl rfl ?_
  refine v_iload_n dL_law_1222 rfl rfl ?_
  refine v_iconst (v := 3) dL_law_1223 (by decide) ?_
  refine v_iadd dL_law_1224 ?_
  refine v_sld dL_law_1225 (nI_add j 3) (show j + 3 < (N + 1) - 1 by omega) (show N + 1 < 2 ^ 31 by omega) ?_
  refine v_aload_n dL_law_1226 rfl rfl ?_
  refine v_iload_n dL_law_1227 rfl rfl ?_
  refine v_iconst (v := 4) dL_law_1228 (by decide) ?_
  refine v_iadd dL_law_1229 ?_
  refine v_sld dL_law_1230 (nI_add j 4) (show j + 4 < (N + 1) - 1 by omega) (show N + 1 < 2 ^ 31 by omega) ?_
  refine v_aload_n dL_law_1231 rfl rfl ?_
  refine v_iload_n dL_law_1232 rfl rfl ?_
  refine v_iconst (v := 5) dL_law_1233 (by decide) ?_
  refine v_iadd dL_law_1234 ?_
  refine v_sld dL_law_1235 (nI_add j 5) (show j + 5 < (N + 1) - 1 by omega) (show N + 1 < 2 ^ 31 by omega) ?_
  refine u_callL [.int (xs (j + 1)), .int (xs (j + 2)), .int (xs (j + 3)), .int (xs (j + 4)), .int (xs (j + 5))] mX11_anew iX11_anew lL_150 dL_law_1236 sh_66 rfl rfl (by decide) rfl rfl (Nat.le_of_ble_eq_true rfl) (Nat.le_of_ble_eq_true rfl) (v_X11_anew (d := d + 65) (xs (j + 1)) (xs (j + 2)) (xs (j + 3)) (xs (j + 4)) (xs (j + 5)) _ _ h) ?_
  rintro _ τ2 ⟨r2, rfl, h⟩
  obtain ⟨e_r, h⟩ := h
  refine v_icmp_eq (tgt := 1442) dL_law_1239 (by decide) (fun c9 => ?_) (fun c9 => ?_)
  · exact nx _ h
  · exact absurd e_r c9
def K_trials (J : kT → Prop) : Prop := ∀ (τ : kT), J τ → T_X10_trials  τ (fun r1 τ1 => T_X11_trials  τ1 (fun r2 τ2 => r1 = r2 ∧ J τ2))
set_option maxRecDepth 100000 in
set_option maxHeartbeats 4000000 in
theorem law_32 {d N j : Nat} {xs : Nat → Int32} {τ : kT} {NX : kT → Prop} (hN : N ≤ 3072) (hj : j + 6 ≤ N) (nx : ∀ τ2, NX τ2 → UL (d + 72) N xs 1442 (lLs (nI j)) [] τ2) (h : T_X10_trials  τ (fun r1 τ1 => T_X11_trials  τ1 (fun r2 τ2 => r1 = r2 ∧ NX τ2))) : UL (d + 72) N xs 1244 (lLs (nI j)) [] τ := by
  refine v_aload_n dL_law_1244 rfl rfl ?_
  refine u_callL [] mX10_trials iX10_trials lL_151 dL_law_1245 sh_0 rfl rfl (by decide) rfl rfl (Nat.le_of_ble_eq_true rfl) (Nat.le_of_ble_eq_true rfl) (v_X10_trials (d := d + 71)  _ _ h) ?_
  rintro _ τ1 ⟨r1, rfl, h⟩
  refine v_aload_n dL_law_1248 rfl rfl ?_
  refine u_callL [] mX11_trials iX11_trials lL_154 dL_law_1249 sh_66 rfl rfl (by decide) rfl rfl (Nat.le_of_ble_eq_true rfl) (Nat.le_of_ble_eq_true rfl) (v_X11_trials (d := d + 71)  _ _ h) ?_
  rintro _ τ2 ⟨r2, rfl, h⟩
  obtain ⟨e_r, h⟩ := h
  refine v_icmp_eq (tgt := 1442) dL_law_1252 (by decide) (fun c9 => ?_) (fun c9 => ?_)
  · exact nx _ h
  · exact absurd e_r c9
def K_count (J : kT → Prop) : Prop := ∀ (a1 : Int32) (a2 : Int32) (a3 : Int32) (τ : kT), J τ → T_X10_count a1 a2 a3 τ (fun r1 τ1 => T_X11_count a1 a2 a3 τ1 (fun r2 τ2 => r1 = r2 ∧ J τ2))
set_option maxRecDepth 100000 in
set_option maxHeartbeats 4000000 in
theorem law_33 {d N j : Nat} {xs : Nat → Int32} {τ : kT} {NX : kT → Prop} (hN : N ≤ 3072) (hj : j + 6 ≤ N) (nx : ∀ τ2, NX τ2 → UL (d + 72) N xs 1442 (lLs (nI j)) [] τ2) (h : T_X10_count (xs (j + 1)) (xs (j + 2)) (xs (j + 3)) τ (fun r1 τ1 => T_X11_count (xs (j + 1)) (xs (j + 2)) (xs (j + 3)) τ1 (fun r2 τ2 => r1 = r2 ∧ NX τ2))) : UL (d + 72) N xs 1257 (lLs (nI j)) [] τ := by
  refine v_aload_n dL_law_1257 rfl rfl ?_
  refine v_aload_n dL_law_1258 rfl rfl ?_
  refine v_iload_n dL_law_1259 rfl rfl ?_
  refine v_iconst (v := 1) dL_law_1260 (by decide) ?_
  refine v_iadd dL_law_1261 ?_
  refine v_sld dL_law_1262 (nI_add j 1) (show j + 1 < (N + 1) - 1 by omega) (show N + 1 < 2 ^ 31 by omega) ?_
  refine v_aload_n dL_law_1263 rfl rfl ?_
  refine v_iload_n dL_law_1264 rfl rfl ?_
  refine v_iconst (v := 2) dL_law_1265 (by decide) ?_
  refine v_iadd dL_law_1266 ?_
  refine v_sld dL_law_1267 (nI_add j 2) (show j + 2 < (N + 1) - 1 by omega) (show N + 1 < 2 ^ 31 by omega) ?_
  refine v_aload_n dL_law_1268 rfl rfl ?_
  refine v_iload_n dL_law_1269 rfl rfl ?_
  refine v_iconst (v := 3) dL_law_1270 (by decide) ?_
  refine v_iadd dL_law_1271 ?_
  refine v_sld dL_law_1272 (nI_add j 3) (show j + 3 < (N + 1) - 1 by omega) (show N + 1 < 2 ^ 31 by omega) ?_
  refine u_callL [.int (xs (j + 1)), .int (xs (j + 2)), .int (xs (j + 3))] mX10_count iX10_count lL_155 dL_law_1273 sh_0 rfl rfl (by decide) rfl rfl (Nat.le_of_ble_eq_true rfl) (Nat.le_of_ble_eq_true rfl) (v_X10_count (d := d + 66) (xs (j + 1)) (xs (j + 2)) (xs (j + 3)) _ _ h) ?_
  rintro _ τ1 ⟨r1, rfl, h⟩
  refine v_aload_n dL_law_1276 rfl rfl ?_
  refine v_aload_n dL_law_1277 rfl rfl ?_
  refine v_iload_n dL_law_1278 rfl rfl ?_
  refine v_iconst (v := 1) dL_law_1279 (by decide) ?_
  refine v_iadd dL_law_1280 ?_
  refine v_sld dL_law_1281 (nI_add j 1) (show j + 1 < (N + 1) - 1 by omega) (show N + 1 < 2 ^ 31 by omega) ?_
  refine v_aload_n dL_law_1282 rfl rfl ?_
  refine v_iload_n dL_law_1283 rfl rfl ?_
  refine v_iconst (v := 2) dL_law_1284 (by decide) ?_
  refine v_iadd dL_law_1285 ?_
  refine v_sld dL_law_1286 (nI_add j 2) (show j + 2 < (N + 1) - 1 by omega) (show N + 1 < 2 ^ 31 by omega) ?_
  refine v_aload_n dL_law_1287 rfl rfl ?_
  refine v_iload_n dL_law_1288 rfl rfl ?_
  refine v_iconst (v := 3) dL_law_1289 (by decide) ?_
  refine v_iadd dL_law_1290 ?_
  refine v_sld dL_law_1291 (nI_add j 3) (show j + 3 < (N + 1) - 1 by omega) (show N + 1 < 2 ^ 31 by omega) ?_
  refine u_callL [.int (xs (j + 1)), .int (xs (j + 2)), .int (xs (j + 3))] mX11_count iX11_count lL_159 dL_law_1292 sh_66 rfl rfl (by decide) rfl rfl (Nat.le_of_ble_eq_true rfl) (Nat.le_of_ble_eq_true rfl) (v_X11_count (d := d + 68) (xs (j + 1)) (xs (j + 2)) (xs (j + 3)) _ _ h) ?_
  rintro _ τ2 ⟨r2, rfl, h⟩
  refine v_lcmp dL_law_1295 ?_
  obtain ⟨e_r, h⟩ := h
  refine v_if_eq (tgt := 1442) dL_law_1296 (by decide) (fun c9 => ?_) (fun c9 => ?_)
  · exact nx _ h
  · exact absurd (by rw [e_r]; simp [lg_cmp]) c9
def K_carry (J : kT → Prop) : Prop := ∀ (a1 : Int32) (τ : kT), J τ → T_X10_carry a1 τ (fun r1 τ1 => T_X11_carry a1 τ1 (fun r2 τ2 => r1 = r2 ∧ J τ2))
set_option maxRecDepth 100000 in
set_option maxHeartbeats 4000000 in
theorem law_34 {d N j : Nat} {xs : Nat → Int32} {τ : kT} {NX : kT → Prop} (hN : N ≤ 3072) (hj : j + 6 ≤ N) (nx : ∀ τ2, NX τ2 → UL (d + 72) N xs 1442 (lLs (nI j)) [] τ2) (h : T_X10_carry (xs (j + 1)) τ (fun r1 τ1 => T_X11_carry (xs (j + 1)) τ1 (fun r2 τ2 => r1 = r2 ∧ NX τ2))) : UL (d + 72) N xs 1301 (lLs (nI j)) [] τ := by
  refine v_aload_n dL_law_1301 rfl rfl ?_
  refine v_aload_n dL_law_1302 rfl rfl ?_
  refine v_iload_n dL_law_1303 rfl rfl ?_
  refine v_iconst (v := 1) dL_law_1304 (by decide) ?_
  refine v_iadd dL_law_1305 ?_
  refine v_sld dL_law_1306 (nI_add j 1) (show j + 1 < (N + 1) - 1 by omega) (show N + 1 < 2 ^ 31 by omega) ?_
  refine u_callL [.int (xs (j + 1))] mX10_carry iX10_carry lL_160 dL_law_1307 sh_0 rfl rfl (by decide) rfl rfl (Nat.le_of_ble_eq_true rfl) (Nat.le_of_ble_eq_true rfl) (v_X10_carry (d := d + 53) (xs (j + 1)) _ _ h) ?_
  rintro _ τ1 ⟨r1, rfl, h⟩
  refine v_aload_n dL_law_1310 rfl rfl ?_
  refine v_aload_n dL_law_1311 rfl rfl ?_
  refine v_iload_n dL_law_1312 rfl rfl ?_
  refine v_iconst (v := 1) dL_law_1313 (by decide) ?_
  refine v_iadd dL_law_1314 ?_
  refine v_sld dL_law_1315 (nI_add j 1) (show j + 1 < (N + 1) - 1 by omega) (show N + 1 < 2 ^ 31 by omega) ?_
  refine u_callL [.int (xs (j + 1))] mX11_carry iX11_carry lL_163 dL_law_1316 sh_66 rfl rfl (by decide) rfl rfl (Nat.le_of_ble_eq_true rfl) (Nat.le_of_ble_eq_true rfl) (v_X11_carry (d := d + 64) (xs (j + 1)) _ _ h) ?_
  rintro _ τ2 ⟨r2, rfl, h⟩
  obtain ⟨e_r, h⟩ := h
  refine v_icmp_eq (tgt := 1442) dL_law_1319 (by decide) (fun c9 => ?_) (fun c9 => ?_)
  · exact nx _ h
  · exact absurd e_r c9
def K_closed (J : kT → Prop) : Prop := ∀ (a1 : Int32) (τ : kT), J τ → T_X10_closed a1 τ (fun r1 τ1 => T_X11_closed a1 τ1 (fun r2 τ2 => r1 = r2 ∧ J τ2))
set_option maxRecDepth 100000 in
set_option maxHeartbeats 4000000 in
theorem law_35 {d N j : Nat} {xs : Nat → Int32} {τ : kT} {NX : kT → Prop} (hN : N ≤ 3072) (hj : j + 6 ≤ N) (nx : ∀ τ2, NX τ2 → UL (d + 72) N xs 1442 (lLs (nI j)) [] τ2) (h : T_X10_closed (xs (j + 1)) τ (fun r1 τ1 => T_X11_closed (xs (j + 1)) τ1 (fun r2 τ2 => r1 = r2 ∧ NX τ2))) : UL (d + 72) N xs 1324 (lLs (nI j)) [] τ := by
  refine v_aload_n dL_law_1324 rfl rfl ?_
  refine v_aload_n dL_law_1325 rfl rfl ?_
  refine v_iload_n dL_law_1326 rfl rfl ?_
  refine v_iconst (v := 1) dL_law_1327 (by decide) ?_
  refine v_iadd dL_law_1328 ?_
  refine v_sld dL_law_1329 (nI_add j 1) (show j + 1 < (N + 1) - 1 by omega) (show N + 1 < 2 ^ 31 by omega) ?_
  refine u_callL [.int (xs (j + 1))] mX10_closed iX10_closed lL_164 dL_law_1330 sh_0 rfl rfl (by decide) rfl rfl (Nat.le_of_ble_eq_true rfl) (Nat.le_of_ble_eq_true rfl) (v_X10_closed (d := d + 66) (xs (j + 1)) _ _ h) ?_
  rintro _ τ1 ⟨r1, rfl, h⟩
  refine v_aload_n dL_law_1333 rfl rfl ?_
  refine v_aload_n dL_law_1334 rfl rfl ?_
  refine v_iload_n dL_law_1335 rfl rfl ?_
  refine v_iconst (v := 1) dL_law_1336 (by decide) ?_
  refine v_iadd dL_law_1337 ?_
  refine v_sld dL_law_1338 (nI_add j 1) (show j + 1 < (N + 1) - 1 by omega) (show N + 1 < 2 ^ 31 by omega) ?_
  refine u_callL [.int (xs (j + 1))] mX11_closed iX11_closed lL_167 dL_law_1339 sh_66 rfl rfl (by decide) rfl rfl (Nat.le_of_ble_eq_true rfl) (Nat.le_of_ble_eq_true rfl) (v_X11_closed (d := d + 64) (xs (j + 1)) _ _ h) ?_
  rintro _ τ2 ⟨r2, rfl, h⟩
  obtain ⟨e_r, h⟩ := h
  refine v_icmp_eq (tgt := 1442) dL_law_1342 (by decide) (fun c9 => ?_) (fun c9 => ?_)
  · exact nx _ h
  · exact absurd e_r c9
def K_endangered (J : kT → Prop) : Prop := ∀ (a1 : Int32) (τ : kT), J τ → T_X10_endangered a1 τ (fun r1 τ1 => T_X11_endangered a1 τ1 (fun r2 τ2 => r1 = r2 ∧ J τ2))
set_option maxRecDepth 100000 in
set_option maxHeartbeats 4000000 in
theorem law_36 {d N j : Nat} {xs : Nat → Int32} {τ : kT} {NX : kT → Prop} (hN : N ≤ 3072) (hj : j + 6 ≤ N) (nx : ∀ τ2, NX τ2 → UL (d + 72) N xs 1442 (lLs (nI j)) [] τ2) (h : T_X10_endangered (xs (j + 1)) τ (fun r1 τ1 => T_X11_endangered (xs (j + 1)) τ1 (fun r2 τ2 => r1 = r2 ∧ NX τ2))) : UL (d + 72) N xs 1347 (lLs (nI j)) [] τ := by
  refine v_aload_n dL_law_1347 rfl rfl ?_
  refine v_aload_n dL_law_1348 rfl rfl ?_
  refine v_iload_n dL_law_1349 rfl rfl ?_
  refine v_iconst (v := 1) dL_law_1350 (by decide) ?_
  refine v_iadd dL_law_1351 ?_
  refine v_sld dL_law_1352 (nI_add j 1) (show j + 1 < (N + 1) - 1 by omega) (show N + 1 < 2 ^ 31 by omega) ?_
  refine u_callL [.int (xs (j + 1))] mX10_endangered iX10_endangered lL_168 dL_law_1353 sh_0 rfl rfl (by decide) rfl rfl (Nat.le_of_ble_eq_true rfl) (Nat.le_of_ble_eq_true rfl) (v_X10_endangered (d := d + 66) (xs (j + 1)) _ _ h) ?_
  rintro _ τ1 ⟨r1, rfl, h⟩
  refine v_aload_n dL_law_1356 rfl rfl ?_
  refine v_aload_n dL_law_1357 rfl rfl ?_
  refine v_iload_n dL_law_1358 rfl rfl ?_
  refine v_iconst (v := 1) dL_law_1359 (by decide) ?_
  refine v_iadd dL_law_1360 ?_
  refine v_sld dL_law_1361 (nI_add j 1) (show j + 1 < (N + 1) - 1 by omega) (show N + 1 < 2 ^ 31 by omega) ?_
  refine u_callL [.int (xs (j + 1))] mX11_endangered iX11_endangered lL_171 dL_law_1362 sh_66 rfl rfl (by decide) rfl rfl (Nat.le_of_ble_eq_true rfl) (Nat.le_of_ble_eq_true rfl) (v_X11_endangered (d := d + 65) (xs (j + 1)) _ _ h) ?_
  rintro _ τ2 ⟨r2, rfl, h⟩
  obtain ⟨e_r, h⟩ := h
  refine v_icmp_eq (tgt := 1442) dL_law_1365 (by decide) (fun c9 => ?_) (fun c9 => ?_)
  · exact nx _ h
  · exact absurd e_r c9
def K_undo (J : kT → Prop) : Prop := ∀ τ : kT, J τ → (q_i τ 0 2 = 0 → T_X11_undo τ (fun r2 τ2 => (-3 : Int32) = r2 ∧ J τ2)) ∧ (¬ q_i τ 0 2 = 0 → T_X11_undo (q_undo τ) (fun r2 τ2 => (1 : Int32) = r2 ∧ J τ2))
set_option maxRecDepth 100000 in
set_option maxHeartbeats 4000000 in
theorem law_37 {d N j : Nat} {xs : Nat → Int32} {τ : kT} {NX : kT → Prop} (hN : N ≤ 3072) (hj : j + 6 ≤ N) (nx : ∀ τ2, NX τ2 → UL (d + 72) N xs 1442 (lLs (nI j)) [] τ2) (h : (q_i τ 0 2 = 0 → T_X11_undo τ (fun r2 τ2 => (-3 : Int32) = r2 ∧ NX τ2)) ∧ (¬ q_i τ 0 2 = 0 → T_X11_undo (q_undo τ) (fun r2 τ2 => (1 : Int32) = r2 ∧ NX τ2))) : UL (d + 72) N xs 1370 (lLs (nI j)) [] τ := by
  refine v_aload_n dL_law_1370 rfl rfl ?_
  refine u_undoL lL_172 dL_law_1371 (fun c1 => ?_) (fun c1 => ?_)
  · have h := h.1 c1
    refine v_aload_n dL_law_1374 rfl rfl ?_
    refine u_callL [] mX11_undo iX11_undo lL_175 dL_law_1375 sh_66 rfl rfl (by decide) rfl rfl (Nat.le_of_ble_eq_true rfl) (Nat.le_of_ble_eq_true rfl) (v_X11_undo (d := d + 71)  _ _ h) ?_
    rintro _ τ2 ⟨r2, rfl, h⟩
    obtain ⟨e_r, h⟩ := h
    refine v_icmp_eq (tgt := 1442) dL_law_1378 (by decide) (fun c9 => ?_) (fun c9 => ?_)
    · exact nx _ h
    · exact absurd e_r c9
  · have h := h.2 c1
    refine v_aload_n dL_law_1374 rfl rfl ?_
    refine u_callL [] mX11_undo iX11_undo lL_175 dL_law_1375 sh_66 rfl rfl (by decide) rfl rfl (Nat.le_of_ble_eq_true rfl) (Nat.le_of_ble_eq_true rfl) (v_X11_undo (d := d + 71)  _ _ h) ?_
    rintro _ τ2 ⟨r2, rfl, h⟩
    obtain ⟨e_r, h⟩ := h
    refine v_icmp_eq (tgt := 1442) dL_law_1378 (by decide) (fun c9 => ?_) (fun c9 => ?_)
    · exact nx _ h
    · exact absurd e_r c9
def K_finding (J : kT → Prop) : Prop := ∀ (τ : kT), J τ → T_X10_finding  τ (fun r1 τ1 => T_X11_finding  τ1 (fun r2 τ2 => r1 = r2 ∧ J τ2))
set_option maxRecDepth 100000 in
set_option maxHeartbeats 4000000 in
theorem law_38 {d N j : Nat} {xs : Nat → Int32} {τ : kT} {NX : kT → Prop} (hN : N ≤ 3072) (hj : j + 6 ≤ N) (nx : ∀ τ2, NX τ2 → UL (d + 72) N xs 1442 (lLs (nI j)) [] τ2) (h : T_X10_finding  τ (fun r1 τ1 => T_X11_finding  τ1 (fun r2 τ2 => r1 = r2 ∧ NX τ2))) : UL (d + 72) N xs 1383 (lLs (nI j)) [] τ := by
  refine v_aload_n dL_law_1383 rfl rfl ?_
  refine u_callL [] mX10_finding iX10_finding lL_176 dL_law_1384 sh_0 rfl rfl (by decide) rfl rfl (Nat.le_of_ble_eq_true rfl) (Nat.le_of_ble_eq_true rfl) (v_X10_finding (d := d + 71)  _ _ h) ?_
  rintro _ τ1 ⟨r1, rfl, h⟩
  refine v_aload_n dL_law_1387 rfl rfl ?_
  refine u_callL [] mX11_finding iX11_finding lL_179 dL_law_1388 sh_66 rfl rfl (by decide) rfl rfl (Nat.le_of_ble_eq_true rfl) (Nat.le_of_ble_eq_true rfl) (v_X11_finding (d := d + 71)  _ _ h) ?_
  rintro _ τ2 ⟨r2, rfl, h⟩
  obtain ⟨e_r, h⟩ := h
  refine v_icmp_eq (tgt := 1442) dL_law_1391 (by decide) (fun c9 => ?_) (fun c9 => ?_)
  · exact nx _ h
  · exact absurd e_r c9
def K_trace (J : kT → Prop) : Prop := ∀ (a1 : Int32) (τ : kT), J τ → T_X10_trace a1 τ (fun r1 τ1 => T_X11_trace a1 τ1 (fun r2 τ2 => r1 = r2 ∧ J τ2))
set_option maxRecDepth 100000 in
set_option maxHeartbeats 4000000 in
theorem law_39 {d N j : Nat} {xs : Nat → Int32} {τ : kT} {NX : kT → Prop} (hN : N ≤ 3072) (hj : j + 6 ≤ N) (nx : ∀ τ2, NX τ2 → UL (d + 72) N xs 1442 (lLs (nI j)) [] τ2) (h : T_X10_trace (xs (j + 1)) τ (fun r1 τ1 => T_X11_trace (xs (j + 1)) τ1 (fun r2 τ2 => r1 = r2 ∧ NX τ2))) : UL (d + 72) N xs 1396 (lLs (nI j)) [] τ := by
  refine v_aload_n dL_law_1396 rfl rfl ?_
  refine v_aload_n dL_law_1397 rfl rfl ?_
  refine v_iload_n dL_law_1398 rfl rfl ?_
  refine v_iconst (v := 1) dL_law_1399 (by decide) ?_
  refine v_iadd dL_law_1400 ?_
  refine v_sld dL_law_1401 (nI_add j 1) (show j + 1 < (N + 1) - 1 by omega) (show N + 1 < 2 ^ 31 by omega) ?_
  refine u_callL [.int (xs (j + 1))] mX10_trace iX10_trace lL_180 dL_law_1402 sh_0 rfl rfl (by decide) rfl rfl (Nat.le_of_ble_eq_true rfl) (Nat.le_of_ble_eq_true rfl) (v_X10_trace (d := d + 70) (xs (j + 1)) _ _ h) ?_
  rintro _ τ1 ⟨r1, rfl, h⟩
  refine v_aload_n dL_law_1405 rfl rfl ?_
  refine v_aload_n dL_law_1406 rfl rfl ?_
  refine v_iload_n dL_law_1407 rfl rfl ?_
  refine v_iconst (v := 1) dL_law_1408 (by decide) ?_
  refine v_iadd dL_law_1409 ?_
  refine v_sld dL_law_1410 (nI_add j 1) (show j + 1 < (N + 1) - 1 by omega) (show N + 1 < 2 ^ 31 by omega) ?_
  refine u_callL [.int (xs (j + 1))] mX11_trace iX11_trace lL_183 dL_law_1411 sh_66 rfl rfl (by decide) rfl rfl (Nat.le_of_ble_eq_true rfl) (Nat.le_of_ble_eq_true rfl) (v_X11_trace (d := d + 70) (xs (j + 1)) _ _ h) ?_
  rintro _ τ2 ⟨r2, rfl, h⟩
  obtain ⟨e_r, h⟩ := h
  refine v_icmp_eq (tgt := 1442) dL_law_1414 (by decide) (fun c9 => ?_) (fun c9 => ?_)
  · exact nx _ h
  · exact absurd e_r c9
def K_told (J : kT → Prop) : Prop := ∀ (a1 : Int32) (τ : kT), J τ → T_X10_told a1 τ (fun r1 τ1 => T_X11_told a1 τ1 (fun r2 τ2 => r1 = r2 ∧ J τ2))
set_option maxRecDepth 100000 in
set_option maxHeartbeats 4000000 in
theorem law_40 {d N j : Nat} {xs : Nat → Int32} {τ : kT} {NX : kT → Prop} (hN : N ≤ 3072) (hj : j + 6 ≤ N) (nx : ∀ τ2, NX τ2 → UL (d + 72) N xs 1442 (lLs (nI j)) [] τ2) (h : T_X10_told (xs (j + 1)) τ (fun r1 τ1 => T_X11_told (xs (j + 1)) τ1 (fun r2 τ2 => r1 = r2 ∧ NX τ2))) : UL (d + 72) N xs 1419 (lLs (nI j)) [] τ := by
  refine v_aload_n dL_law_1419 rfl rfl ?_
  refine v_aload_n dL_law_1420 rfl rfl ?_
  refine v_iload_n dL_law_1421 rfl rfl ?_
  refine v_iconst (v := 1) dL_law_1422 (by decide) ?_
  refine v_iadd dL_law_1423 ?_
  refine v_sld dL_law_1424 (nI_add j 1) (show j + 1 < (N + 1) - 1 by omega) (show N + 1 < 2 ^ 31 by omega) ?_
  refine u_callL [.int (xs (j + 1))] mX10_told iX10_told lL_184 dL_law_1425 sh_0 rfl rfl (by decide) rfl rfl (Nat.le_of_ble_eq_true rfl) (Nat.le_of_ble_eq_true rfl) (v_X10_told (d := d + 71) (xs (j + 1)) _ _ h) ?_
  rintro _ τ1 ⟨r1, rfl, h⟩
  refine v_aload_n dL_law_1428 rfl rfl ?_
  refine v_aload_n dL_law_1429 rfl rfl ?_
  refine v_iload_n dL_law_1430 rfl rfl ?_
  refine v_iconst (v := 1) dL_law_1431 (by decide) ?_
  refine v_iadd dL_law_1432 ?_
  refine v_sld dL_law_1433 (nI_add j 1) (show j + 1 < (N + 1) - 1 by omega) (show N + 1 < 2 ^ 31 by omega) ?_
  refine u_callL [.int (xs (j + 1))] mX11_told iX11_told lL_187 dL_law_1434 sh_66 rfl rfl (by decide) rfl rfl (Nat.le_of_ble_eq_true rfl) (Nat.le_of_ble_eq_true rfl) (v_X11_told (d := d + 71) (xs (j + 1)) _ _ h) ?_
  rintro _ τ2 ⟨r2, rfl, h⟩
  obtain ⟨e_r, h⟩ := h
  refine v_icmp_eq (tgt := 1442) dL_law_1437 (by decide) (fun c9 => ?_) (fun c9 => ?_)
  · exact nx _ h
  · exact absurd e_r c9
theorem k_cmp6 {N j : Nat} (hN : N ≤ 3072) (hj : j ≤ 3078) : (nI (N + 1 - 1) - 6 < nI j) ↔ N < j + 6 := by
  rw [Int32.lt_iff_toInt_lt, show (6 : Int32) = nI 6 from rfl, pk_sub_toInt (by omega) (by omega), nI_toInt (by omega)]
  omega
def K_all (J : kT → Prop) : Prop := K_cylinder J ∧ K_twin J ∧ K_height J ∧ K_heightAt J ∧ K_takeCore J ∧ K_putCore J ∧ K_kind J ∧ K_chambers J ∧ K_weight J ∧ K_blanks J ∧ K_key J ∧ K_turned J ∧ K_cut J ∧ K_length J ∧ K_turn J ∧ K_opens J ∧ K_turnAll J ∧ K_at J ∧ K_cabinet J ∧ K_put J ∧ K_inside J ∧ K_door J ∧ K_fit J ∧ K_person J ∧ K_lend J ∧ K_bringBack J ∧ K_lose J ∧ K_found J ∧ K_holder J ∧ K_wish J ∧ K_work J ∧ K_anew J ∧ K_trials J ∧ K_count J ∧ K_carry J ∧ K_closed J ∧ K_endangered J ∧ K_undo J ∧ K_finding J ∧ K_trace J ∧ K_told J
set_option maxRecDepth 100000 in
set_option maxHeartbeats 4000000 in
theorem law_loop {J : kT → Prop} (hK : K_all J) {d N : Nat} {xs : Nat → Int32} (hN : N ≤ 3072) : ∀ (n j : Nat) (τ : kT), N < j + n → j ≤ N + 6 → J τ → UL (d + 72) N xs 18 (lLs (nI j)) [] τ := by
  intro n
  induction n with
  | zero =>
    intro j τ hn hjN hJ
    refine v_iload_n dL_law_18 rfl rfl ?_
    refine v_aload_n dL_law_19 rfl rfl ?_
    refine v_slen (by show N + 1 ≠ 0; omega) dL_law_20 ?_
    refine v_bipush (v := 6) dL_law_21 (by decide) ?_
    refine v_isub dL_law_23 ?_
    refine v_icmp_gt (tgt := 1448) dL_law_24 (by decide) (fun c1 => ?_) (fun c1 => ?_)
    · refine v_iconst (v := 1) dL_law_1448 (by decide) ?_
      exact v_zret dL_law_1449 rfl ⟨rfl, id⟩ rfl
    · exact absurd ((k_cmp6 hN (by omega)).mpr (by omega)) c1
  | succ n ih =>
    intro j τ hn hjN hJ
    refine v_iload_n dL_law_18 rfl rfl ?_
    refine v_aload_n dL_law_19 rfl rfl ?_
    refine v_slen (by show N + 1 ≠ 0; omega) dL_law_20 ?_
    refine v_bipush (v := 6) dL_law_21 (by decide) ?_
    refine v_isub dL_law_23 ?_
    refine v_icmp_gt (tgt := 1448) dL_law_24 (by decide) (fun c1 => ?_) (fun c1 => ?_)
    · refine v_iconst (v := 1) dL_law_1448 (by decide) ?_
      exact v_zret dL_law_1449 rfl ⟨rfl, id⟩ rfl
    have hj : j + 6 ≤ N := by
      rcases Nat.lt_or_ge N (j + 6) with q | q
      · exact absurd ((k_cmp6 hN (by omega)).mpr q) c1
      · exact q
    have nx : ∀ τ2, J τ2 → UL (d + 72) N xs 1442 (lLs (nI j)) [] τ2 := by
      intro τ2 h2
      refine v_iinc (v := nI (j + 6)) dL_law_1442 rfl (nI_add j 6) (by decide) rfl ?_
      refine v_ls (ls2 := lLs (nI (j + 6))) rfl ?_
      refine v_goto (tgt := 18) dL_law_1445 (by decide) ?_
      exact ih (j + 6) τ2 (by omega) (by omega) h2
    refine v_aload_n dL_law_27 rfl rfl ?_
    refine v_iload_n dL_law_28 rfl rfl ?_
    refine v_sld dL_law_29 (j := j) rfl (show j < (N + 1) - 1 by omega) (show N + 1 < 2 ^ 31 by omega) ?_
    refine v_bipush (v := 63) dL_law_30 (by decide) ?_
    refine v_iand dL_law_32 ?_
    refine v_topi (fun z e_z => ?_)
    by_cases c2 : z.toInt < 0 ∨ 40 < z.toInt
    · refine v_tabOut (tgt := 1442) dL_law_33 c2 (by decide) ?_
      exact nx τ hJ
    obtain ⟨k, hk, e_k⟩ := k_sw z 40 (by decide) c2
    rcases (show k = 0 ∨ k = 1 ∨ k = 2 ∨ k = 3 ∨ k = 4 ∨ k = 5 ∨ k = 6 ∨ k = 7 ∨ k = 8 ∨ k = 9 ∨ k = 10 ∨ k = 11 ∨ k = 12 ∨ k = 13 ∨ k = 14 ∨ k = 15 ∨ k = 16 ∨ k = 17 ∨ k = 18 ∨ k = 19 ∨ k = 20 ∨ k = 21 ∨ k = 22 ∨ k = 23 ∨ k = 24 ∨ k = 25 ∨ k = 26 ∨ k = 27 ∨ k = 28 ∨ k = 29 ∨ k = 30 ∨ k = 31 ∨ k = 32 ∨ k = 33 ∨ k = 34 ∨ k = 35 ∨ k = 36 ∨ k = 37 ∨ k = 38 ∨ k = 39 ∨ k = 40 by omega) with rfl | rfl | rfl | rfl | rfl | rfl | rfl | rfl | rfl | rfl | rfl | rfl | rfl | rfl | rfl | rfl | rfl | rfl | rfl | rfl | rfl | rfl | rfl | rfl | rfl | rfl | rfl | rfl | rfl | rfl | rfl | rfl | rfl | rfl | rfl | rfl | rfl | rfl | rfl | rfl | rfl
    · refine v_tabIn (off := 179) (tgt := 212) dL_law_33 (fun q => c2 (Or.inl q)) (fun q => c2 (Or.inr q)) (by rw [e_k]; rfl) (by decide) ?_
      exact law_0 (NX := J) hN hj nx (hK.1 _ _ τ hJ)
    · refine v_tabIn (off := 212) (tgt := 245) dL_law_33 (fun q => c2 (Or.inl q)) (fun q => c2 (Or.inr q)) (by rw [e_k]; rfl) (by decide) ?_
      exact law_1 (NX := J) hN hj nx (hK.2.1 _ _ τ hJ)
    · refine v_tabIn (off := 245) (tgt := 278) dL_law_33 (fun q => c2 (Or.inl q)) (fun q => c2 (Or.inr q)) (by rw [e_k]; rfl) (by decide) ?_
      exact law_2 (NX := J) hN hj nx ⟨fun _ => hK.2.2.1 _ _ _ _ τ hJ, fun _ => hK.2.2.1 _ _ _ _ τ hJ⟩
    · refine v_tabIn (off := 314) (tgt := 347) dL_law_33 (fun q => c2 (Or.inl q)) (fun q => c2 (Or.inr q)) (by rw [e_k]; rfl) (by decide) ?_
      exact law_3 (NX := J) hN hj nx (hK.2.2.2.1 _ _ _ τ hJ)
    · refine v_tabIn (off := 357) (tgt := 390) dL_law_33 (fun q => c2 (Or.inl q)) (fun q => c2 (Or.inr q)) (by rw [e_k]; rfl) (by decide) ?_
      exact law_4 (NX := J) hN hj nx (hK.2.2.2.2.1 _ τ hJ)
    · refine v_tabIn (off := 380) (tgt := 413) dL_law_33 (fun q => c2 (Or.inl q)) (fun q => c2 (Or.inr q)) (by rw [e_k]; rfl) (by decide) ?_
      exact law_5 (NX := J) hN hj nx (hK.2.2.2.2.2.1 _ τ hJ)
    · refine v_tabIn (off := 403) (tgt := 436) dL_law_33 (fun q => c2 (Or.inl q)) (fun q => c2 (Or.inr q)) (by rw [e_k]; rfl) (by decide) ?_
      exact law_6 (NX := J) hN hj nx (hK.2.2.2.2.2.2.1 _ τ hJ)
    · refine v_tabIn (off := 426) (tgt := 459) dL_law_33 (fun q => c2 (Or.inl q)) (fun q => c2 (Or.inr q)) (by rw [e_k]; rfl) (by decide) ?_
      exact law_7 (NX := J) hN hj nx (hK.2.2.2.2.2.2.2.1 _ τ hJ)
    · refine v_tabIn (off := 449) (tgt := 482) dL_law_33 (fun q => c2 (Or.inl q)) (fun q => c2 (Or.inr q)) (by rw [e_k]; rfl) (by decide) ?_
      exact law_8 (NX := J) hN hj nx (hK.2.2.2.2.2.2.2.2.1 _ τ hJ)
    · refine v_tabIn (off := 472) (tgt := 505) dL_law_33 (fun q => c2 (Or.inl q)) (fun q => c2 (Or.inr q)) (by rw [e_k]; rfl) (by decide) ?_
      exact law_9 (NX := J) hN hj nx (hK.2.2.2.2.2.2.2.2.2.1 _ τ hJ)
    · refine v_tabIn (off := 495) (tgt := 528) dL_law_33 (fun q => c2 (Or.inl q)) (fun q => c2 (Or.inr q)) (by rw [e_k]; rfl) (by decide) ?_
      exact law_10 (NX := J) hN hj nx (hK.2.2.2.2.2.2.2.2.2.2.1 _ _ τ hJ)
    · refine v_tabIn (off := 558) (tgt := 591) dL_law_33 (fun q => c2 (Or.inl q)) (fun q => c2 (Or.inr q)) (by rw [e_k]; rfl) (by decide) ?_
      exact law_11 (NX := J) hN hj nx (hK.2.2.2.2.2.2.2.2.2.2.2.1 _ _ τ hJ)
    · refine v_tabIn (off := 591) (tgt := 624) dL_law_33 (fun q => c2 (Or.inl q)) (fun q => c2 (Or.inr q)) (by rw [e_k]; rfl) (by decide) ?_
      exact law_12 (NX := J) hN hj nx (hK.2.2.2.2.2.2.2.2.2.2.2.2.1 _ _ τ hJ)
    · refine v_tabIn (off := 624) (tgt := 657) dL_law_33 (fun q => c2 (Or.inl q)) (fun q => c2 (Or.inr q)) (by rw [e_k]; rfl) (by decide) ?_
      exact law_13 (NX := J) hN hj nx (hK.2.2.2.2.2.2.2.2.2.2.2.2.2.1 _ τ hJ)
    · refine v_tabIn (off := 647) (tgt := 680) dL_law_33 (fun q => c2 (Or.inl q)) (fun q => c2 (Or.inr q)) (by rw [e_k]; rfl) (by decide) ?_
      exact law_14 (NX := J) hN hj nx (hK.2.2.2.2.2.2.2.2.2.2.2.2.2.2.1 _ _ τ hJ)
    · refine v_tabIn (off := 680) (tgt := 713) dL_law_33 (fun q => c2 (Or.inl q)) (fun q => c2 (Or.inr q)) (by rw [e_k]; rfl) (by decide) ?_
      exact law_15 (NX := J) hN hj nx (hK.2.2.2.2.2.2.2.2.2.2.2.2.2.2.2.1 _ _ τ hJ)
    · refine v_tabIn (off := 713) (tgt := 746) dL_law_33 (fun q => c2 (Or.inl q)) (fun q => c2 (Or.inr q)) (by rw [e_k]; rfl) (by decide) ?_
      exact law_16 (NX := J) hN hj nx (hK.2.2.2.2.2.2.2.2.2.2.2.2.2.2.2.2.1 _ _ τ hJ)
    · refine v_tabIn (off := 746) (tgt := 779) dL_law_33 (fun q => c2 (Or.inl q)) (fun q => c2 (Or.inr q)) (by rw [e_k]; rfl) (by decide) ?_
      exact law_17 (NX := J) hN hj nx (hK.2.2.2.2.2.2.2.2.2.2.2.2.2.2.2.2.2.1  τ hJ)
    · refine v_tabIn (off := 759) (tgt := 792) dL_law_33 (fun q => c2 (Or.inl q)) (fun q => c2 (Or.inr q)) (by rw [e_k]; rfl) (by decide) ?_
      exact law_18 (NX := J) hN hj nx (hK.2.2.2.2.2.2.2.2.2.2.2.2.2.2.2.2.2.2.1 _ _ τ hJ)
    · refine v_tabIn (off := 792) (tgt := 825) dL_law_33 (fun q => c2 (Or.inl q)) (fun q => c2 (Or.inr q)) (by rw [e_k]; rfl) (by decide) ?_
      exact law_19 (NX := J) hN hj nx (hK.2.2.2.2.2.2.2.2.2.2.2.2.2.2.2.2.2.2.2.1 _ _ _ τ hJ)
    · refine v_tabIn (off := 835) (tgt := 868) dL_law_33 (fun q => c2 (Or.inl q)) (fun q => c2 (Or.inr q)) (by rw [e_k]; rfl) (by decide) ?_
      exact law_20 (NX := J) hN hj nx (hK.2.2.2.2.2.2.2.2.2.2.2.2.2.2.2.2.2.2.2.2.1 _ _ τ hJ)
    · refine v_tabIn (off := 868) (tgt := 901) dL_law_33 (fun q => c2 (Or.inl q)) (fun q => c2 (Or.inr q)) (by rw [e_k]; rfl) (by decide) ?_
      exact law_21 (NX := J) hN hj nx (hK.2.2.2.2.2.2.2.2.2.2.2.2.2.2.2.2.2.2.2.2.2.1  τ hJ)
    · refine v_tabIn (off := 881) (tgt := 914) dL_law_33 (fun q => c2 (Or.inl q)) (fun q => c2 (Or.inr q)) (by rw [e_k]; rfl) (by decide) ?_
      exact law_22 (NX := J) hN hj nx (hK.2.2.2.2.2.2.2.2.2.2.2.2.2.2.2.2.2.2.2.2.2.2.1 _ _ τ hJ)
    · refine v_tabIn (off := 914) (tgt := 947) dL_law_33 (fun q => c2 (Or.inl q)) (fun q => c2 (Or.inr q)) (by rw [e_k]; rfl) (by decide) ?_
      exact law_23 (NX := J) hN hj nx (hK.2.2.2.2.2.2.2.2.2.2.2.2.2.2.2.2.2.2.2.2.2.2.2.1  τ hJ)
    · refine v_tabIn (off := 927) (tgt := 960) dL_law_33 (fun q => c2 (Or.inl q)) (fun q => c2 (Or.inr q)) (by rw [e_k]; rfl) (by decide) ?_
      exact law_24 (NX := J) hN hj nx (hK.2.2.2.2.2.2.2.2.2.2.2.2.2.2.2.2.2.2.2.2.2.2.2.2.1 _ _ τ hJ)
    · refine v_tabIn (off := 960) (tgt := 993) dL_law_33 (fun q => c2 (Or.inl q)) (fun q => c2 (Or.inr q)) (by rw [e_k]; rfl) (by decide) ?_
      exact law_25 (NX := J) hN hj nx (hK.2.2.2.2.2.2.2.2.2.2.2.2.2.2.2.2.2.2.2.2.2.2.2.2.2.1 _ τ hJ)
    · refine v_tabIn (off := 983) (tgt := 1016) dL_law_33 (fun q => c2 (Or.inl q)) (fun q => c2 (Or.inr q)) (by rw [e_k]; rfl) (by decide) ?_
      exact law_26 (NX := J) hN hj nx (hK.2.2.2.2.2.2.2.2.2.2.2.2.2.2.2.2.2.2.2.2.2.2.2.2.2.2.1 _ τ hJ)
    · refine v_tabIn (off := 1006) (tgt := 1039) dL_law_33 (fun q => c2 (Or.inl q)) (fun q => c2 (Or.inr q)) (by rw [e_k]; rfl) (by decide) ?_
      exact law_27 (NX := J) hN hj nx (hK.2.2.2.2.2.2.2.2.2.2.2.2.2.2.2.2.2.2.2.2.2.2.2.2.2.2.2.1 _ τ hJ)
    · refine v_tabIn (off := 1029) (tgt := 1062) dL_law_33 (fun q => c2 (Or.inl q)) (fun q => c2 (Or.inr q)) (by rw [e_k]; rfl) (by decide) ?_
      exact law_28 (NX := J) hN hj nx (hK.2.2.2.2.2.2.2.2.2.2.2.2.2.2.2.2.2.2.2.2.2.2.2.2.2.2.2.2.1 _ τ hJ)
    · refine v_tabIn (off := 1052) (tgt := 1085) dL_law_33 (fun q => c2 (Or.inl q)) (fun q => c2 (Or.inr q)) (by rw [e_k]; rfl) (by decide) ?_
      exact law_29 (NX := J) hN hj nx (hK.2.2.2.2.2.2.2.2.2.2.2.2.2.2.2.2.2.2.2.2.2.2.2.2.2.2.2.2.2.1 _ _ _ τ hJ)
    · refine v_tabIn (off := 1095) (tgt := 1128) dL_law_33 (fun q => c2 (Or.inl q)) (fun q => c2 (Or.inr q)) (by rw [e_k]; rfl) (by decide) ?_
      exact law_30 (NX := J) hN hj nx (hK.2.2.2.2.2.2.2.2.2.2.2.2.2.2.2.2.2.2.2.2.2.2.2.2.2.2.2.2.2.2.1 _ _ _ _ τ hJ)
    · refine v_tabIn (off := 1148) (tgt := 1181) dL_law_33 (fun q => c2 (Or.inl q)) (fun q => c2 (Or.inr q)) (by rw [e_k]; rfl) (by decide) ?_
      exact law_31 (NX := J) hN hj nx (hK.2.2.2.2.2.2.2.2.2.2.2.2.2.2.2.2.2.2.2.2.2.2.2.2.2.2.2.2.2.2.2.1 _ _ _ _ _ τ hJ)
    · refine v_tabIn (off := 1211) (tgt := 1244) dL_law_33 (fun q => c2 (Or.inl q)) (fun q => c2 (Or.inr q)) (by rw [e_k]; rfl) (by decide) ?_
      exact law_32 (NX := J) hN hj nx (hK.2.2.2.2.2.2.2.2.2.2.2.2.2.2.2.2.2.2.2.2.2.2.2.2.2.2.2.2.2.2.2.2.1  τ hJ)
    · refine v_tabIn (off := 1224) (tgt := 1257) dL_law_33 (fun q => c2 (Or.inl q)) (fun q => c2 (Or.inr q)) (by rw [e_k]; rfl) (by decide) ?_
      exact law_33 (NX := J) hN hj nx (hK.2.2.2.2.2.2.2.2.2.2.2.2.2.2.2.2.2.2.2.2.2.2.2.2.2.2.2.2.2.2.2.2.2.1 _ _ _ τ hJ)
    · refine v_tabIn (off := 1268) (tgt := 1301) dL_law_33 (fun q => c2 (Or.inl q)) (fun q => c2 (Or.inr q)) (by rw [e_k]; rfl) (by decide) ?_
      exact law_34 (NX := J) hN hj nx (hK.2.2.2.2.2.2.2.2.2.2.2.2.2.2.2.2.2.2.2.2.2.2.2.2.2.2.2.2.2.2.2.2.2.2.1 _ τ hJ)
    · refine v_tabIn (off := 1291) (tgt := 1324) dL_law_33 (fun q => c2 (Or.inl q)) (fun q => c2 (Or.inr q)) (by rw [e_k]; rfl) (by decide) ?_
      exact law_35 (NX := J) hN hj nx (hK.2.2.2.2.2.2.2.2.2.2.2.2.2.2.2.2.2.2.2.2.2.2.2.2.2.2.2.2.2.2.2.2.2.2.2.1 _ τ hJ)
    · refine v_tabIn (off := 1314) (tgt := 1347) dL_law_33 (fun q => c2 (Or.inl q)) (fun q => c2 (Or.inr q)) (by rw [e_k]; rfl) (by decide) ?_
      exact law_36 (NX := J) hN hj nx (hK.2.2.2.2.2.2.2.2.2.2.2.2.2.2.2.2.2.2.2.2.2.2.2.2.2.2.2.2.2.2.2.2.2.2.2.2.1 _ τ hJ)
    · refine v_tabIn (off := 1337) (tgt := 1370) dL_law_33 (fun q => c2 (Or.inl q)) (fun q => c2 (Or.inr q)) (by rw [e_k]; rfl) (by decide) ?_
      exact law_37 (NX := J) hN hj nx (hK.2.2.2.2.2.2.2.2.2.2.2.2.2.2.2.2.2.2.2.2.2.2.2.2.2.2.2.2.2.2.2.2.2.2.2.2.2.1 τ hJ)
    · refine v_tabIn (off := 1350) (tgt := 1383) dL_law_33 (fun q => c2 (Or.inl q)) (fun q => c2 (Or.inr q)) (by rw [e_k]; rfl) (by decide) ?_
      exact law_38 (NX := J) hN hj nx (hK.2.2.2.2.2.2.2.2.2.2.2.2.2.2.2.2.2.2.2.2.2.2.2.2.2.2.2.2.2.2.2.2.2.2.2.2.2.2.1  τ hJ)
    · refine v_tabIn (off := 1363) (tgt := 1396) dL_law_33 (fun q => c2 (Or.inl q)) (fun q => c2 (Or.inr q)) (by rw [e_k]; rfl) (by decide) ?_
      exact law_39 (NX := J) hN hj nx (hK.2.2.2.2.2.2.2.2.2.2.2.2.2.2.2.2.2.2.2.2.2.2.2.2.2.2.2.2.2.2.2.2.2.2.2.2.2.2.2.1 _ τ hJ)
    · refine v_tabIn (off := 1386) (tgt := 1419) dL_law_33 (fun q => c2 (Or.inl q)) (fun q => c2 (Or.inr q)) (by rw [e_k]; rfl) (by decide) ?_
      exact law_40 (NX := J) hN hj nx (hK.2.2.2.2.2.2.2.2.2.2.2.2.2.2.2.2.2.2.2.2.2.2.2.2.2.2.2.2.2.2.2.2.2.2.2.2.2.2.2.2 _ τ hJ)

