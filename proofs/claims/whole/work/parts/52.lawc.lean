/-! the law, call by call: where class and reference answer alike, it goes on -/
theorem lc_0 {kc ks : Nat} {L : Nat} {xs : Nat → Int32} {Q : Option Value → jPS → Prop} {i : Int32} {σ : jM} {a1 : Int32} {r : Int32} {σ1 σ2 : jM} (hx1 : vp_in (i + 1) L ∧ xs (i + 1).toNatClampNeg = a1) (h1 : f_X12_day a1 σ = some (r, σ1)) (h2 : f_X13_day a1 σ1 = some (r, σ2)) (K : JX mi_L_law 20 kc ks (jYL L xs) (fun _ _ _ _ => False) Q 1639 (lsL i) [] (ms σ2)) : JX mi_L_law 20 kc ks (jYL L xs) (fun _ _ _ _ => False) Q 200 (lsL i) [] (ms σ) := by
  refine JX_aload_n 1 dL_law_200 rfl ?_
  refine JX_aload_n 0 dL_law_201 rfl ?_
  refine JX_iload 4 dL_law_202 rfl ?_
  refine JX_iconst (v := 1) dL_law_204 (by decide) ?_
  refine JX_iadd dL_law_205 ?_
  refine JX_sld dL_law_206 hx1.1 hx1.2 ?_
  refine MX_callVI (d' := 1) (k := 0) (As := [.int a1]) (st := []) cv_L_19 dL_law_207 rfl (by decide) rfl (Nat.le_of_ble_eq_true rfl) (Nat.le_of_ble_eq_true rfl) (by decide) n_0 k_0 rfl rfl (t_X12_day h1) ?_
  refine JX_aload_n 2 dL_law_210 rfl ?_
  refine JX_aload_n 0 dL_law_211 rfl ?_
  refine JX_iload 4 dL_law_212 rfl ?_
  refine JX_iconst (v := 1) dL_law_214 (by decide) ?_
  refine JX_iadd dL_law_215 ?_
  refine JX_sld dL_law_216 hx1.1 hx1.2 ?_
  refine MX_callVI (d' := 2) (k := 324) (As := [.int a1]) (st := [.int r]) cv_L_23 dL_law_217 rfl (by decide) rfl (Nat.le_of_ble_eq_true rfl) (Nat.le_of_ble_eq_true rfl) (by decide) n_324 k_324 rfl rfl (t_X13_day h2) ?_
  refine JX_icmp_eq (tgt := 1639) dL_law_220 (by decide) (fun _ => K) (fun z => absurd rfl z)
theorem lc_1 {kc ks : Nat} {L : Nat} {xs : Nat → Int32} {Q : Option Value → jPS → Prop} {i : Int32} {σ : jM} {a1 a2 a3 a4 a5 : Int32} {r : Int32} {σ1 σ2 : jM} (hx1 : vp_in (i + 1) L ∧ xs (i + 1).toNatClampNeg = a1) (hx2 : vp_in (i + 2) L ∧ xs (i + 2).toNatClampNeg = a2) (hx3 : vp_in (i + 3) L ∧ xs (i + 3).toNatClampNeg = a3) (hx4 : vp_in (i + 4) L ∧ xs (i + 4).toNatClampNeg = a4) (hx5 : vp_in (i + 5) L ∧ xs (i + 5).toNatClampNeg = a5) (h1 : f_X12_feed a1 a2 a3 a4 a5 σ = some (r, σ1)) (h2 : f_X13_feed a1 a2 a3 a4 a5 σ1 = some (r, σ2)) (K : JX mi_L_law 20 kc ks (jYL L xs) (fun _ _ _ _ => False) Q 1639 (lsL i) [] (ms σ2)) : JX mi_L_law 20 kc ks (jYL L xs) (fun _ _ _ _ => False) Q 225 (lsL i) [] (ms σ) := by
  refine JX_aload_n 1 dL_law_225 rfl ?_
  refine JX_aload_n 0 dL_law_226 rfl ?_
  refine JX_iload 4 dL_law_227 rfl ?_
  refine JX_iconst (v := 1) dL_law_229 (by decide) ?_
  refine JX_iadd dL_law_230 ?_
  refine JX_sld dL_law_231 hx1.1 hx1.2 ?_
  refine JX_aload_n 0 dL_law_232 rfl ?_
  refine JX_iload 4 dL_law_233 rfl ?_
  refine JX_iconst (v := 2) dL_law_235 (by decide) ?_
  refine JX_iadd dL_law_236 ?_
  refine JX_sld dL_law_237 hx2.1 hx2.2 ?_
  refine JX_aload_n 0 dL_law_238 rfl ?_
  refine JX_iload 4 dL_law_239 rfl ?_
  refine JX_iconst (v := 3) dL_law_241 (by decide) ?_
  refine JX_iadd dL_law_242 ?_
  refine JX_sld dL_law_243 hx3.1 hx3.2 ?_
  refine JX_aload_n 0 dL_law_244 rfl ?_
  refine JX_iload 4 dL_law_245 rfl ?_
  refine JX_iconst (v := 4) dL_law_247 (by decide) ?_
  refine JX_iadd dL_law_248 ?_
  refine JX_sld dL_law_249 hx4.1 hx4.2 ?_
  refine JX_aload_n 0 dL_law_250 rfl ?_
  refine JX_iload 4 dL_law_251 rfl ?_
  refine JX_iconst (v := 5) dL_law_253 (by decide) ?_
  refine JX_iadd dL_law_254 ?_
  refine JX_sld dL_law_255 hx5.1 hx5.2 ?_
  refine MX_callVI (d' := 2) (k := 0) (As := [.int a1, .int a2, .int a3, .int a4, .int a5]) (st := []) cv_L_24 dL_law_256 rfl (by decide) rfl (Nat.le_of_ble_eq_true rfl) (Nat.le_of_ble_eq_true rfl) (by decide) n_0 k_0 rfl rfl (t_X12_feed h1) ?_
  refine JX_aload_n 2 dL_law_259 rfl ?_
  refine JX_aload_n 0 dL_law_260 rfl ?_
  refine JX_iload 4 dL_law_261 rfl ?_
  refine JX_iconst (v := 1) dL_law_263 (by decide) ?_
  refine JX_iadd dL_law_264 ?_
  refine JX_sld dL_law_265 hx1.1 hx1.2 ?_
  refine JX_aload_n 0 dL_law_266 rfl ?_
  refine JX_iload 4 dL_law_267 rfl ?_
  refine JX_iconst (v := 2) dL_law_269 (by decide) ?_
  refine JX_iadd dL_law_270 ?_
  refine JX_sld dL_law_271 hx2.1 hx2.2 ?_
  refine JX_aload_n 0 dL_law_272 rfl ?_
  refine JX_iload 4 dL_law_273 rfl ?_
  refine JX_iconst (v := 3) dL_law_275 (by decide) ?_
  refine JX_iadd dL_law_276 ?_
  refine JX_sld dL_law_277 hx3.1 hx3.2 ?_
  refine JX_aload_n 0 dL_law_278 rfl ?_
  refine JX_iload 4 dL_law_279 rfl ?_
  refine JX_iconst (v := 4) dL_law_281 (by decide) ?_
  refine JX_iadd dL_law_282 ?_
  refine JX_sld dL_law_283 hx4.1 hx4.2 ?_
  refine JX_aload_n 0 dL_law_284 rfl ?_
  refine JX_iload 4 dL_law_285 rfl ?_
  refine JX_iconst (v := 5) dL_law_287 (by decide) ?_
  refine JX_iadd dL_law_288 ?_
  refine JX_sld dL_law_289 hx5.1 hx5.2 ?_
  refine MX_callVI (d' := 1) (k := 324) (As := [.int a1, .int a2, .int a3, .int a4, .int a5]) (st := [.int r]) cv_L_28 dL_law_290 rfl (by decide) rfl (Nat.le_of_ble_eq_true rfl) (Nat.le_of_ble_eq_true rfl) (by decide) n_324 k_324 rfl rfl (t_X13_feed h2) ?_
  refine JX_icmp_eq (tgt := 1639) dL_law_293 (by decide) (fun _ => K) (fun z => absurd rfl z)
theorem lc_2 {kc ks : Nat} {L : Nat} {xs : Nat → Int32} {Q : Option Value → jPS → Prop} {i : Int32} {σ : jM} {a1 : Int32} {r : Int32} {σ1 σ2 : jM} (hx1 : vp_in (i + 1) L ∧ xs (i + 1).toNatClampNeg = a1) (h1 : f_X12_end a1 σ = some (r, σ1)) (h2 : f_X13_end a1 σ1 = some (r, σ2)) (K : JX mi_L_law 20 kc ks (jYL L xs) (fun _ _ _ _ => False) Q 1639 (lsL i) [] (ms σ2)) : JX mi_L_law 20 kc ks (jYL L xs) (fun _ _ _ _ => False) Q 298 (lsL i) [] (ms σ) := by
  refine JX_aload_n 1 dL_law_298 rfl ?_
  refine JX_aload_n 0 dL_law_299 rfl ?_
  refine JX_iload 4 dL_law_300 rfl ?_
  refine JX_iconst (v := 1) dL_law_302 (by decide) ?_
  refine JX_iadd dL_law_303 ?_
  refine JX_sld dL_law_304 hx1.1 hx1.2 ?_
  refine MX_callVI (d' := 1) (k := 0) (As := [.int a1]) (st := []) cv_L_29 dL_law_305 rfl (by decide) rfl (Nat.le_of_ble_eq_true rfl) (Nat.le_of_ble_eq_true rfl) (by decide) n_0 k_0 rfl rfl (t_X12_end h1) ?_
  refine JX_aload_n 2 dL_law_308 rfl ?_
  refine JX_aload_n 0 dL_law_309 rfl ?_
  refine JX_iload 4 dL_law_310 rfl ?_
  refine JX_iconst (v := 1) dL_law_312 (by decide) ?_
  refine JX_iadd dL_law_313 ?_
  refine JX_sld dL_law_314 hx1.1 hx1.2 ?_
  refine MX_callVI (d' := 1) (k := 324) (As := [.int a1]) (st := [.int r]) cv_L_32 dL_law_315 rfl (by decide) rfl (Nat.le_of_ble_eq_true rfl) (Nat.le_of_ble_eq_true rfl) (by decide) n_324 k_324 rfl rfl (t_X13_end h2) ?_
  refine JX_icmp_eq (tgt := 1639) dL_law_318 (by decide) (fun _ => K) (fun z => absurd rfl z)
theorem lc_3 {kc ks : Nat} {L : Nat} {xs : Nat → Int32} {Q : Option Value → jPS → Prop} {i : Int32} {σ : jM} {r : Int32} {σ1 σ2 : jM} (h1 : f_X12_tablet σ = some (r, σ1)) (h2 : f_X13_tablet σ1 = some (r, σ2)) (K : JX mi_L_law 20 kc ks (jYL L xs) (fun _ _ _ _ => False) Q 1639 (lsL i) [] (ms σ2)) : JX mi_L_law 20 kc ks (jYL L xs) (fun _ _ _ _ => False) Q 323 (lsL i) [] (ms σ) := by
  refine JX_aload_n 1 dL_law_323 rfl ?_
  refine MX_callVI (d' := 6) (k := 0) (As := []) (st := []) cv_L_33 dL_law_324 rfl (by decide) rfl (Nat.le_of_ble_eq_true rfl) (Nat.le_of_ble_eq_true rfl) (by decide) n_0 k_0 rfl rfl (t_X12_tablet h1) ?_
  refine JX_aload_n 2 dL_law_327 rfl ?_
  refine MX_callVI (d' := 5) (k := 324) (As := []) (st := [.int r]) cv_L_37 dL_law_328 rfl (by decide) rfl (Nat.le_of_ble_eq_true rfl) (Nat.le_of_ble_eq_true rfl) (by decide) n_324 k_324 rfl rfl (t_X13_tablet h2) ?_
  refine JX_icmp_eq (tgt := 1639) dL_law_331 (by decide) (fun _ => K) (fun z => absurd rfl z)
theorem lc_4 {kc ks : Nat} {L : Nat} {xs : Nat → Int32} {Q : Option Value → jPS → Prop} {i : Int32} {σ : jM} {r : Int32} {σ1 σ2 : jM} (h1 : f_X12_rules σ = some (r, σ1)) (h2 : f_X13_rules σ1 = some (r, σ2)) (K : JX mi_L_law 20 kc ks (jYL L xs) (fun _ _ _ _ => False) Q 1639 (lsL i) [] (ms σ2)) : JX mi_L_law 20 kc ks (jYL L xs) (fun _ _ _ _ => False) Q 336 (lsL i) [] (ms σ) := by
  refine JX_aload_n 1 dL_law_336 rfl ?_
  refine MX_callVI (d' := 11) (k := 0) (As := []) (st := []) cv_L_38 dL_law_337 rfl (by decide) rfl (Nat.le_of_ble_eq_true rfl) (Nat.le_of_ble_eq_true rfl) (by decide) n_0 k_0 rfl rfl (t_X12_rules h1) ?_
  refine JX_aload_n 2 dL_law_340 rfl ?_
  refine MX_callVI (d' := 8) (k := 324) (As := []) (st := [.int r]) cv_L_41 dL_law_341 rfl (by decide) rfl (Nat.le_of_ble_eq_true rfl) (Nat.le_of_ble_eq_true rfl) (by decide) n_324 k_324 rfl rfl (t_X13_rules h2) ?_
  refine JX_icmp_eq (tgt := 1639) dL_law_344 (by decide) (fun _ => K) (fun z => absurd rfl z)
theorem lc_5 {kc ks : Nat} {L : Nat} {xs : Nat → Int32} {Q : Option Value → jPS → Prop} {i : Int32} {σ : jM} {r : Int32} {σ1 σ2 : jM} (h1 : f_X12_place σ = some (r, σ1)) (h2 : f_X13_place σ1 = some (r, σ2)) (K : JX mi_L_law 20 kc ks (jYL L xs) (fun _ _ _ _ => False) Q 1639 (lsL i) [] (ms σ2)) : JX mi_L_law 20 kc ks (jYL L xs) (fun _ _ _ _ => False) Q 349 (lsL i) [] (ms σ) := by
  refine JX_aload_n 1 dL_law_349 rfl ?_
  refine MX_callVI (d' := 1) (k := 0) (As := []) (st := []) cv_L_42 dL_law_350 rfl (by decide) rfl (Nat.le_of_ble_eq_true rfl) (Nat.le_of_ble_eq_true rfl) (by decide) n_0 k_0 rfl rfl (t_X12_place h1) ?_
  refine JX_aload_n 2 dL_law_353 rfl ?_
  refine MX_callVI (d' := 1) (k := 324) (As := []) (st := [.int r]) cv_L_45 dL_law_354 rfl (by decide) rfl (Nat.le_of_ble_eq_true rfl) (Nat.le_of_ble_eq_true rfl) (by decide) n_324 k_324 rfl rfl (t_X13_place h2) ?_
  refine JX_icmp_eq (tgt := 1639) dL_law_357 (by decide) (fun _ => K) (fun z => absurd rfl z)
theorem lc_6 {kc ks : Nat} {L : Nat} {xs : Nat → Int32} {Q : Option Value → jPS → Prop} {i : Int32} {σ : jM} {a1 a2 : Int32} {r : Int32} {σ1 σ2 : jM} (hx1 : vp_in (i + 1) L ∧ xs (i + 1).toNatClampNeg = a1) (hx2 : vp_in (i + 2) L ∧ xs (i + 2).toNatClampNeg = a2) (h1 : f_X12_away a1 a2 σ = some (r, σ1)) (h2 : f_X13_away a1 a2 σ1 = some (r, σ2)) (K : JX mi_L_law 20 kc ks (jYL L xs) (fun _ _ _ _ => False) Q 1639 (lsL i) [] (ms σ2)) : JX mi_L_law 20 kc ks (jYL L xs) (fun _ _ _ _ => False) Q 362 (lsL i) [] (ms σ) := by
  refine JX_aload_n 1 dL_law_362 rfl ?_
  refine JX_aload_n 0 dL_law_363 rfl ?_
  refine JX_iload 4 dL_law_364 rfl ?_
  refine JX_iconst (v := 1) dL_law_366 (by decide) ?_
  refine JX_iadd dL_law_367 ?_
  refine JX_sld dL_law_368 hx1.1 hx1.2 ?_
  refine JX_aload_n 0 dL_law_369 rfl ?_
  refine JX_iload 4 dL_law_370 rfl ?_
  refine JX_iconst (v := 2) dL_law_372 (by decide) ?_
  refine JX_iadd dL_law_373 ?_
  refine JX_sld dL_law_374 hx2.1 hx2.2 ?_
  refine MX_callVI (d' := 2) (k := 0) (As := [.int a1, .int a2]) (st := []) cv_L_46 dL_law_375 rfl (by decide) rfl (Nat.le_of_ble_eq_true rfl) (Nat.le_of_ble_eq_true rfl) (by decide) n_0 k_0 rfl rfl (t_X12_away h1) ?_
  refine JX_aload_n 2 dL_law_378 rfl ?_
  refine JX_aload_n 0 dL_law_379 rfl ?_
  refine JX_iload 4 dL_law_380 rfl ?_
  refine JX_iconst (v := 1) dL_law_382 (by decide) ?_
  refine JX_iadd dL_law_383 ?_
  refine JX_sld dL_law_384 hx1.1 hx1.2 ?_
  refine JX_aload_n 0 dL_law_385 rfl ?_
  refine JX_iload 4 dL_law_386 rfl ?_
  refine JX_iconst (v := 2) dL_law_388 (by decide) ?_
  refine JX_iadd dL_law_389 ?_
  refine JX_sld dL_law_390 hx2.1 hx2.2 ?_
  refine MX_callVI (d' := 2) (k := 324) (As := [.int a1, .int a2]) (st := [.int r]) cv_L_50 dL_law_391 rfl (by decide) rfl (Nat.le_of_ble_eq_true rfl) (Nat.le_of_ble_eq_true rfl) (by decide) n_324 k_324 rfl rfl (t_X13_away h2) ?_
  refine JX_icmp_eq (tgt := 1639) dL_law_394 (by decide) (fun _ => K) (fun z => absurd rfl z)
theorem lc_7 {kc ks : Nat} {L : Nat} {xs : Nat → Int32} {Q : Option Value → jPS → Prop} {i : Int32} {σ : jM} {a1 a2 : Int32} {r : Int32} {σ1 σ2 : jM} (hx1 : vp_in (i + 1) L ∧ xs (i + 1).toNatClampNeg = a1) (hx2 : vp_in (i + 2) L ∧ xs (i + 2).toNatClampNeg = a2) (h1 : f_X12_trust a1 a2 σ = some (r, σ1)) (h2 : f_X13_trust a1 a2 σ1 = some (r, σ2)) (K : JX mi_L_law 20 kc ks (jYL L xs) (fun _ _ _ _ => False) Q 1639 (lsL i) [] (ms σ2)) : JX mi_L_law 20 kc ks (jYL L xs) (fun _ _ _ _ => False) Q 399 (lsL i) [] (ms σ) := by
  refine JX_aload_n 1 dL_law_399 rfl ?_
  refine JX_aload_n 0 dL_law_400 rfl ?_
  refine JX_iload 4 dL_law_401 rfl ?_
  refine JX_iconst (v := 1) dL_law_403 (by decide) ?_
  refine JX_iadd dL_law_404 ?_
  refine JX_sld dL_law_405 hx1.1 hx1.2 ?_
  refine JX_aload_n 0 dL_law_406 rfl ?_
  refine JX_iload 4 dL_law_407 rfl ?_
  refine JX_iconst (v := 2) dL_law_409 (by decide) ?_
  refine JX_iadd dL_law_410 ?_
  refine JX_sld dL_law_411 hx2.1 hx2.2 ?_
  refine MX_callVI (d' := 2) (k := 0) (As := [.int a1, .int a2]) (st := []) cv_L_51 dL_law_412 rfl (by decide) rfl (Nat.le_of_ble_eq_true rfl) (Nat.le_of_ble_eq_true rfl) (by decide) n_0 k_0 rfl rfl (t_X12_trust h1) ?_
  refine JX_aload_n 2 dL_law_415 rfl ?_
  refine JX_aload_n 0 dL_law_416 rfl ?_
  refine JX_iload 4 dL_law_417 rfl ?_
  refine JX_iconst (v := 1) dL_law_419 (by decide) ?_
  refine JX_iadd dL_law_420 ?_
  refine JX_sld dL_law_421 hx1.1 hx1.2 ?_
  refine JX_aload_n 0 dL_law_422 rfl ?_
  refine JX_iload 4 dL_law_423 rfl ?_
  refine JX_iconst (v := 2) dL_law_425 (by decide) ?_
  refine JX_iadd dL_law_426 ?_
  refine JX_sld dL_law_427 hx2.1 hx2.2 ?_
  refine MX_callVI (d' := 2) (k := 324) (As := [.int a1, .int a2]) (st := [.int r]) cv_L_54 dL_law_428 rfl (by decide) rfl (Nat.le_of_ble_eq_true rfl) (Nat.le_of_ble_eq_true rfl) (by decide) n_324 k_324 rfl rfl (t_X13_trust h2) ?_
  refine JX_icmp_eq (tgt := 1639) dL_law_431 (by decide) (fun _ => K) (fun z => absurd rfl z)
theorem lc_8 {kc ks : Nat} {L : Nat} {xs : Nat → Int32} {Q : Option Value → jPS → Prop} {i : Int32} {σ : jM} {a1 a2 a3 a4 : Int32} {r : Int32} {σ1 σ2 : jM} (hx1 : vp_in (i + 1) L ∧ xs (i + 1).toNatClampNeg = a1) (hx2 : vp_in (i + 2) L ∧ xs (i + 2).toNatClampNeg = a2) (hx3 : vp_in (i + 3) L ∧ xs (i + 3).toNatClampNeg = a3) (hx4 : vp_in (i + 4) L ∧ xs (i + 4).toNatClampNeg = a4) (h1 : f_X12_holds a1 a2 a3 a4 σ = some (r, σ1)) (h2 : f_X13_holds a1 a2 a3 a4 σ1 = some (r, σ2)) (K : JX mi_L_law 20 kc ks (jYL L xs) (fun _ _ _ _ => False) Q 1639 (lsL i) [] (ms σ2)) : JX mi_L_law 20 kc ks (jYL L xs) (fun _ _ _ _ => False) Q 436 (lsL i) [] (ms σ) := by
  refine JX_aload_n 1 dL_law_436 rfl ?_
  refine JX_aload_n 0 dL_law_437 rfl ?_
  refine JX_iload 4 dL_law_438 rfl ?_
  refine JX_iconst (v := 1) dL_law_440 (by decide) ?_
  refine JX_iadd dL_law_441 ?_
  refine JX_sld dL_law_442 hx1.1 hx1.2 ?_
  refine JX_aload_n 0 dL_law_443 rfl ?_
  refine JX_iload 4 dL_law_444 rfl ?_
  refine JX_iconst (v := 2) dL_law_446 (by decide) ?_
  refine JX_iadd dL_law_447 ?_
  refine JX_sld dL_law_448 hx2.1 hx2.2 ?_
  refine JX_aload_n 0 dL_law_449 rfl ?_
  refine JX_iload 4 dL_law_450 rfl ?_
  refine JX_iconst (v := 3) dL_law_452 (by decide) ?_
  refine JX_iadd dL_law_453 ?_
  refine JX_sld dL_law_454 hx3.1 hx3.2 ?_
  refine JX_aload_n 0 dL_law_455 rfl ?_
  refine JX_iload 4 dL_law_456 rfl ?_
  refine JX_iconst (v := 4) dL_law_458 (by decide) ?_
  refine JX_iadd dL_law_459 ?_
  refine JX_sld dL_law_460 hx4.1 hx4.2 ?_
  refine MX_callVI (d' := 3) (k := 0) (As := [.int a1, .int a2, .int a3, .int a4]) (st := []) cv_L_55 dL_law_461 rfl (by decide) rfl (Nat.le_of_ble_eq_true rfl) (Nat.le_of_ble_eq_true rfl) (by decide) n_0 k_0 rfl rfl (t_X12_holds h1) ?_
  refine JX_aload_n 2 dL_law_464 rfl ?_
  refine JX_aload_n 0 dL_law_465 rfl ?_
  refine JX_iload 4 dL_law_466 rfl ?_
  refine JX_iconst (v := 1) dL_law_468 (by decide) ?_
  refine JX_iadd dL_law_469 ?_
  refine JX_sld dL_law_470 hx1.1 hx1.2 ?_
  refine JX_aload_n 0 dL_law_471 rfl ?_
  refine JX_iload 4 dL_law_472 rfl ?_
  refine JX_iconst (v := 2) dL_law_474 (by decide) ?_
  refine JX_iadd dL_law_475 ?_
  refine JX_sld dL_law_476 hx2.1 hx2.2 ?_
  refine JX_aload_n 0 dL_law_477 rfl ?_
  refine JX_iload 4 dL_law_478 rfl ?_
  refine JX_iconst (v := 3) dL_law_480 (by decide) ?_
  refine JX_iadd dL_law_481 ?_
  refine JX_sld dL_law_482 hx3.1 hx3.2 ?_
  refine JX_aload_n 0 dL_law_483 rfl ?_
  refine JX_iload 4 dL_law_484 rfl ?_
  refine JX_iconst (v := 4) dL_law_486 (by decide) ?_
  refine JX_iadd dL_law_487 ?_
  refine JX_sld dL_law_488 hx4.1 hx4.2 ?_
  refine MX_callVI (d' := 2) (k := 324) (As := [.int a1, .int a2, .int a3, .int a4]) (st := [.int r]) cv_L_59 dL_law_489 rfl (by decide) rfl (Nat.le_of_ble_eq_true rfl) (Nat.le_of_ble_eq_true rfl) (by decide) n_324 k_324 rfl rfl (t_X13_holds h2) ?_
  refine JX_icmp_eq (tgt := 1639) dL_law_492 (by decide) (fun _ => K) (fun z => absurd rfl z)
theorem lc_9 {kc ks : Nat} {L : Nat} {xs : Nat → Int32} {Q : Option Value → jPS → Prop} {i : Int32} {σ : jM} {a1 a2 : Int32} {r : Int32} {σ1 σ2 : jM} (hx1 : vp_in (i + 1) L ∧ xs (i + 1).toNatClampNeg = a1) (hx2 : vp_in (i + 2) L ∧ xs (i + 2).toNatClampNeg = a2) (h1 : f_X12_sign a1 a2 σ = some (r, σ1)) (h2 : f_X13_sign a1 a2 σ1 = some (r, σ2)) (K : JX mi_L_law 20 kc ks (jYL L xs) (fun _ _ _ _ => False) Q 1639 (lsL i) [] (ms σ2)) : JX mi_L_law 20 kc ks (jYL L xs) (fun _ _ _ _ => False) Q 497 (lsL i) [] (ms σ) := by
  refine JX_aload_n 1 dL_law_497 rfl ?_
  refine JX_aload_n 0 dL_law_498 rfl ?_
  refine JX_iload 4 dL_law_499 rfl ?_
  refine JX_iconst (v := 1) dL_law_501 (by decide) ?_
  refine JX_iadd dL_law_502 ?_
  refine JX_sld dL_law_503 hx1.1 hx1.2 ?_
  refine JX_aload_n 0 dL_law_504 rfl ?_
  refine JX_iload 4 dL_law_505 rfl ?_
  refine JX_iconst (v := 2) dL_law_507 (by decide) ?_
  refine JX_iadd dL_law_508 ?_
  refine JX_sld dL_law_509 hx2.1 hx2.2 ?_
  refine MX_callVI (d' := 7) (k := 0) (As := [.int a1, .int a2]) (st := []) cv_L_60 dL_law_510 rfl (by decide) rfl (Nat.le_of_ble_eq_true rfl) (Nat.le_of_ble_eq_true rfl) (by decide) n_0 k_0 rfl rfl (t_X12_sign h1) ?_
  refine JX_aload_n 2 dL_law_513 rfl ?_
  refine JX_aload_n 0 dL_law_514 rfl ?_
  refine JX_iload 4 dL_law_515 rfl ?_
  refine JX_iconst (v := 1) dL_law_517 (by decide) ?_
  refine JX_iadd dL_law_518 ?_
  refine JX_sld dL_law_519 hx1.1 hx1.2 ?_
  refine JX_aload_n 0 dL_law_520 rfl ?_
  refine JX_iload 4 dL_law_521 rfl ?_
  refine JX_iconst (v := 2) dL_law_523 (by decide) ?_
  refine JX_iadd dL_law_524 ?_
  refine JX_sld dL_law_525 hx2.1 hx2.2 ?_
  refine MX_callVI (d' := 3) (k := 324) (As := [.int a1, .int a2]) (st := [.int r]) cv_L_64 dL_law_526 rfl (by decide) rfl (Nat.le_of_ble_eq_true rfl) (Nat.le_of_ble_eq_true rfl) (by decide) n_324 k_324 rfl rfl (t_X13_sign h2) ?_
  refine JX_icmp_eq (tgt := 1639) dL_law_529 (by decide) (fun _ => K) (fun z => absurd rfl z)
theorem lc_12 {kc ks : Nat} {L : Nat} {xs : Nat → Int32} {Q : Option Value → jPS → Prop} {i : Int32} {σ : jM} {a1 a2 a3 a4 : Int32} {r : Int32} {σ1 σ2 : jM} (hx1 : vp_in (i + 1) L ∧ xs (i + 1).toNatClampNeg = a1) (hx2 : vp_in (i + 2) L ∧ xs (i + 2).toNatClampNeg = a2) (hx3 : vp_in (i + 3) L ∧ xs (i + 3).toNatClampNeg = a3) (hx4 : vp_in (i + 4) L ∧ xs (i + 4).toNatClampNeg = a4) (h1 : f_X12_pairs a1 a2 a3 a4 σ = some (r, σ1)) (h2 : f_X13_pairs a1 a2 a3 a4 σ1 = some (r, σ2)) (K : JX mi_L_law 20 kc ks (jYL L xs) (fun _ _ _ _ => False) Q 1639 (lsL i) [] (ms σ2)) : JX mi_L_law 20 kc ks (jYL L xs) (fun _ _ _ _ => False) Q 691 (lsL i) [] (ms σ) := by
  refine JX_aload_n 1 dL_law_691 rfl ?_
  refine JX_aload_n 0 dL_law_692 rfl ?_
  refine JX_iload 4 dL_law_693 rfl ?_
  refine JX_iconst (v := 1) dL_law_695 (by decide) ?_
  refine JX_iadd dL_law_696 ?_
  refine JX_sld dL_law_697 hx1.1 hx1.2 ?_
  refine JX_aload_n 0 dL_law_698 rfl ?_
  refine JX_iload 4 dL_law_699 rfl ?_
  refine JX_iconst (v := 2) dL_law_701 (by decide) ?_
  refine JX_iadd dL_law_702 ?_
  refine JX_sld dL_law_703 hx2.1 hx2.2 ?_
  refine JX_aload_n 0 dL_law_704 rfl ?_
  refine JX_iload 4 dL_law_705 rfl ?_
  refine JX_iconst (v := 3) dL_law_707 (by decide) ?_
  refine JX_iadd dL_law_708 ?_
  refine JX_sld dL_law_709 hx3.1 hx3.2 ?_
  refine JX_aload_n 0 dL_law_710 rfl ?_
  refine JX_iload 4 dL_law_711 rfl ?_
  refine JX_iconst (v := 4) dL_law_713 (by decide) ?_
  refine JX_iadd dL_law_714 ?_
  refine JX_sld dL_law_715 hx4.1 hx4.2 ?_
  refine MX_callVI (d' := 8) (k := 0) (As := [.int a1, .int a2, .int a3, .int a4]) (st := []) cv_L_79 dL_law_716 rfl (by decide) rfl (Nat.le_of_ble_eq_true rfl) (Nat.le_of_ble_eq_true rfl) (by decide) n_0 k_0 rfl rfl (t_X12_pairs h1) ?_
  refine JX_aload_n 2 dL_law_719 rfl ?_
  refine JX_aload_n 0 dL_law_720 rfl ?_
  refine JX_iload 4 dL_law_721 rfl ?_
  refine JX_iconst (v := 1) dL_law_723 (by decide) ?_
  refine JX_iadd dL_law_724 ?_
  refine JX_sld dL_law_725 hx1.1 hx1.2 ?_
  refine JX_aload_n 0 dL_law_726 rfl ?_
  refine JX_iload 4 dL_law_727 rfl ?_
  refine JX_iconst (v := 2) dL_law_729 (by decide) ?_
  refine JX_iadd dL_law_730 ?_
  refine JX_sld dL_law_731 hx2.1 hx2.2 ?_
  refine JX_aload_n 0 dL_law_732 rfl ?_
  refine JX_iload 4 dL_law_733 rfl ?_
  refine JX_iconst (v := 3) dL_law_735 (by decide) ?_
  refine JX_iadd dL_law_736 ?_
  refine JX_sld dL_law_737 hx3.1 hx3.2 ?_
  refine JX_aload_n 0 dL_law_738 rfl ?_
  refine JX_iload 4 dL_law_739 rfl ?_
  refine JX_iconst (v := 4) dL_law_741 (by decide) ?_
  refine JX_iadd dL_law_742 ?_
  refine JX_sld dL_law_743 hx4.1 hx4.2 ?_
  refine MX_callVI (d' := 4) (k := 324) (As := [.int a1, .int a2, .int a3, .int a4]) (st := [.int r]) cv_L_83 dL_law_744 rfl (by decide) rfl (Nat.le_of_ble_eq_true rfl) (Nat.le_of_ble_eq_true rfl) (by decide) n_324 k_324 rfl rfl (t_X13_pairs h2) ?_
  refine JX_icmp_eq (tgt := 1639) dL_law_747 (by decide) (fun _ => K) (fun z => absurd rfl z)
theorem lc_13 {kc ks : Nat} {L : Nat} {xs : Nat → Int32} {Q : Option Value → jPS → Prop} {i : Int32} {σ : jM} {a1 a2 : Int32} {r : Int32} {σ1 σ2 : jM} (hx1 : vp_in (i + 1) L ∧ xs (i + 1).toNatClampNeg = a1) (hx2 : vp_in (i + 2) L ∧ xs (i + 2).toNatClampNeg = a2) (h1 : f_X12_links a1 a2 σ = some (r, σ1)) (h2 : f_X13_links_ a1 a2 σ1 = some (r, σ2)) (K : JX mi_L_law 20 kc ks (jYL L xs) (fun _ _ _ _ => False) Q 1639 (lsL i) [] (ms σ2)) : JX mi_L_law 20 kc ks (jYL L xs) (fun _ _ _ _ => False) Q 752 (lsL i) [] (ms σ) := by
  refine JX_aload_n 1 dL_law_752 rfl ?_
  refine JX_aload_n 0 dL_law_753 rfl ?_
  refine JX_iload 4 dL_law_754 rfl ?_
  refine JX_iconst (v := 1) dL_law_756 (by decide) ?_
  refine JX_iadd dL_law_757 ?_
  refine JX_sld dL_law_758 hx1.1 hx1.2 ?_
  refine JX_aload_n 0 dL_law_759 rfl ?_
  refine JX_iload 4 dL_law_760 rfl ?_
  refine JX_iconst (v := 2) dL_law_762 (by decide) ?_
  refine JX_iadd dL_law_763 ?_
  refine JX_sld dL_law_764 hx2.1 hx2.2 ?_
  refine MX_callVI (d' := 8) (k := 0) (As := [.int a1, .int a2]) (st := []) cv_L_84 dL_law_765 rfl (by decide) rfl (Nat.le_of_ble_eq_true rfl) (Nat.le_of_ble_eq_true rfl) (by decide) n_0 k_0 rfl rfl (t_X12_links h1) ?_
  refine JX_aload_n 2 dL_law_768 rfl ?_
  refine JX_aload_n 0 dL_law_769 rfl ?_
  refine JX_iload 4 dL_law_770 rfl ?_
  refine JX_iconst (v := 1) dL_law_772 (by decide) ?_
  refine JX_iadd dL_law_773 ?_
  refine JX_sld dL_law_774 hx1.1 hx1.2 ?_
  refine JX_aload_n 0 dL_law_775 rfl ?_
  refine JX_iload 4 dL_law_776 rfl ?_
  refine JX_iconst (v := 2) dL_law_778 (by decide) ?_
  refine JX_iadd dL_law_779 ?_
  refine JX_sld dL_law_780 hx2.1 hx2.2 ?_
  refine MX_callVI (d' := 5) (k := 324) (As := [.int a1, .int a2]) (st := [.int r]) cv_L_87 dL_law_781 rfl (by decide) rfl (Nat.le_of_ble_eq_true rfl) (Nat.le_of_ble_eq_true rfl) (by decide) n_324 k_324 rfl rfl (t_X13_links_ h2) ?_
  refine JX_icmp_eq (tgt := 1639) dL_law_784 (by decide) (fun _ => K) (fun z => absurd rfl z)
theorem lc_14 {kc ks : Nat} {L : Nat} {xs : Nat → Int32} {Q : Option Value → jPS → Prop} {i : Int32} {σ : jM} {a1 a2 a3 : Int32} {r : Int32} {σ1 σ2 : jM} (hx1 : vp_in (i + 1) L ∧ xs (i + 1).toNatClampNeg = a1) (hx2 : vp_in (i + 2) L ∧ xs (i + 2).toNatClampNeg = a2) (hx3 : vp_in (i + 3) L ∧ xs (i + 3).toNatClampNeg = a3) (h1 : f_X12_classOf a1 a2 a3 σ = some (r, σ1)) (h2 : f_X13_classOf a1 a2 a3 σ1 = some (r, σ2)) (K : JX mi_L_law 20 kc ks (jYL L xs) (fun _ _ _ _ => False) Q 1639 (lsL i) [] (ms σ2)) : JX mi_L_law 20 kc ks (jYL L xs) (fun _ _ _ _ => False) Q 789 (lsL i) [] (ms σ) := by
  refine JX_aload_n 1 dL_law_789 rfl ?_
  refine JX_aload_n 0 dL_law_790 rfl ?_
  refine JX_iload 4 dL_law_791 rfl ?_
  refine JX_iconst (v := 1) dL_law_793 (by decide) ?_
  refine JX_iadd dL_law_794 ?_
  refine JX_sld dL_law_795 hx1.1 hx1.2 ?_
  refine JX_aload_n 0 dL_law_796 rfl ?_
  refine JX_iload 4 dL_law_797 rfl ?_
  refine JX_iconst (v := 2) dL_law_799 (by decide) ?_
  refine JX_iadd dL_law_800 ?_
  refine JX_sld dL_law_801 hx2.1 hx2.2 ?_
  refine JX_aload_n 0 dL_law_802 rfl ?_
  refine JX_iload 4 dL_law_803 rfl ?_
  refine JX_iconst (v := 3) dL_law_805 (by decide) ?_
  refine JX_iadd dL_law_806 ?_
  refine JX_sld dL_law_807 hx3.1 hx3.2 ?_
  refine MX_callVI (d' := 8) (k := 0) (As := [.int a1, .int a2, .int a3]) (st := []) cv_L_88 dL_law_808 rfl (by decide) rfl (Nat.le_of_ble_eq_true rfl) (Nat.le_of_ble_eq_true rfl) (by decide) n_0 k_0 rfl rfl (t_X12_classOf h1) ?_
  refine JX_aload_n 2 dL_law_811 rfl ?_
  refine JX_aload_n 0 dL_law_812 rfl ?_
  refine JX_iload 4 dL_law_813 rfl ?_
  refine JX_iconst (v := 1) dL_law_815 (by decide) ?_
  refine JX_iadd dL_law_816 ?_
  refine JX_sld dL_law_817 hx1.1 hx1.2 ?_
  refine JX_aload_n 0 dL_law_818 rfl ?_
  refine JX_iload 4 dL_law_819 rfl ?_
  refine JX_iconst (v := 2) dL_law_821 (by decide) ?_
  refine JX_iadd dL_law_822 ?_
  refine JX_sld dL_law_823 hx2.1 hx2.2 ?_
  refine JX_aload_n 0 dL_law_824 rfl ?_
  refine JX_iload 4 dL_law_825 rfl ?_
  refine JX_iconst (v := 3) dL_law_827 (by decide) ?_
  refine JX_iadd dL_law_828 ?_
  refine JX_sld dL_law_829 hx3.1 hx3.2 ?_
  refine MX_callVI (d' := 5) (k := 324) (As := [.int a1, .int a2, .int a3]) (st := [.int r]) cv_L_91 dL_law_830 rfl (by decide) rfl (Nat.le_of_ble_eq_true rfl) (Nat.le_of_ble_eq_true rfl) (by decide) n_324 k_324 rfl rfl (t_X13_classOf h2) ?_
  refine JX_icmp_eq (tgt := 1639) dL_law_833 (by decide) (fun _ => K) (fun z => absurd rfl z)
theorem lc_15 {kc ks : Nat} {L : Nat} {xs : Nat → Int32} {Q : Option Value → jPS → Prop} {i : Int32} {σ : jM} {a1 a2 : Int32} {r : Int32} {σ1 σ2 : jM} (hx1 : vp_in (i + 1) L ∧ xs (i + 1).toNatClampNeg = a1) (hx2 : vp_in (i + 2) L ∧ xs (i + 2).toNatClampNeg = a2) (h1 : f_X12_clash a1 a2 σ = some (r, σ1)) (h2 : f_X13_clash a1 a2 σ1 = some (r, σ2)) (K : JX mi_L_law 20 kc ks (jYL L xs) (fun _ _ _ _ => False) Q 1639 (lsL i) [] (ms σ2)) : JX mi_L_law 20 kc ks (jYL L xs) (fun _ _ _ _ => False) Q 838 (lsL i) [] (ms σ) := by
  refine JX_aload_n 1 dL_law_838 rfl ?_
  refine JX_aload_n 0 dL_law_839 rfl ?_
  refine JX_iload 4 dL_law_840 rfl ?_
  refine JX_iconst (v := 1) dL_law_842 (by decide) ?_
  refine JX_iadd dL_law_843 ?_
  refine JX_sld dL_law_844 hx1.1 hx1.2 ?_
  refine JX_aload_n 0 dL_law_845 rfl ?_
  refine JX_iload 4 dL_law_846 rfl ?_
  refine JX_iconst (v := 2) dL_law_848 (by decide) ?_
  refine JX_iadd dL_law_849 ?_
  refine JX_sld dL_law_850 hx2.1 hx2.2 ?_
  refine MX_callVI (d' := 8) (k := 0) (As := [.int a1, .int a2]) (st := []) cv_L_92 dL_law_851 rfl (by decide) rfl (Nat.le_of_ble_eq_true rfl) (Nat.le_of_ble_eq_true rfl) (by decide) n_0 k_0 rfl rfl (t_X12_clash h1) ?_
  refine JX_aload_n 2 dL_law_854 rfl ?_
  refine JX_aload_n 0 dL_law_855 rfl ?_
  refine JX_iload 4 dL_law_856 rfl ?_
  refine JX_iconst (v := 1) dL_law_858 (by decide) ?_
  refine JX_iadd dL_law_859 ?_
  refine JX_sld dL_law_860 hx1.1 hx1.2 ?_
  refine JX_aload_n 0 dL_law_861 rfl ?_
  refine JX_iload 4 dL_law_862 rfl ?_
  refine JX_iconst (v := 2) dL_law_864 (by decide) ?_
  refine JX_iadd dL_law_865 ?_
  refine JX_sld dL_law_866 hx2.1 hx2.2 ?_
  refine MX_callVI (d' := 6) (k := 324) (As := [.int a1, .int a2]) (st := [.int r]) cv_L_95 dL_law_867 rfl (by decide) rfl (Nat.le_of_ble_eq_true rfl) (Nat.le_of_ble_eq_true rfl) (by decide) n_324 k_324 rfl rfl (t_X13_clash h2) ?_
  refine JX_icmp_eq (tgt := 1639) dL_law_870 (by decide) (fun _ => K) (fun z => absurd rfl z)
theorem lc_16 {kc ks : Nat} {L : Nat} {xs : Nat → Int32} {Q : Option Value → jPS → Prop} {i : Int32} {σ : jM} {a1 a2 a3 : Int32} {r : Int32} {σ1 σ2 : jM} (hx1 : vp_in (i + 1) L ∧ xs (i + 1).toNatClampNeg = a1) (hx2 : vp_in (i + 2) L ∧ xs (i + 2).toNatClampNeg = a2) (hx3 : vp_in (i + 3) L ∧ xs (i + 3).toNatClampNeg = a3) (h1 : f_X12_reason a1 a2 a3 σ = some (r, σ1)) (h2 : f_X13_reason a1 a2 a3 σ1 = some (r, σ2)) (K : JX mi_L_law 20 kc ks (jYL L xs) (fun _ _ _ _ => False) Q 1639 (lsL i) [] (ms σ2)) : JX mi_L_law 20 kc ks (jYL L xs) (fun _ _ _ _ => False) Q 875 (lsL i) [] (ms σ) := by
  refine JX_aload_n 1 dL_law_875 rfl ?_
  refine JX_aload_n 0 dL_law_876 rfl ?_
  refine JX_iload 4 dL_law_877 rfl ?_
  refine JX_iconst (v := 1) dL_law_879 (by decide) ?_
  refine JX_iadd dL_law_880 ?_
  refine JX_sld dL_law_881 hx1.1 hx1.2 ?_
  refine JX_aload_n 0 dL_law_882 rfl ?_
  refine JX_iload 4 dL_law_883 rfl ?_
  refine JX_iconst (v := 2) dL_law_885 (by decide) ?_
  refine JX_iadd dL_law_886 ?_
  refine JX_sld dL_law_887 hx2.1 hx2.2 ?_
  refine JX_aload_n 0 dL_law_888 rfl ?_
  refine JX_iload 4 dL_law_889 rfl ?_
  refine JX_iconst (v := 3) dL_law_891 (by decide) ?_
  refine JX_iadd dL_law_892 ?_
  refine JX_sld dL_law_893 hx3.1 hx3.2 ?_
  refine MX_callVI (d' := 8) (k := 0) (As := [.int a1, .int a2, .int a3]) (st := []) cv_L_96 dL_law_894 rfl (by decide) rfl (Nat.le_of_ble_eq_true rfl) (Nat.le_of_ble_eq_true rfl) (by decide) n_0 k_0 rfl rfl (t_X12_reason h1) ?_
  refine JX_aload_n 2 dL_law_897 rfl ?_
  refine JX_aload_n 0 dL_law_898 rfl ?_
  refine JX_iload 4 dL_law_899 rfl ?_
  refine JX_iconst (v := 1) dL_law_901 (by decide) ?_
  refine JX_iadd dL_law_902 ?_
  refine JX_sld dL_law_903 hx1.1 hx1.2 ?_
  refine JX_aload_n 0 dL_law_904 rfl ?_
  refine JX_iload 4 dL_law_905 rfl ?_
  refine JX_iconst (v := 2) dL_law_907 (by decide) ?_
  refine JX_iadd dL_law_908 ?_
  refine JX_sld dL_law_909 hx2.1 hx2.2 ?_
  refine JX_aload_n 0 dL_law_910 rfl ?_
  refine JX_iload 4 dL_law_911 rfl ?_
  refine JX_iconst (v := 3) dL_law_913 (by decide) ?_
  refine JX_iadd dL_law_914 ?_
  refine JX_sld dL_law_915 hx3.1 hx3.2 ?_
  refine MX_callVI (d' := 6) (k := 324) (As := [.int a1, .int a2, .int a3]) (st := [.int r]) cv_L_99 dL_law_916 rfl (by decide) rfl (Nat.le_of_ble_eq_true rfl) (Nat.le_of_ble_eq_true rfl) (by decide) n_324 k_324 rfl rfl (t_X13_reason h2) ?_
  refine JX_icmp_eq (tgt := 1639) dL_law_919 (by decide) (fun _ => K) (fun z => absurd rfl z)
theorem lc_17 {kc ks : Nat} {L : Nat} {xs : Nat → Int32} {Q : Option Value → jPS → Prop} {i : Int32} {σ : jM} {a1 : Int32} {r : Int32} {σ1 σ2 : jM} (hx1 : vp_in (i + 1) L ∧ xs (i + 1).toNatClampNeg = a1) (h1 : f_X12_name a1 σ = some (r, σ1)) (h2 : f_X13_name a1 σ1 = some (r, σ2)) (K : JX mi_L_law 20 kc ks (jYL L xs) (fun _ _ _ _ => False) Q 1639 (lsL i) [] (ms σ2)) : JX mi_L_law 20 kc ks (jYL L xs) (fun _ _ _ _ => False) Q 924 (lsL i) [] (ms σ) := by
  refine JX_aload_n 1 dL_law_924 rfl ?_
  refine JX_aload_n 0 dL_law_925 rfl ?_
  refine JX_iload 4 dL_law_926 rfl ?_
  refine JX_iconst (v := 1) dL_law_928 (by decide) ?_
  refine JX_iadd dL_law_929 ?_
  refine JX_sld dL_law_930 hx1.1 hx1.2 ?_
  refine MX_callVI (d' := 3) (k := 0) (As := [.int a1]) (st := []) cv_L_100 dL_law_931 rfl (by decide) rfl (Nat.le_of_ble_eq_true rfl) (Nat.le_of_ble_eq_true rfl) (by decide) n_0 k_0 rfl rfl (t_X12_name h1) ?_
  refine JX_aload_n 2 dL_law_934 rfl ?_
  refine JX_aload_n 0 dL_law_935 rfl ?_
  refine JX_iload 4 dL_law_936 rfl ?_
  refine JX_iconst (v := 1) dL_law_938 (by decide) ?_
  refine JX_iadd dL_law_939 ?_
  refine JX_sld dL_law_940 hx1.1 hx1.2 ?_
  refine MX_callVI (d' := 3) (k := 324) (As := [.int a1]) (st := [.int r]) cv_L_103 dL_law_941 rfl (by decide) rfl (Nat.le_of_ble_eq_true rfl) (Nat.le_of_ble_eq_true rfl) (by decide) n_324 k_324 rfl rfl (t_X13_name h2) ?_
  refine JX_icmp_eq (tgt := 1639) dL_law_944 (by decide) (fun _ => K) (fun z => absurd rfl z)
theorem lc_18 {kc ks : Nat} {L : Nat} {xs : Nat → Int32} {Q : Option Value → jPS → Prop} {i : Int32} {σ : jM} {a1 a2 : Int32} {r : Int32} {σ1 σ2 : jM} (hx1 : vp_in (i + 1) L ∧ xs (i + 1).toNatClampNeg = a1) (hx2 : vp_in (i + 2) L ∧ xs (i + 2).toNatClampNeg = a2) (h1 : f_X12_spelled a1 a2 σ = some (r, σ1)) (h2 : f_X13_spelled a1 a2 σ1 = some (r, σ2)) (K : JX mi_L_law 20 kc ks (jYL L xs) (fun _ _ _ _ => False) Q 1639 (lsL i) [] (ms σ2)) : JX mi_L_law 20 kc ks (jYL L xs) (fun _ _ _ _ => False) Q 949 (lsL i) [] (ms σ) := by
  refine JX_aload_n 1 dL_law_949 rfl ?_
  refine JX_aload_n 0 dL_law_950 rfl ?_
  refine JX_iload 4 dL_law_951 rfl ?_
  refine JX_iconst (v := 1) dL_law_953 (by decide) ?_
  refine JX_iadd dL_law_954 ?_
  refine JX_sld dL_law_955 hx1.1 hx1.2 ?_
  refine JX_aload_n 0 dL_law_956 rfl ?_
  refine JX_iload 4 dL_law_957 rfl ?_
  refine JX_iconst (v := 2) dL_law_959 (by decide) ?_
  refine JX_iadd dL_law_960 ?_
  refine JX_sld dL_law_961 hx2.1 hx2.2 ?_
  refine MX_callVI (d' := 7) (k := 0) (As := [.int a1, .int a2]) (st := []) cv_L_104 dL_law_962 rfl (by decide) rfl (Nat.le_of_ble_eq_true rfl) (Nat.le_of_ble_eq_true rfl) (by decide) n_0 k_0 rfl rfl (t_X12_spelled h1) ?_
  refine JX_aload_n 2 dL_law_965 rfl ?_
  refine JX_aload_n 0 dL_law_966 rfl ?_
  refine JX_iload 4 dL_law_967 rfl ?_
  refine JX_iconst (v := 1) dL_law_969 (by decide) ?_
  refine JX_iadd dL_law_970 ?_
  refine JX_sld dL_law_971 hx1.1 hx1.2 ?_
  refine JX_aload_n 0 dL_law_972 rfl ?_
  refine JX_iload 4 dL_law_973 rfl ?_
  refine JX_iconst (v := 2) dL_law_975 (by decide) ?_
  refine JX_iadd dL_law_976 ?_
  refine JX_sld dL_law_977 hx2.1 hx2.2 ?_
  refine MX_callVI (d' := 4) (k := 324) (As := [.int a1, .int a2]) (st := [.int r]) cv_L_107 dL_law_978 rfl (by decide) rfl (Nat.le_of_ble_eq_true rfl) (Nat.le_of_ble_eq_true rfl) (by decide) n_324 k_324 rfl rfl (t_X13_spelled h2) ?_
  refine JX_icmp_eq (tgt := 1639) dL_law_981 (by decide) (fun _ => K) (fun z => absurd rfl z)
theorem lc_19 {kc ks : Nat} {L : Nat} {xs : Nat → Int32} {Q : Option Value → jPS → Prop} {i : Int32} {σ : jM} {a1 a2 a3 : Int32} {r : Int32} {σ1 σ2 : jM} (hx1 : vp_in (i + 1) L ∧ xs (i + 1).toNatClampNeg = a1) (hx2 : vp_in (i + 2) L ∧ xs (i + 2).toNatClampNeg = a2) (hx3 : vp_in (i + 3) L ∧ xs (i + 3).toNatClampNeg = a3) (h1 : f_X12_cell a1 a2 a3 σ = some (r, σ1)) (h2 : f_X13_cell a1 a2 a3 σ1 = some (r, σ2)) (K : JX mi_L_law 20 kc ks (jYL L xs) (fun _ _ _ _ => False) Q 1639 (lsL i) [] (ms σ2)) : JX mi_L_law 20 kc ks (jYL L xs) (fun _ _ _ _ => False) Q 986 (lsL i) [] (ms σ) := by
  refine JX_aload_n 1 dL_law_986 rfl ?_
  refine JX_aload_n 0 dL_law_987 rfl ?_
  refine JX_iload 4 dL_law_988 rfl ?_
  refine JX_iconst (v := 1) dL_law_990 (by decide) ?_
  refine JX_iadd dL_law_991 ?_
  refine JX_sld dL_law_992 hx1.1 hx1.2 ?_
  refine JX_aload_n 0 dL_law_993 rfl ?_
  refine JX_iload 4 dL_law_994 rfl ?_
  refine JX_iconst (v := 2) dL_law_996 (by decide) ?_
  refine JX_iadd dL_law_997 ?_
  refine JX_sld dL_law_998 hx2.1 hx2.2 ?_
  refine JX_aload_n 0 dL_law_999 rfl ?_
  refine JX_iload 4 dL_law_1000 rfl ?_
  refine JX_iconst (v := 3) dL_law_1002 (by decide) ?_
  refine JX_iadd dL_law_1003 ?_
  refine JX_sld dL_law_1004 hx3.1 hx3.2 ?_
  refine MX_callVI (d' := 7) (k := 0) (As := [.int a1, .int a2, .int a3]) (st := []) cv_L_108 dL_law_1005 rfl (by decide) rfl (Nat.le_of_ble_eq_true rfl) (Nat.le_of_ble_eq_true rfl) (by decide) n_0 k_0 rfl rfl (t_X12_cell h1) ?_
  refine JX_aload_n 2 dL_law_1008 rfl ?_
  refine JX_aload_n 0 dL_law_1009 rfl ?_
  refine JX_iload 4 dL_law_1010 rfl ?_
  refine JX_iconst (v := 1) dL_law_1012 (by decide) ?_
  refine JX_iadd dL_law_1013 ?_
  refine JX_sld dL_law_1014 hx1.1 hx1.2 ?_
  refine JX_aload_n 0 dL_law_1015 rfl ?_
  refine JX_iload 4 dL_law_1016 rfl ?_
  refine JX_iconst (v := 2) dL_law_1018 (by decide) ?_
  refine JX_iadd dL_law_1019 ?_
  refine JX_sld dL_law_1020 hx2.1 hx2.2 ?_
  refine JX_aload_n 0 dL_law_1021 rfl ?_
  refine JX_iload 4 dL_law_1022 rfl ?_
  refine JX_iconst (v := 3) dL_law_1024 (by decide) ?_
  refine JX_iadd dL_law_1025 ?_
  refine JX_sld dL_law_1026 hx3.1 hx3.2 ?_
  refine MX_callVI (d' := 4) (k := 324) (As := [.int a1, .int a2, .int a3]) (st := [.int r]) cv_L_111 dL_law_1027 rfl (by decide) rfl (Nat.le_of_ble_eq_true rfl) (Nat.le_of_ble_eq_true rfl) (by decide) n_324 k_324 rfl rfl (t_X13_cell h2) ?_
  refine JX_icmp_eq (tgt := 1639) dL_law_1030 (by decide) (fun _ => K) (fun z => absurd rfl z)
theorem lc_20 {kc ks : Nat} {L : Nat} {xs : Nat → Int32} {Q : Option Value → jPS → Prop} {i : Int32} {σ : jM} {a1 : Int32} {r : Int32} {σ1 σ2 : jM} (hx1 : vp_in (i + 1) L ∧ xs (i + 1).toNatClampNeg = a1) (h1 : f_X12_ways a1 σ = some (r, σ1)) (h2 : f_X13_ways a1 σ1 = some (r, σ2)) (K : JX mi_L_law 20 kc ks (jYL L xs) (fun _ _ _ _ => False) Q 1639 (lsL i) [] (ms σ2)) : JX mi_L_law 20 kc ks (jYL L xs) (fun _ _ _ _ => False) Q 1035 (lsL i) [] (ms σ) := by
  refine JX_aload_n 1 dL_law_1035 rfl ?_
  refine JX_aload_n 0 dL_law_1036 rfl ?_
  refine JX_iload 4 dL_law_1037 rfl ?_
  refine JX_iconst (v := 1) dL_law_1039 (by decide) ?_
  refine JX_iadd dL_law_1040 ?_
  refine JX_sld dL_law_1041 hx1.1 hx1.2 ?_
  refine MX_callVI (d' := 17) (k := 0) (As := [.int a1]) (st := []) cv_L_112 dL_law_1042 rfl (by decide) rfl (Nat.le_of_ble_eq_true rfl) (Nat.le_of_ble_eq_true rfl) (by decide) n_0 k_0 rfl rfl (t_X12_ways h1) ?_
  refine JX_aload_n 2 dL_law_1045 rfl ?_
  refine JX_aload_n 0 dL_law_1046 rfl ?_
  refine JX_iload 4 dL_law_1047 rfl ?_
  refine JX_iconst (v := 1) dL_law_1049 (by decide) ?_
  refine JX_iadd dL_law_1050 ?_
  refine JX_sld dL_law_1051 hx1.1 hx1.2 ?_
  refine MX_callVI (d' := 7) (k := 324) (As := [.int a1]) (st := [.int r]) cv_L_115 dL_law_1052 rfl (by decide) rfl (Nat.le_of_ble_eq_true rfl) (Nat.le_of_ble_eq_true rfl) (by decide) n_324 k_324 rfl rfl (t_X13_ways h2) ?_
  refine JX_icmp_eq (tgt := 1639) dL_law_1055 (by decide) (fun _ => K) (fun z => absurd rfl z)
theorem lc_21 {kc ks : Nat} {L : Nat} {xs : Nat → Int32} {Q : Option Value → jPS → Prop} {i : Int32} {σ : jM} {a1 a2 a3 : Int32} {r : Int32} {σ1 σ2 : jM} (hx1 : vp_in (i + 1) L ∧ xs (i + 1).toNatClampNeg = a1) (hx2 : vp_in (i + 2) L ∧ xs (i + 2).toNatClampNeg = a2) (hx3 : vp_in (i + 3) L ∧ xs (i + 3).toNatClampNeg = a3) (h1 : f_X12_way a1 a2 a3 σ = some (r, σ1)) (h2 : f_X13_way a1 a2 a3 σ1 = some (r, σ2)) (K : JX mi_L_law 20 kc ks (jYL L xs) (fun _ _ _ _ => False) Q 1639 (lsL i) [] (ms σ2)) : JX mi_L_law 20 kc ks (jYL L xs) (fun _ _ _ _ => False) Q 1060 (lsL i) [] (ms σ) := by
  refine JX_aload_n 1 dL_law_1060 rfl ?_
  refine JX_aload_n 0 dL_law_1061 rfl ?_
  refine JX_iload 4 dL_law_1062 rfl ?_
  refine JX_iconst (v := 1) dL_law_1064 (by decide) ?_
  refine JX_iadd dL_law_1065 ?_
  refine JX_sld dL_law_1066 hx1.1 hx1.2 ?_
  refine JX_aload_n 0 dL_law_1067 rfl ?_
  refine JX_iload 4 dL_law_1068 rfl ?_
  refine JX_iconst (v := 2) dL_law_1070 (by decide) ?_
  refine JX_iadd dL_law_1071 ?_
  refine JX_sld dL_law_1072 hx2.1 hx2.2 ?_
  refine JX_aload_n 0 dL_law_1073 rfl ?_
  refine JX_iload 4 dL_law_1074 rfl ?_
  refine JX_iconst (v := 3) dL_law_1076 (by decide) ?_
  refine JX_iadd dL_law_1077 ?_
  refine JX_sld dL_law_1078 hx3.1 hx3.2 ?_
  refine MX_callVI (d' := 16) (k := 0) (As := [.int a1, .int a2, .int a3]) (st := []) cv_L_116 dL_law_1079 rfl (by decide) rfl (Nat.le_of_ble_eq_true rfl) (Nat.le_of_ble_eq_true rfl) (by decide) n_0 k_0 rfl rfl (t_X12_way h1) ?_
  refine JX_aload_n 2 dL_law_1082 rfl ?_
  refine JX_aload_n 0 dL_law_1083 rfl ?_
  refine JX_iload 4 dL_law_1084 rfl ?_
  refine JX_iconst (v := 1) dL_law_1086 (by decide) ?_
  refine JX_iadd dL_law_1087 ?_
  refine JX_sld dL_law_1088 hx1.1 hx1.2 ?_
  refine JX_aload_n 0 dL_law_1089 rfl ?_
  refine JX_iload 4 dL_law_1090 rfl ?_
  refine JX_iconst (v := 2) dL_law_1092 (by decide) ?_
  refine JX_iadd dL_law_1093 ?_
  refine JX_sld dL_law_1094 hx2.1 hx2.2 ?_
  refine JX_aload_n 0 dL_law_1095 rfl ?_
  refine JX_iload 4 dL_law_1096 rfl ?_
  refine JX_iconst (v := 3) dL_law_1098 (by decide) ?_
  refine JX_iadd dL_law_1099 ?_
  refine JX_sld dL_law_1100 hx3.1 hx3.2 ?_
  refine MX_callVI (d' := 7) (k := 324) (As := [.int a1, .int a2, .int a3]) (st := [.int r]) cv_L_119 dL_law_1101 rfl (by decide) rfl (Nat.le_of_ble_eq_true rfl) (Nat.le_of_ble_eq_true rfl) (by decide) n_324 k_324 rfl rfl (t_X13_way h2) ?_
  refine JX_icmp_eq (tgt := 1639) dL_law_1104 (by decide) (fun _ => K) (fun z => absurd rfl z)
theorem lc_22 {kc ks : Nat} {L : Nat} {xs : Nat → Int32} {Q : Option Value → jPS → Prop} {i : Int32} {σ : jM} {a1 a2 a3 : Int32} {r : Int32} {σ1 σ2 : jM} (hx1 : vp_in (i + 1) L ∧ xs (i + 1).toNatClampNeg = a1) (hx2 : vp_in (i + 2) L ∧ xs (i + 2).toNatClampNeg = a2) (hx3 : vp_in (i + 3) L ∧ xs (i + 3).toNatClampNeg = a3) (h1 : f_X12_given a1 a2 a3 σ = some (r, σ1)) (h2 : f_X13_given a1 a2 a3 σ1 = some (r, σ2)) (K : JX mi_L_law 20 kc ks (jYL L xs) (fun _ _ _ _ => False) Q 1639 (lsL i) [] (ms σ2)) : JX mi_L_law 20 kc ks (jYL L xs) (fun _ _ _ _ => False) Q 1109 (lsL i) [] (ms σ) := by
  refine JX_aload_n 1 dL_law_1109 rfl ?_
  refine JX_aload_n 0 dL_law_1110 rfl ?_
  refine JX_iload 4 dL_law_1111 rfl ?_
  refine JX_iconst (v := 1) dL_law_1113 (by decide) ?_
  refine JX_iadd dL_law_1114 ?_
  refine JX_sld dL_law_1115 hx1.1 hx1.2 ?_
  refine JX_aload_n 0 dL_law_1116 rfl ?_
  refine JX_iload 4 dL_law_1117 rfl ?_
  refine JX_iconst (v := 2) dL_law_1119 (by decide) ?_
  refine JX_iadd dL_law_1120 ?_
  refine JX_sld dL_law_1121 hx2.1 hx2.2 ?_
  refine JX_aload_n 0 dL_law_1122 rfl ?_
  refine JX_iload 4 dL_law_1123 rfl ?_
  refine JX_iconst (v := 3) dL_law_1125 (by decide) ?_
  refine JX_iadd dL_law_1126 ?_
  refine JX_sld dL_law_1127 hx3.1 hx3.2 ?_
  refine MX_callVI (d' := 16) (k := 0) (As := [.int a1, .int a2, .int a3]) (st := []) cv_L_120 dL_law_1128 rfl (by decide) rfl (Nat.le_of_ble_eq_true rfl) (Nat.le_of_ble_eq_true rfl) (by decide) n_0 k_0 rfl rfl (t_X12_given h1) ?_
  refine JX_aload_n 2 dL_law_1131 rfl ?_
  refine JX_aload_n 0 dL_law_1132 rfl ?_
  refine JX_iload 4 dL_law_1133 rfl ?_
  refine JX_iconst (v := 1) dL_law_1135 (by decide) ?_
  refine JX_iadd dL_law_1136 ?_
  refine JX_sld dL_law_1137 hx1.1 hx1.2 ?_
  refine JX_aload_n 0 dL_law_1138 rfl ?_
  refine JX_iload 4 dL_law_1139 rfl ?_
  refine JX_iconst (v := 2) dL_law_1141 (by decide) ?_
  refine JX_iadd dL_law_1142 ?_
  refine JX_sld dL_law_1143 hx2.1 hx2.2 ?_
  refine JX_aload_n 0 dL_law_1144 rfl ?_
  refine JX_iload 4 dL_law_1145 rfl ?_
  refine JX_iconst (v := 3) dL_law_1147 (by decide) ?_
  refine JX_iadd dL_law_1148 ?_
  refine JX_sld dL_law_1149 hx3.1 hx3.2 ?_
  refine MX_callVI (d' := 7) (k := 324) (As := [.int a1, .int a2, .int a3]) (st := [.int r]) cv_L_123 dL_law_1150 rfl (by decide) rfl (Nat.le_of_ble_eq_true rfl) (Nat.le_of_ble_eq_true rfl) (by decide) n_324 k_324 rfl rfl (t_X13_given h2) ?_
  refine JX_icmp_eq (tgt := 1639) dL_law_1153 (by decide) (fun _ => K) (fun z => absurd rfl z)
theorem lc_23 {kc ks : Nat} {L : Nat} {xs : Nat → Int32} {Q : Option Value → jPS → Prop} {i : Int32} {σ : jM} {a1 a2 : Int32} {r : Int32} {σ1 σ2 : jM} (hx1 : vp_in (i + 1) L ∧ xs (i + 1).toNatClampNeg = a1) (hx2 : vp_in (i + 2) L ∧ xs (i + 2).toNatClampNeg = a2) (h1 : f_X12_forced a1 a2 σ = some (r, σ1)) (h2 : f_X13_forced a1 a2 σ1 = some (r, σ2)) (K : JX mi_L_law 20 kc ks (jYL L xs) (fun _ _ _ _ => False) Q 1639 (lsL i) [] (ms σ2)) : JX mi_L_law 20 kc ks (jYL L xs) (fun _ _ _ _ => False) Q 1158 (lsL i) [] (ms σ) := by
  refine JX_aload_n 1 dL_law_1158 rfl ?_
  refine JX_aload_n 0 dL_law_1159 rfl ?_
  refine JX_iload 4 dL_law_1160 rfl ?_
  refine JX_iconst (v := 1) dL_law_1162 (by decide) ?_
  refine JX_iadd dL_law_1163 ?_
  refine JX_sld dL_law_1164 hx1.1 hx1.2 ?_
  refine JX_aload_n 0 dL_law_1165 rfl ?_
  refine JX_iload 4 dL_law_1166 rfl ?_
  refine JX_iconst (v := 2) dL_law_1168 (by decide) ?_
  refine JX_iadd dL_law_1169 ?_
  refine JX_sld dL_law_1170 hx2.1 hx2.2 ?_
  refine MX_callVI (d' := 17) (k := 0) (As := [.int a1, .int a2]) (st := []) cv_L_124 dL_law_1171 rfl (by decide) rfl (Nat.le_of_ble_eq_true rfl) (Nat.le_of_ble_eq_true rfl) (by decide) n_0 k_0 rfl rfl (t_X12_forced h1) ?_
  refine JX_aload_n 2 dL_law_1174 rfl ?_
  refine JX_aload_n 0 dL_law_1175 rfl ?_
  refine JX_iload 4 dL_law_1176 rfl ?_
  refine JX_iconst (v := 1) dL_law_1178 (by decide) ?_
  refine JX_iadd dL_law_1179 ?_
  refine JX_sld dL_law_1180 hx1.1 hx1.2 ?_
  refine JX_aload_n 0 dL_law_1181 rfl ?_
  refine JX_iload 4 dL_law_1182 rfl ?_
  refine JX_iconst (v := 2) dL_law_1184 (by decide) ?_
  refine JX_iadd dL_law_1185 ?_
  refine JX_sld dL_law_1186 hx2.1 hx2.2 ?_
  refine MX_callVI (d' := 7) (k := 324) (As := [.int a1, .int a2]) (st := [.int r]) cv_L_127 dL_law_1187 rfl (by decide) rfl (Nat.le_of_ble_eq_true rfl) (Nat.le_of_ble_eq_true rfl) (by decide) n_324 k_324 rfl rfl (t_X13_forced h2) ?_
  refine JX_icmp_eq (tgt := 1639) dL_law_1190 (by decide) (fun _ => K) (fun z => absurd rfl z)
theorem lc_24 {kc ks : Nat} {L : Nat} {xs : Nat → Int32} {Q : Option Value → jPS → Prop} {i : Int32} {σ : jM} {a1 a2 a3 : Int32} {r : Int32} {σ1 σ2 : jM} (hx1 : vp_in (i + 1) L ∧ xs (i + 1).toNatClampNeg = a1) (hx2 : vp_in (i + 2) L ∧ xs (i + 2).toNatClampNeg = a2) (hx3 : vp_in (i + 3) L ∧ xs (i + 3).toNatClampNeg = a3) (h1 : f_X12_reads a1 a2 a3 σ = some (r, σ1)) (h2 : f_X13_reads a1 a2 a3 σ1 = some (r, σ2)) (K : JX mi_L_law 20 kc ks (jYL L xs) (fun _ _ _ _ => False) Q 1639 (lsL i) [] (ms σ2)) : JX mi_L_law 20 kc ks (jYL L xs) (fun _ _ _ _ => False) Q 1195 (lsL i) [] (ms σ) := by
  refine JX_aload_n 1 dL_law_1195 rfl ?_
  refine JX_aload_n 0 dL_law_1196 rfl ?_
  refine JX_iload 4 dL_law_1197 rfl ?_
  refine JX_iconst (v := 1) dL_law_1199 (by decide) ?_
  refine JX_iadd dL_law_1200 ?_
  refine JX_sld dL_law_1201 hx1.1 hx1.2 ?_
  refine JX_aload_n 0 dL_law_1202 rfl ?_
  refine JX_iload 4 dL_law_1203 rfl ?_
  refine JX_iconst (v := 2) dL_law_1205 (by decide) ?_
  refine JX_iadd dL_law_1206 ?_
  refine JX_sld dL_law_1207 hx2.1 hx2.2 ?_
  refine JX_aload_n 0 dL_law_1208 rfl ?_
  refine JX_iload 4 dL_law_1209 rfl ?_
  refine JX_iconst (v := 3) dL_law_1211 (by decide) ?_
  refine JX_iadd dL_law_1212 ?_
  refine JX_sld dL_law_1213 hx3.1 hx3.2 ?_
  refine MX_callVI (d' := 17) (k := 0) (As := [.int a1, .int a2, .int a3]) (st := []) cv_L_128 dL_law_1214 rfl (by decide) rfl (Nat.le_of_ble_eq_true rfl) (Nat.le_of_ble_eq_true rfl) (by decide) n_0 k_0 rfl rfl (t_X12_reads h1) ?_
  refine JX_aload_n 2 dL_law_1217 rfl ?_
  refine JX_aload_n 0 dL_law_1218 rfl ?_
  refine JX_iload 4 dL_law_1219 rfl ?_
  refine JX_iconst (v := 1) dL_law_1221 (by decide) ?_
  refine JX_iadd dL_law_1222 ?_
  refine JX_sld dL_law_1223 hx1.1 hx1.2 ?_
  refine JX_aload_n 0 dL_law_1224 rfl ?_
  refine JX_iload 4 dL_law_1225 rfl ?_
  refine JX_iconst (v := 2) dL_law_1227 (by decide) ?_
  refine JX_iadd dL_law_1228 ?_
  refine JX_sld dL_law_1229 hx2.1 hx2.2 ?_
  refine JX_aload_n 0 dL_law_1230 rfl ?_
  refine JX_iload 4 dL_law_1231 rfl ?_
  refine JX_iconst (v := 3) dL_law_1233 (by decide) ?_
  refine JX_iadd dL_law_1234 ?_
  refine JX_sld dL_law_1235 hx3.1 hx3.2 ?_
  refine MX_callVI (d' := 7) (k := 324) (As := [.int a1, .int a2, .int a3]) (st := [.int r]) cv_L_131 dL_law_1236 rfl (by decide) rfl (Nat.le_of_ble_eq_true rfl) (Nat.le_of_ble_eq_true rfl) (by decide) n_324 k_324 rfl rfl (t_X13_reads h2) ?_
  refine JX_icmp_eq (tgt := 1639) dL_law_1239 (by decide) (fun _ => K) (fun z => absurd rfl z)
theorem lc_25 {kc ks : Nat} {L : Nat} {xs : Nat → Int32} {Q : Option Value → jPS → Prop} {i : Int32} {σ : jM} {a1 : Int32} {r : Int32} {σ1 σ2 : jM} (hx1 : vp_in (i + 1) L ∧ xs (i + 1).toNatClampNeg = a1) (h1 : f_X12_letter a1 σ = some (r, σ1)) (h2 : f_X13_letter a1 σ1 = some (r, σ2)) (K : JX mi_L_law 20 kc ks (jYL L xs) (fun _ _ _ _ => False) Q 1639 (lsL i) [] (ms σ2)) : JX mi_L_law 20 kc ks (jYL L xs) (fun _ _ _ _ => False) Q 1244 (lsL i) [] (ms σ) := by
  refine JX_aload_n 1 dL_law_1244 rfl ?_
  refine JX_aload_n 0 dL_law_1245 rfl ?_
  refine JX_iload 4 dL_law_1246 rfl ?_
  refine JX_iconst (v := 1) dL_law_1248 (by decide) ?_
  refine JX_iadd dL_law_1249 ?_
  refine JX_sld dL_law_1250 hx1.1 hx1.2 ?_
  refine MX_callVI (d' := 1) (k := 0) (As := [.int a1]) (st := []) cv_L_132 dL_law_1251 rfl (by decide) rfl (Nat.le_of_ble_eq_true rfl) (Nat.le_of_ble_eq_true rfl) (by decide) n_0 k_0 rfl rfl (t_X12_letter h1) ?_
  refine JX_aload_n 2 dL_law_1254 rfl ?_
  refine JX_aload_n 0 dL_law_1255 rfl ?_
  refine JX_iload 4 dL_law_1256 rfl ?_
  refine JX_iconst (v := 1) dL_law_1258 (by decide) ?_
  refine JX_iadd dL_law_1259 ?_
  refine JX_sld dL_law_1260 hx1.1 hx1.2 ?_
  refine MX_callVI (d' := 2) (k := 324) (As := [.int a1]) (st := [.int r]) cv_L_135 dL_law_1261 rfl (by decide) rfl (Nat.le_of_ble_eq_true rfl) (Nat.le_of_ble_eq_true rfl) (by decide) n_324 k_324 rfl rfl (t_X13_letter h2) ?_
  refine JX_icmp_eq (tgt := 1639) dL_law_1264 (by decide) (fun _ => K) (fun z => absurd rfl z)
theorem lc_26 {kc ks : Nat} {L : Nat} {xs : Nat → Int32} {Q : Option Value → jPS → Prop} {i : Int32} {σ : jM} {a1 a2 : Int32} {r : Int32} {σ1 σ2 : jM} (hx1 : vp_in (i + 1) L ∧ xs (i + 1).toNatClampNeg = a1) (hx2 : vp_in (i + 2) L ∧ xs (i + 2).toNatClampNeg = a2) (h1 : f_X12_settles a1 a2 σ = some (r, σ1)) (h2 : f_X13_settles a1 a2 σ1 = some (r, σ2)) (K : JX mi_L_law 20 kc ks (jYL L xs) (fun _ _ _ _ => False) Q 1639 (lsL i) [] (ms σ2)) : JX mi_L_law 20 kc ks (jYL L xs) (fun _ _ _ _ => False) Q 1269 (lsL i) [] (ms σ) := by
  refine JX_aload_n 1 dL_law_1269 rfl ?_
  refine JX_aload_n 0 dL_law_1270 rfl ?_
  refine JX_iload 4 dL_law_1271 rfl ?_
  refine JX_iconst (v := 1) dL_law_1273 (by decide) ?_
  refine JX_iadd dL_law_1274 ?_
  refine JX_sld dL_law_1275 hx1.1 hx1.2 ?_
  refine JX_aload_n 0 dL_law_1276 rfl ?_
  refine JX_iload 4 dL_law_1277 rfl ?_
  refine JX_iconst (v := 2) dL_law_1279 (by decide) ?_
  refine JX_iadd dL_law_1280 ?_
  refine JX_sld dL_law_1281 hx2.1 hx2.2 ?_
  refine MX_callVI (d' := 17) (k := 0) (As := [.int a1, .int a2]) (st := []) cv_L_136 dL_law_1282 rfl (by decide) rfl (Nat.le_of_ble_eq_true rfl) (Nat.le_of_ble_eq_true rfl) (by decide) n_0 k_0 rfl rfl (t_X12_settles h1) ?_
  refine JX_aload_n 2 dL_law_1285 rfl ?_
  refine JX_aload_n 0 dL_law_1286 rfl ?_
  refine JX_iload 4 dL_law_1287 rfl ?_
  refine JX_iconst (v := 1) dL_law_1289 (by decide) ?_
  refine JX_iadd dL_law_1290 ?_
  refine JX_sld dL_law_1291 hx1.1 hx1.2 ?_
  refine JX_aload_n 0 dL_law_1292 rfl ?_
  refine JX_iload 4 dL_law_1293 rfl ?_
  refine JX_iconst (v := 2) dL_law_1295 (by decide) ?_
  refine JX_iadd dL_law_1296 ?_
  refine JX_sld dL_law_1297 hx2.1 hx2.2 ?_
  refine MX_callVI (d' := 7) (k := 324) (As := [.int a1, .int a2]) (st := [.int r]) cv_L_139 dL_law_1298 rfl (by decide) rfl (Nat.le_of_ble_eq_true rfl) (Nat.le_of_ble_eq_true rfl) (by decide) n_324 k_324 rfl rfl (t_X13_settles h2) ?_
  refine JX_icmp_eq (tgt := 1639) dL_law_1301 (by decide) (fun _ => K) (fun z => absurd rfl z)
theorem lc_27 {kc ks : Nat} {L : Nat} {xs : Nat → Int32} {Q : Option Value → jPS → Prop} {i : Int32} {σ : jM} {a1 a2 : Int32} {r : Int32} {σ1 σ2 : jM} (hx1 : vp_in (i + 1) L ∧ xs (i + 1).toNatClampNeg = a1) (hx2 : vp_in (i + 2) L ∧ xs (i + 2).toNatClampNeg = a2) (h1 : f_X12_would a1 a2 σ = some (r, σ1)) (h2 : f_X13_would a1 a2 σ1 = some (r, σ2)) (K : JX mi_L_law 20 kc ks (jYL L xs) (fun _ _ _ _ => False) Q 1639 (lsL i) [] (ms σ2)) : JX mi_L_law 20 kc ks (jYL L xs) (fun _ _ _ _ => False) Q 1306 (lsL i) [] (ms σ) := by
  refine JX_aload_n 1 dL_law_1306 rfl ?_
  refine JX_aload_n 0 dL_law_1307 rfl ?_
  refine JX_iload 4 dL_law_1308 rfl ?_
  refine JX_iconst (v := 1) dL_law_1310 (by decide) ?_
  refine JX_iadd dL_law_1311 ?_
  refine JX_sld dL_law_1312 hx1.1 hx1.2 ?_
  refine JX_aload_n 0 dL_law_1313 rfl ?_
  refine JX_iload 4 dL_law_1314 rfl ?_
  refine JX_iconst (v := 2) dL_law_1316 (by decide) ?_
  refine JX_iadd dL_law_1317 ?_
  refine JX_sld dL_law_1318 hx2.1 hx2.2 ?_
  refine MX_callVI (d' := 16) (k := 0) (As := [.int a1, .int a2]) (st := []) cv_L_140 dL_law_1319 rfl (by decide) rfl (Nat.le_of_ble_eq_true rfl) (Nat.le_of_ble_eq_true rfl) (by decide) n_0 k_0 rfl rfl (t_X12_would h1) ?_
  refine JX_aload_n 2 dL_law_1322 rfl ?_
  refine JX_aload_n 0 dL_law_1323 rfl ?_
  refine JX_iload 4 dL_law_1324 rfl ?_
  refine JX_iconst (v := 1) dL_law_1326 (by decide) ?_
  refine JX_iadd dL_law_1327 ?_
  refine JX_sld dL_law_1328 hx1.1 hx1.2 ?_
  refine JX_aload_n 0 dL_law_1329 rfl ?_
  refine JX_iload 4 dL_law_1330 rfl ?_
  refine JX_iconst (v := 2) dL_law_1332 (by decide) ?_
  refine JX_iadd dL_law_1333 ?_
  refine JX_sld dL_law_1334 hx2.1 hx2.2 ?_
  refine MX_callVI (d' := 7) (k := 324) (As := [.int a1, .int a2]) (st := [.int r]) cv_L_143 dL_law_1335 rfl (by decide) rfl (Nat.le_of_ble_eq_true rfl) (Nat.le_of_ble_eq_true rfl) (by decide) n_324 k_324 rfl rfl (t_X13_would h2) ?_
  refine JX_icmp_eq (tgt := 1639) dL_law_1338 (by decide) (fun _ => K) (fun z => absurd rfl z)
theorem lc_28 {kc ks : Nat} {L : Nat} {xs : Nat → Int32} {Q : Option Value → jPS → Prop} {i : Int32} {σ : jM} {a1 : Int32} {r : Int32} {σ1 σ2 : jM} (hx1 : vp_in (i + 1) L ∧ xs (i + 1).toNatClampNeg = a1) (h1 : f_X12_fits a1 σ = some (r, σ1)) (h2 : f_X13_fits a1 σ1 = some (r, σ2)) (K : JX mi_L_law 20 kc ks (jYL L xs) (fun _ _ _ _ => False) Q 1639 (lsL i) [] (ms σ2)) : JX mi_L_law 20 kc ks (jYL L xs) (fun _ _ _ _ => False) Q 1343 (lsL i) [] (ms σ) := by
  refine JX_aload_n 1 dL_law_1343 rfl ?_
  refine JX_aload_n 0 dL_law_1344 rfl ?_
  refine JX_iload 4 dL_law_1345 rfl ?_
  refine JX_iconst (v := 1) dL_law_1347 (by decide) ?_
  refine JX_iadd dL_law_1348 ?_
  refine JX_sld dL_law_1349 hx1.1 hx1.2 ?_
  refine MX_callVI (d' := 17) (k := 0) (As := [.int a1]) (st := []) cv_L_144 dL_law_1350 rfl (by decide) rfl (Nat.le_of_ble_eq_true rfl) (Nat.le_of_ble_eq_true rfl) (by decide) n_0 k_0 rfl rfl (t_X12_fits h1) ?_
  refine JX_aload_n 2 dL_law_1353 rfl ?_
  refine JX_aload_n 0 dL_law_1354 rfl ?_
  refine JX_iload 4 dL_law_1355 rfl ?_
  refine JX_iconst (v := 1) dL_law_1357 (by decide) ?_
  refine JX_iadd dL_law_1358 ?_
  refine JX_sld dL_law_1359 hx1.1 hx1.2 ?_
  refine MX_callVI (d' := 6) (k := 324) (As := [.int a1]) (st := [.int r]) cv_L_147 dL_law_1360 rfl (by decide) rfl (Nat.le_of_ble_eq_true rfl) (Nat.le_of_ble_eq_true rfl) (by decide) n_324 k_324 rfl rfl (t_X13_fits h2) ?_
  refine JX_icmp_eq (tgt := 1639) dL_law_1363 (by decide) (fun _ => K) (fun z => absurd rfl z)
theorem lc_29 {kc ks : Nat} {L : Nat} {xs : Nat → Int32} {Q : Option Value → jPS → Prop} {i : Int32} {σ : jM} {a1 a2 : Int32} {r : Int32} {σ1 σ2 : jM} (hx1 : vp_in (i + 1) L ∧ xs (i + 1).toNatClampNeg = a1) (hx2 : vp_in (i + 2) L ∧ xs (i + 2).toNatClampNeg = a2) (h1 : f_X12_doubt a1 a2 σ = some (r, σ1)) (h2 : f_X13_doubt a1 a2 σ1 = some (r, σ2)) (K : JX mi_L_law 20 kc ks (jYL L xs) (fun _ _ _ _ => False) Q 1639 (lsL i) [] (ms σ2)) : JX mi_L_law 20 kc ks (jYL L xs) (fun _ _ _ _ => False) Q 1368 (lsL i) [] (ms σ) := by
  refine JX_aload_n 1 dL_law_1368 rfl ?_
  refine JX_aload_n 0 dL_law_1369 rfl ?_
  refine JX_iload 4 dL_law_1370 rfl ?_
  refine JX_iconst (v := 1) dL_law_1372 (by decide) ?_
  refine JX_iadd dL_law_1373 ?_
  refine JX_sld dL_law_1374 hx1.1 hx1.2 ?_
  refine JX_aload_n 0 dL_law_1375 rfl ?_
  refine JX_iload 4 dL_law_1376 rfl ?_
  refine JX_iconst (v := 2) dL_law_1378 (by decide) ?_
  refine JX_iadd dL_law_1379 ?_
  refine JX_sld dL_law_1380 hx2.1 hx2.2 ?_
  refine MX_callVI (d' := 17) (k := 0) (As := [.int a1, .int a2]) (st := []) cv_L_148 dL_law_1381 rfl (by decide) rfl (Nat.le_of_ble_eq_true rfl) (Nat.le_of_ble_eq_true rfl) (by decide) n_0 k_0 rfl rfl (t_X12_doubt h1) ?_
  refine JX_aload_n 2 dL_law_1384 rfl ?_
  refine JX_aload_n 0 dL_law_1385 rfl ?_
  refine JX_iload 4 dL_law_1386 rfl ?_
  refine JX_iconst (v := 1) dL_law_1388 (by decide) ?_
  refine JX_iadd dL_law_1389 ?_
  refine JX_sld dL_law_1390 hx1.1 hx1.2 ?_
  refine JX_aload_n 0 dL_law_1391 rfl ?_
  refine JX_iload 4 dL_law_1392 rfl ?_
  refine JX_iconst (v := 2) dL_law_1394 (by decide) ?_
  refine JX_iadd dL_law_1395 ?_
  refine JX_sld dL_law_1396 hx2.1 hx2.2 ?_
  refine MX_callVI (d' := 6) (k := 324) (As := [.int a1, .int a2]) (st := [.int r]) cv_L_151 dL_law_1397 rfl (by decide) rfl (Nat.le_of_ble_eq_true rfl) (Nat.le_of_ble_eq_true rfl) (by decide) n_324 k_324 rfl rfl (t_X13_doubt h2) ?_
  refine JX_icmp_eq (tgt := 1639) dL_law_1400 (by decide) (fun _ => K) (fun z => absurd rfl z)
theorem lc_30 {kc ks : Nat} {L : Nat} {xs : Nat → Int32} {Q : Option Value → jPS → Prop} {i : Int32} {σ : jM} {a1 a2 a3 a4 : Int32} {r : Int32} {σ1 σ2 : jM} (hx1 : vp_in (i + 1) L ∧ xs (i + 1).toNatClampNeg = a1) (hx2 : vp_in (i + 2) L ∧ xs (i + 2).toNatClampNeg = a2) (hx3 : vp_in (i + 3) L ∧ xs (i + 3).toNatClampNeg = a3) (hx4 : vp_in (i + 4) L ∧ xs (i + 4).toNatClampNeg = a4) (h1 : f_X12_could a1 a2 a3 a4 σ = some (r, σ1)) (h2 : f_X13_could a1 a2 a3 a4 σ1 = some (r, σ2)) (K : JX mi_L_law 20 kc ks (jYL L xs) (fun _ _ _ _ => False) Q 1639 (lsL i) [] (ms σ2)) : JX mi_L_law 20 kc ks (jYL L xs) (fun _ _ _ _ => False) Q 1405 (lsL i) [] (ms σ) := by
  refine JX_aload_n 1 dL_law_1405 rfl ?_
  refine JX_aload_n 0 dL_law_1406 rfl ?_
  refine JX_iload 4 dL_law_1407 rfl ?_
  refine JX_iconst (v := 1) dL_law_1409 (by decide) ?_
  refine JX_iadd dL_law_1410 ?_
  refine JX_sld dL_law_1411 hx1.1 hx1.2 ?_
  refine JX_aload_n 0 dL_law_1412 rfl ?_
  refine JX_iload 4 dL_law_1413 rfl ?_
  refine JX_iconst (v := 2) dL_law_1415 (by decide) ?_
  refine JX_iadd dL_law_1416 ?_
  refine JX_sld dL_law_1417 hx2.1 hx2.2 ?_
  refine JX_aload_n 0 dL_law_1418 rfl ?_
  refine JX_iload 4 dL_law_1419 rfl ?_
  refine JX_iconst (v := 3) dL_law_1421 (by decide) ?_
  refine JX_iadd dL_law_1422 ?_
  refine JX_sld dL_law_1423 hx3.1 hx3.2 ?_
  refine JX_aload_n 0 dL_law_1424 rfl ?_
  refine JX_iload 4 dL_law_1425 rfl ?_
  refine JX_iconst (v := 4) dL_law_1427 (by decide) ?_
  refine JX_iadd dL_law_1428 ?_
  refine JX_sld dL_law_1429 hx4.1 hx4.2 ?_
  refine MX_callVI (d' := 17) (k := 0) (As := [.int a1, .int a2, .int a3, .int a4]) (st := []) cv_L_152 dL_law_1430 rfl (by decide) rfl (Nat.le_of_ble_eq_true rfl) (Nat.le_of_ble_eq_true rfl) (by decide) n_0 k_0 rfl rfl (t_X12_could h1) ?_
  refine JX_aload_n 2 dL_law_1433 rfl ?_
  refine JX_aload_n 0 dL_law_1434 rfl ?_
  refine JX_iload 4 dL_law_1435 rfl ?_
  refine JX_iconst (v := 1) dL_law_1437 (by decide) ?_
  refine JX_iadd dL_law_1438 ?_
  refine JX_sld dL_law_1439 hx1.1 hx1.2 ?_
  refine JX_aload_n 0 dL_law_1440 rfl ?_
  refine JX_iload 4 dL_law_1441 rfl ?_
  refine JX_iconst (v := 2) dL_law_1443 (by decide) ?_
  refine JX_iadd dL_law_1444 ?_
  refine JX_sld dL_law_1445 hx2.1 hx2.2 ?_
  refine JX_aload_n 0 dL_law_1446 rfl ?_
  refine JX_iload 4 dL_law_1447 rfl ?_
  refine JX_iconst (v := 3) dL_law_1449 (by decide) ?_
  refine JX_iadd dL_law_1450 ?_
  refine JX_sld dL_law_1451 hx3.1 hx3.2 ?_
  refine JX_aload_n 0 dL_law_1452 rfl ?_
  refine JX_iload 4 dL_law_1453 rfl ?_
  refine JX_iconst (v := 4) dL_law_1455 (by decide) ?_
  refine JX_iadd dL_law_1456 ?_
  refine JX_sld dL_law_1457 hx4.1 hx4.2 ?_
  refine MX_callVI (d' := 7) (k := 324) (As := [.int a1, .int a2, .int a3, .int a4]) (st := [.int r]) cv_L_155 dL_law_1458 rfl (by decide) rfl (Nat.le_of_ble_eq_true rfl) (Nat.le_of_ble_eq_true rfl) (by decide) n_324 k_324 rfl rfl (t_X13_could h2) ?_
  refine JX_icmp_eq (tgt := 1639) dL_law_1461 (by decide) (fun _ => K) (fun z => absurd rfl z)
theorem lc_31 {kc ks : Nat} {L : Nat} {xs : Nat → Int32} {Q : Option Value → jPS → Prop} {i : Int32} {σ : jM} {a1 a2 : Int32} {r : Int32} {σ1 σ2 : jM} (hx1 : vp_in (i + 1) L ∧ xs (i + 1).toNatClampNeg = a1) (hx2 : vp_in (i + 2) L ∧ xs (i + 2).toNatClampNeg = a2) (h1 : f_X12_inGrid a1 a2 σ = some (r, σ1)) (h2 : f_X13_inGrid a1 a2 σ1 = some (r, σ2)) (K : JX mi_L_law 20 kc ks (jYL L xs) (fun _ _ _ _ => False) Q 1639 (lsL i) [] (ms σ2)) : JX mi_L_law 20 kc ks (jYL L xs) (fun _ _ _ _ => False) Q 1466 (lsL i) [] (ms σ) := by
  refine JX_aload_n 1 dL_law_1466 rfl ?_
  refine JX_aload_n 0 dL_law_1467 rfl ?_
  refine JX_iload 4 dL_law_1468 rfl ?_
  refine JX_iconst (v := 1) dL_law_1470 (by decide) ?_
  refine JX_iadd dL_law_1471 ?_
  refine JX_sld dL_law_1472 hx1.1 hx1.2 ?_
  refine JX_aload_n 0 dL_law_1473 rfl ?_
  refine JX_iload 4 dL_law_1474 rfl ?_
  refine JX_iconst (v := 2) dL_law_1476 (by decide) ?_
  refine JX_iadd dL_law_1477 ?_
  refine JX_sld dL_law_1478 hx2.1 hx2.2 ?_
  refine MX_callVI (d' := 17) (k := 0) (As := [.int a1, .int a2]) (st := []) cv_L_156 dL_law_1479 rfl (by decide) rfl (Nat.le_of_ble_eq_true rfl) (Nat.le_of_ble_eq_true rfl) (by decide) n_0 k_0 rfl rfl (t_X12_inGrid h1) ?_
  refine JX_aload_n 2 dL_law_1482 rfl ?_
  refine JX_aload_n 0 dL_law_1483 rfl ?_
  refine JX_iload 4 dL_law_1484 rfl ?_
  refine JX_iconst (v := 1) dL_law_1486 (by decide) ?_
  refine JX_iadd dL_law_1487 ?_
  refine JX_sld dL_law_1488 hx1.1 hx1.2 ?_
  refine JX_aload_n 0 dL_law_1489 rfl ?_
  refine JX_iload 4 dL_law_1490 rfl ?_
  refine JX_iconst (v := 2) dL_law_1492 (by decide) ?_
  refine JX_iadd dL_law_1493 ?_
  refine JX_sld dL_law_1494 hx2.1 hx2.2 ?_
  refine MX_callVI (d' := 7) (k := 324) (As := [.int a1, .int a2]) (st := [.int r]) cv_L_159 dL_law_1495 rfl (by decide) rfl (Nat.le_of_ble_eq_true rfl) (Nat.le_of_ble_eq_true rfl) (by decide) n_324 k_324 rfl rfl (t_X13_inGrid h2) ?_
  refine JX_icmp_eq (tgt := 1639) dL_law_1498 (by decide) (fun _ => K) (fun z => absurd rfl z)
theorem lc_32 {kc ks : Nat} {L : Nat} {xs : Nat → Int32} {Q : Option Value → jPS → Prop} {i : Int32} {σ : jM} {a1 : Int32} {r : Int32} {σ1 σ2 : jM} (hx1 : vp_in (i + 1) L ∧ xs (i + 1).toNatClampNeg = a1) (h1 : f_X12_where a1 σ = some (r, σ1)) (h2 : f_X13_where a1 σ1 = some (r, σ2)) (K : JX mi_L_law 20 kc ks (jYL L xs) (fun _ _ _ _ => False) Q 1639 (lsL i) [] (ms σ2)) : JX mi_L_law 20 kc ks (jYL L xs) (fun _ _ _ _ => False) Q 1503 (lsL i) [] (ms σ) := by
  refine JX_aload_n 1 dL_law_1503 rfl ?_
  refine JX_aload_n 0 dL_law_1504 rfl ?_
  refine JX_iload 4 dL_law_1505 rfl ?_
  refine JX_iconst (v := 1) dL_law_1507 (by decide) ?_
  refine JX_iadd dL_law_1508 ?_
  refine JX_sld dL_law_1509 hx1.1 hx1.2 ?_
  refine MX_callVI (d' := 17) (k := 0) (As := [.int a1]) (st := []) cv_L_160 dL_law_1510 rfl (by decide) rfl (Nat.le_of_ble_eq_true rfl) (Nat.le_of_ble_eq_true rfl) (by decide) n_0 k_0 rfl rfl (t_X12_where h1) ?_
  refine JX_aload_n 2 dL_law_1513 rfl ?_
  refine JX_aload_n 0 dL_law_1514 rfl ?_
  refine JX_iload 4 dL_law_1515 rfl ?_
  refine JX_iconst (v := 1) dL_law_1517 (by decide) ?_
  refine JX_iadd dL_law_1518 ?_
  refine JX_sld dL_law_1519 hx1.1 hx1.2 ?_
  refine MX_callVI (d' := 7) (k := 324) (As := [.int a1]) (st := [.int r]) cv_L_163 dL_law_1520 rfl (by decide) rfl (Nat.le_of_ble_eq_true rfl) (Nat.le_of_ble_eq_true rfl) (by decide) n_324 k_324 rfl rfl (t_X13_where h2) ?_
  refine JX_icmp_eq (tgt := 1639) dL_law_1523 (by decide) (fun _ => K) (fun z => absurd rfl z)
theorem lc_33 {kc ks : Nat} {L : Nat} {xs : Nat → Int32} {Q : Option Value → jPS → Prop} {i : Int32} {σ : jM} {a1 a2 a3 : Int32} {r : Int32} {σ1 σ2 : jM} (hx1 : vp_in (i + 1) L ∧ xs (i + 1).toNatClampNeg = a1) (hx2 : vp_in (i + 2) L ∧ xs (i + 2).toNatClampNeg = a2) (hx3 : vp_in (i + 3) L ∧ xs (i + 3).toNatClampNeg = a3) (h1 : f_X12_often a1 a2 a3 σ = some (r, σ1)) (h2 : f_X13_often a1 a2 a3 σ1 = some (r, σ2)) (K : JX mi_L_law 20 kc ks (jYL L xs) (fun _ _ _ _ => False) Q 1639 (lsL i) [] (ms σ2)) : JX mi_L_law 20 kc ks (jYL L xs) (fun _ _ _ _ => False) Q 1528 (lsL i) [] (ms σ) := by
  refine JX_aload_n 1 dL_law_1528 rfl ?_
  refine JX_aload_n 0 dL_law_1529 rfl ?_
  refine JX_iload 4 dL_law_1530 rfl ?_
  refine JX_iconst (v := 1) dL_law_1532 (by decide) ?_
  refine JX_iadd dL_law_1533 ?_
  refine JX_sld dL_law_1534 hx1.1 hx1.2 ?_
  refine JX_aload_n 0 dL_law_1535 rfl ?_
  refine JX_iload 4 dL_law_1536 rfl ?_
  refine JX_iconst (v := 2) dL_law_1538 (by decide) ?_
  refine JX_iadd dL_law_1539 ?_
  refine JX_sld dL_law_1540 hx2.1 hx2.2 ?_
  refine JX_aload_n 0 dL_law_1541 rfl ?_
  refine JX_iload 4 dL_law_1542 rfl ?_
  refine JX_iconst (v := 3) dL_law_1544 (by decide) ?_
  refine JX_iadd dL_law_1545 ?_
  refine JX_sld dL_law_1546 hx3.1 hx3.2 ?_
  refine MX_callVI (d' := 7) (k := 0) (As := [.int a1, .int a2, .int a3]) (st := []) cv_L_164 dL_law_1547 rfl (by decide) rfl (Nat.le_of_ble_eq_true rfl) (Nat.le_of_ble_eq_true rfl) (by decide) n_0 k_0 rfl rfl (t_X12_often h1) ?_
  refine JX_aload_n 2 dL_law_1550 rfl ?_
  refine JX_aload_n 0 dL_law_1551 rfl ?_
  refine JX_iload 4 dL_law_1552 rfl ?_
  refine JX_iconst (v := 1) dL_law_1554 (by decide) ?_
  refine JX_iadd dL_law_1555 ?_
  refine JX_sld dL_law_1556 hx1.1 hx1.2 ?_
  refine JX_aload_n 0 dL_law_1557 rfl ?_
  refine JX_iload 4 dL_law_1558 rfl ?_
  refine JX_iconst (v := 2) dL_law_1560 (by decide) ?_
  refine JX_iadd dL_law_1561 ?_
  refine JX_sld dL_law_1562 hx2.1 hx2.2 ?_
  refine JX_aload_n 0 dL_law_1563 rfl ?_
  refine JX_iload 4 dL_law_1564 rfl ?_
  refine JX_iconst (v := 3) dL_law_1566 (by decide) ?_
  refine JX_iadd dL_law_1567 ?_
  refine JX_sld dL_law_1568 hx3.1 hx3.2 ?_
  refine MX_callVI (d' := 4) (k := 324) (As := [.int a1, .int a2, .int a3]) (st := [.int r]) cv_L_167 dL_law_1569 rfl (by decide) rfl (Nat.le_of_ble_eq_true rfl) (Nat.le_of_ble_eq_true rfl) (by decide) n_324 k_324 rfl rfl (t_X13_often h2) ?_
  refine JX_icmp_eq (tgt := 1639) dL_law_1572 (by decide) (fun _ => K) (fun z => absurd rfl z)
theorem lc_34 {kc ks : Nat} {L : Nat} {xs : Nat → Int32} {Q : Option Value → jPS → Prop} {i : Int32} {σ : jM} {a1 a2 : Int32} {r : Int32} {σ1 σ2 : jM} (hx1 : vp_in (i + 1) L ∧ xs (i + 1).toNatClampNeg = a1) (hx2 : vp_in (i + 2) L ∧ xs (i + 2).toNatClampNeg = a2) (h1 : f_X12_rank a1 a2 σ = some (r, σ1)) (h2 : f_X13_rank a1 a2 σ1 = some (r, σ2)) (K : JX mi_L_law 20 kc ks (jYL L xs) (fun _ _ _ _ => False) Q 1639 (lsL i) [] (ms σ2)) : JX mi_L_law 20 kc ks (jYL L xs) (fun _ _ _ _ => False) Q 1577 (lsL i) [] (ms σ) := by
  refine JX_aload_n 1 dL_law_1577 rfl ?_
  refine JX_aload_n 0 dL_law_1578 rfl ?_
  refine JX_iload 4 dL_law_1579 rfl ?_
  refine JX_iconst (v := 1) dL_law_1581 (by decide) ?_
  refine JX_iadd dL_law_1582 ?_
  refine JX_sld dL_law_1583 hx1.1 hx1.2 ?_
  refine JX_aload_n 0 dL_law_1584 rfl ?_
  refine JX_iload 4 dL_law_1585 rfl ?_
  refine JX_iconst (v := 2) dL_law_1587 (by decide) ?_
  refine JX_iadd dL_law_1588 ?_
  refine JX_sld dL_law_1589 hx2.1 hx2.2 ?_
  refine MX_callVI (d' := 7) (k := 0) (As := [.int a1, .int a2]) (st := []) cv_L_168 dL_law_1590 rfl (by decide) rfl (Nat.le_of_ble_eq_true rfl) (Nat.le_of_ble_eq_true rfl) (by decide) n_0 k_0 rfl rfl (t_X12_rank h1) ?_
  refine JX_aload_n 2 dL_law_1593 rfl ?_
  refine JX_aload_n 0 dL_law_1594 rfl ?_
  refine JX_iload 4 dL_law_1595 rfl ?_
  refine JX_iconst (v := 1) dL_law_1597 (by decide) ?_
  refine JX_iadd dL_law_1598 ?_
  refine JX_sld dL_law_1599 hx1.1 hx1.2 ?_
  refine JX_aload_n 0 dL_law_1600 rfl ?_
  refine JX_iload 4 dL_law_1601 rfl ?_
  refine JX_iconst (v := 2) dL_law_1603 (by decide) ?_
  refine JX_iadd dL_law_1604 ?_
  refine JX_sld dL_law_1605 hx2.1 hx2.2 ?_
  refine MX_callVI (d' := 4) (k := 324) (As := [.int a1, .int a2]) (st := [.int r]) cv_L_171 dL_law_1606 rfl (by decide) rfl (Nat.le_of_ble_eq_true rfl) (Nat.le_of_ble_eq_true rfl) (by decide) n_324 k_324 rfl rfl (t_X13_rank h2) ?_
  refine JX_icmp_eq (tgt := 1639) dL_law_1609 (by decide) (fun _ => K) (fun z => absurd rfl z)
theorem lc_35 {kc ks : Nat} {L : Nat} {xs : Nat → Int32} {Q : Option Value → jPS → Prop} {i : Int32} {σ : jM} {a1 : Int32} {r : Int32} {σ1 σ2 : jM} (hx1 : vp_in (i + 1) L ∧ xs (i + 1).toNatClampNeg = a1) (h1 : f_X12_count a1 σ = some (r, σ1)) (h2 : f_X13_count a1 σ1 = some (r, σ2)) (K : JX mi_L_law 20 kc ks (jYL L xs) (fun _ _ _ _ => False) Q 1639 (lsL i) [] (ms σ2)) : JX mi_L_law 20 kc ks (jYL L xs) (fun _ _ _ _ => False) Q 1614 (lsL i) [] (ms σ) := by
  refine JX_aload_n 1 dL_law_1614 rfl ?_
  refine JX_aload_n 0 dL_law_1615 rfl ?_
  refine JX_iload 4 dL_law_1616 rfl ?_
  refine JX_iconst (v := 1) dL_law_1618 (by decide) ?_
  refine JX_iadd dL_law_1619 ?_
  refine JX_sld dL_law_1620 hx1.1 hx1.2 ?_
  refine MX_callVI (d' := 3) (k := 0) (As := [.int a1]) (st := []) cv_L_172 dL_law_1621 rfl (by decide) rfl (Nat.le_of_ble_eq_true rfl) (Nat.le_of_ble_eq_true rfl) (by decide) n_0 k_0 rfl rfl (t_X12_count h1) ?_
  refine JX_aload_n 2 dL_law_1624 rfl ?_
  refine JX_aload_n 0 dL_law_1625 rfl ?_
  refine JX_iload 4 dL_law_1626 rfl ?_
  refine JX_iconst (v := 1) dL_law_1628 (by decide) ?_
  refine JX_iadd dL_law_1629 ?_
  refine JX_sld dL_law_1630 hx1.1 hx1.2 ?_
  refine MX_callVI (d' := 3) (k := 324) (As := [.int a1]) (st := [.int r]) cv_L_175 dL_law_1631 rfl (by decide) rfl (Nat.le_of_ble_eq_true rfl) (Nat.le_of_ble_eq_true rfl) (by decide) n_324 k_324 rfl rfl (t_X13_count h2) ?_
  refine JX_icmp_eq (tgt := 1639) dL_law_1634 (by decide) (fun _ => K) (fun z => absurd rfl z)
theorem lc_11 {kc ks : Nat} {L : Nat} {xs : Nat → Int32} {Q : Option Value → jPS → Prop} {i : Int32} {σ : jM} {a1 a2 a3 a4 : Int32} {r : Int32} {σ1 σ2 : jM} (hx1 : vp_in (i + 1) L ∧ xs (i + 1).toNatClampNeg = a1) (hx2 : vp_in (i + 2) L ∧ xs (i + 2).toNatClampNeg = a2) (hx3 : vp_in (i + 3) L ∧ xs (i + 3).toNatClampNeg = a3) (hx4 : vp_in (i + 4) L ∧ xs (i + 4).toNatClampNeg = a4) (h1 : f_X12_share a1 a2 a3 (if a4 = 0 then 0 else 1) σ = some (r, σ1)) (h2 : f_X13_share a1 a2 a3 (if a4 = 0 then 0 else 1) σ1 = some (r, σ2)) (K : JX mi_L_law 20 kc ks (jYL L xs) (fun _ _ _ _ => False) Q 1639 (lsL i) [] (ms σ2)) : JX mi_L_law 20 kc ks (jYL L xs) (fun _ _ _ _ => False) Q 614 (lsL i) [] (ms σ) := by
  refine JX_aload_n 1 dL_law_614 rfl ?_
  refine JX_aload_n 0 dL_law_615 rfl ?_
  refine JX_iload 4 dL_law_616 rfl ?_
  refine JX_iconst (v := 1) dL_law_618 (by decide) ?_
  refine JX_iadd dL_law_619 ?_
  refine JX_sld dL_law_620 hx1.1 hx1.2 ?_
  refine JX_aload_n 0 dL_law_621 rfl ?_
  refine JX_iload 4 dL_law_622 rfl ?_
  refine JX_iconst (v := 2) dL_law_624 (by decide) ?_
  refine JX_iadd dL_law_625 ?_
  refine JX_sld dL_law_626 hx2.1 hx2.2 ?_
  refine JX_aload_n 0 dL_law_627 rfl ?_
  refine JX_iload 4 dL_law_628 rfl ?_
  refine JX_iconst (v := 3) dL_law_630 (by decide) ?_
  refine JX_iadd dL_law_631 ?_
  refine JX_sld dL_law_632 hx3.1 hx3.2 ?_
  refine JX_aload_n 0 dL_law_633 rfl ?_
  refine JX_iload 4 dL_law_634 rfl ?_
  refine JX_iconst (v := 4) dL_law_636 (by decide) ?_
  refine JX_iadd dL_law_637 ?_
  refine JX_sld dL_law_638 hx4.1 hx4.2 ?_
  refine JX_if_eq (tgt := 646) dL_law_639 (by decide) (fun c1 => ?_) (fun c1 => ?_)
  · rw [if_pos c1] at h1 h2
    refine JX_iconst (v := 0) dL_law_646 (by decide) ?_
    refine MX_callVI (d' := 2) (k := 0) (As := [.int a1, .int a2, .int a3, .int 0]) (st := []) cv_L_74 dL_law_647 rfl (by decide) rfl (Nat.le_of_ble_eq_true rfl) (Nat.le_of_ble_eq_true rfl) (by decide) n_0 k_0 rfl rfl (t_X12_share h1) ?_
    refine JX_aload_n 2 dL_law_650 rfl ?_
    refine JX_aload_n 0 dL_law_651 rfl ?_
    refine JX_iload 4 dL_law_652 rfl ?_
    refine JX_iconst (v := 1) dL_law_654 (by decide) ?_
    refine JX_iadd dL_law_655 ?_
    refine JX_sld dL_law_656 hx1.1 hx1.2 ?_
    refine JX_aload_n 0 dL_law_657 rfl ?_
    refine JX_iload 4 dL_law_658 rfl ?_
    refine JX_iconst (v := 2) dL_law_660 (by decide) ?_
    refine JX_iadd dL_law_661 ?_
    refine JX_sld dL_law_662 hx2.1 hx2.2 ?_
    refine JX_aload_n 0 dL_law_663 rfl ?_
    refine JX_iload 4 dL_law_664 rfl ?_
    refine JX_iconst (v := 3) dL_law_666 (by decide) ?_
    refine JX_iadd dL_law_667 ?_
    refine JX_sld dL_law_668 hx3.1 hx3.2 ?_
    refine JX_aload_n 0 dL_law_669 rfl ?_
    refine JX_iload 4 dL_law_670 rfl ?_
    refine JX_iconst (v := 4) dL_law_672 (by decide) ?_
    refine JX_iadd dL_law_673 ?_
    refine JX_sld dL_law_674 hx4.1 hx4.2 ?_
    refine JX_if_eq (tgt := 682) dL_law_675 (by decide) (fun c2 => ?_) (fun c2 => ?_)
    · refine JX_iconst (v := 0) dL_law_682 (by decide) ?_
      refine MX_callVI (d' := 2) (k := 324) (As := [.int a1, .int a2, .int a3, .int 0]) (st := [.int r]) cv_L_78 dL_law_683 rfl (by decide) rfl (Nat.le_of_ble_eq_true rfl) (Nat.le_of_ble_eq_true rfl) (by decide) n_324 k_324 rfl rfl (t_X13_share h2) ?_
      refine JX_icmp_eq (tgt := 1639) dL_law_686 (by decide) (fun _ => K) (fun z => absurd rfl z)
    · exact absurd c1 c2
  · rw [if_neg c1] at h1 h2
    refine JX_iconst (v := 1) dL_law_642 (by decide) ?_
    refine JX_goto (tgt := 647) dL_law_643 (by decide) ?_
    refine MX_callVI (d' := 2) (k := 0) (As := [.int a1, .int a2, .int a3, .int 1]) (st := []) cv_L_74 dL_law_647 rfl (by decide) rfl (Nat.le_of_ble_eq_true rfl) (Nat.le_of_ble_eq_true rfl) (by decide) n_0 k_0 rfl rfl (t_X12_share h1) ?_
    refine JX_aload_n 2 dL_law_650 rfl ?_
    refine JX_aload_n 0 dL_law_651 rfl ?_
    refine JX_iload 4 dL_law_652 rfl ?_
    refine JX_iconst (v := 1) dL_law_654 (by decide) ?_
    refine JX_iadd dL_law_655 ?_
    refine JX_sld dL_law_656 hx1.1 hx1.2 ?_
    refine JX_aload_n 0 dL_law_657 rfl ?_
    refine JX_iload 4 dL_law_658 rfl ?_
    refine JX_iconst (v := 2) dL_law_660 (by decide) ?_
    refine JX_iadd dL_law_661 ?_
    refine JX_sld dL_law_662 hx2.1 hx2.2 ?_
    refine JX_aload_n 0 dL_law_663 rfl ?_
    refine JX_iload 4 dL_law_664 rfl ?_
    refine JX_iconst (v := 3) dL_law_666 (by decide) ?_
    refine JX_iadd dL_law_667 ?_
    refine JX_sld dL_law_668 hx3.1 hx3.2 ?_
    refine JX_aload_n 0 dL_law_669 rfl ?_
    refine JX_iload 4 dL_law_670 rfl ?_
    refine JX_iconst (v := 4) dL_law_672 (by decide) ?_
    refine JX_iadd dL_law_673 ?_
    refine JX_sld dL_law_674 hx4.1 hx4.2 ?_
    refine JX_if_eq (tgt := 682) dL_law_675 (by decide) (fun c2 => ?_) (fun c2 => ?_)
    · exact absurd c2 c1
    · refine JX_iconst (v := 1) dL_law_678 (by decide) ?_
      refine JX_goto (tgt := 683) dL_law_679 (by decide) ?_
      refine MX_callVI (d' := 2) (k := 324) (As := [.int a1, .int a2, .int a3, .int 1]) (st := [.int r]) cv_L_78 dL_law_683 rfl (by decide) rfl (Nat.le_of_ble_eq_true rfl) (Nat.le_of_ble_eq_true rfl) (by decide) n_324 k_324 rfl rfl (t_X13_share h2) ?_
      refine JX_icmp_eq (tgt := 1639) dL_law_686 (by decide) (fun _ => K) (fun z => absurd rfl z)
