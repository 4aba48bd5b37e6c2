/-! ===== cases of the switch ===== -/
set_option maxHeartbeats 4000000 in
set_option maxRecDepth 100000 in
theorem L_0 {p : Program} {l : Launch} {e : Env} {s : State} {m : MethodId} {args : Array Value} {below : List Frame} {meth : Method} {c : Code} {D : va_G} {cyI cyZ cyJ cyD : ClassId} {A : Nat → Prop} {b L : Nat} {xs : Nat → Int32} {Q : State → Prop} {cells slots : Nat} {h : Nat → Nat} {i x1 x2 x3 : Int32} {σ : zC} {μ : zM} {g : Nat → Int64} {d : Nat → UInt64} (hst : l.stackTraces = false) (LW : zLaw p s m args c D cyI cyZ cyJ cyD A b L xs) (hI : zArgs L xs i x1 x2 x3) (hc : cells + 1 ≤ 601024) (hs : slots + 6 ≤ 7293034) (Rl : Rel σ μ) (K : ∀ (σ2 : zC) (μ2 : zM) (g2 : Nat → Int64) (d2 : Nat → UInt64), Rel σ2 μ2 → zW p l e room_1 s m args below meth c D A 10 (cells + 1) (slots + 6) Q 2123 (zlv b h i) [] (w_L cyI cyZ cyJ cyD h σ2 μ2 g2 d2)) : zW p l e room_1 s m args below meth c D A 10 cells slots Q 228 (zlv b h i) [] (w_L cyI cyZ cyJ cyD h σ μ g d) := by
  have G := LW.1
  obtain ⟨z, σ2, b9, μ2, e1, e2, hR2, hT⟩ := o_resize Rl x1 x2
  refine zq_aload_n (q := 229) G dL_law_228 1 rfl rfl rfl ?_
  refine zq_arg (q := 235) (v := 1) LW hI.1 0 5 dL_law_229 dL_law_230 dL_law_232 dL_law_233 dL_law_234 rfl rfl rfl rfl ?_
  refine zq_arg (q := 241) (v := 2) LW hI.2.1 0 5 dL_law_235 dL_law_236 dL_law_238 dL_law_239 dL_law_240 rfl rfl rfl rfl ?_
  refine zq_aload_n (q := 242) G dL_law_241 3 rfl rfl rfl ?_
  refine zq_callH (q := 245) (isC := [0, 1, 2, 3, 4, 5, 6, 7, 8, 9, 10, 11, 12, 13, 14, 15, 16, 29]) (isR := [17, 18, 19, 20, 21, 22, 23, 24, 25, 26, 27, 28, 30]) (perm := [13, 14, 15, 16, 17, 18, 19, 20, 21, 22, 23, 24, 25, 26, 27, 28, 29, 0, 1, 2, 3, 4, 5, 6, 7, 8, 9, 10, 11, 30, 12]) (rest := []) (As := [.ref (h 0), .int x1, .int x2, .ref (h 29)]) G LW.2.1 zs_L_104 dL_law_242 (fun sz9 => h_resize l hst D cyI cyZ cyJ cyD h (h 29) σ σ2 g x1 x2 z b9 μ2.2.2.2.2 e1 hT sz9) rfl rfl rfl (Nat.le_of_ble_eq_true rfl) ⟨(Nat.le_of_ble_eq_true rfl), (Nat.le_of_ble_eq_true rfl), hc, hs⟩ rfl (fun W9 hW9 => ?_)
  obtain ⟨g2, hg2, rfl⟩ := hW9
  refine ⟨(w_L cyI cyZ cyJ cyD h σ2 μ g2 d), ⟨rfl, rfl, rfl, rfl⟩, ?_⟩
  refine zq_istore (q := 247) (lv2 := [(6, .int μ2.2.2.2.2), (0, .ref b), (1, .ref (h 0)), (2, .ref (h 17)), (3, .ref (h 29)), (4, .ref (h 30)), (5, .int i)]) G dL_law_245 (by decide) rfl rfl ?_
  refine zq_aload_n (q := 248) G dL_law_247 3 rfl rfl rfl ?_
  refine zq_arg (q := 254) (v := 1) LW hI.1 1 6 dL_law_248 dL_law_249 dL_law_251 dL_law_252 dL_law_253 rfl rfl rfl rfl ?_
  refine zq_arg (q := 260) (v := 2) LW hI.2.1 1 6 dL_law_254 dL_law_255 dL_law_257 dL_law_258 dL_law_259 rfl rfl rfl rfl ?_
  refine zq_callVi (q := 263) (ws2 := (w_L cyI cyZ cyJ cyD h σ2 μ2 g2 d)) (isC := [17, 18, 19, 20, 21, 22, 23, 24, 25, 26, 27, 28]) (isR := [0, 1, 2, 3, 4, 5, 6, 7, 8, 9, 10, 11, 12, 13, 14, 15, 16, 29, 30]) (perm := [0, 1, 2, 3, 4, 5, 6, 7, 8, 9, 10, 11, 12, 13, 14, 15, 16, 19, 20, 21, 22, 23, 24, 25, 26, 27, 28, 29, 30, 17, 18]) (rest := []) (As := [.int x1, .int x2]) G zs_L_109 dL_law_260 (fun sz9 => c_X4_resize l D cyI cyZ (h 17) (h 18) (h 19) (h 20) (h 21) (h 22) (h 23) (h 24) (h 25) (h 26) (h 27) (h 28) μ x1 x2 b9 μ2 e2 sz9) 17 rfl rfl rfl ⟨rfl, rfl, rfl, rfl⟩ rfl (Nat.le_of_ble_eq_true rfl) ⟨(Nat.le_of_ble_eq_true rfl), (Nat.le_of_ble_eq_true rfl), hc, hs⟩ rfl ?_
  refine zq_istore (q := 265) (lv2 := [(7, .int b9), (6, .int μ2.2.2.2.2), (0, .ref b), (1, .ref (h 0)), (2, .ref (h 17)), (3, .ref (h 29)), (4, .ref (h 30)), (5, .int i)]) G dL_law_263 (by decide) rfl rfl ?_
  refine zq_aload_n (q := 266) G dL_law_265 4 rfl rfl rfl ?_
  refine zq_callVi (q := 269) (ws2 := (w_L cyI cyZ cyJ cyD h σ2 μ2 g2 d)) (isC := [17, 18, 19, 20, 21, 22, 23, 24, 25, 26, 27, 28]) (isR := [0, 1, 2, 3, 4, 5, 6, 7, 8, 9, 10, 11, 12, 13, 14, 15, 16, 29, 30]) (perm := [0, 1, 2, 3, 4, 5, 6, 7, 8, 9, 10, 11, 12, 13, 14, 15, 16, 19, 20, 21, 22, 23, 24, 25, 26, 27, 28, 29, 30, 17, 18]) (rest := []) (As := []) G zs_L_110 dL_law_266 (fun sz9 => c_X4_thrown l D cyI cyZ (h 17) (h 18) (h 19) (h 20) (h 21) (h 22) (h 23) (h 24) (h 25) (h 26) (h 27) (h 28) μ2 μ2.2.2.2.2 (s_thrown μ2) sz9) 17 rfl rfl rfl ⟨rfl, rfl, rfl, rfl⟩ rfl (Nat.le_of_ble_eq_true rfl) ⟨(Nat.le_of_ble_eq_true rfl), (Nat.le_of_ble_eq_true rfl), hc, hs⟩ rfl ?_
  refine zq_iload (q := 271) G dL_law_269 1 rfl rfl ?_
  refine zq_icmp_eq (tgt := 276) (q := 274) G dL_law_271 (by decide) rfl (fun _ => ?_) (fun c9 => absurd rfl c9)
  refine zq_iload (q := 278) G dL_law_276 1 rfl rfl ?_
  refine zq_if_ne (tgt := 293) (q := 281) G dL_law_278 (by decide) rfl (fun _ => ?_) (fun h9 => ?_)
  · exact zq_goto (q := 2123) G dL_law_293 (by decide) (zq_sub (zlv b h i) [2, 3, 4, 5, 6, 7] rfl (K _ _ _ _ hR2))
  · refine zq_aload_n (q := 282) G dL_law_281 5 rfl rfl rfl ?_
    refine zq_iconst (q := 283) (v := 0) G dL_law_282 rfl rfl ?_
    refine zq_lald (q := 284) G LW.2.1 dL_law_283 29 rfl rfl rfl ?_
    refine zq_iload (q := 286) G dL_law_284 0 rfl rfl ?_
    refine zq_i2l (q := 287) G dL_law_286 rfl ?_
    refine zq_lcmp (q := 288) G dL_law_287 rfl ?_
    refine zq_if_eq (tgt := 293) (q := 291) G dL_law_288 (by decide) rfl (fun _ => ?_) (fun c9 => absurd (zeqL (hg2 h9)) c9)
    exact zq_goto (q := 2123) G dL_law_293 (by decide) (zq_sub (zlv b h i) [2, 3, 4, 5, 6, 7] rfl (K _ _ _ _ hR2))
set_option maxHeartbeats 4000000 in
set_option maxRecDepth 100000 in
theorem L_1 {p : Program} {l : Launch} {e : Env} {s : State} {m : MethodId} {args : Array Value} {below : List Frame} {meth : Method} {c : Code} {D : va_G} {cyI cyZ cyJ cyD : ClassId} {A : Nat → Prop} {b L : Nat} {xs : Nat → Int32} {Q : State → Prop} {cells slots : Nat} {h : Nat → Nat} {i x1 x2 x3 : Int32} {σ : zC} {μ : zM} {g : Nat → Int64} {d : Nat → UInt64} (hst : l.stackTraces = false) (LW : zLaw p s m args c D cyI cyZ cyJ cyD A b L xs) (hI : zArgs L xs i x1 x2 x3) (hc : cells + 1 ≤ 601024) (hs : slots + 6 ≤ 7293034) (Rl : Rel σ μ) (K : ∀ (σ2 : zC) (μ2 : zM) (g2 : Nat → Int64) (d2 : Nat → UInt64), Rel σ2 μ2 → zW p l e room_1 s m args below meth c D A 10 (cells + 1) (slots + 6) Q 2123 (zlv b h i) [] (w_L cyI cyZ cyJ cyD h σ2 μ2 g2 d2)) : zW p l e room_1 s m args below meth c D A 10 cells slots Q 296 (zlv b h i) [] (w_L cyI cyZ cyJ cyD h σ μ g d) := by
  have G := LW.1
  obtain ⟨z, σ2, b9, μ2, e1, e2, hR2, hT⟩ := o_setCost Rl x1 x2 x3
  refine zq_aload_n (q := 297) G dL_law_296 1 rfl rfl rfl ?_
  refine zq_arg (q := 303) (v := 1) LW hI.1 0 5 dL_law_297 dL_law_298 dL_law_300 dL_law_301 dL_law_302 rfl rfl rfl rfl ?_
  refine zq_arg (q := 309) (v := 2) LW hI.2.1 0 5 dL_law_303 dL_law_304 dL_law_306 dL_law_307 dL_law_308 rfl rfl rfl rfl ?_
  refine zq_arg (q := 315) (v := 3) LW hI.2.2 0 5 dL_law_309 dL_law_310 dL_law_312 dL_law_313 dL_law_314 rfl rfl rfl rfl ?_
  refine zq_aload_n (q := 316) G dL_law_315 3 rfl rfl rfl ?_
  refine zq_callH (q := 319) (isC := [0, 1, 2, 3, 4, 5, 6, 7, 8, 9, 10, 11, 12, 13, 14, 15, 16, 29]) (isR := [17, 18, 19, 20, 21, 22, 23, 24, 25, 26, 27, 28, 30]) (perm := [13, 14, 15, 16, 17, 18, 19, 20, 21, 22, 23, 24, 25, 26, 27, 28, 29, 0, 1, 2, 3, 4, 5, 6, 7, 8, 9, 10, 11, 30, 12]) (rest := []) (As := [.ref (h 0), .int x1, .int x2, .int x3, .ref (h 29)]) G LW.2.1 zs_L_113 dL_law_316 (fun sz9 => h_setCost l hst D cyI cyZ cyJ cyD h (h 29) σ σ2 g x1 x2 x3 z b9 μ2.2.2.2.2 e1 hT sz9) rfl rfl rfl (Nat.le_of_ble_eq_true rfl) ⟨(Nat.le_of_ble_eq_true rfl), (Nat.le_of_ble_eq_true rfl), hc, hs⟩ rfl (fun W9 hW9 => ?_)
  obtain ⟨g2, hg2, rfl⟩ := hW9
  refine ⟨(w_L cyI cyZ cyJ cyD h σ2 μ g2 d), ⟨rfl, rfl, rfl, rfl⟩, ?_⟩
  refine zq_istore (q := 321) (lv2 := [(6, .int μ2.2.2.2.2), (0, .ref b), (1, .ref (h 0)), (2, .ref (h 17)), (3, .ref (h 29)), (4, .ref (h 30)), (5, .int i)]) G dL_law_319 (by decide) rfl rfl ?_
  refine zq_aload_n (q := 322) G dL_law_321 3 rfl rfl rfl ?_
  refine zq_arg (q := 328) (v := 1) LW hI.1 1 6 dL_law_322 dL_law_323 dL_law_325 dL_law_326 dL_law_327 rfl rfl rfl rfl ?_
  refine zq_arg (q := 334) (v := 2) LW hI.2.1 1 6 dL_law_328 dL_law_329 dL_law_331 dL_law_332 dL_law_333 rfl rfl rfl rfl ?_
  refine zq_arg (q := 340) (v := 3) LW hI.2.2 1 6 dL_law_334 dL_law_335 dL_law_337 dL_law_338 dL_law_339 rfl rfl rfl rfl ?_
  refine zq_callVi (q := 343) (ws2 := (w_L cyI cyZ cyJ cyD h σ2 μ2 g2 d)) (isC := [17, 18, 19, 20, 21, 22, 23, 24, 25, 26, 27, 28]) (isR := [0, 1, 2, 3, 4, 5, 6, 7, 8, 9, 10, 11, 12, 13, 14, 15, 16, 29, 30]) (perm := [0, 1, 2, 3, 4, 5, 6, 7, 8, 9, 10, 11, 12, 13, 14, 15, 16, 19, 20, 21, 22, 23, 24, 25, 26, 27, 28, 29, 30, 17, 18]) (rest := []) (As := [.int x1, .int x2, .int x3]) G zs_L_116 dL_law_340 (fun sz9 => c_X4_setCost l D cyI cyZ (h 17) (h 18) (h 19) (h 20) (h 21) (h 22) (h 23) (h 24) (h 25) (h 26) (h 27) (h 28) μ x1 x2 x3 b9 μ2 e2 sz9) 17 rfl rfl rfl ⟨rfl, rfl, rfl, rfl⟩ rfl (Nat.le_of_ble_eq_true rfl) ⟨(Nat.le_of_ble_eq_true rfl), (Nat.le_of_ble_eq_true rfl), hc, hs⟩ rfl ?_
  refine zq_istore (q := 345) (lv2 := [(7, .int b9), (6, .int μ2.2.2.2.2), (0, .ref b), (1, .ref (h 0)), (2, .ref (h 17)), (3, .ref (h 29)), (4, .ref (h 30)), (5, .int i)]) G dL_law_343 (by decide) rfl rfl ?_
  refine zq_aload_n (q := 346) G dL_law_345 4 rfl rfl rfl ?_
  refine zq_callVi (q := 349) (ws2 := (w_L cyI cyZ cyJ cyD h σ2 μ2 g2 d)) (isC := [17, 18, 19, 20, 21, 22, 23, 24, 25, 26, 27, 28]) (isR := [0, 1, 2, 3, 4, 5, 6, 7, 8, 9, 10, 11, 12, 13, 14, 15, 16, 29, 30]) (perm := [0, 1, 2, 3, 4, 5, 6, 7, 8, 9, 10, 11, 12, 13, 14, 15, 16, 19, 20, 21, 22, 23, 24, 25, 26, 27, 28, 29, 30, 17, 18]) (rest := []) (As := []) G zs_L_110 dL_law_346 (fun sz9 => c_X4_thrown l D cyI cyZ (h 17) (h 18) (h 19) (h 20) (h 21) (h 22) (h 23) (h 24) (h 25) (h 26) (h 27) (h 28) μ2 μ2.2.2.2.2 (s_thrown μ2) sz9) 17 rfl rfl rfl ⟨rfl, rfl, rfl, rfl⟩ rfl (Nat.le_of_ble_eq_true rfl) ⟨(Nat.le_of_ble_eq_true rfl), (Nat.le_of_ble_eq_true rfl), hc, hs⟩ rfl ?_
  refine zq_iload (q := 351) G dL_law_349 1 rfl rfl ?_
  refine zq_icmp_eq (tgt := 356) (q := 354) G dL_law_351 (by decide) rfl (fun _ => ?_) (fun c9 => absurd rfl c9)
  refine zq_iload (q := 358) G dL_law_356 1 rfl rfl ?_
  refine zq_if_ne (tgt := 373) (q := 361) G dL_law_358 (by decide) rfl (fun _ => ?_) (fun h9 => ?_)
  · exact zq_goto (q := 2123) G dL_law_373 (by decide) (zq_sub (zlv b h i) [2, 3, 4, 5, 6, 7] rfl (K _ _ _ _ hR2))
  · refine zq_aload_n (q := 362) G dL_law_361 5 rfl rfl rfl ?_
    refine zq_iconst (q := 363) (v := 0) G dL_law_362 rfl rfl ?_
    refine zq_lald (q := 364) G LW.2.1 dL_law_363 29 rfl rfl rfl ?_
    refine zq_iload (q := 366) G dL_law_364 0 rfl rfl ?_
    refine zq_i2l (q := 367) G dL_law_366 rfl ?_
    refine zq_lcmp (q := 368) G dL_law_367 rfl ?_
    refine zq_if_eq (tgt := 373) (q := 371) G dL_law_368 (by decide) rfl (fun _ => ?_) (fun c9 => absurd (zeqL (hg2 h9)) c9)
    exact zq_goto (q := 2123) G dL_law_373 (by decide) (zq_sub (zlv b h i) [2, 3, 4, 5, 6, 7] rfl (K _ _ _ _ hR2))
set_option maxHeartbeats 4000000 in
set_option maxRecDepth 100000 in
theorem L_2 {p : Program} {l : Launch} {e : Env} {s : State} {m : MethodId} {args : Array Value} {below : List Frame} {meth : Method} {c : Code} {D : va_G} {cyI cyZ cyJ cyD : ClassId} {A : Nat → Prop} {b L : Nat} {xs : Nat → Int32} {Q : State → Prop} {cells slots : Nat} {h : Nat → Nat} {i x1 x2 x3 : Int32} {σ : zC} {μ : zM} {g : Nat → Int64} {d : Nat → UInt64} (hst : l.stackTraces = false) (LW : zLaw p s m args c D cyI cyZ cyJ cyD A b L xs) (hI : zArgs L xs i x1 x2 x3) (hc : cells + 1 ≤ 601024) (hs : slots + 6 ≤ 7293034) (Rl : Rel σ μ) (K : ∀ (σ2 : zC) (μ2 : zM) (g2 : Nat → Int64) (d2 : Nat → UInt64), Rel σ2 μ2 → zW p l e room_1 s m args below meth c D A 10 (cells + 1) (slots + 6) Q 2123 (zlv b h i) [] (w_L cyI cyZ cyJ cyD h σ2 μ2 g2 d2)) : zW p l e room_1 s m args below meth c D A 10 cells slots Q 376 (zlv b h i) [] (w_L cyI cyZ cyJ cyD h σ μ g d) := by
  have G := LW.1
  obtain ⟨z, σ2, b9, μ2, e1, e2, hR2, hT⟩ := o_setRow Rl x1 ((x2.toInt64 <<< ((32 : Int32).toInt64 &&& 63)) ||| (x3.toInt64 &&& 4294967295))
  refine zq_aload_n (q := 377) G dL_law_376 1 rfl rfl rfl ?_
  refine zq_arg (q := 383) (v := 1) LW hI.1 0 5 dL_law_377 dL_law_378 dL_law_380 dL_law_381 dL_law_382 rfl rfl rfl rfl ?_
  refine zq_arg (q := 389) (v := 2) LW hI.2.1 0 5 dL_law_383 dL_law_384 dL_law_386 dL_law_387 dL_law_388 rfl rfl rfl rfl ?_
  refine zq_i2l (q := 390) G dL_law_389 rfl ?_
  refine zq_bipush (q := 392) (v := 32) G dL_law_390 rfl rfl ?_
  refine zq_lshl (q := 393) G dL_law_392 rfl ?_
  refine zq_arg (q := 399) (v := 3) LW hI.2.2 0 5 dL_law_393 dL_law_394 dL_law_396 dL_law_397 dL_law_398 rfl rfl rfl rfl ?_
  refine zq_i2l (q := 400) G dL_law_399 rfl ?_
  refine zq_ldc2 (q := 403) G zw_L_c117 dL_law_400 rfl ?_
  refine zq_land (q := 404) G dL_law_403 rfl ?_
  refine zq_lor (q := 405) G dL_law_404 rfl ?_
  refine zq_aload_n (q := 406) G dL_law_405 3 rfl rfl rfl ?_
  refine zq_callH (q := 409) (isC := [0, 1, 2, 3, 4, 5, 6, 7, 8, 9, 10, 11, 12, 13, 14, 15, 16, 29]) (isR := [17, 18, 19, 20, 21, 22, 23, 24, 25, 26, 27, 28, 30]) (perm := [13, 14, 15, 16, 17, 18, 19, 20, 21, 22, 23, 24, 25, 26, 27, 28, 29, 0, 1, 2, 3, 4, 5, 6, 7, 8, 9, 10, 11, 30, 12]) (rest := []) (As := [.ref (h 0), .int x1, .long ((x2.toInt64 <<< ((32 : Int32).toInt64 &&& 63)) ||| (x3.toInt64 &&& 4294967295)), .ref (h 29)]) G LW.2.1 zs_L_119 dL_law_406 (fun sz9 => h_setRow l hst D cyI cyZ cyJ cyD h (h 29) σ σ2 g x1 ((x2.toInt64 <<< ((32 : Int32).toInt64 &&& 63)) ||| (x3.toInt64 &&& 4294967295)) z b9 μ2.2.2.2.2 e1 hT sz9) rfl rfl rfl (Nat.le_of_ble_eq_true rfl) ⟨(Nat.le_of_ble_eq_true rfl), (Nat.le_of_ble_eq_true rfl), hc, hs⟩ rfl (fun W9 hW9 => ?_)
  obtain ⟨g2, hg2, rfl⟩ := hW9
  refine ⟨(w_L cyI cyZ cyJ cyD h σ2 μ g2 d), ⟨rfl, rfl, rfl, rfl⟩, ?_⟩
  refine zq_istore (q := 411) (lv2 := [(6, .int μ2.2.2.2.2), (0, .ref b), (1, .ref (h 0)), (2, .ref (h 17)), (3, .ref (h 29)), (4, .ref (h 30)), (5, .int i)]) G dL_law_409 (by decide) rfl rfl ?_
  refine zq_aload_n (q := 412) G dL_law_411 3 rfl rfl rfl ?_
  refine zq_arg (q := 418) (v := 1) LW hI.1 1 6 dL_law_412 dL_law_413 dL_law_415 dL_law_416 dL_law_417 rfl rfl rfl rfl ?_
  refine zq_arg (q := 424) (v := 2) LW hI.2.1 1 6 dL_law_418 dL_law_419 dL_law_421 dL_law_422 dL_law_423 rfl rfl rfl rfl ?_
  refine zq_i2l (q := 425) G dL_law_424 rfl ?_
  refine zq_bipush (q := 427) (v := 32) G dL_law_425 rfl rfl ?_
  refine zq_lshl (q := 428) G dL_law_427 rfl ?_
  refine zq_arg (q := 434) (v := 3) LW hI.2.2 1 6 dL_law_428 dL_law_429 dL_law_431 dL_law_432 dL_law_433 rfl rfl rfl rfl ?_
  refine zq_i2l (q := 435) G dL_law_434 rfl ?_
  refine zq_ldc2 (q := 438) G zw_L_c117 dL_law_435 rfl ?_
  refine zq_land (q := 439) G dL_law_438 rfl ?_
  refine zq_lor (q := 440) G dL_law_439 rfl ?_
  refine zq_callVi (q := 443) (ws2 := (w_L cyI cyZ cyJ cyD h σ2 μ2 g2 d)) (isC := [17, 18, 19, 20, 21, 22, 23, 24, 25, 26, 27, 28]) (isR := [0, 1, 2, 3, 4, 5, 6, 7, 8, 9, 10, 11, 12, 13, 14, 15, 16, 29, 30]) (perm := [0, 1, 2, 3, 4, 5, 6, 7, 8, 9, 10, 11, 12, 13, 14, 15, 16, 19, 20, 21, 22, 23, 24, 25, 26, 27, 28, 29, 30, 17, 18]) (rest := []) (As := [.int x1, .long ((x2.toInt64 <<< ((32 : Int32).toInt64 &&& 63)) ||| (x3.toInt64 &&& 4294967295))]) G zs_L_122 dL_law_440 (fun sz9 => c_X4_setRow l D cyI cyZ (h 17) (h 18) (h 19) (h 20) (h 21) (h 22) (h 23) (h 24) (h 25) (h 26) (h 27) (h 28) μ x1 ((x2.toInt64 <<< ((32 : Int32).toInt64 &&& 63)) ||| (x3.toInt64 &&& 4294967295)) b9 μ2 e2 sz9) 17 rfl rfl rfl ⟨rfl, rfl, rfl, rfl⟩ rfl (Nat.le_of_ble_eq_true rfl) ⟨(Nat.le_of_ble_eq_true rfl), (Nat.le_of_ble_eq_true rfl), hc, hs⟩ rfl ?_
  refine zq_istore (q := 445) (lv2 := [(7, .int b9), (6, .int μ2.2.2.2.2), (0, .ref b), (1, .ref (h 0)), (2, .ref (h 17)), (3, .ref (h 29)), (4, .ref (h 30)), (5, .int i)]) G dL_law_443 (by decide) rfl rfl ?_
  refine zq_aload_n (q := 446) G dL_law_445 4 rfl rfl rfl ?_
  refine zq_callVi (q := 449) (ws2 := (w_L cyI cyZ cyJ cyD h σ2 μ2 g2 d)) (isC := [17, 18, 19, 20, 21, 22, 23, 24, 25, 26, 27, 28]) (isR := [0, 1, 2, 3, 4, 5, 6, 7, 8, 9, 10, 11, 12, 13, 14, 15, 16, 29, 30]) (perm := [0, 1, 2, 3, 4, 5, 6, 7, 8, 9, 10, 11, 12, 13, 14, 15, 16, 19, 20, 21, 22, 23, 24, 25, 26, 27, 28, 29, 30, 17, 18]) (rest := []) (As := []) G zs_L_110 dL_law_446 (fun sz9 => c_X4_thrown l D cyI cyZ (h 17) (h 18) (h 19) (h 20) (h 21) (h 22) (h 23) (h 24) (h 25) (h 26) (h 27) (h 28) μ2 μ2.2.2.2.2 (s_thrown μ2) sz9) 17 rfl rfl rfl ⟨rfl, rfl, rfl, rfl⟩ rfl (Nat.le_of_ble_eq_true rfl) ⟨(Nat.le_of_ble_eq_true rfl), (Nat.le_of_ble_eq_true rfl), hc, hs⟩ rfl ?_
  refine zq_iload (q := 451) G dL_law_449 1 rfl rfl ?_
  refine zq_icmp_eq (tgt := 456) (q := 454) G dL_law_451 (by decide) rfl (fun _ => ?_) (fun c9 => absurd rfl c9)
  refine zq_iload (q := 458) G dL_law_456 1 rfl rfl ?_
  refine zq_if_ne (tgt := 473) (q := 461) G dL_law_458 (by decide) rfl (fun _ => ?_) (fun h9 => ?_)
  · exact zq_goto (q := 2123) G dL_law_473 (by decide) (zq_sub (zlv b h i) [2, 3, 4, 5, 6, 7] rfl (K _ _ _ _ hR2))
  · refine zq_aload_n (q := 462) G dL_law_461 5 rfl rfl rfl ?_
    refine zq_iconst (q := 463) (v := 0) G dL_law_462 rfl rfl ?_
    refine zq_lald (q := 464) G LW.2.1 dL_law_463 29 rfl rfl rfl ?_
    refine zq_iload (q := 466) G dL_law_464 0 rfl rfl ?_
    refine zq_i2l (q := 467) G dL_law_466 rfl ?_
    refine zq_lcmp (q := 468) G dL_law_467 rfl ?_
    refine zq_if_eq (tgt := 473) (q := 471) G dL_law_468 (by decide) rfl (fun _ => ?_) (fun c9 => absurd (zeqL (hg2 h9)) c9)
    exact zq_goto (q := 2123) G dL_law_473 (by decide) (zq_sub (zlv b h i) [2, 3, 4, 5, 6, 7] rfl (K _ _ _ _ hR2))
set_option maxHeartbeats 4000000 in
set_option maxRecDepth 100000 in
theorem L_3 {p : Program} {l : Launch} {e : Env} {s : State} {m : MethodId} {args : Array Value} {below : List Frame} {meth : Method} {c : Code} {D : va_G} {cyI cyZ cyJ cyD : ClassId} {A : Nat → Prop} {b L : Nat} {xs : Nat → Int32} {Q : State → Prop} {cells slots : Nat} {h : Nat → Nat} {i x1 x2 x3 : Int32} {σ : zC} {μ : zM} {g : Nat → Int64} {d : Nat → UInt64} (hst : l.stackTraces = false) (LW : zLaw p s m args c D cyI cyZ cyJ cyD A b L xs) (hI : zArgs L xs i x1 x2 x3) (hc : cells + 1 ≤ 601024) (hs : slots + 6 ≤ 7293034) (Rl : Rel σ μ) (K : ∀ (σ2 : zC) (μ2 : zM) (g2 : Nat → Int64) (d2 : Nat → UInt64), Rel σ2 μ2 → zW p l e room_1 s m args below meth c D A 10 (cells + 1) (slots + 6) Q 2123 (zlv b h i) [] (w_L cyI cyZ cyJ cyD h σ2 μ2 g2 d2)) : zW p l e room_1 s m args below meth c D A 10 cells slots Q 476 (zlv b h i) [] (w_L cyI cyZ cyJ cyD h σ μ g d) := by
  have G := LW.1
  obtain ⟨z, σ2, b9, μ2, e1, e2, hR2, hT⟩ := o_fill Rl x1 x2
  refine zq_aload_n (q := 477) G dL_law_476 1 rfl rfl rfl ?_
  refine zq_arg (q := 483) (v := 1) LW hI.1 0 5 dL_law_477 dL_law_478 dL_law_480 dL_law_481 dL_law_482 rfl rfl rfl rfl ?_
  refine zq_arg (q := 489) (v := 2) LW hI.2.1 0 5 dL_law_483 dL_law_484 dL_law_486 dL_law_487 dL_law_488 rfl rfl rfl rfl ?_
  refine zq_aload_n (q := 490) G dL_law_489 3 rfl rfl rfl ?_
  refine zq_callH (q := 493) (isC := [0, 1, 2, 3, 4, 5, 6, 7, 8, 9, 10, 11, 12, 13, 14, 15, 16, 29]) (isR := [17, 18, 19, 20, 21, 22, 23, 24, 25, 26, 27, 28, 30]) (perm := [13, 14, 15, 16, 17, 18, 19, 20, 21, 22, 23, 24, 25, 26, 27, 28, 29, 0, 1, 2, 3, 4, 5, 6, 7, 8, 9, 10, 11, 30, 12]) (rest := []) (As := [.ref (h 0), .int x1, .int x2, .ref (h 29)]) G LW.2.1 zs_L_123 dL_law_490 (fun sz9 => h_fill l hst D cyI cyZ cyJ cyD h (h 29) σ σ2 g x1 x2 z b9 μ2.2.2.2.2 e1 hT sz9) rfl rfl rfl (Nat.le_of_ble_eq_true rfl) ⟨(Nat.le_of_ble_eq_true rfl), (Nat.le_of_ble_eq_true rfl), hc, hs⟩ rfl (fun W9 hW9 => ?_)
  obtain ⟨g2, hg2, rfl⟩ := hW9
  refine ⟨(w_L cyI cyZ cyJ cyD h σ2 μ g2 d), ⟨rfl, rfl, rfl, rfl⟩, ?_⟩
  refine zq_istore (q := 495) (lv2 := [(6, .int μ2.2.2.2.2), (0, .ref b), (1, .ref (h 0)), (2, .ref (h 17)), (3, .ref (h 29)), (4, .ref (h 30)), (5, .int i)]) G dL_law_493 (by decide) rfl rfl ?_
  refine zq_aload_n (q := 496) G dL_law_495 3 rfl rfl rfl ?_
  refine zq_arg (q := 502) (v := 1) LW hI.1 1 6 dL_law_496 dL_law_497 dL_law_499 dL_law_500 dL_law_501 rfl rfl rfl rfl ?_
  refine zq_arg (q := 508) (v := 2) LW hI.2.1 1 6 dL_law_502 dL_law_503 dL_law_505 dL_law_506 dL_law_507 rfl rfl rfl rfl ?_
  refine zq_callVi (q := 511) (ws2 := (w_L cyI cyZ cyJ cyD h σ2 μ2 g2 d)) (isC := [17, 18, 19, 20, 21, 22, 23, 24, 25, 26, 27, 28]) (isR := [0, 1, 2, 3, 4, 5, 6, 7, 8, 9, 10, 11, 12, 13, 14, 15, 16, 29, 30]) (perm := [0, 1, 2, 3, 4, 5, 6, 7, 8, 9, 10, 11, 12, 13, 14, 15, 16, 19, 20, 21, 22, 23, 24, 25, 26, 27, 28, 29, 30, 17, 18]) (rest := []) (As := [.int x1, .int x2]) G zs_L_125 dL_law_508 (fun sz9 => c_X4_fill l D cyI cyZ (h 17) (h 18) (h 19) (h 20) (h 21) (h 22) (h 23) (h 24) (h 25) (h 26) (h 27) (h 28) μ x1 x2 b9 μ2 e2 sz9) 17 rfl rfl rfl ⟨rfl, rfl, rfl, rfl⟩ rfl (Nat.le_of_ble_eq_true rfl) ⟨(Nat.le_of_ble_eq_true rfl), (Nat.le_of_ble_eq_true rfl), hc, hs⟩ rfl ?_
  refine zq_istore (q := 513) (lv2 := [(7, .int b9), (6, .int μ2.2.2.2.2), (0, .ref b), (1, .ref (h 0)), (2, .ref (h 17)), (3, .ref (h 29)), (4, .ref (h 30)), (5, .int i)]) G dL_law_511 (by decide) rfl rfl ?_
  refine zq_aload_n (q := 514) G dL_law_513 4 rfl rfl rfl ?_
  refine zq_callVi (q := 517) (ws2 := (w_L cyI cyZ cyJ cyD h σ2 μ2 g2 d)) (isC := [17, 18, 19, 20, 21, 22, 23, 24, 25, 26, 27, 28]) (isR := [0, 1, 2, 3, 4, 5, 6, 7, 8, 9, 10, 11, 12, 13, 14, 15, 16, 29, 30]) (perm := [0, 1, 2, 3, 4, 5, 6, 7, 8, 9, 10, 11, 12, 13, 14, 15, 16, 19, 20, 21, 22, 23, 24, 25, 26, 27, 28, 29, 30, 17, 18]) (rest := []) (As := []) G zs_L_110 dL_law_514 (fun sz9 => c_X4_thrown l D cyI cyZ (h 17) (h 18) (h 19) (h 20) (h 21) (h 22) (h 23) (h 24) (h 25) (h 26) (h 27) (h 28) μ2 μ2.2.2.2.2 (s_thrown μ2) sz9) 17 rfl rfl rfl ⟨rfl, rfl, rfl, rfl⟩ rfl (Nat.le_of_ble_eq_true rfl) ⟨(Nat.le_of_ble_eq_true rfl), (Nat.le_of_ble_eq_true rfl), hc, hs⟩ rfl ?_
  refine zq_iload (q := 519) G dL_law_517 1 rfl rfl ?_
  refine zq_icmp_eq (tgt := 524) (q := 522) G dL_law_519 (by decide) rfl (fun _ => ?_) (fun c9 => absurd rfl c9)
  refine zq_iload (q := 526) G dL_law_524 1 rfl rfl ?_
  refine zq_if_ne (tgt := 541) (q := 529) G dL_law_526 (by decide) rfl (fun _ => ?_) (fun h9 => ?_)
  · exact zq_goto (q := 2123) G dL_law_541 (by decide) (zq_sub (zlv b h i) [2, 3, 4, 5, 6, 7] rfl (K _ _ _ _ hR2))
  · refine zq_aload_n (q := 530) G dL_law_529 5 rfl rfl rfl ?_
    refine zq_iconst (q := 531) (v := 0) G dL_law_530 rfl rfl ?_
    refine zq_lald (q := 532) G LW.2.1 dL_law_531 29 rfl rfl rfl ?_
    refine zq_iload (q := 534) G dL_law_532 0 rfl rfl ?_
    refine zq_i2l (q := 535) G dL_law_534 rfl ?_
    refine zq_lcmp (q := 536) G dL_law_535 rfl ?_
    refine zq_if_eq (tgt := 541) (q := 539) G dL_law_536 (by decide) rfl (fun _ => ?_) (fun c9 => absurd (zeqL (hg2 h9)) c9)
    exact zq_goto (q := 2123) G dL_law_541 (by decide) (zq_sub (zlv b h i) [2, 3, 4, 5, 6, 7] rfl (K _ _ _ _ hR2))
set_option maxHeartbeats 4000000 in
set_option maxRecDepth 100000 in
theorem L_4 {p : Program} {l : Launch} {e : Env} {s : State} {m : MethodId} {args : Array Value} {below : List Frame} {meth : Method} {c : Code} {D : va_G} {cyI cyZ cyJ cyD : ClassId} {A : Nat → Prop} {b L : Nat} {xs : Nat → Int32} {Q : State → Prop} {cells slots : Nat} {h : Nat → Nat} {i x1 x2 x3 : Int32} {σ : zC} {μ : zM} {g : Nat → Int64} {d : Nat → UInt64} (hst : l.stackTraces = false) (LW : zLaw p s m args c D cyI cyZ cyJ cyD A b L xs) (hI : zArgs L xs i x1 x2 x3) (hc : cells + 1 ≤ 601024) (hs : slots + 6 ≤ 7293034) (Rl : Rel σ μ) (K : ∀ (σ2 : zC) (μ2 : zM) (g2 : Nat → Int64) (d2 : Nat → UInt64), Rel σ2 μ2 → zW p l e room_1 s m args below meth c D A 10 (cells + 1) (slots + 6) Q 2123 (zlv b h i) [] (w_L cyI cyZ cyJ cyD h σ2 μ2 g2 d2)) : zW p l e room_1 s m args below meth c D A 10 cells slots Q 544 (zlv b h i) [] (w_L cyI cyZ cyJ cyD h σ μ g d) := by
  have G := LW.1
  by_cases hz : x3 = 0
  · obtain ⟨z, σ2, b9, μ2, e1, e2, hR2, hT⟩ := o_setForbidden Rl x1 x2 (v := 0) (by decide)
    refine zq_aload_n (q := 545) G dL_law_544 1 rfl rfl rfl ?_
    refine zq_arg (q := 551) (v := 1) LW hI.1 0 5 dL_law_545 dL_law_546 dL_law_548 dL_law_549 dL_law_550 rfl rfl rfl rfl ?_
    refine zq_arg (q := 557) (v := 2) LW hI.2.1 0 5 dL_law_551 dL_law_552 dL_law_554 dL_law_555 dL_law_556 rfl rfl rfl rfl ?_
    refine zq_arg (q := 563) (v := 3) LW hI.2.2 0 5 dL_law_557 dL_law_558 dL_law_560 dL_law_561 dL_law_562 rfl rfl rfl rfl ?_
    refine zq_if_eq (tgt := 570) (q := 566) G dL_law_563 (by decide) rfl (fun _ => ?_) (fun c9 => absurd hz c9)
    refine zq_iconst (q := 571) (v := 0) G dL_law_570 rfl rfl ?_
    refine zq_aload_n (q := 572) G dL_law_571 3 rfl rfl rfl ?_
    refine zq_callH (q := 575) (isC := [0, 1, 2, 3, 4, 5, 6, 7, 8, 9, 10, 11, 12, 13, 14, 15, 16, 29]) (isR := [17, 18, 19, 20, 21, 22, 23, 24, 25, 26, 27, 28, 30]) (perm := [13, 14, 15, 16, 17, 18, 19, 20, 21, 22, 23, 24, 25, 26, 27, 28, 29, 0, 1, 2, 3, 4, 5, 6, 7, 8, 9, 10, 11, 30, 12]) (rest := []) (As := [.ref (h 0), .int x1, .int x2, .int 0, .ref (h 29)]) G LW.2.1 zs_L_126 dL_law_572 (fun sz9 => h_setForbidden l hst D cyI cyZ cyJ cyD h (h 29) σ σ2 g x1 x2 0 z b9 μ2.2.2.2.2 e1 hT sz9) rfl rfl rfl (Nat.le_of_ble_eq_true rfl) ⟨(Nat.le_of_ble_eq_true rfl), (Nat.le_of_ble_eq_true rfl), hc, hs⟩ rfl (fun W9 hW9 => ?_)
    obtain ⟨g2, hg2, rfl⟩ := hW9
    refine ⟨(w_L cyI cyZ cyJ cyD h σ2 μ g2 d), ⟨rfl, rfl, rfl, rfl⟩, ?_⟩
    refine zq_istore (q := 577) (lv2 := [(6, .int μ2.2.2.2.2), (0, .ref b), (1, .ref (h 0)), (2, .ref (h 17)), (3, .ref (h 29)), (4, .ref (h 30)), (5, .int i)]) G dL_law_575 (by decide) rfl rfl ?_
    refine zq_aload_n (q := 578) G dL_law_577 3 rfl rfl rfl ?_
    refine zq_arg (q := 584) (v := 1) LW hI.1 1 6 dL_law_578 dL_law_579 dL_law_581 dL_law_582 dL_law_583 rfl rfl rfl rfl ?_
    refine zq_arg (q := 590) (v := 2) LW hI.2.1 1 6 dL_law_584 dL_law_585 dL_law_587 dL_law_588 dL_law_589 rfl rfl rfl rfl ?_
    refine zq_arg (q := 596) (v := 3) LW hI.2.2 1 6 dL_law_590 dL_law_591 dL_law_593 dL_law_594 dL_law_595 rfl rfl rfl rfl ?_
    refine zq_if_eq (tgt := 603) (q := 599) G dL_law_596 (by decide) rfl (fun _ => ?_) (fun c9 => absurd hz c9)
    refine zq_iconst (q := 604) (v := 0) G dL_law_603 rfl rfl ?_
    refine zq_callVi (q := 607) (ws2 := (w_L cyI cyZ cyJ cyD h σ2 μ2 g2 d)) (isC := [17, 18, 19, 20, 21, 22, 23, 24, 25, 26, 27, 28]) (isR := [0, 1, 2, 3, 4, 5, 6, 7, 8, 9, 10, 11, 12, 13, 14, 15, 16, 29, 30]) (perm := [0, 1, 2, 3, 4, 5, 6, 7, 8, 9, 10, 11, 12, 13, 14, 15, 16, 19, 20, 21, 22, 23, 24, 25, 26, 27, 28, 29, 30, 17, 18]) (rest := []) (As := [.int x1, .int x2, .int 0]) G zs_L_129 dL_law_604 (fun sz9 => c_X4_setForbidden l D cyI cyZ (h 17) (h 18) (h 19) (h 20) (h 21) (h 22) (h 23) (h 24) (h 25) (h 26) (h 27) (h 28) μ x1 x2 0 b9 μ2 e2 sz9) 17 rfl rfl rfl ⟨rfl, rfl, rfl, rfl⟩ rfl (Nat.le_of_ble_eq_true rfl) ⟨(Nat.le_of_ble_eq_true rfl), (Nat.le_of_ble_eq_true rfl), hc, hs⟩ rfl ?_
    refine zq_istore (q := 609) (lv2 := [(7, .int b9), (6, .int μ2.2.2.2.2), (0, .ref b), (1, .ref (h 0)), (2, .ref (h 17)), (3, .ref (h 29)), (4, .ref (h 30)), (5, .int i)]) G dL_law_607 (by decide) rfl rfl ?_
    refine zq_aload_n (q := 610) G dL_law_609 4 rfl rfl rfl ?_
    refine zq_callVi (q := 613) (ws2 := (w_L cyI cyZ cyJ cyD h σ2 μ2 g2 d)) (isC := [17, 18, 19, 20, 21, 22, 23, 24, 25, 26, 27, 28]) (isR := [0, 1, 2, 3, 4, 5, 6, 7, 8, 9, 10, 11, 12, 13, 14, 15, 16, 29, 30]) (perm := [0, 1, 2, 3, 4, 5, 6, 7, 8, 9, 10, 11, 12, 13, 14, 15, 16, 19, 20, 21, 22, 23, 24, 25, 26, 27, 28, 29, 30, 17, 18]) (rest := []) (As := []) G zs_L_110 dL_law_610 (fun sz9 => c_X4_thrown l D cyI cyZ (h 17) (h 18) (h 19) (h 20) (h 21) (h 22) (h 23) (h 24) (h 25) (h 26) (h 27) (h 28) μ2 μ2.2.2.2.2 (s_thrown μ2) sz9) 17 rfl rfl rfl ⟨rfl, rfl, rfl, rfl⟩ rfl (Nat.le_of_ble_eq_true rfl) ⟨(Nat.le_of_ble_eq_true rfl), (Nat.le_of_ble_eq_true rfl), hc, hs⟩ rfl ?_
    refine zq_iload (q := 615) G dL_law_613 1 rfl rfl ?_
    refine zq_icmp_eq (tgt := 620) (q := 618) G dL_law_615 (by decide) rfl (fun _ => ?_) (fun c9 => absurd rfl c9)
    refine zq_iload (q := 622) G dL_law_620 1 rfl rfl ?_
    refine zq_if_ne (tgt := 637) (q := 625) G dL_law_622 (by decide) rfl (fun _ => ?_) (fun h9 => ?_)
    · exact zq_goto (q := 2123) G dL_law_637 (by decide) (zq_sub (zlv b h i) [2, 3, 4, 5, 6, 7] rfl (K _ _ _ _ hR2))
    · refine zq_aload_n (q := 626) G dL_law_625 5 rfl rfl rfl ?_
      refine zq_iconst (q := 627) (v := 0) G dL_law_626 rfl rfl ?_
      refine zq_lald (q := 628) G LW.2.1 dL_law_627 29 rfl rfl rfl ?_
      refine zq_iload (q := 630) G dL_law_628 0 rfl rfl ?_
      refine zq_i2l (q := 631) G dL_law_630 rfl ?_
      refine zq_lcmp (q := 632) G dL_law_631 rfl ?_
      refine zq_if_eq (tgt := 637) (q := 635) G dL_law_632 (by decide) rfl (fun _ => ?_) (fun c9 => absurd (zeqL (hg2 h9)) c9)
      exact zq_goto (q := 2123) G dL_law_637 (by decide) (zq_sub (zlv b h i) [2, 3, 4, 5, 6, 7] rfl (K _ _ _ _ hR2))
  · obtain ⟨z, σ2, b9, μ2, e1, e2, hR2, hT⟩ := o_setForbidden Rl x1 x2 (v := 1) (by decide)
    refine zq_aload_n (q := 545) G dL_law_544 1 rfl rfl rfl ?_
    refine zq_arg (q := 551) (v := 1) LW hI.1 0 5 dL_law_545 dL_law_546 dL_law_548 dL_law_549 dL_law_550 rfl rfl rfl rfl ?_
    refine zq_arg (q := 557) (v := 2) LW hI.2.1 0 5 dL_law_551 dL_law_552 dL_law_554 dL_law_555 dL_law_556 rfl rfl rfl rfl ?_
    refine zq_arg (q := 563) (v := 3) LW hI.2.2 0 5 dL_law_557 dL_law_558 dL_law_560 dL_law_561 dL_law_562 rfl rfl rfl rfl ?_
    refine zq_if_eq (tgt := 570) (q := 566) G dL_law_563 (by decide) rfl (fun c9 => absurd c9 hz) (fun _ => ?_)
    refine zq_iconst (q := 567) (v := 1) G dL_law_566 rfl rfl ?_
    refine zq_goto (q := 571) G dL_law_567 (by decide) ?_
    refine zq_aload_n (q := 572) G dL_law_571 3 rfl rfl rfl ?_
    refine zq_callH (q := 575) (isC := [0, 1, 2, 3, 4, 5, 6, 7, 8, 9, 10, 11, 12, 13, 14, 15, 16, 29]) (isR := [17, 18, 19, 20, 21, 22, 23, 24, 25, 26, 27, 28, 30]) (perm := [13, 14, 15, 16, 17, 18, 19, 20, 21, 22, 23, 24, 25, 26, 27, 28, 29, 0, 1, 2, 3, 4, 5, 6, 7, 8, 9, 10, 11, 30, 12]) (rest := []) (As := [.ref (h 0), .int x1, .int x2, .int 1, .ref (h 29)]) G LW.2.1 zs_L_126 dL_law_572 (fun sz9 => h_setForbidden l hst D cyI cyZ cyJ cyD h (h 29) σ σ2 g x1 x2 1 z b9 μ2.2.2.2.2 e1 hT sz9) rfl rfl rfl (Nat.le_of_ble_eq_true rfl) ⟨(Nat.le_of_ble_eq_true rfl), (Nat.le_of_ble_eq_true rfl), hc, hs⟩ rfl (fun W9 hW9 => ?_)
    obtain ⟨g2, hg2, rfl⟩ := hW9
    refine ⟨(w_L cyI cyZ cyJ cyD h σ2 μ g2 d), ⟨rfl, rfl, rfl, rfl⟩, ?_⟩
    refine zq_istore (q := 577) (lv2 := [(6, .int μ2.2.2.2.2), (0, .ref b), (1, .ref (h 0)), (2, .ref (h 17)), (3, .ref (h 29)), (4, .ref (h 30)), (5, .int i)]) G dL_law_575 (by decide) rfl rfl ?_
    refine zq_aload_n (q := 578) G dL_law_577 3 rfl rfl rfl ?_
    refine zq_arg (q := 584) (v := 1) LW hI.1 1 6 dL_law_578 dL_law_579 dL_law_581 dL_law_582 dL_law_583 rfl rfl rfl rfl ?_
    refine zq_arg (q := 590) (v := 2) LW hI.2.1 1 6 dL_law_584 dL_law_585 dL_law_587 dL_law_588 dL_law_589 rfl rfl rfl rfl ?_
    refine zq_arg (q := 596) (v := 3) LW hI.2.2 1 6 dL_law_590 dL_law_591 dL_law_593 dL_law_594 dL_law_595 rfl rfl rfl rfl ?_
    refine zq_if_eq (tgt := 603) (q := 599) G dL_law_596 (by decide) rfl (fun c9 => absurd c9 hz) (fun _ => ?_)
    refine zq_iconst (q := 600) (v := 1) G dL_law_599 rfl rfl ?_
    refine zq_goto (q := 604) G dL_law_600 (by decide) ?_
    refine zq_callVi (q := 607) (ws2 := (w_L cyI cyZ cyJ cyD h σ2 μ2 g2 d)) (isC := [17, 18, 19, 20, 21, 22, 23, 24, 25, 26, 27, 28]) (isR := [0, 1, 2, 3, 4, 5, 6, 7, 8, 9, 10, 11, 12, 13, 14, 15, 16, 29, 30]) (perm := [0, 1, 2, 3, 4, 5, 6, 7, 8, 9, 10, 11, 12, 13, 14, 15, 16, 19, 20, 21, 22, 23, 24, 25, 26, 27, 28, 29, 30, 17, 18]) (rest := []) (As := [.int x1, .int x2, .int 1]) G zs_L_129 dL_law_604 (fun sz9 => c_X4_setForbidden l D cyI cyZ (h 17) (h 18) (h 19) (h 20) (h 21) (h 22) (h 23) (h 24) (h 25) (h 26) (h 27) (h 28) μ x1 x2 1 b9 μ2 e2 sz9) 17 rfl rfl rfl ⟨rfl, rfl, rfl, rfl⟩ rfl (Nat.le_of_ble_eq_true rfl) ⟨(Nat.le_of_ble_eq_true rfl), (Nat.le_of_ble_eq_true rfl), hc, hs⟩ rfl ?_
    refine zq_istore (q := 609) (lv2 := [(7, .int b9), (6, .int μ2.2.2.2.2), (0, .ref b), (1, .ref (h 0)), (2, .ref (h 17)), (3, .ref (h 29)), (4, .ref (h 30)), (5, .int i)]) G dL_law_607 (by decide) rfl rfl ?_
    refine zq_aload_n (q := 610) G dL_law_609 4 rfl rfl rfl ?_
    refine zq_callVi (q := 613) (ws2 := (w_L cyI cyZ cyJ cyD h σ2 μ2 g2 d)) (isC := [17, 18, 19, 20, 21, 22, 23, 24, 25, 26, 27, 28]) (isR := [0, 1, 2, 3, 4, 5, 6, 7, 8, 9, 10, 11, 12, 13, 14, 15, 16, 29, 30]) (perm := [0, 1, 2, 3, 4, 5, 6, 7, 8, 9, 10, 11, 12, 13, 14, 15, 16, 19, 20, 21, 22, 23, 24, 25, 26, 27, 28, 29, 30, 17, 18]) (rest := []) (As := []) G zs_L_110 dL_law_610 (fun sz9 => c_X4_thrown l D cyI cyZ (h 17) (h 18) (h 19) (h 20) (h 21) (h 22) (h 23) (h 24) (h 25) (h 26) (h 27) (h 28) μ2 μ2.2.2.2.2 (s_thrown μ2) sz9) 17 rfl rfl rfl ⟨rfl, rfl, rfl, rfl⟩ rfl (Nat.le_of_ble_eq_true rfl) ⟨(Nat.le_of_ble_eq_true rfl), (Nat.le_of_ble_eq_true rfl), hc, hs⟩ rfl ?_
    refine zq_iload (q := 615) G dL_law_613 1 rfl rfl ?_
    refine zq_icmp_eq (tgt := 620) (q := 618) G dL_law_615 (by decide) rfl (fun _ => ?_) (fun c9 => absurd rfl c9)
    refine zq_iload (q := 622) G dL_law_620 1 rfl rfl ?_
    refine zq_if_ne (tgt := 637) (q := 625) G dL_law_622 (by decide) rfl (fun _ => ?_) (fun h9 => ?_)
    · exact zq_goto (q := 2123) G dL_law_637 (by decide) (zq_sub (zlv b h i) [2, 3, 4, 5, 6, 7] rfl (K _ _ _ _ hR2))
    · refine zq_aload_n (q := 626) G dL_law_625 5 rfl rfl rfl ?_
      refine zq_iconst (q := 627) (v := 0) G dL_law_626 rfl rfl ?_
      refine zq_lald (q := 628) G LW.2.1 dL_law_627 29 rfl rfl rfl ?_
      refine zq_iload (q := 630) G dL_law_628 0 rfl rfl ?_
      refine zq_i2l (q := 631) G dL_law_630 rfl ?_
      refine zq_lcmp (q := 632) G dL_law_631 rfl ?_
      refine zq_if_eq (tgt := 637) (q := 635) G dL_law_632 (by decide) rfl (fun _ => ?_) (fun c9 => absurd (zeqL (hg2 h9)) c9)
      exact zq_goto (q := 2123) G dL_law_637 (by decide) (zq_sub (zlv b h i) [2, 3, 4, 5, 6, 7] rfl (K _ _ _ _ hR2))
set_option maxHeartbeats 4000000 in
set_option maxRecDepth 100000 in
theorem L_5 {p : Program} {l : Launch} {e : Env} {s : State} {m : MethodId} {args : Array Value} {below : List Frame} {meth : Method} {c : Code} {D : va_G} {cyI cyZ cyJ cyD : ClassId} {A : Nat → Prop} {b L : Nat} {xs : Nat → Int32} {Q : State → Prop} {cells slots : Nat} {h : Nat → Nat} {i x1 x2 x3 : Int32} {σ : zC} {μ : zM} {g : Nat → Int64} {d : Nat → UInt64} (hst : l.stackTraces = false) (LW : zLaw p s m args c D cyI cyZ cyJ cyD A b L xs) (hI : zArgs L xs i x1 x2 x3) (hc : cells + 1 ≤ 601024) (hs : slots + 6 ≤ 7293034) (Rl : Rel σ μ) (K : ∀ (σ2 : zC) (μ2 : zM) (g2 : Nat → Int64) (d2 : Nat → UInt64), Rel σ2 μ2 → zW p l e room_1 s m args below meth c D A 10 (cells + 1) (slots + 6) Q 2123 (zlv b h i) [] (w_L cyI cyZ cyJ cyD h σ2 μ2 g2 d2)) : zW p l e room_1 s m args below meth c D A 10 cells slots Q 640 (zlv b h i) [] (w_L cyI cyZ cyJ cyD h σ μ g d) := by
  have G := LW.1
  obtain ⟨z, b9, μ2, e1, e2, hR2, hT⟩ := o_costAt Rl x1 x2
  refine zq_aload_n (q := 641) G dL_law_640 1 rfl rfl rfl ?_
  refine zq_arg (q := 647) (v := 1) LW hI.1 0 5 dL_law_641 dL_law_642 dL_law_644 dL_law_645 dL_law_646 rfl rfl rfl rfl ?_
  refine zq_arg (q := 653) (v := 2) LW hI.2.1 0 5 dL_law_647 dL_law_648 dL_law_650 dL_law_651 dL_law_652 rfl rfl rfl rfl ?_
  refine zq_aload_n (q := 654) G dL_law_653 3 rfl rfl rfl ?_
  refine zq_callH (q := 657) (isC := [0, 1, 2, 3, 4, 5, 6, 7, 8, 9, 10, 11, 12, 13, 14, 15, 16, 29]) (isR := [17, 18, 19, 20, 21, 22, 23, 24, 25, 26, 27, 28, 30]) (perm := [13, 14, 15, 16, 17, 18, 19, 20, 21, 22, 23, 24, 25, 26, 27, 28, 29, 0, 1, 2, 3, 4, 5, 6, 7, 8, 9, 10, 11, 30, 12]) (rest := []) (As := [.ref (h 0), .int x1, .int x2, .ref (h 29)]) G LW.2.1 zs_L_130 dL_law_654 (fun sz9 => h_costAt l hst D cyI cyZ cyJ cyD h (h 29) σ g x1 x2 z b9 μ2.2.2.2.2 e1 hT sz9) rfl rfl rfl (Nat.le_of_ble_eq_true rfl) ⟨(Nat.le_of_ble_eq_true rfl), (Nat.le_of_ble_eq_true rfl), hc, hs⟩ rfl (fun W9 hW9 => ?_)
  obtain ⟨g2, hg2, rfl⟩ := hW9
  refine ⟨(w_L cyI cyZ cyJ cyD h σ μ g2 d), ⟨rfl, rfl, rfl, rfl⟩, ?_⟩
  refine zq_istore (q := 659) (lv2 := [(6, .int μ2.2.2.2.2), (0, .ref b), (1, .ref (h 0)), (2, .ref (h 17)), (3, .ref (h 29)), (4, .ref (h 30)), (5, .int i)]) G dL_law_657 (by decide) rfl rfl ?_
  refine zq_aload_n (q := 660) G dL_law_659 3 rfl rfl rfl ?_
  refine zq_arg (q := 666) (v := 1) LW hI.1 1 6 dL_law_660 dL_law_661 dL_law_663 dL_law_664 dL_law_665 rfl rfl rfl rfl ?_
  refine zq_arg (q := 672) (v := 2) LW hI.2.1 1 6 dL_law_666 dL_law_667 dL_law_669 dL_law_670 dL_law_671 rfl rfl rfl rfl ?_
  refine zq_callVi (q := 675) (ws2 := (w_L cyI cyZ cyJ cyD h σ μ2 g2 d)) (isC := [17, 18, 19, 20, 21, 22, 23, 24, 25, 26, 27, 28]) (isR := [0, 1, 2, 3, 4, 5, 6, 7, 8, 9, 10, 11, 12, 13, 14, 15, 16, 29, 30]) (perm := [0, 1, 2, 3, 4, 5, 6, 7, 8, 9, 10, 11, 12, 13, 14, 15, 16, 19, 20, 21, 22, 23, 24, 25, 26, 27, 28, 29, 30, 17, 18]) (rest := []) (As := [.int x1, .int x2]) G zs_L_132 dL_law_672 (fun sz9 => c_X4_costAt l D cyI cyZ (h 17) (h 18) (h 19) (h 20) (h 21) (h 22) (h 23) (h 24) (h 25) (h 26) (h 27) (h 28) μ x1 x2 b9 μ2 e2 sz9) 17 rfl rfl rfl ⟨rfl, rfl, rfl, rfl⟩ rfl (Nat.le_of_ble_eq_true rfl) ⟨(Nat.le_of_ble_eq_true rfl), (Nat.le_of_ble_eq_true rfl), hc, hs⟩ rfl ?_
  refine zq_istore (q := 677) (lv2 := [(7, .int b9), (6, .int μ2.2.2.2.2), (0, .ref b), (1, .ref (h 0)), (2, .ref (h 17)), (3, .ref (h 29)), (4, .ref (h 30)), (5, .int i)]) G dL_law_675 (by decide) rfl rfl ?_
  refine zq_aload_n (q := 678) G dL_law_677 4 rfl rfl rfl ?_
  refine zq_callVi (q := 681) (ws2 := (w_L cyI cyZ cyJ cyD h σ μ2 g2 d)) (isC := [17, 18, 19, 20, 21, 22, 23, 24, 25, 26, 27, 28]) (isR := [0, 1, 2, 3, 4, 5, 6, 7, 8, 9, 10, 11, 12, 13, 14, 15, 16, 29, 30]) (perm := [0, 1, 2, 3, 4, 5, 6, 7, 8, 9, 10, 11, 12, 13, 14, 15, 16, 19, 20, 21, 22, 23, 24, 25, 26, 27, 28, 29, 30, 17, 18]) (rest := []) (As := []) G zs_L_110 dL_law_678 (fun sz9 => c_X4_thrown l D cyI cyZ (h 17) (h 18) (h 19) (h 20) (h 21) (h 22) (h 23) (h 24) (h 25) (h 26) (h 27) (h 28) μ2 μ2.2.2.2.2 (s_thrown μ2) sz9) 17 rfl rfl rfl ⟨rfl, rfl, rfl, rfl⟩ rfl (Nat.le_of_ble_eq_true rfl) ⟨(Nat.le_of_ble_eq_true rfl), (Nat.le_of_ble_eq_true rfl), hc, hs⟩ rfl ?_
  refine zq_iload (q := 683) G dL_law_681 1 rfl rfl ?_
  refine zq_icmp_eq (tgt := 688) (q := 686) G dL_law_683 (by decide) rfl (fun _ => ?_) (fun c9 => absurd rfl c9)
  refine zq_iload (q := 690) G dL_law_688 1 rfl rfl ?_
  refine zq_if_ne (tgt := 705) (q := 693) G dL_law_690 (by decide) rfl (fun _ => ?_) (fun h9 => ?_)
  · exact zq_goto (q := 2123) G dL_law_705 (by decide) (zq_sub (zlv b h i) [2, 3, 4, 5, 6, 7] rfl (K _ _ _ _ hR2))
  · refine zq_aload_n (q := 694) G dL_law_693 5 rfl rfl rfl ?_
    refine zq_iconst (q := 695) (v := 0) G dL_law_694 rfl rfl ?_
    refine zq_lald (q := 696) G LW.2.1 dL_law_695 29 rfl rfl rfl ?_
    refine zq_iload (q := 698) G dL_law_696 0 rfl rfl ?_
    refine zq_i2l (q := 699) G dL_law_698 rfl ?_
    refine zq_lcmp (q := 700) G dL_law_699 rfl ?_
    refine zq_if_eq (tgt := 705) (q := 703) G dL_law_700 (by decide) rfl (fun _ => ?_) (fun c9 => absurd (zeqL (hg2 h9)) c9)
    exact zq_goto (q := 2123) G dL_law_705 (by decide) (zq_sub (zlv b h i) [2, 3, 4, 5, 6, 7] rfl (K _ _ _ _ hR2))
set_option maxHeartbeats 4000000 in
set_option maxRecDepth 100000 in
theorem L_6 {p : Program} {l : Launch} {e : Env} {s : State} {m : MethodId} {args : Array Value} {below : List Frame} {meth : Method} {c : Code} {D : va_G} {cyI cyZ cyJ cyD : ClassId} {A : Nat → Prop} {b L : Nat} {xs : Nat → Int32} {Q : State → Prop} {cells slots : Nat} {h : Nat → Nat} {i x1 x2 x3 : Int32} {σ : zC} {μ : zM} {g : Nat → Int64} {d : Nat → UInt64} (hst : l.stackTraces = false) (LW : zLaw p s m args c D cyI cyZ cyJ cyD A b L xs) (hI : zArgs L xs i x1 x2 x3) (hc : cells + 1 ≤ 601024) (hs : slots + 6 ≤ 7293034) (Rl : Rel σ μ) (K : ∀ (σ2 : zC) (μ2 : zM) (g2 : Nat → Int64) (d2 : Nat → UInt64), Rel σ2 μ2 → zW p l e room_1 s m args below meth c D A 10 (cells + 1) (slots + 6) Q 2123 (zlv b h i) [] (w_L cyI cyZ cyJ cyD h σ2 μ2 g2 d2)) : zW p l e room_1 s m args below meth c D A 10 cells slots Q 708 (zlv b h i) [] (w_L cyI cyZ cyJ cyD h σ μ g d) := by
  have G := LW.1
  obtain ⟨z, σ2, b9, μ2, e1, e2, hR2, hT⟩ := o_addToRow Rl x1 x2
  refine zq_aload_n (q := 709) G dL_law_708 1 rfl rfl rfl ?_
  refine zq_arg (q := 715) (v := 1) LW hI.1 0 5 dL_law_709 dL_law_710 dL_law_712 dL_law_713 dL_law_714 rfl rfl rfl rfl ?_
  refine zq_arg (q := 721) (v := 2) LW hI.2.1 0 5 dL_law_715 dL_law_716 dL_law_718 dL_law_719 dL_law_720 rfl rfl rfl rfl ?_
  refine zq_aload_n (q := 722) G dL_law_721 3 rfl rfl rfl ?_
  refine zq_callH (q := 725) (isC := [0, 1, 2, 3, 4, 5, 6, 7, 8, 9, 10, 11, 12, 13, 14, 15, 16, 29]) (isR := [17, 18, 19, 20, 21, 22, 23, 24, 25, 26, 27, 28, 30]) (perm := [13, 14, 15, 16, 17, 18, 19, 20, 21, 22, 23, 24, 25, 26, 27, 28, 29, 0, 1, 2, 3, 4, 5, 6, 7, 8, 9, 10, 11, 30, 12]) (rest := []) (As := [.ref (h 0), .int x1, .int x2, .ref (h 29)]) G LW.2.1 zs_L_133 dL_law_722 (fun sz9 => h_addToRow l hst D cyI cyZ cyJ cyD h (h 29) σ σ2 g x1 x2 z b9 μ2.2.2.2.2 e1 hT sz9) rfl rfl rfl (Nat.le_of_ble_eq_true rfl) ⟨(Nat.le_of_ble_eq_true rfl), (Nat.le_of_ble_eq_true rfl), hc, hs⟩ rfl (fun W9 hW9 => ?_)
  obtain ⟨g2, hg2, rfl⟩ := hW9
  refine ⟨(w_L cyI cyZ cyJ cyD h σ2 μ g2 d), ⟨rfl, rfl, rfl, rfl⟩, ?_⟩
  refine zq_istore (q := 727) (lv2 := [(6, .int μ2.2.2.2.2), (0, .ref b), (1, .ref (h 0)), (2, .ref (h 17)), (3, .ref (h 29)), (4, .ref (h 30)), (5, .int i)]) G dL_law_725 (by decide) rfl rfl ?_
  refine zq_aload_n (q := 728) G dL_law_727 3 rfl rfl rfl ?_
  refine zq_arg (q := 734) (v := 1) LW hI.1 1 6 dL_law_728 dL_law_729 dL_law_731 dL_law_732 dL_law_733 rfl rfl rfl rfl ?_
  refine zq_arg (q := 740) (v := 2) LW hI.2.1 1 6 dL_law_734 dL_law_735 dL_law_737 dL_law_738 dL_law_739 rfl rfl rfl rfl ?_
  refine zq_callVi (q := 743) (ws2 := (w_L cyI cyZ cyJ cyD h σ2 μ2 g2 d)) (isC := [17, 18, 19, 20, 21, 22, 23, 24, 25, 26, 27, 28]) (isR := [0, 1, 2, 3, 4, 5, 6, 7, 8, 9, 10, 11, 12, 13, 14, 15, 16, 29, 30]) (perm := [0, 1, 2, 3, 4, 5, 6, 7, 8, 9, 10, 11, 12, 13, 14, 15, 16, 19, 20, 21, 22, 23, 24, 25, 26, 27, 28, 29, 30, 17, 18]) (rest := []) (As := [.int x1, .int x2]) G zs_L_135 dL_law_740 (fun sz9 => c_X4_addToRow l D cyI cyZ (h 17) (h 18) (h 19) (h 20) (h 21) (h 22) (h 23) (h 24) (h 25) (h 26) (h 27) (h 28) μ x1 x2 b9 μ2 e2 sz9) 17 rfl rfl rfl ⟨rfl, rfl, rfl, rfl⟩ rfl (Nat.le_of_ble_eq_true rfl) ⟨(Nat.le_of_ble_eq_true rfl), (Nat.le_of_ble_eq_true rfl), hc, hs⟩ rfl ?_
  refine zq_istore (q := 745) (lv2 := [(7, .int b9), (6, .int μ2.2.2.2.2), (0, .ref b), (1, .ref (h 0)), (2, .ref (h 17)), (3, .ref (h 29)), (4, .ref (h 30)), (5, .int i)]) G dL_law_743 (by decide) rfl rfl ?_
  refine zq_aload_n (q := 746) G dL_law_745 4 rfl rfl rfl ?_
  refine zq_callVi (q := 749) (ws2 := (w_L cyI cyZ cyJ cyD h σ2 μ2 g2 d)) (isC := [17, 18, 19, 20, 21, 22, 23, 24, 25, 26, 27, 28]) (isR := [0, 1, 2, 3, 4, 5, 6, 7, 8, 9, 10, 11, 12, 13, 14, 15, 16, 29, 30]) (perm := [0, 1, 2, 3, 4, 5, 6, 7, 8, 9, 10, 11, 12, 13, 14, 15, 16, 19, 20, 21, 22, 23, 24, 25, 26, 27, 28, 29, 30, 17, 18]) (rest := []) (As := []) G zs_L_110 dL_law_746 (fun sz9 => c_X4_thrown l D cyI cyZ (h 17) (h 18) (h 19) (h 20) (h 21) (h 22) (h 23) (h 24) (h 25) (h 26) (h 27) (h 28) μ2 μ2.2.2.2.2 (s_thrown μ2) sz9) 17 rfl rfl rfl ⟨rfl, rfl, rfl, rfl⟩ rfl (Nat.le_of_ble_eq_true rfl) ⟨(Nat.le_of_ble_eq_true rfl), (Nat.le_of_ble_eq_true rfl), hc, hs⟩ rfl ?_
  refine zq_iload (q := 751) G dL_law_749 1 rfl rfl ?_
  refine zq_icmp_eq (tgt := 756) (q := 754) G dL_law_751 (by decide) rfl (fun _ => ?_) (fun c9 => absurd rfl c9)
  refine zq_iload (q := 758) G dL_law_756 1 rfl rfl ?_
  refine zq_if_ne (tgt := 773) (q := 761) G dL_law_758 (by decide) rfl (fun _ => ?_) (fun h9 => ?_)
  · exact zq_goto (q := 2123) G dL_law_773 (by decide) (zq_sub (zlv b h i) [2, 3, 4, 5, 6, 7] rfl (K _ _ _ _ hR2))
  · refine zq_aload_n (q := 762) G dL_law_761 5 rfl rfl rfl ?_
    refine zq_iconst (q := 763) (v := 0) G dL_law_762 rfl rfl ?_
    refine zq_lald (q := 764) G LW.2.1 dL_law_763 29 rfl rfl rfl ?_
    refine zq_iload (q := 766) G dL_law_764 0 rfl rfl ?_
    refine zq_i2l (q := 767) G dL_law_766 rfl ?_
    refine zq_lcmp (q := 768) G dL_law_767 rfl ?_
    refine zq_if_eq (tgt := 773) (q := 771) G dL_law_768 (by decide) rfl (fun _ => ?_) (fun c9 => absurd (zeqL (hg2 h9)) c9)
    exact zq_goto (q := 2123) G dL_law_773 (by decide) (zq_sub (zlv b h i) [2, 3, 4, 5, 6, 7] rfl (K _ _ _ _ hR2))
set_option maxHeartbeats 4000000 in
set_option maxRecDepth 100000 in
theorem L_7 {p : Program} {l : Launch} {e : Env} {s : State} {m : MethodId} {args : Array Value} {below : List Frame} {meth : Method} {c : Code} {D : va_G} {cyI cyZ cyJ cyD : ClassId} {A : Nat → Prop} {b L : Nat} {xs : Nat → Int32} {Q : State → Prop} {cells slots : Nat} {h : Nat → Nat} {i x1 x2 x3 : Int32} {σ : zC} {μ : zM} {g : Nat → Int64} {d : Nat → UInt64} (hst : l.stackTraces = false) (LW : zLaw p s m args c D cyI cyZ cyJ cyD A b L xs) (hI : zArgs L xs i x1 x2 x3) (hc : cells + 1 ≤ 601024) (hs : slots + 6 ≤ 7293034) (Rl : Rel σ μ) (K : ∀ (σ2 : zC) (μ2 : zM) (g2 : Nat → Int64) (d2 : Nat → UInt64), Rel σ2 μ2 → zW p l e room_1 s m args below meth c D A 10 (cells + 1) (slots + 6) Q 2123 (zlv b h i) [] (w_L cyI cyZ cyJ cyD h σ2 μ2 g2 d2)) : zW p l e room_1 s m args below meth c D A 10 cells slots Q 776 (zlv b h i) [] (w_L cyI cyZ cyJ cyD h σ μ g d) := by
  have G := LW.1
  obtain ⟨z, σ2, b9, μ2, e1, e2, hR2, hT⟩ := o_addToColumn Rl x1 x2
  refine zq_aload_n (q := 777) G dL_law_776 1 rfl rfl rfl ?_
  refine zq_arg (q := 783) (v := 1) LW hI.1 0 5 dL_law_777 dL_law_778 dL_law_780 dL_law_781 dL_law_782 rfl rfl rfl rfl ?_
  refine zq_arg (q := 789) (v := 2) LW hI.2.1 0 5 dL_law_783 dL_law_784 dL_law_786 dL_law_787 dL_law_788 rfl rfl rfl rfl ?_
  refine zq_aload_n (q := 790) G dL_law_789 3 rfl rfl rfl ?_
  refine zq_callH (q := 793) (isC := [0, 1, 2, 3, 4, 5, 6, 7, 8, 9, 10, 11, 12, 13, 14, 15, 16, 29]) (isR := [17, 18, 19, 20, 21, 22, 23, 24, 25, 26, 27, 28, 30]) (perm := [13, 14, 15, 16, 17, 18, 19, 20, 21, 22, 23, 24, 25, 26, 27, 28, 29, 0, 1, 2, 3, 4, 5, 6, 7, 8, 9, 10, 11, 30, 12]) (rest := []) (As := [.ref (h 0), .int x1, .int x2, .ref (h 29)]) G LW.2.1 zs_L_136 dL_law_790 (fun sz9 => h_addToColumn l hst D cyI cyZ cyJ cyD h (h 29) σ σ2 g x1 x2 z b9 μ2.2.2.2.2 e1 hT sz9) rfl rfl rfl (Nat.le_of_ble_eq_true rfl) ⟨(Nat.le_of_ble_eq_true rfl), (Nat.le_of_ble_eq_true rfl), hc, hs⟩ rfl (fun W9 hW9 => ?_)
  obtain ⟨g2, hg2, rfl⟩ := hW9
  refine ⟨(w_L cyI cyZ cyJ cyD h σ2 μ g2 d), ⟨rfl, rfl, rfl, rfl⟩, ?_⟩
  refine zq_istore (q := 795) (lv2 := [(6, .int μ2.2.2.2.2), (0, .ref b), (1, .ref (h 0)), (2, .ref (h 17)), (3, .ref (h 29)), (4, .ref (h 30)), (5, .int i)]) G dL_law_793 (by decide) rfl rfl ?_
  refine zq_aload_n (q := 796) G dL_law_795 3 rfl rfl rfl ?_
  refine zq_arg (q := 802) (v := 1) LW hI.1 1 6 dL_law_796 dL_law_797 dL_law_799 dL_law_800 dL_law_801 rfl rfl rfl rfl ?_
  refine zq_arg (q := 808) (v := 2) LW hI.2.1 1 6 dL_law_802 dL_law_803 dL_law_805 dL_law_806 dL_law_807 rfl rfl rfl rfl ?_
  refine zq_callVi (q := 811) (ws2 := (w_L cyI cyZ cyJ cyD h σ2 μ2 g2 d)) (isC := [17, 18, 19, 20, 21, 22, 23, 24, 25, 26, 27, 28]) (isR := [0, 1, 2, 3, 4, 5, 6, 7, 8, 9, 10, 11, 12, 13, 14, 15, 16, 29, 30]) (perm := [0, 1, 2, 3, 4, 5, 6, 7, 8, 9, 10, 11, 12, 13, 14, 15, 16, 19, 20, 21, 22, 23, 24, 25, 26, 27, 28, 29, 30, 17, 18]) (rest := []) (As := [.int x1, .int x2]) G zs_L_138 dL_law_808 (fun sz9 => c_X4_addToColumn l D cyI cyZ (h 17) (h 18) (h 19) (h 20) (h 21) (h 22) (h 23) (h 24) (h 25) (h 26) (h 27) (h 28) μ x1 x2 b9 μ2 e2 sz9) 17 rfl rfl rfl ⟨rfl, rfl, rfl, rfl⟩ rfl (Nat.le_of_ble_eq_true rfl) ⟨(Nat.le_of_ble_eq_true rfl), (Nat.le_of_ble_eq_true rfl), hc, hs⟩ rfl ?_
  refine zq_istore (q := 813) (lv2 := [(7, .int b9), (6, .int μ2.2.2.2.2), (0, .ref b), (1, .ref (h 0)), (2, .ref (h 17)), (3, .ref (h 29)), (4, .ref (h 30)), (5, .int i)]) G dL_law_811 (by decide) rfl rfl ?_
  refine zq_aload_n (q := 814) G dL_law_813 4 rfl rfl rfl ?_
  refine zq_callVi (q := 817) (ws2 := (w_L cyI cyZ cyJ cyD h σ2 μ2 g2 d)) (isC := [17, 18, 19, 20, 21, 22, 23, 24, 25, 26, 27, 28]) (isR := [0, 1, 2, 3, 4, 5, 6, 7, 8, 9, 10, 11, 12, 13, 14, 15, 16, 29, 30]) (perm := [0, 1, 2, 3, 4, 5, 6, 7, 8, 9, 10, 11, 12, 13, 14, 15, 16, 19, 20, 21, 22, 23, 24, 25, 26, 27, 28, 29, 30, 17, 18]) (rest := []) (As := []) G zs_L_110 dL_law_814 (fun sz9 => c_X4_thrown l D cyI cyZ (h 17) (h 18) (h 19) (h 20) (h 21) (h 22) (h 23) (h 24) (h 25) (h 26) (h 27) (h 28) μ2 μ2.2.2.2.2 (s_thrown μ2) sz9) 17 rfl rfl rfl ⟨rfl, rfl, rfl, rfl⟩ rfl (Nat.le_of_ble_eq_true rfl) ⟨(Nat.le_of_ble_eq_true rfl), (Nat.le_of_ble_eq_true rfl), hc, hs⟩ rfl ?_
  refine zq_iload (q := 819) G dL_law_817 1 rfl rfl ?_
  refine zq_icmp_eq (tgt := 824) (q := 822) G dL_law_819 (by decide) rfl (fun _ => ?_) (fun c9 => absurd rfl c9)
  refine zq_iload (q := 826) G dL_law_824 1 rfl rfl ?_
  refine zq_if_ne (tgt := 841) (q := 829) G dL_law_826 (by decide) rfl (fun _ => ?_) (fun h9 => ?_)
  · exact zq_goto (q := 2123) G dL_law_841 (by decide) (zq_sub (zlv b h i) [2, 3, 4, 5, 6, 7] rfl (K _ _ _ _ hR2))
  · refine zq_aload_n (q := 830) G dL_law_829 5 rfl rfl rfl ?_
    refine zq_iconst (q := 831) (v := 0) G dL_law_830 rfl rfl ?_
    refine zq_lald (q := 832) G LW.2.1 dL_law_831 29 rfl rfl rfl ?_
    refine zq_iload (q := 834) G dL_law_832 0 rfl rfl ?_
    refine zq_i2l (q := 835) G dL_law_834 rfl ?_
    refine zq_lcmp (q := 836) G dL_law_835 rfl ?_
    refine zq_if_eq (tgt := 841) (q := 839) G dL_law_836 (by decide) rfl (fun _ => ?_) (fun c9 => absurd (zeqL (hg2 h9)) c9)
    exact zq_goto (q := 2123) G dL_law_841 (by decide) (zq_sub (zlv b h i) [2, 3, 4, 5, 6, 7] rfl (K _ _ _ _ hR2))
