-- ===== the law's loop, one round =====
set_option maxRecDepth 100000 in
set_option maxHeartbeats 16000000 in
theorem BFL_law_18 {L : Nat} {xs : Nat → Int32} {k18 : Int32 → ob_H → Prop} (hk18 : ∀ (x3 : Int32) (h : ob_H), k18 x3 h → ob_J RL cL_law 4 room_1 false (some (L, xs)) 152 13607 KS NN h 18 [(0, .ref 100000), (1, .ref 0), (2, .ref 108), (3, .int x3)] [] PQ) (x3 : Int32) (h : ob_H) (y : FL_law_18 L xs k18 x3 h) : ob_J RL cL_law 4 room_1 false (some (L, xs)) 152 13607 KS NN h 18 [(0, .ref 100000), (1, .ref 0), (2, .ref 108), (3, .int x3)] [] PQ := by
  unfold FL_law_18 at y
  refine oj_iload_n 3 dL_law_18 rfl rfl ?_
  refine oj_aload_n 0 dL_law_19 rfl rfl ?_
  refine oj_slen rfl dL_law_20 ?_
  refine oj_bipush dL_law_21 cb_6 ?_
  refine oj_isub dL_law_23 ?_
  refine oj_icmp_gt 1231 dL_law_24 rfl (fun c1 => ?_) (fun c1 => ?_)
  · have y2 := y.1 c1
    refine oj_iconst dL_law_1231 ci_1 ?_
    exact oj_ret (r := some (.int (1))) (congrArg (fun z => some (Value.int z)) y2) dL_law_1232 (by decide) (by decide)
  · have y3 := y.2 c1
    refine oj_aload_n 0 dL_law_27 rfl rfl ?_
    refine oj_iload_n 3 dL_law_28 rfl rfl ?_
    obtain ⟨c4, y5⟩ := y3
    refine oj_sld rfl c4 rfl dL_law_29 ?_
    refine oj_bipush dL_law_30 cb_63 ?_
    refine oj_iand dL_law_32 ?_
    by_cases c6 : ((xs (ix x3)) &&& (63)) = (0)
    · have y7 := y5.1 c6
      refine oj_tableIn 220 dL_law_33 (by rw [c6] <;> decide) (by rw [c6] <;> decide) (by rw [c6] <;> rfl) rfl ?_
      refine oj_aload_n 1 dL_law_220 rfl rfl ?_
      refine oj_aload_n 0 dL_law_221 rfl rfl ?_
      refine oj_iload_n 3 dL_law_222 rfl rfl ?_
      refine oj_iconst dL_law_223 ci_1 ?_
      refine oj_iadd dL_law_224 ?_
      obtain ⟨c8, y9⟩ := y7
      refine oj_sld rfl c8 rfl dL_law_225 ?_
      refine oj_aload_n 0 dL_law_226 rfl rfl ?_
      refine oj_iload_n 3 dL_law_227 rfl rfl ?_
      refine oj_iconst dL_law_228 ci_2 ?_
      refine oj_iadd dL_law_229 ?_
      obtain ⟨c10, y11⟩ := y9
      refine oj_sld rfl c10 rfl dL_law_230 ?_
      refine oj_aload_n 0 dL_law_231 rfl rfl ?_
      refine oj_iload_n 3 dL_law_232 rfl rfl ?_
      refine oj_iconst dL_law_233 ci_3 ?_
      refine oj_iadd dL_law_234 ?_
      obtain ⟨c12, y13⟩ := y11
      refine oj_sld rfl c12 rfl dL_law_235 ?_
      refine oj_aload_n 0 dL_law_236 rfl rfl ?_
      refine oj_iload_n 3 dL_law_237 rfl rfl ?_
      refine oj_iconst dL_law_238 ci_4 ?_
      refine oj_iadd dL_law_239 ?_
      obtain ⟨c14, y15⟩ := y13
      refine oj_sld rfl c14 rfl dL_law_240 ?_
      refine oj_aload_n 0 dL_law_241 rfl rfl ?_
      refine oj_iload_n 3 dL_law_242 rfl rfl ?_
      refine oj_iconst dL_law_243 ci_5 ?_
      refine oj_iadd dL_law_244 ?_
      obtain ⟨c16, y17⟩ := y15
      refine oj_sld rfl c16 rfl dL_law_245 ?_
      refine oc_Vi [.int (xs (ix (x3 + (1)))), .int (xs (ix (x3 + (2)))), .int (xs (ix (x3 + (3)))), .int (xs (ix (x3 + (4)))), .int (xs (ix (x3 + (5))))] mi_RL_13 ow_584 ow_585 rfl k_0 (BX11_feed  y17) ⟨by decide, by decide⟩ ⟨by decide, by decide⟩ rfl (Nat.le_of_ble_eq_true rfl) dL_law_246 (fun r18 f20 h19 y21 => ?_)
      refine oj_aload_n 2 dL_law_249 rfl rfl ?_
      refine oj_aload_n 0 dL_law_250 rfl rfl ?_
      refine oj_iload_n 3 dL_law_251 rfl rfl ?_
      refine oj_iconst dL_law_252 ci_1 ?_
      refine oj_iadd dL_law_253 ?_
      refine oj_sld rfl c8 rfl dL_law_254 ?_
      refine oj_aload_n 0 dL_law_255 rfl rfl ?_
      refine oj_iload_n 3 dL_law_256 rfl rfl ?_
      refine oj_iconst dL_law_257 ci_2 ?_
      refine oj_iadd dL_law_258 ?_
      refine oj_sld rfl c10 rfl dL_law_259 ?_
      refine oj_aload_n 0 dL_law_260 rfl rfl ?_
      refine oj_iload_n 3 dL_law_261 rfl rfl ?_
      refine oj_iconst dL_law_262 ci_3 ?_
      refine oj_iadd dL_law_263 ?_
      refine oj_sld rfl c12 rfl dL_law_264 ?_
      refine oj_aload_n 0 dL_law_265 rfl rfl ?_
      refine oj_iload_n 3 dL_law_266 rfl rfl ?_
      refine oj_iconst dL_law_267 ci_4 ?_
      refine oj_iadd dL_law_268 ?_
      refine oj_sld rfl c14 rfl dL_law_269 ?_
      refine oj_aload_n 0 dL_law_270 rfl rfl ?_
      refine oj_iload_n 3 dL_law_271 rfl rfl ?_
      refine oj_iconst dL_law_272 ci_5 ?_
      refine oj_iadd dL_law_273 ?_
      refine oj_sld rfl c16 rfl dL_law_274 ?_
      refine oc_Vi [.int (xs (ix (x3 + (1)))), .int (xs (ix (x3 + (2)))), .int (xs (ix (x3 + (3)))), .int (xs (ix (x3 + (4)))), .int (xs (ix (x3 + (5))))] mi_RL_17 ow_1429 ow_1430 rfl k_108 (BX12_feed  y21) ⟨by decide, by decide⟩ ⟨by decide, by decide⟩ rfl (Nat.le_of_ble_eq_true rfl) dL_law_275 (fun r22 f24 h23 y25 => ?_)
      refine oj_icmp_eq 1225 dL_law_278 rfl (fun c26 => ?_) (fun c26 => ?_)
      · have y27 := y25.1 c26
        obtain ⟨v29, ev29⟩ : ∃ z : Int32, z = x3 + (6) := ⟨_, rfl⟩
        have y30 := Lt_at y27 v29 ev29
        refine oj_iinc (v := v29) (lv' := [(3, .int v29), (0, .ref 100000), (1, .ref 0), (2, .ref 108)]) 3 dL_law_1225 rfl (iinc_e ci_6 ev29) (by decide) rfl ?_
        refine oj_goto 18 dL_law_1228 rfl ?_
        refine oj_lv [1, 2, 3, 0] rfl ?_
        exact hk18 _ _ y30
      · have y28 := y25.2 c26
        refine oj_iconst dL_law_281 ci_0 ?_
        exact oj_ret (r := some (.int (0))) (congrArg (fun z => some (Value.int z)) y28) dL_law_282 (by decide) (by decide)
    have y31 := y5.2 c6
    by_cases c32 : ((xs (ix x3)) &&& (63)) = (1)
    · have y33 := y31.1 c32
      refine oj_tableIn 283 dL_law_33 (by rw [c32] <;> decide) (by rw [c32] <;> decide) (by rw [c32] <;> rfl) rfl ?_
      refine oj_aload_n 1 dL_law_283 rfl rfl ?_
      refine oj_aload_n 0 dL_law_284 rfl rfl ?_
      refine oj_iload_n 3 dL_law_285 rfl rfl ?_
      refine oj_iconst dL_law_286 ci_1 ?_
      refine oj_iadd dL_law_287 ?_
      obtain ⟨c34, y35⟩ := y33
      refine oj_sld rfl c34 rfl dL_law_288 ?_
      refine oc_Vi [.int (xs (ix (x3 + (1))))] mi_RL_18 ow_592 ow_593 rfl k_0 (BX11_end  y35) ⟨by decide, by decide⟩ ⟨by decide, by decide⟩ rfl (Nat.le_of_ble_eq_true rfl) dL_law_289 (fun r36 f38 h37 y39 => ?_)
      refine oj_aload_n 2 dL_law_292 rfl rfl ?_
      refine oj_aload_n 0 dL_law_293 rfl rfl ?_
      refine oj_iload_n 3 dL_law_294 rfl rfl ?_
      refine oj_iconst dL_law_295 ci_1 ?_
      refine oj_iadd dL_law_296 ?_
      refine oj_sld rfl c34 rfl dL_law_297 ?_
      refine oc_Vi [.int (xs (ix (x3 + (1))))] mi_RL_22 ow_1437 ow_1438 rfl k_108 (BX12_end  y39) ⟨by decide, by decide⟩ ⟨by decide, by decide⟩ rfl (Nat.le_of_ble_eq_true rfl) dL_law_298 (fun r40 f42 h41 y43 => ?_)
      refine oj_icmp_eq 1225 dL_law_301 rfl (fun c44 => ?_) (fun c44 => ?_)
      · have y45 := y43.1 c44
        obtain ⟨v47, ev47⟩ : ∃ z : Int32, z = x3 + (6) := ⟨_, rfl⟩
        have y48 := Lt_at y45 v47 ev47
        refine oj_iinc (v := v47) (lv' := [(3, .int v47), (0, .ref 100000), (1, .ref 0), (2, .ref 108)]) 3 dL_law_1225 rfl (iinc_e ci_6 ev47) (by decide) rfl ?_
        refine oj_goto 18 dL_law_1228 rfl ?_
        refine oj_lv [1, 2, 3, 0] rfl ?_
        exact hk18 _ _ y48
      · have y46 := y43.2 c44
        refine oj_iconst dL_law_304 ci_0 ?_
        exact oj_ret (r := some (.int (0))) (congrArg (fun z => some (Value.int z)) y46) dL_law_305 (by decide) (by decide)
    have y49 := y31.2 c32
    by_cases c50 : ((xs (ix x3)) &&& (63)) = (2)
    · have y51 := y49.1 c50
      refine oj_tableIn 306 dL_law_33 (by rw [c50] <;> decide) (by rw [c50] <;> decide) (by rw [c50] <;> rfl) rfl ?_
      refine oj_aload_n 1 dL_law_306 rfl rfl ?_
      refine oc_Vi [] mi_RL_23 ow_596 ow_597 rfl k_0 (BX11_wedding  y51) ⟨by decide, by decide⟩ ⟨by decide, by decide⟩ rfl (Nat.le_of_ble_eq_true rfl) dL_law_307 (fun r52 f54 h53 y55 => ?_)
      refine oj_aload_n 2 dL_law_310 rfl rfl ?_
      refine oc_Vi [] mi_RL_27 ow_1441 ow_1442 rfl k_108 (BX12_wedding  y55) ⟨by decide, by decide⟩ ⟨by decide, by decide⟩ rfl (Nat.le_of_ble_eq_true rfl) dL_law_311 (fun r56 f58 h57 y59 => ?_)
      refine oj_icmp_eq 1225 dL_law_314 rfl (fun c60 => ?_) (fun c60 => ?_)
      · have y61 := y59.1 c60
        obtain ⟨v63, ev63⟩ : ∃ z : Int32, z = x3 + (6) := ⟨_, rfl⟩
        have y64 := Lt_at y61 v63 ev63
        refine oj_iinc (v := v63) (lv' := [(3, .int v63), (0, .ref 100000), (1, .ref 0), (2, .ref 108)]) 3 dL_law_1225 rfl (iinc_e ci_6 ev63) (by decide) rfl ?_
        refine oj_goto 18 dL_law_1228 rfl ?_
        refine oj_lv [1, 2, 3, 0] rfl ?_
        exact hk18 _ _ y64
      · have y62 := y59.2 c60
        refine oj_iconst dL_law_317 ci_0 ?_
        exact oj_ret (r := some (.int (0))) (congrArg (fun z => some (Value.int z)) y62) dL_law_318 (by decide) (by decide)
    have y65 := y49.2 c50
    by_cases c66 : ((xs (ix x3)) &&& (63)) = (3)
    · have y67 := y65.1 c66
      refine oj_tableIn 319 dL_law_33 (by rw [c66] <;> decide) (by rw [c66] <;> decide) (by rw [c66] <;> rfl) rfl ?_
      refine oj_aload_n 1 dL_law_319 rfl rfl ?_
      refine oj_aload_n 0 dL_law_320 rfl rfl ?_
      refine oj_iload_n 3 dL_law_321 rfl rfl ?_
      refine oj_iconst dL_law_322 ci_1 ?_
      refine oj_iadd dL_law_323 ?_
      obtain ⟨c68, y69⟩ := y67
      refine oj_sld rfl c68 rfl dL_law_324 ?_
      refine oc_Vpi [.int (xs (ix (x3 + (1))))] mi_RL_28 ow_734 ow_735 rfl k_0 (BX11_fault  y69) ⟨by decide, by decide⟩ ⟨by decide, by decide⟩ rfl (Nat.le_of_ble_eq_true rfl) dL_law_325 (fun r70 f72 y73 => ?_)
      refine oj_aload_n 2 dL_law_328 rfl rfl ?_
      refine oj_aload_n 0 dL_law_329 rfl rfl ?_
      refine oj_iload_n 3 dL_law_330 rfl rfl ?_
      refine oj_iconst dL_law_331 ci_1 ?_
      refine oj_iadd dL_law_332 ?_
      refine oj_sld rfl c68 rfl dL_law_333 ?_
      refine oc_Vpi [.int (xs (ix (x3 + (1))))] mi_RL_31 ow_1620 ow_1621 rfl k_108 (BX12_fault  y73) ⟨by decide, by decide⟩ ⟨by decide, by decide⟩ rfl (Nat.le_of_ble_eq_true rfl) dL_law_334 (fun r74 f76 y77 => ?_)
      refine oj_icmp_eq 1225 dL_law_337 rfl (fun c78 => ?_) (fun c78 => ?_)
      · have y79 := y77.1 c78
        obtain ⟨v81, ev81⟩ : ∃ z : Int32, z = x3 + (6) := ⟨_, rfl⟩
        have y82 := Lt_at y79 v81 ev81
        refine oj_iinc (v := v81) (lv' := [(3, .int v81), (0, .ref 100000), (1, .ref 0), (2, .ref 108)]) 3 dL_law_1225 rfl (iinc_e ci_6 ev81) (by decide) rfl ?_
        refine oj_goto 18 dL_law_1228 rfl ?_
        refine oj_lv [1, 2, 3, 0] rfl ?_
        exact hk18 _ _ y82
      · have y80 := y77.2 c78
        refine oj_iconst dL_law_340 ci_0 ?_
        exact oj_ret (r := some (.int (0))) (congrArg (fun z => some (Value.int z)) y80) dL_law_341 (by decide) (by decide)
    have y83 := y65.2 c66
    by_cases c84 : ((xs (ix x3)) &&& (63)) = (4)
    · have y85 := y83.1 c84
      refine oj_tableIn 342 dL_law_33 (by rw [c84] <;> decide) (by rw [c84] <;> decide) (by rw [c84] <;> rfl) rfl ?_
      refine oj_aload_n 1 dL_law_342 rfl rfl ?_
      refine oj_aload_n 0 dL_law_343 rfl rfl ?_
      refine oj_iload_n 3 dL_law_344 rfl rfl ?_
      refine oj_iconst dL_law_345 ci_1 ?_
      refine oj_iadd dL_law_346 ?_
      obtain ⟨c86, y87⟩ := y85
      refine oj_sld rfl c86 rfl dL_law_347 ?_
      refine oj_aload_n 0 dL_law_348 rfl rfl ?_
      refine oj_iload_n 3 dL_law_349 rfl rfl ?_
      refine oj_iconst dL_law_350 ci_2 ?_
      refine oj_iadd dL_law_351 ?_
      obtain ⟨c88, y89⟩ := y87
      refine oj_sld rfl c88 rfl dL_law_352 ?_
      refine oc_Vpi [.int (xs (ix (x3 + (1)))), .int (xs (ix (x3 + (2))))] mi_RL_32 ow_738 ow_739 rfl k_0 (BX11_objector  y89) ⟨by decide, by decide⟩ ⟨by decide, by decide⟩ rfl (Nat.le_of_ble_eq_true rfl) dL_law_353 (fun r90 f92 y93 => ?_)
      refine oj_aload_n 2 dL_law_356 rfl rfl ?_
      refine oj_aload_n 0 dL_law_357 rfl rfl ?_
      refine oj_iload_n 3 dL_law_358 rfl rfl ?_
      refine oj_iconst dL_law_359 ci_1 ?_
      refine oj_iadd dL_law_360 ?_
      refine oj_sld rfl c86 rfl dL_law_361 ?_
      refine oj_aload_n 0 dL_law_362 rfl rfl ?_
      refine oj_iload_n 3 dL_law_363 rfl rfl ?_
      refine oj_iconst dL_law_364 ci_2 ?_
      refine oj_iadd dL_law_365 ?_
      refine oj_sld rfl c88 rfl dL_law_366 ?_
      refine oc_Vpi [.int (xs (ix (x3 + (1)))), .int (xs (ix (x3 + (2))))] mi_RL_36 ow_1624 ow_1625 rfl k_108 (BX12_objector  y93) ⟨by decide, by decide⟩ ⟨by decide, by decide⟩ rfl (Nat.le_of_ble_eq_true rfl) dL_law_367 (fun r94 f96 y97 => ?_)
      refine oj_icmp_eq 1225 dL_law_370 rfl (fun c98 => ?_) (fun c98 => ?_)
      · have y99 := y97.1 c98
        obtain ⟨v101, ev101⟩ : ∃ z : Int32, z = x3 + (6) := ⟨_, rfl⟩
        have y102 := Lt_at y99 v101 ev101
        refine oj_iinc (v := v101) (lv' := [(3, .int v101), (0, .ref 100000), (1, .ref 0), (2, .ref 108)]) 3 dL_law_1225 rfl (iinc_e ci_6 ev101) (by decide) rfl ?_
        refine oj_goto 18 dL_law_1228 rfl ?_
        refine oj_lv [1, 2, 3, 0] rfl ?_
        exact hk18 _ _ y102
      · have y100 := y97.2 c98
        refine oj_iconst dL_law_373 ci_0 ?_
        exact oj_ret (r := some (.int (0))) (congrArg (fun z => some (Value.int z)) y100) dL_law_374 (by decide) (by decide)
    have y103 := y83.2 c84
    by_cases c104 : ((xs (ix x3)) &&& (63)) = (5)
    · have y105 := y103.1 c104
      refine oj_tableIn 375 dL_law_33 (by rw [c104] <;> decide) (by rw [c104] <;> decide) (by rw [c104] <;> rfl) rfl ?_
      refine oj_aload_n 1 dL_law_375 rfl rfl ?_
      refine oj_aload_n 0 dL_law_376 rfl rfl ?_
      refine oj_iload_n 3 dL_law_377 rfl rfl ?_
      refine oj_iconst dL_law_378 ci_1 ?_
      refine oj_iadd dL_law_379 ?_
      obtain ⟨c106, y107⟩ := y105
      refine oj_sld rfl c106 rfl dL_law_380 ?_
      refine oc_Vi [.int (xs (ix (x3 + (1))))] mi_RL_37 ow_758 ow_759 rfl k_0 (BX11_ranks  y107) ⟨by decide, by decide⟩ ⟨by decide, by decide⟩ rfl (Nat.le_of_ble_eq_true rfl) dL_law_381 (fun r108 f110 h109 y111 => ?_)
      refine oj_aload_n 2 dL_law_384 rfl rfl ?_
      refine oj_aload_n 0 dL_law_385 rfl rfl ?_
      refine oj_iload_n 3 dL_law_386 rfl rfl ?_
      refine oj_iconst dL_law_387 ci_1 ?_
      refine oj_iadd dL_law_388 ?_
      refine oj_sld rfl c106 rfl dL_law_389 ?_
      refine oc_Vi [.int (xs (ix (x3 + (1))))] mi_RL_40 ow_1635 ow_1636 rfl k_108 (BX12_ranks  y111) ⟨by decide, by decide⟩ ⟨by decide, by decide⟩ rfl (Nat.le_of_ble_eq_true rfl) dL_law_390 (fun r112 f114 h113 y115 => ?_)
      refine oj_icmp_eq 1225 dL_law_393 rfl (fun c116 => ?_) (fun c116 => ?_)
      · have y117 := y115.1 c116
        obtain ⟨v119, ev119⟩ : ∃ z : Int32, z = x3 + (6) := ⟨_, rfl⟩
        have y120 := Lt_at y117 v119 ev119
        refine oj_iinc (v := v119) (lv' := [(3, .int v119), (0, .ref 100000), (1, .ref 0), (2, .ref 108)]) 3 dL_law_1225 rfl (iinc_e ci_6 ev119) (by decide) rfl ?_
        refine oj_goto 18 dL_law_1228 rfl ?_
        refine oj_lv [1, 2, 3, 0] rfl ?_
        exact hk18 _ _ y120
      · have y118 := y115.2 c116
        refine oj_iconst dL_law_396 ci_0 ?_
        exact oj_ret (r := some (.int (0))) (congrArg (fun z => some (Value.int z)) y118) dL_law_397 (by decide) (by decide)
    have y121 := y103.2 c104
    by_cases c122 : ((xs (ix x3)) &&& (63)) = (6)
    · have y123 := y121.1 c122
      refine oj_tableIn 398 dL_law_33 (by rw [c122] <;> decide) (by rw [c122] <;> decide) (by rw [c122] <;> rfl) rfl ?_
      refine oj_aload_n 1 dL_law_398 rfl rfl ?_
      refine oc_Vi [] mi_RL_41 ow_785 ow_786 rfl k_0 (BX11_hear  y123) ⟨by decide, by decide⟩ ⟨by decide, by decide⟩ rfl (Nat.le_of_ble_eq_true rfl) dL_law_399 (fun r124 f126 h125 y127 => ?_)
      refine oj_aload_n 2 dL_law_402 rfl rfl ?_
      refine oc_Vi [] mi_RL_44 ow_1663 ow_1664 rfl k_108 (BX12_hear  y127) ⟨by decide, by decide⟩ ⟨by decide, by decide⟩ rfl (Nat.le_of_ble_eq_true rfl) dL_law_403 (fun r128 f130 h129 y131 => ?_)
      refine oj_icmp_eq 1225 dL_law_406 rfl (fun c132 => ?_) (fun c132 => ?_)
      · have y133 := y131.1 c132
        obtain ⟨v135, ev135⟩ : ∃ z : Int32, z = x3 + (6) := ⟨_, rfl⟩
        have y136 := Lt_at y133 v135 ev135
        refine oj_iinc (v := v135) (lv' := [(3, .int v135), (0, .ref 100000), (1, .ref 0), (2, .ref 108)]) 3 dL_law_1225 rfl (iinc_e ci_6 ev135) (by decide) rfl ?_
        refine oj_goto 18 dL_law_1228 rfl ?_
        refine oj_lv [1, 2, 3, 0] rfl ?_
        exact hk18 _ _ y136
      · have y134 := y131.2 c132
        refine oj_iconst dL_law_409 ci_0 ?_
        exact oj_ret (r := some (.int (0))) (congrArg (fun z => some (Value.int z)) y134) dL_law_410 (by decide) (by decide)
    have y137 := y121.2 c122
    by_cases c138 : ((xs (ix x3)) &&& (63)) = (7)
    · have y139 := y137.1 c138
      refine oj_tableIn 411 dL_law_33 (by rw [c138] <;> decide) (by rw [c138] <;> decide) (by rw [c138] <;> rfl) rfl ?_
      refine oj_aload_n 1 dL_law_411 rfl rfl ?_
      refine oj_aload_n 0 dL_law_412 rfl rfl ?_
      refine oj_iload_n 3 dL_law_413 rfl rfl ?_
      refine oj_iconst dL_law_414 ci_1 ?_
      refine oj_iadd dL_law_415 ?_
      obtain ⟨c140, y141⟩ := y139
      refine oj_sld rfl c140 rfl dL_law_416 ?_
      refine oc_Vi [.int (xs (ix (x3 + (1))))] mi_RL_45 ow_827 ow_828 rfl k_0 (BX11_buy  y141) ⟨by decide, by decide⟩ ⟨by decide, by decide⟩ rfl (Nat.le_of_ble_eq_true rfl) dL_law_417 (fun r142 f144 h143 y145 => ?_)
      refine oj_aload_n 2 dL_law_420 rfl rfl ?_
      refine oj_aload_n 0 dL_law_421 rfl rfl ?_
      refine oj_iload_n 3 dL_law_422 rfl rfl ?_
      refine oj_iconst dL_law_423 ci_1 ?_
      refine oj_iadd dL_law_424 ?_
      refine oj_sld rfl c140 rfl dL_law_425 ?_
      refine oc_Vi [.int (xs (ix (x3 + (1))))] mi_RL_48 ow_1691 ow_1692 rfl k_108 (BX12_buy  y145) ⟨by decide, by decide⟩ ⟨by decide, by decide⟩ rfl (Nat.le_of_ble_eq_true rfl) dL_law_426 (fun r146 f148 h147 y149 => ?_)
      refine oj_icmp_eq 1225 dL_law_429 rfl (fun c150 => ?_) (fun c150 => ?_)
      · have y151 := y149.1 c150
        obtain ⟨v153, ev153⟩ : ∃ z : Int32, z = x3 + (6) := ⟨_, rfl⟩
        have y154 := Lt_at y151 v153 ev153
        refine oj_iinc (v := v153) (lv' := [(3, .int v153), (0, .ref 100000), (1, .ref 0), (2, .ref 108)]) 3 dL_law_1225 rfl (iinc_e ci_6 ev153) (by decide) rfl ?_
        refine oj_goto 18 dL_law_1228 rfl ?_
        refine oj_lv [1, 2, 3, 0] rfl ?_
        exact hk18 _ _ y154
      · have y152 := y149.2 c150
        refine oj_iconst dL_law_432 ci_0 ?_
        exact oj_ret (r := some (.int (0))) (congrArg (fun z => some (Value.int z)) y152) dL_law_433 (by decide) (by decide)
    have y155 := y137.2 c138
    by_cases c156 : ((xs (ix x3)) &&& (63)) = (8)
    · have y157 := y155.1 c156
      refine oj_tableIn 434 dL_law_33 (by rw [c156] <;> decide) (by rw [c156] <;> decide) (by rw [c156] <;> rfl) rfl ?_
      refine oj_aload_n 1 dL_law_434 rfl rfl ?_
      refine oj_aload_n 0 dL_law_435 rfl rfl ?_
      refine oj_iload_n 3 dL_law_436 rfl rfl ?_
      refine oj_iconst dL_law_437 ci_1 ?_
      refine oj_iadd dL_law_438 ?_
      obtain ⟨c158, y159⟩ := y157
      refine oj_sld rfl c158 rfl dL_law_439 ?_
      refine oc_Vi [.int (xs (ix (x3 + (1))))] mi_RL_49 ow_832 ow_833 rfl k_0 (BX11_pause  y159) ⟨by decide, by decide⟩ ⟨by decide, by decide⟩ rfl (Nat.le_of_ble_eq_true rfl) dL_law_440 (fun r160 f162 h161 y163 => ?_)
      refine oj_aload_n 2 dL_law_443 rfl rfl ?_
      refine oj_aload_n 0 dL_law_444 rfl rfl ?_
      refine oj_iload_n 3 dL_law_445 rfl rfl ?_
      refine oj_iconst dL_law_446 ci_1 ?_
      refine oj_iadd dL_law_447 ?_
      refine oj_sld rfl c158 rfl dL_law_448 ?_
      refine oc_Vi [.int (xs (ix (x3 + (1))))] mi_RL_52 ow_1695 ow_1696 rfl k_108 (BX12_pause  y163) ⟨by decide, by decide⟩ ⟨by decide, by decide⟩ rfl (Nat.le_of_ble_eq_true rfl) dL_law_449 (fun r164 f166 h165 y167 => ?_)
      refine oj_icmp_eq 1225 dL_law_452 rfl (fun c168 => ?_) (fun c168 => ?_)
      · have y169 := y167.1 c168
        obtain ⟨v171, ev171⟩ : ∃ z : Int32, z = x3 + (6) := ⟨_, rfl⟩
        have y172 := Lt_at y169 v171 ev171
        refine oj_iinc (v := v171) (lv' := [(3, .int v171), (0, .ref 100000), (1, .ref 0), (2, .ref 108)]) 3 dL_law_1225 rfl (iinc_e ci_6 ev171) (by decide) rfl ?_
        refine oj_goto 18 dL_law_1228 rfl ?_
        refine oj_lv [1, 2, 3, 0] rfl ?_
        exact hk18 _ _ y172
      · have y170 := y167.2 c168
        refine oj_iconst dL_law_455 ci_0 ?_
        exact oj_ret (r := some (.int (0))) (congrArg (fun z => some (Value.int z)) y170) dL_law_456 (by decide) (by decide)
    have y173 := y155.2 c156
    by_cases c174 : ((xs (ix x3)) &&& (63)) = (9)
    · have y175 := y173.1 c174
      refine oj_tableIn 457 dL_law_33 (by rw [c174] <;> decide) (by rw [c174] <;> decide) (by rw [c174] <;> rfl) rfl ?_
      refine oj_aload_n 1 dL_law_457 rfl rfl ?_
      refine oj_aload_n 0 dL_law_458 rfl rfl ?_
      refine oj_iload_n 3 dL_law_459 rfl rfl ?_
      refine oj_iconst dL_law_460 ci_1 ?_
      refine oj_iadd dL_law_461 ?_
      obtain ⟨c176, y177⟩ := y175
      refine oj_sld rfl c176 rfl dL_law_462 ?_
      refine oj_aload_n 0 dL_law_463 rfl rfl ?_
      refine oj_iload_n 3 dL_law_464 rfl rfl ?_
      refine oj_iconst dL_law_465 ci_2 ?_
      refine oj_iadd dL_law_466 ?_
      obtain ⟨c178, y179⟩ := y177
      refine oj_sld rfl c178 rfl dL_law_467 ?_
      refine oc_Vi [.int (xs (ix (x3 + (1)))), .int (xs (ix (x3 + (2))))] mi_RL_53 ow_840 ow_841 rfl k_0 (BX11_trade  y179) ⟨by decide, by decide⟩ ⟨by decide, by decide⟩ rfl (Nat.le_of_ble_eq_true rfl) dL_law_468 (fun r180 f182 h181 y183 => ?_)
      refine oj_aload_n 2 dL_law_471 rfl rfl ?_
      refine oj_aload_n 0 dL_law_472 rfl rfl ?_
      refine oj_iload_n 3 dL_law_473 rfl rfl ?_
      refine oj_iconst dL_law_474 ci_1 ?_
      refine oj_iadd dL_law_475 ?_
      refine oj_sld rfl c176 rfl dL_law_476 ?_
      refine oj_aload_n 0 dL_law_477 rfl rfl ?_
      refine oj_iload_n 3 dL_law_478 rfl rfl ?_
      refine oj_iconst dL_law_479 ci_2 ?_
      refine oj_iadd dL_law_480 ?_
      refine oj_sld rfl c178 rfl dL_law_481 ?_
      refine oc_Vi [.int (xs (ix (x3 + (1)))), .int (xs (ix (x3 + (2))))] mi_RL_56 ow_1699 ow_1700 rfl k_108 (BX12_trade  y183) ⟨by decide, by decide⟩ ⟨by decide, by decide⟩ rfl (Nat.le_of_ble_eq_true rfl) dL_law_482 (fun r184 f186 h185 y187 => ?_)
      refine oj_icmp_eq 1225 dL_law_485 rfl (fun c188 => ?_) (fun c188 => ?_)
      · have y189 := y187.1 c188
        obtain ⟨v191, ev191⟩ : ∃ z : Int32, z = x3 + (6) := ⟨_, rfl⟩
        have y192 := Lt_at y189 v191 ev191
        refine oj_iinc (v := v191) (lv' := [(3, .int v191), (0, .ref 100000), (1, .ref 0), (2, .ref 108)]) 3 dL_law_1225 rfl (iinc_e ci_6 ev191) (by decide) rfl ?_
        refine oj_goto 18 dL_law_1228 rfl ?_
        refine oj_lv [1, 2, 3, 0] rfl ?_
        exact hk18 _ _ y192
      · have y190 := y187.2 c188
        refine oj_iconst dL_law_488 ci_0 ?_
        exact oj_ret (r := some (.int (0))) (congrArg (fun z => some (Value.int z)) y190) dL_law_489 (by decide) (by decide)
    have y193 := y173.2 c174
    by_cases c194 : ((xs (ix x3)) &&& (63)) = (10)
    · have y195 := y193.1 c194
      refine oj_tableIn 490 dL_law_33 (by rw [c194] <;> decide) (by rw [c194] <;> decide) (by rw [c194] <;> rfl) rfl ?_
      refine oj_aload_n 1 dL_law_490 rfl rfl ?_
      refine oc_Vi [] mi_RL_57 ow_848 ow_849 rfl k_0 (BX11_undo  y195) ⟨by decide, by decide⟩ ⟨by decide, by decide⟩ rfl (Nat.le_of_ble_eq_true rfl) dL_law_491 (fun r196 f198 h197 y199 => ?_)
      refine oj_aload_n 2 dL_law_494 rfl rfl ?_
      refine oc_Vi [] mi_RL_61 ow_1707 ow_1708 rfl k_108 (BX12_undo  y199) ⟨by decide, by decide⟩ ⟨by decide, by decide⟩ rfl (Nat.le_of_ble_eq_true rfl) dL_law_495 (fun r200 f202 h201 y203 => ?_)
      refine oj_icmp_eq 1225 dL_law_498 rfl (fun c204 => ?_) (fun c204 => ?_)
      · have y205 := y203.1 c204
        obtain ⟨v207, ev207⟩ : ∃ z : Int32, z = x3 + (6) := ⟨_, rfl⟩
        have y208 := Lt_at y205 v207 ev207
        refine oj_iinc (v := v207) (lv' := [(3, .int v207), (0, .ref 100000), (1, .ref 0), (2, .ref 108)]) 3 dL_law_1225 rfl (iinc_e ci_6 ev207) (by decide) rfl ?_
        refine oj_goto 18 dL_law_1228 rfl ?_
        refine oj_lv [1, 2, 3, 0] rfl ?_
        exact hk18 _ _ y208
      · have y206 := y203.2 c204
        refine oj_iconst dL_law_501 ci_0 ?_
        exact oj_ret (r := some (.int (0))) (congrArg (fun z => some (Value.int z)) y206) dL_law_502 (by decide) (by decide)
    have y209 := y193.2 c194
    by_cases c210 : ((xs (ix x3)) &&& (63)) = (11)
    · have y211 := y209.1 c210
      refine oj_tableIn 503 dL_law_33 (by rw [c210] <;> decide) (by rw [c210] <;> decide) (by rw [c210] <;> rfl) rfl ?_
      refine oj_aload_n 1 dL_law_503 rfl rfl ?_
      refine oc_Vi [] mi_RL_62 ow_860 ow_861 rfl k_0 (BX11_redo  y211) ⟨by decide, by decide⟩ ⟨by decide, by decide⟩ rfl (Nat.le_of_ble_eq_true rfl) dL_law_504 (fun r212 f214 h213 y215 => ?_)
      refine oj_aload_n 2 dL_law_507 rfl rfl ?_
      refine oc_Vi [] mi_RL_65 ow_1715 ow_1716 rfl k_108 (BX12_redo  y215) ⟨by decide, by decide⟩ ⟨by decide, by decide⟩ rfl (Nat.le_of_ble_eq_true rfl) dL_law_508 (fun r216 f218 h217 y219 => ?_)
      refine oj_icmp_eq 1225 dL_law_511 rfl (fun c220 => ?_) (fun c220 => ?_)
      · have y221 := y219.1 c220
        obtain ⟨v223, ev223⟩ : ∃ z : Int32, z = x3 + (6) := ⟨_, rfl⟩
        have y224 := Lt_at y221 v223 ev223
        refine oj_iinc (v := v223) (lv' := [(3, .int v223), (0, .ref 100000), (1, .ref 0), (2, .ref 108)]) 3 dL_law_1225 rfl (iinc_e ci_6 ev223) (by decide) rfl ?_
        refine oj_goto 18 dL_law_1228 rfl ?_
        refine oj_lv [1, 2, 3, 0] rfl ?_
        exact hk18 _ _ y224
      · have y222 := y219.2 c220
        refine oj_iconst dL_law_514 ci_0 ?_
        exact oj_ret (r := some (.int (0))) (congrArg (fun z => some (Value.int z)) y222) dL_law_515 (by decide) (by decide)
    have y225 := y209.2 c210
    by_cases c226 : ((xs (ix x3)) &&& (63)) = (12)
    · have y227 := y225.1 c226
      refine oj_tableIn 516 dL_law_33 (by rw [c226] <;> decide) (by rw [c226] <;> decide) (by rw [c226] <;> rfl) rfl ?_
      refine oj_aload_n 1 dL_law_516 rfl rfl ?_
      refine oc_Vi [] mi_RL_66 ow_868 ow_869 rfl k_0 (BX11_next  y227) ⟨by decide, by decide⟩ ⟨by decide, by decide⟩ rfl (Nat.le_of_ble_eq_true rfl) dL_law_517 (fun r228 f230 h229 y231 => ?_)
      refine oj_aload_n 2 dL_law_520 rfl rfl ?_
      refine oc_Vi [] mi_RL_69 ow_1719 ow_1720 rfl k_108 (BX12_next  y231) ⟨by decide, by decide⟩ ⟨by decide, by decide⟩ rfl (Nat.le_of_ble_eq_true rfl) dL_law_521 (fun r232 f234 h233 y235 => ?_)
      refine oj_icmp_eq 1225 dL_law_524 rfl (fun c236 => ?_) (fun c236 => ?_)
      · have y237 := y235.1 c236
        obtain ⟨v239, ev239⟩ : ∃ z : Int32, z = x3 + (6) := ⟨_, rfl⟩
        have y240 := Lt_at y237 v239 ev239
        refine oj_iinc (v := v239) (lv' := [(3, .int v239), (0, .ref 100000), (1, .ref 0), (2, .ref 108)]) 3 dL_law_1225 rfl (iinc_e ci_6 ev239) (by decide) rfl ?_
        refine oj_goto 18 dL_law_1228 rfl ?_
        refine oj_lv [1, 2, 3, 0] rfl ?_
        exact hk18 _ _ y240
      · have y238 := y235.2 c236
        refine oj_iconst dL_law_527 ci_0 ?_
        exact oj_ret (r := some (.int (0))) (congrArg (fun z => some (Value.int z)) y238) dL_law_528 (by decide) (by decide)
    have y241 := y225.2 c226
    by_cases c242 : ((xs (ix x3)) &&& (63)) = (13)
    · have y243 := y241.1 c242
      refine oj_tableIn 529 dL_law_33 (by rw [c242] <;> decide) (by rw [c242] <;> decide) (by rw [c242] <;> rfl) rfl ?_
      refine oj_aload_n 1 dL_law_529 rfl rfl ?_
      refine oc_Vi [] mi_RL_70 ow_872 ow_873 rfl k_0 (BX11_queue  y243) ⟨by decide, by decide⟩ ⟨by decide, by decide⟩ rfl (Nat.le_of_ble_eq_true rfl) dL_law_530 (fun r244 f246 h245 y247 => ?_)
      refine oj_aload_n 2 dL_law_533 rfl rfl ?_
      refine oc_Vi [] mi_RL_73 ow_1723 ow_1724 rfl k_108 (BX12_queue  y247) ⟨by decide, by decide⟩ ⟨by decide, by decide⟩ rfl (Nat.le_of_ble_eq_true rfl) dL_law_534 (fun r248 f250 h249 y251 => ?_)
      refine oj_icmp_eq 1225 dL_law_537 rfl (fun c252 => ?_) (fun c252 => ?_)
      · have y253 := y251.1 c252
        obtain ⟨v255, ev255⟩ : ∃ z : Int32, z = x3 + (6) := ⟨_, rfl⟩
        have y256 := Lt_at y253 v255 ev255
        refine oj_iinc (v := v255) (lv' := [(3, .int v255), (0, .ref 100000), (1, .ref 0), (2, .ref 108)]) 3 dL_law_1225 rfl (iinc_e ci_6 ev255) (by decide) rfl ?_
        refine oj_goto 18 dL_law_1228 rfl ?_
        refine oj_lv [1, 2, 3, 0] rfl ?_
        exact hk18 _ _ y256
      · have y254 := y251.2 c252
        refine oj_iconst dL_law_540 ci_0 ?_
        exact oj_ret (r := some (.int (0))) (congrArg (fun z => some (Value.int z)) y254) dL_law_541 (by decide) (by decide)
    have y257 := y241.2 c242
    by_cases c258 : ((xs (ix x3)) &&& (63)) = (14)
    · have y259 := y257.1 c258
      refine oj_tableIn 542 dL_law_33 (by rw [c258] <;> decide) (by rw [c258] <;> decide) (by rw [c258] <;> rfl) rfl ?_
      refine oj_aload_n 1 dL_law_542 rfl rfl ?_
      refine oc_Vi [] mi_RL_74 ow_880 ow_881 rfl k_0 (BX11_dusk  y259) ⟨by decide, by decide⟩ ⟨by decide, by decide⟩ rfl (Nat.le_of_ble_eq_true rfl) dL_law_543 (fun r260 f262 h261 y263 => ?_)
      refine oj_aload_n 2 dL_law_546 rfl rfl ?_
      refine oc_Vi [] mi_RL_77 ow_1731 ow_1732 rfl k_108 (BX12_dusk  y263) ⟨by decide, by decide⟩ ⟨by decide, by decide⟩ rfl (Nat.le_of_ble_eq_true rfl) dL_law_547 (fun r264 f266 h265 y267 => ?_)
      refine oj_icmp_eq 1225 dL_law_550 rfl (fun c268 => ?_) (fun c268 => ?_)
      · have y269 := y267.1 c268
        obtain ⟨v271, ev271⟩ : ∃ z : Int32, z = x3 + (6) := ⟨_, rfl⟩
        have y272 := Lt_at y269 v271 ev271
        refine oj_iinc (v := v271) (lv' := [(3, .int v271), (0, .ref 100000), (1, .ref 0), (2, .ref 108)]) 3 dL_law_1225 rfl (iinc_e ci_6 ev271) (by decide) rfl ?_
        refine oj_goto 18 dL_law_1228 rfl ?_
        refine oj_lv [1, 2, 3, 0] rfl ?_
        exact hk18 _ _ y272
      · have y270 := y267.2 c268
        refine oj_iconst dL_law_553 ci_0 ?_
        exact oj_ret (r := some (.int (0))) (congrArg (fun z => some (Value.int z)) y270) dL_law_554 (by decide) (by decide)
    have y273 := y257.2 c258
    by_cases c274 : ((xs (ix x3)) &&& (63)) = (15)
    · have y275 := y273.1 c274
      refine oj_tableIn 555 dL_law_33 (by rw [c274] <;> decide) (by rw [c274] <;> decide) (by rw [c274] <;> rfl) rfl ?_
      refine oj_aload_n 1 dL_law_555 rfl rfl ?_
      refine oj_aload_n 0 dL_law_556 rfl rfl ?_
      refine oj_iload_n 3 dL_law_557 rfl rfl ?_
      refine oj_iconst dL_law_558 ci_1 ?_
      refine oj_iadd dL_law_559 ?_
      obtain ⟨c276, y277⟩ := y275
      refine oj_sld rfl c276 rfl dL_law_560 ?_
      refine oc_Vi [.int (xs (ix (x3 + (1))))] mi_RL_78 ow_895 ow_896 rfl k_0 (BX11_when  y277) ⟨by decide, by decide⟩ ⟨by decide, by decide⟩ rfl (Nat.le_of_ble_eq_true rfl) dL_law_561 (fun r278 f280 h279 y281 => ?_)
      refine oj_aload_n 2 dL_law_564 rfl rfl ?_
      refine oj_aload_n 0 dL_law_565 rfl rfl ?_
      refine oj_iload_n 3 dL_law_566 rfl rfl ?_
      refine oj_iconst dL_law_567 ci_1 ?_
      refine oj_iadd dL_law_568 ?_
      refine oj_sld rfl c276 rfl dL_law_569 ?_
      refine oc_Vi [.int (xs (ix (x3 + (1))))] mi_RL_81 ow_1743 ow_1744 rfl k_108 (BX12_when  y281) ⟨by decide, by decide⟩ ⟨by decide, by decide⟩ rfl (Nat.le_of_ble_eq_true rfl) dL_law_570 (fun r282 f284 h283 y285 => ?_)
      refine oj_icmp_eq 1225 dL_law_573 rfl (fun c286 => ?_) (fun c286 => ?_)
      · have y287 := y285.1 c286
        obtain ⟨v289, ev289⟩ : ∃ z : Int32, z = x3 + (6) := ⟨_, rfl⟩
        have y290 := Lt_at y287 v289 ev289
        refine oj_iinc (v := v289) (lv' := [(3, .int v289), (0, .ref 100000), (1, .ref 0), (2, .ref 108)]) 3 dL_law_1225 rfl (iinc_e ci_6 ev289) (by decide) rfl ?_
        refine oj_goto 18 dL_law_1228 rfl ?_
        refine oj_lv [1, 2, 3, 0] rfl ?_
        exact hk18 _ _ y290
      · have y288 := y285.2 c286
        refine oj_iconst dL_law_576 ci_0 ?_
        exact oj_ret (r := some (.int (0))) (congrArg (fun z => some (Value.int z)) y288) dL_law_577 (by decide) (by decide)
    have y291 := y273.2 c274
    by_cases c292 : ((xs (ix x3)) &&& (63)) = (16)
    · have y293 := y291.1 c292
      refine oj_tableIn 578 dL_law_33 (by rw [c292] <;> decide) (by rw [c292] <;> decide) (by rw [c292] <;> rfl) rfl ?_
      refine oj_aload_n 1 dL_law_578 rfl rfl ?_
      refine oc_Vi [] mi_RL_82 ow_899 ow_900 rfl k_0 (BX11_course  y293) ⟨by decide, by decide⟩ ⟨by decide, by decide⟩ rfl (Nat.le_of_ble_eq_true rfl) dL_law_579 (fun r294 f296 h295 y297 => ?_)
      refine oj_aload_n 2 dL_law_582 rfl rfl ?_
      refine oc_Vi [] mi_RL_85 ow_1747 ow_1748 rfl k_108 (BX12_course  y297) ⟨by decide, by decide⟩ ⟨by decide, by decide⟩ rfl (Nat.le_of_ble_eq_true rfl) dL_law_583 (fun r298 f300 h299 y301 => ?_)
      refine oj_icmp_eq 1225 dL_law_586 rfl (fun c302 => ?_) (fun c302 => ?_)
      · have y303 := y301.1 c302
        obtain ⟨v305, ev305⟩ : ∃ z : Int32, z = x3 + (6) := ⟨_, rfl⟩
        have y306 := Lt_at y303 v305 ev305
        refine oj_iinc (v := v305) (lv' := [(3, .int v305), (0, .ref 100000), (1, .ref 0), (2, .ref 108)]) 3 dL_law_1225 rfl (iinc_e ci_6 ev305) (by decide) rfl ?_
        refine oj_goto 18 dL_law_1228 rfl ?_
        refine oj_lv [1, 2, 3, 0] rfl ?_
        exact hk18 _ _ y306
      · have y304 := y301.2 c302
        refine oj_iconst dL_law_589 ci_0 ?_
        exact oj_ret (r := some (.int (0))) (congrArg (fun z => some (Value.int z)) y304) dL_law_590 (by decide) (by decide)
    have y307 := y291.2 c292
    by_cases c308 : ((xs (ix x3)) &&& (63)) = (17)
    · have y309 := y307.1 c308
      refine oj_tableIn 591 dL_law_33 (by rw [c308] <;> decide) (by rw [c308] <;> decide) (by rw [c308] <;> rfl) rfl ?_
      refine oj_aload_n 1 dL_law_591 rfl rfl ?_
      refine oc_Vi [] mi_RL_86 ow_908 ow_909 rfl k_0 (BX11_leavers  y309) ⟨by decide, by decide⟩ ⟨by decide, by decide⟩ rfl (Nat.le_of_ble_eq_true rfl) dL_law_592 (fun r310 f312 h311 y313 => ?_)
      refine oj_aload_n 2 dL_law_595 rfl rfl ?_
      refine oc_Vi [] mi_RL_89 ow_1751 ow_1752 rfl k_108 (BX12_leavers  y313) ⟨by decide, by decide⟩ ⟨by decide, by decide⟩ rfl (Nat.le_of_ble_eq_true rfl) dL_law_596 (fun r314 f316 h315 y317 => ?_)
      refine oj_icmp_eq 1225 dL_law_599 rfl (fun c318 => ?_) (fun c318 => ?_)
      · have y319 := y317.1 c318
        obtain ⟨v321, ev321⟩ : ∃ z : Int32, z = x3 + (6) := ⟨_, rfl⟩
        have y322 := Lt_at y319 v321 ev321
        refine oj_iinc (v := v321) (lv' := [(3, .int v321), (0, .ref 100000), (1, .ref 0), (2, .ref 108)]) 3 dL_law_1225 rfl (iinc_e ci_6 ev321) (by decide) rfl ?_
        refine oj_goto 18 dL_law_1228 rfl ?_
        refine oj_lv [1, 2, 3, 0] rfl ?_
        exact hk18 _ _ y322
      · have y320 := y317.2 c318
        refine oj_iconst dL_law_602 ci_0 ?_
        exact oj_ret (r := some (.int (0))) (congrArg (fun z => some (Value.int z)) y320) dL_law_603 (by decide) (by decide)
    have y323 := y307.2 c308
    by_cases c324 : ((xs (ix x3)) &&& (63)) = (18)
    · have y325 := y323.1 c324
      refine oj_tableIn 604 dL_law_33 (by rw [c324] <;> decide) (by rw [c324] <;> decide) (by rw [c324] <;> rfl) rfl ?_
      refine oj_aload_n 1 dL_law_604 rfl rfl ?_
      refine oc_Vi [] mi_RL_90 ow_912 ow_913 rfl k_0 (BX11_soonest  y325) ⟨by decide, by decide⟩ ⟨by decide, by decide⟩ rfl (Nat.le_of_ble_eq_true rfl) dL_law_605 (fun r326 f328 h327 y329 => ?_)
      refine oj_aload_n 2 dL_law_608 rfl rfl ?_
      refine oc_Vi [] mi_RL_93 ow_1755 ow_1756 rfl k_108 (BX12_soonest  y329) ⟨by decide, by decide⟩ ⟨by decide, by decide⟩ rfl (Nat.le_of_ble_eq_true rfl) dL_law_609 (fun r330 f332 h331 y333 => ?_)
      refine oj_icmp_eq 1225 dL_law_612 rfl (fun c334 => ?_) (fun c334 => ?_)
      · have y335 := y333.1 c334
        obtain ⟨v337, ev337⟩ : ∃ z : Int32, z = x3 + (6) := ⟨_, rfl⟩
        have y338 := Lt_at y335 v337 ev337
        refine oj_iinc (v := v337) (lv' := [(3, .int v337), (0, .ref 100000), (1, .ref 0), (2, .ref 108)]) 3 dL_law_1225 rfl (iinc_e ci_6 ev337) (by decide) rfl ?_
        refine oj_goto 18 dL_law_1228 rfl ?_
        refine oj_lv [1, 2, 3, 0] rfl ?_
        exact hk18 _ _ y338
      · have y336 := y333.2 c334
        refine oj_iconst dL_law_615 ci_0 ?_
        exact oj_ret (r := some (.int (0))) (congrArg (fun z => some (Value.int z)) y336) dL_law_616 (by decide) (by decide)
    have y339 := y323.2 c324
    by_cases c340 : ((xs (ix x3)) &&& (63)) = (19)
    · have y341 := y339.1 c340
      refine oj_tableIn 617 dL_law_33 (by rw [c340] <;> decide) (by rw [c340] <;> decide) (by rw [c340] <;> rfl) rfl ?_
      refine oj_aload_n 1 dL_law_617 rfl rfl ?_
      refine oj_aload_n 0 dL_law_618 rfl rfl ?_
      refine oj_iload_n 3 dL_law_619 rfl rfl ?_
      refine oj_iconst dL_law_620 ci_1 ?_
      refine oj_iadd dL_law_621 ?_
      obtain ⟨c342, y343⟩ := y341
      refine oj_sld rfl c342 rfl dL_law_622 ?_
      refine oc_Vi [.int (xs (ix (x3 + (1))))] mi_RL_94 ow_936 ow_937 rfl k_0 (BX11_first  y343) ⟨by decide, by decide⟩ ⟨by decide, by decide⟩ rfl (Nat.le_of_ble_eq_true rfl) dL_law_623 (fun r344 f346 h345 y347 => ?_)
      refine oj_aload_n 2 dL_law_626 rfl rfl ?_
      refine oj_aload_n 0 dL_law_627 rfl rfl ?_
      refine oj_iload_n 3 dL_law_628 rfl rfl ?_
      refine oj_iconst dL_law_629 ci_1 ?_
      refine oj_iadd dL_law_630 ?_
      refine oj_sld rfl c342 rfl dL_law_631 ?_
      refine oc_Vi [.int (xs (ix (x3 + (1))))] mi_RL_97 ow_1768 ow_1769 rfl k_108 (BX12_first  y347) ⟨by decide, by decide⟩ ⟨by decide, by decide⟩ rfl (Nat.le_of_ble_eq_true rfl) dL_law_632 (fun r348 f350 h349 y351 => ?_)
      refine oj_icmp_eq 1225 dL_law_635 rfl (fun c352 => ?_) (fun c352 => ?_)
      · have y353 := y351.1 c352
        obtain ⟨v355, ev355⟩ : ∃ z : Int32, z = x3 + (6) := ⟨_, rfl⟩
        have y356 := Lt_at y353 v355 ev355
        refine oj_iinc (v := v355) (lv' := [(3, .int v355), (0, .ref 100000), (1, .ref 0), (2, .ref 108)]) 3 dL_law_1225 rfl (iinc_e ci_6 ev355) (by decide) rfl ?_
        refine oj_goto 18 dL_law_1228 rfl ?_
        refine oj_lv [1, 2, 3, 0] rfl ?_
        exact hk18 _ _ y356
      · have y354 := y351.2 c352
        refine oj_iconst dL_law_638 ci_0 ?_
        exact oj_ret (r := some (.int (0))) (congrArg (fun z => some (Value.int z)) y354) dL_law_639 (by decide) (by decide)
    have y357 := y339.2 c340
    by_cases c358 : ((xs (ix x3)) &&& (63)) = (20)
    · have y359 := y357.1 c358
      refine oj_tableIn 640 dL_law_33 (by rw [c358] <;> decide) (by rw [c358] <;> decide) (by rw [c358] <;> rfl) rfl ?_
      refine oj_aload_n 1 dL_law_640 rfl rfl ?_
      refine oj_aload_n 0 dL_law_641 rfl rfl ?_
      refine oj_iload_n 3 dL_law_642 rfl rfl ?_
      refine oj_iconst dL_law_643 ci_1 ?_
      refine oj_iadd dL_law_644 ?_
      obtain ⟨c360, y361⟩ := y359
      refine oj_sld rfl c360 rfl dL_law_645 ?_
      refine oj_aload_n 0 dL_law_646 rfl rfl ?_
      refine oj_iload_n 3 dL_law_647 rfl rfl ?_
      refine oj_iconst dL_law_648 ci_2 ?_
      refine oj_iadd dL_law_649 ?_
      obtain ⟨c362, y363⟩ := y361
      refine oj_sld rfl c362 rfl dL_law_650 ?_
      refine oc_Vi [.int (xs (ix (x3 + (1)))), .int (xs (ix (x3 + (2))))] mi_RL_98 ow_948 ow_949 rfl k_0 (BX11_purchase  y363) ⟨by decide, by decide⟩ ⟨by decide, by decide⟩ rfl (Nat.le_of_ble_eq_true rfl) dL_law_651 (fun r364 f366 h365 y367 => ?_)
      refine oj_aload_n 2 dL_law_654 rfl rfl ?_
      refine oj_aload_n 0 dL_law_655 rfl rfl ?_
      refine oj_iload_n 3 dL_law_656 rfl rfl ?_
      refine oj_iconst dL_law_657 ci_1 ?_
      refine oj_iadd dL_law_658 ?_
      refine oj_sld rfl c360 rfl dL_law_659 ?_
      refine oj_aload_n 0 dL_law_660 rfl rfl ?_
      refine oj_iload_n 3 dL_law_661 rfl rfl ?_
      refine oj_iconst dL_law_662 ci_2 ?_
      refine oj_iadd dL_law_663 ?_
      refine oj_sld rfl c362 rfl dL_law_664 ?_
      refine oc_Vi [.int (xs (ix (x3 + (1)))), .int (xs (ix (x3 + (2))))] mi_RL_101 ow_1772 ow_1773 rfl k_108 (BX12_purchase  y367) ⟨by decide, by decide⟩ ⟨by decide, by decide⟩ rfl (Nat.le_of_ble_eq_true rfl) dL_law_665 (fun r368 f370 h369 y371 => ?_)
      refine oj_icmp_eq 1225 dL_law_668 rfl (fun c372 => ?_) (fun c372 => ?_)
      · have y373 := y371.1 c372
        obtain ⟨v375, ev375⟩ : ∃ z : Int32, z = x3 + (6) := ⟨_, rfl⟩
        have y376 := Lt_at y373 v375 ev375
        refine oj_iinc (v := v375) (lv' := [(3, .int v375), (0, .ref 100000), (1, .ref 0), (2, .ref 108)]) 3 dL_law_1225 rfl (iinc_e ci_6 ev375) (by decide) rfl ?_
        refine oj_goto 18 dL_law_1228 rfl ?_
        refine oj_lv [1, 2, 3, 0] rfl ?_
        exact hk18 _ _ y376
      · have y374 := y371.2 c372
        refine oj_iconst dL_law_671 ci_0 ?_
        exact oj_ret (r := some (.int (0))) (congrArg (fun z => some (Value.int z)) y374) dL_law_672 (by decide) (by decide)
    have y377 := y357.2 c358
    by_cases c378 : ((xs (ix x3)) &&& (63)) = (21)
    · have y379 := y377.1 c378
      refine oj_tableIn 673 dL_law_33 (by rw [c378] <;> decide) (by rw [c378] <;> decide) (by rw [c378] <;> rfl) rfl ?_
      refine oj_aload_n 1 dL_law_673 rfl rfl ?_
      refine oj_aload_n 0 dL_law_674 rfl rfl ?_
      refine oj_iload_n 3 dL_law_675 rfl rfl ?_
      refine oj_iconst dL_law_676 ci_1 ?_
      refine oj_iadd dL_law_677 ?_
      obtain ⟨c380, y381⟩ := y379
      refine oj_sld rfl c380 rfl dL_law_678 ?_
      refine oc_Vi [.int (xs (ix (x3 + (1))))] mi_RL_102 ow_970 ow_971 rfl k_0 (BX11_boast  y381) ⟨by decide, by decide⟩ ⟨by decide, by decide⟩ rfl (Nat.le_of_ble_eq_true rfl) dL_law_679 (fun r382 f384 h383 y385 => ?_)
      refine oj_aload_n 2 dL_law_682 rfl rfl ?_
      refine oj_aload_n 0 dL_law_683 rfl rfl ?_
      refine oj_iload_n 3 dL_law_684 rfl rfl ?_
      refine oj_iconst dL_law_685 ci_1 ?_
      refine oj_iadd dL_law_686 ?_
      refine oj_sld rfl c380 rfl dL_law_687 ?_
      refine oc_Vi [.int (xs (ix (x3 + (1))))] mi_RL_105 ow_1791 ow_1792 rfl k_108 (BX12_boast  y385) ⟨by decide, by decide⟩ ⟨by decide, by decide⟩ rfl (Nat.le_of_ble_eq_true rfl) dL_law_688 (fun r386 f388 h387 y389 => ?_)
      refine oj_icmp_eq 1225 dL_law_691 rfl (fun c390 => ?_) (fun c390 => ?_)
      · have y391 := y389.1 c390
        obtain ⟨v393, ev393⟩ : ∃ z : Int32, z = x3 + (6) := ⟨_, rfl⟩
        have y394 := Lt_at y391 v393 ev393
        refine oj_iinc (v := v393) (lv' := [(3, .int v393), (0, .ref 100000), (1, .ref 0), (2, .ref 108)]) 3 dL_law_1225 rfl (iinc_e ci_6 ev393) (by decide) rfl ?_
        refine oj_goto 18 dL_law_1228 rfl ?_
        refine oj_lv [1, 2, 3, 0] rfl ?_
        exact hk18 _ _ y394
      · have y392 := y389.2 c390
        refine oj_iconst dL_law_694 ci_0 ?_
        exact oj_ret (r := some (.int (0))) (congrArg (fun z => some (Value.int z)) y392) dL_law_695 (by decide) (by decide)
    have y395 := y377.2 c378
    by_cases c396 : ((xs (ix x3)) &&& (63)) = (22)
    · have y397 := y395.1 c396
      refine oj_tableIn 696 dL_law_33 (by rw [c396] <;> decide) (by rw [c396] <;> decide) (by rw [c396] <;> rfl) rfl ?_
      refine oj_aload_n 1 dL_law_696 rfl rfl ?_
      refine oc_Vpi [] mi_RL_106 ow_980 ow_981 rfl k_0 (BX11_weight  y397) ⟨by decide, by decide⟩ ⟨by decide, by decide⟩ rfl (Nat.le_of_ble_eq_true rfl) dL_law_697 (fun r398 f400 y401 => ?_)
      refine oj_aload_n 2 dL_law_700 rfl rfl ?_
      refine oc_Vi [] mi_RL_109 ow_1795 ow_1796 rfl k_108 (BX12_weight  y401) ⟨by decide, by decide⟩ ⟨by decide, by decide⟩ rfl (Nat.le_of_ble_eq_true rfl) dL_law_701 (fun r402 f404 h403 y405 => ?_)
      refine oj_icmp_eq 1225 dL_law_704 rfl (fun c406 => ?_) (fun c406 => ?_)
      · have y407 := y405.1 c406
        obtain ⟨v409, ev409⟩ : ∃ z : Int32, z = x3 + (6) := ⟨_, rfl⟩
        have y410 := Lt_at y407 v409 ev409
        refine oj_iinc (v := v409) (lv' := [(3, .int v409), (0, .ref 100000), (1, .ref 0), (2, .ref 108)]) 3 dL_law_1225 rfl (iinc_e ci_6 ev409) (by decide) rfl ?_
        refine oj_goto 18 dL_law_1228 rfl ?_
        refine oj_lv [1, 2, 3, 0] rfl ?_
        exact hk18 _ _ y410
      · have y408 := y405.2 c406
        refine oj_iconst dL_law_707 ci_0 ?_
        exact oj_ret (r := some (.int (0))) (congrArg (fun z => some (Value.int z)) y408) dL_law_708 (by decide) (by decide)
    have y411 := y395.2 c396
    by_cases c412 : ((xs (ix x3)) &&& (63)) = (23)
    · have y413 := y411.1 c412
      refine oj_tableIn 709 dL_law_33 (by rw [c412] <;> decide) (by rw [c412] <;> decide) (by rw [c412] <;> rfl) rfl ?_
      refine oj_aload_n 1 dL_law_709 rfl rfl ?_
      refine oj_aload_n 0 dL_law_710 rfl rfl ?_
      refine oj_iload_n 3 dL_law_711 rfl rfl ?_
      refine oj_iconst dL_law_712 ci_1 ?_
      refine oj_iadd dL_law_713 ?_
      obtain ⟨c414, y415⟩ := y413
      refine oj_sld rfl c414 rfl dL_law_714 ?_
      refine oc_Vi [.int (xs (ix (x3 + (1))))] mi_RL_110 ow_988 ow_989 rfl k_0 (BX11_threat  y415) ⟨by decide, by decide⟩ ⟨by decide, by decide⟩ rfl (Nat.le_of_ble_eq_true rfl) dL_law_715 (fun r416 f418 h417 y419 => ?_)
      refine oj_aload_n 2 dL_law_718 rfl rfl ?_
      refine oj_aload_n 0 dL_law_719 rfl rfl ?_
      refine oj_iload_n 3 dL_law_720 rfl rfl ?_
      refine oj_iconst dL_law_721 ci_1 ?_
      refine oj_iadd dL_law_722 ?_
      refine oj_sld rfl c414 rfl dL_law_723 ?_
      refine oc_Vi [.int (xs (ix (x3 + (1))))] mi_RL_113 ow_1807 ow_1808 rfl k_108 (BX12_threat  y419) ⟨by decide, by decide⟩ ⟨by decide, by decide⟩ rfl (Nat.le_of_ble_eq_true rfl) dL_law_724 (fun r420 f422 h421 y423 => ?_)
      refine oj_icmp_eq 1225 dL_law_727 rfl (fun c424 => ?_) (fun c424 => ?_)
      · have y425 := y423.1 c424
        obtain ⟨v427, ev427⟩ : ∃ z : Int32, z = x3 + (6) := ⟨_, rfl⟩
        have y428 := Lt_at y425 v427 ev427
        refine oj_iinc (v := v427) (lv' := [(3, .int v427), (0, .ref 100000), (1, .ref 0), (2, .ref 108)]) 3 dL_law_1225 rfl (iinc_e ci_6 ev427) (by decide) rfl ?_
        refine oj_goto 18 dL_law_1228 rfl ?_
        refine oj_lv [1, 2, 3, 0] rfl ?_
        exact hk18 _ _ y428
      · have y426 := y423.2 c424
        refine oj_iconst dL_law_730 ci_0 ?_
        exact oj_ret (r := some (.int (0))) (congrArg (fun z => some (Value.int z)) y426) dL_law_731 (by decide) (by decide)
    have y429 := y411.2 c412
    by_cases c430 : ((xs (ix x3)) &&& (63)) = (24)
    · have y431 := y429.1 c430
      refine oj_tableIn 732 dL_law_33 (by rw [c430] <;> decide) (by rw [c430] <;> decide) (by rw [c430] <;> rfl) rfl ?_
      refine oj_aload_n 1 dL_law_732 rfl rfl ?_
      refine oc_Vpi [] mi_RL_114 ow_1007 ow_1008 rfl k_0 (BX11_bars  y431) ⟨by decide, by decide⟩ ⟨by decide, by decide⟩ rfl (Nat.le_of_ble_eq_true rfl) dL_law_733 (fun r432 f434 y435 => ?_)
      refine oj_aload_n 2 dL_law_736 rfl rfl ?_
      refine oc_Vi [] mi_RL_117 ow_1815 ow_1816 rfl k_108 (BX12_bars  y435) ⟨by decide, by decide⟩ ⟨by decide, by decide⟩ rfl (Nat.le_of_ble_eq_true rfl) dL_law_737 (fun r436 f438 h437 y439 => ?_)
      refine oj_icmp_eq 1225 dL_law_740 rfl (fun c440 => ?_) (fun c440 => ?_)
      · have y441 := y439.1 c440
        obtain ⟨v443, ev443⟩ : ∃ z : Int32, z = x3 + (6) := ⟨_, rfl⟩
        have y444 := Lt_at y441 v443 ev443
        refine oj_iinc (v := v443) (lv' := [(3, .int v443), (0, .ref 100000), (1, .ref 0), (2, .ref 108)]) 3 dL_law_1225 rfl (iinc_e ci_6 ev443) (by decide) rfl ?_
        refine oj_goto 18 dL_law_1228 rfl ?_
        refine oj_lv [1, 2, 3, 0] rfl ?_
        exact hk18 _ _ y444
      · have y442 := y439.2 c440
        refine oj_iconst dL_law_743 ci_0 ?_
        exact oj_ret (r := some (.int (0))) (congrArg (fun z => some (Value.int z)) y442) dL_law_744 (by decide) (by decide)
    have y445 := y429.2 c430
    by_cases c446 : ((xs (ix x3)) &&& (63)) = (25)
    · have y447 := y445.1 c446
      refine oj_tableIn 745 dL_law_33 (by rw [c446] <;> decide) (by rw [c446] <;> decide) (by rw [c446] <;> rfl) rfl ?_
      refine oj_aload_n 1 dL_law_745 rfl rfl ?_
      refine oj_aload_n 0 dL_law_746 rfl rfl ?_
      refine oj_iload_n 3 dL_law_747 rfl rfl ?_
      refine oj_iconst dL_law_748 ci_1 ?_
      refine oj_iadd dL_law_749 ?_
      obtain ⟨c448, y449⟩ := y447
      refine oj_sld rfl c448 rfl dL_law_750 ?_
      refine oc_Vi [.int (xs (ix (x3 + (1))))] mi_RL_118 ow_1015 ow_1016 rfl k_0 (BX11_gain  y449) ⟨by decide, by decide⟩ ⟨by decide, by decide⟩ rfl (Nat.le_of_ble_eq_true rfl) dL_law_751 (fun r450 f452 h451 y453 => ?_)
      refine oj_aload_n 2 dL_law_754 rfl rfl ?_
      refine oj_aload_n 0 dL_law_755 rfl rfl ?_
      refine oj_iload_n 3 dL_law_756 rfl rfl ?_
      refine oj_iconst dL_law_757 ci_1 ?_
      refine oj_iadd dL_law_758 ?_
      refine oj_sld rfl c448 rfl dL_law_759 ?_
      refine oc_Vi [.int (xs (ix (x3 + (1))))] mi_RL_121 ow_1819 ow_1820 rfl k_108 (BX12_gain  y453) ⟨by decide, by decide⟩ ⟨by decide, by decide⟩ rfl (Nat.le_of_ble_eq_true rfl) dL_law_760 (fun r454 f456 h455 y457 => ?_)
      refine oj_icmp_eq 1225 dL_law_763 rfl (fun c458 => ?_) (fun c458 => ?_)
      · have y459 := y457.1 c458
        obtain ⟨v461, ev461⟩ : ∃ z : Int32, z = x3 + (6) := ⟨_, rfl⟩
        have y462 := Lt_at y459 v461 ev461
        refine oj_iinc (v := v461) (lv' := [(3, .int v461), (0, .ref 100000), (1, .ref 0), (2, .ref 108)]) 3 dL_law_1225 rfl (iinc_e ci_6 ev461) (by decide) rfl ?_
        refine oj_goto 18 dL_law_1228 rfl ?_
        refine oj_lv [1, 2, 3, 0] rfl ?_
        exact hk18 _ _ y462
      · have y460 := y457.2 c458
        refine oj_iconst dL_law_766 ci_0 ?_
        exact oj_ret (r := some (.int (0))) (congrArg (fun z => some (Value.int z)) y460) dL_law_767 (by decide) (by decide)
    have y463 := y445.2 c446
    by_cases c464 : ((xs (ix x3)) &&& (63)) = (26)
    · have y465 := y463.1 c464
      refine oj_tableIn 768 dL_law_33 (by rw [c464] <;> decide) (by rw [c464] <;> decide) (by rw [c464] <;> rfl) rfl ?_
      refine oj_aload_n 1 dL_law_768 rfl rfl ?_
      refine oj_aload_n 0 dL_law_769 rfl rfl ?_
      refine oj_iload_n 3 dL_law_770 rfl rfl ?_
      refine oj_iconst dL_law_771 ci_1 ?_
      refine oj_iadd dL_law_772 ?_
      obtain ⟨c466, y467⟩ := y465
      refine oj_sld rfl c466 rfl dL_law_773 ?_
      refine oc_Vpi [.int (xs (ix (x3 + (1))))] mi_RL_122 ow_1020 ow_1021 rfl k_0 (BX11_crowd  y467) ⟨by decide, by decide⟩ ⟨by decide, by decide⟩ rfl (Nat.le_of_ble_eq_true rfl) dL_law_774 (fun r468 f470 y471 => ?_)
      refine oj_aload_n 2 dL_law_777 rfl rfl ?_
      refine oj_aload_n 0 dL_law_778 rfl rfl ?_
      refine oj_iload_n 3 dL_law_779 rfl rfl ?_
      refine oj_iconst dL_law_780 ci_1 ?_
      refine oj_iadd dL_law_781 ?_
      refine oj_sld rfl c466 rfl dL_law_782 ?_
      refine oc_Vpi [.int (xs (ix (x3 + (1))))] mi_RL_125 ow_1823 ow_1824 rfl k_108 (BX12_crowd  y471) ⟨by decide, by decide⟩ ⟨by decide, by decide⟩ rfl (Nat.le_of_ble_eq_true rfl) dL_law_783 (fun r472 f474 y475 => ?_)
      refine oj_icmp_eq 1225 dL_law_786 rfl (fun c476 => ?_) (fun c476 => ?_)
      · have y477 := y475.1 c476
        obtain ⟨v479, ev479⟩ : ∃ z : Int32, z = x3 + (6) := ⟨_, rfl⟩
        have y480 := Lt_at y477 v479 ev479
        refine oj_iinc (v := v479) (lv' := [(3, .int v479), (0, .ref 100000), (1, .ref 0), (2, .ref 108)]) 3 dL_law_1225 rfl (iinc_e ci_6 ev479) (by decide) rfl ?_
        refine oj_goto 18 dL_law_1228 rfl ?_
        refine oj_lv [1, 2, 3, 0] rfl ?_
        exact hk18 _ _ y480
      · have y478 := y475.2 c476
        refine oj_iconst dL_law_789 ci_0 ?_
        exact oj_ret (r := some (.int (0))) (congrArg (fun z => some (Value.int z)) y478) dL_law_790 (by decide) (by decide)
    have y481 := y463.2 c464
    by_cases c482 : ((xs (ix x3)) &&& (63)) = (27)
    · have y483 := y481.1 c482
      refine oj_tableIn 791 dL_law_33 (by rw [c482] <;> decide) (by rw [c482] <;> decide) (by rw [c482] <;> rfl) rfl ?_
      refine oj_aload_n 1 dL_law_791 rfl rfl ?_
      refine oj_aload_n 0 dL_law_792 rfl rfl ?_
      refine oj_iload_n 3 dL_law_793 rfl rfl ?_
      refine oj_iconst dL_law_794 ci_1 ?_
      refine oj_iadd dL_law_795 ?_
      obtain ⟨c484, y485⟩ := y483
      refine oj_sld rfl c484 rfl dL_law_796 ?_
      refine oj_aload_n 0 dL_law_797 rfl rfl ?_
      refine oj_iload_n 3 dL_law_798 rfl rfl ?_
      refine oj_iconst dL_law_799 ci_2 ?_
      refine oj_iadd dL_law_800 ?_
      obtain ⟨c486, y487⟩ := y485
      refine oj_sld rfl c486 rfl dL_law_801 ?_
      refine oc_Vi [.int (xs (ix (x3 + (1)))), .int (xs (ix (x3 + (2))))] mi_RL_126 ow_1028 ow_1029 rfl k_0 (BX11_odds  y487) ⟨by decide, by decide⟩ ⟨by decide, by decide⟩ rfl (Nat.le_of_ble_eq_true rfl) dL_law_802 (fun r488 f490 h489 y491 => ?_)
      refine oj_aload_n 2 dL_law_805 rfl rfl ?_
      refine oj_aload_n 0 dL_law_806 rfl rfl ?_
      refine oj_iload_n 3 dL_law_807 rfl rfl ?_
      refine oj_iconst dL_law_808 ci_1 ?_
      refine oj_iadd dL_law_809 ?_
      refine oj_sld rfl c484 rfl dL_law_810 ?_
      refine oj_aload_n 0 dL_law_811 rfl rfl ?_
      refine oj_iload_n 3 dL_law_812 rfl rfl ?_
      refine oj_iconst dL_law_813 ci_2 ?_
      refine oj_iadd dL_law_814 ?_
      refine oj_sld rfl c486 rfl dL_law_815 ?_
      refine oc_Vi [.int (xs (ix (x3 + (1)))), .int (xs (ix (x3 + (2))))] mi_RL_129 ow_1827 ow_1828 rfl k_108 (BX12_odds  y491) ⟨by decide, by decide⟩ ⟨by decide, by decide⟩ rfl (Nat.le_of_ble_eq_true rfl) dL_law_816 (fun r492 f494 h493 y495 => ?_)
      refine oj_icmp_eq 1225 dL_law_819 rfl (fun c496 => ?_) (fun c496 => ?_)
      · have y497 := y495.1 c496
        obtain ⟨v499, ev499⟩ : ∃ z : Int32, z = x3 + (6) := ⟨_, rfl⟩
        have y500 := Lt_at y497 v499 ev499
        refine oj_iinc (v := v499) (lv' := [(3, .int v499), (0, .ref 100000), (1, .ref 0), (2, .ref 108)]) 3 dL_law_1225 rfl (iinc_e ci_6 ev499) (by decide) rfl ?_
        refine oj_goto 18 dL_law_1228 rfl ?_
        refine oj_lv [1, 2, 3, 0] rfl ?_
        exact hk18 _ _ y500
      · have y498 := y495.2 c496
        refine oj_iconst dL_law_822 ci_0 ?_
        exact oj_ret (r := some (.int (0))) (congrArg (fun z => some (Value.int z)) y498) dL_law_823 (by decide) (by decide)
    have y501 := y481.2 c482
    by_cases c502 : ((xs (ix x3)) &&& (63)) = (28)
    · have y503 := y501.1 c502
      refine oj_tableIn 824 dL_law_33 (by rw [c502] <;> decide) (by rw [c502] <;> decide) (by rw [c502] <;> rfl) rfl ?_
      refine oj_aload_n 1 dL_law_824 rfl rfl ?_
      refine oj_aload_n 0 dL_law_825 rfl rfl ?_
      refine oj_iload_n 3 dL_law_826 rfl rfl ?_
      refine oj_iconst dL_law_827 ci_1 ?_
      refine oj_iadd dL_law_828 ?_
      obtain ⟨c504, y505⟩ := y503
      refine oj_sld rfl c504 rfl dL_law_829 ?_
      refine oj_aload_n 0 dL_law_830 rfl rfl ?_
      refine oj_iload_n 3 dL_law_831 rfl rfl ?_
      refine oj_iconst dL_law_832 ci_2 ?_
      refine oj_iadd dL_law_833 ?_
      obtain ⟨c506, y507⟩ := y505
      refine oj_sld rfl c506 rfl dL_law_834 ?_
      refine oc_Vi [.int (xs (ix (x3 + (1)))), .int (xs (ix (x3 + (2))))] mi_RL_130 ow_1062 ow_1063 rfl k_0 (BX11_peril  y507) ⟨by decide, by decide⟩ ⟨by decide, by decide⟩ rfl (Nat.le_of_ble_eq_true rfl) dL_law_835 (fun r508 f510 h509 y511 => ?_)
      refine oj_aload_n 2 dL_law_838 rfl rfl ?_
      refine oj_aload_n 0 dL_law_839 rfl rfl ?_
      refine oj_iload_n 3 dL_law_840 rfl rfl ?_
      refine oj_iconst dL_law_841 ci_1 ?_
      refine oj_iadd dL_law_842 ?_
      refine oj_sld rfl c504 rfl dL_law_843 ?_
      refine oj_aload_n 0 dL_law_844 rfl rfl ?_
      refine oj_iload_n 3 dL_law_845 rfl rfl ?_
      refine oj_iconst dL_law_846 ci_2 ?_
      refine oj_iadd dL_law_847 ?_
      refine oj_sld rfl c506 rfl dL_law_848 ?_
      refine oc_Vi [.int (xs (ix (x3 + (1)))), .int (xs (ix (x3 + (2))))] mi_RL_133 ow_1856 ow_1857 rfl k_108 (BX12_peril  y511) ⟨by decide, by decide⟩ ⟨by decide, by decide⟩ rfl (Nat.le_of_ble_eq_true rfl) dL_law_849 (fun r512 f514 h513 y515 => ?_)
      refine oj_icmp_eq 1225 dL_law_852 rfl (fun c516 => ?_) (fun c516 => ?_)
      · have y517 := y515.1 c516
        obtain ⟨v519, ev519⟩ : ∃ z : Int32, z = x3 + (6) := ⟨_, rfl⟩
        have y520 := Lt_at y517 v519 ev519
        refine oj_iinc (v := v519) (lv' := [(3, .int v519), (0, .ref 100000), (1, .ref 0), (2, .ref 108)]) 3 dL_law_1225 rfl (iinc_e ci_6 ev519) (by decide) rfl ?_
        refine oj_goto 18 dL_law_1228 rfl ?_
        refine oj_lv [1, 2, 3, 0] rfl ?_
        exact hk18 _ _ y520
      · have y518 := y515.2 c516
        refine oj_iconst dL_law_855 ci_0 ?_
        exact oj_ret (r := some (.int (0))) (congrArg (fun z => some (Value.int z)) y518) dL_law_856 (by decide) (by decide)
    have y521 := y501.2 c502
    by_cases c522 : ((xs (ix x3)) &&& (63)) = (29)
    · have y523 := y521.1 c522
      refine oj_tableIn 857 dL_law_33 (by rw [c522] <;> decide) (by rw [c522] <;> decide) (by rw [c522] <;> rfl) rfl ?_
      refine oj_aload_n 1 dL_law_857 rfl rfl ?_
      refine oj_aload_n 0 dL_law_858 rfl rfl ?_
      refine oj_iload_n 3 dL_law_859 rfl rfl ?_
      refine oj_iconst dL_law_860 ci_1 ?_
      refine oj_iadd dL_law_861 ?_
      obtain ⟨c524, y525⟩ := y523
      refine oj_sld rfl c524 rfl dL_law_862 ?_
      refine oc_Vi [.int (xs (ix (x3 + (1))))] mi_RL_134 ow_1070 ow_1071 rfl k_0 (BX11_tarry  y525) ⟨by decide, by decide⟩ ⟨by decide, by decide⟩ rfl (Nat.le_of_ble_eq_true rfl) dL_law_863 (fun r526 f528 h527 y529 => ?_)
      refine oj_aload_n 2 dL_law_866 rfl rfl ?_
      refine oj_aload_n 0 dL_law_867 rfl rfl ?_
      refine oj_iload_n 3 dL_law_868 rfl rfl ?_
      refine oj_iconst dL_law_869 ci_1 ?_
      refine oj_iadd dL_law_870 ?_
      refine oj_sld rfl c524 rfl dL_law_871 ?_
      refine oc_Vi [.int (xs (ix (x3 + (1))))] mi_RL_137 ow_1860 ow_1861 rfl k_108 (BX12_tarry  y529) ⟨by decide, by decide⟩ ⟨by decide, by decide⟩ rfl (Nat.le_of_ble_eq_true rfl) dL_law_872 (fun r530 f532 h531 y533 => ?_)
      refine oj_icmp_eq 1225 dL_law_875 rfl (fun c534 => ?_) (fun c534 => ?_)
      · have y535 := y533.1 c534
        obtain ⟨v537, ev537⟩ : ∃ z : Int32, z = x3 + (6) := ⟨_, rfl⟩
        have y538 := Lt_at y535 v537 ev537
        refine oj_iinc (v := v537) (lv' := [(3, .int v537), (0, .ref 100000), (1, .ref 0), (2, .ref 108)]) 3 dL_law_1225 rfl (iinc_e ci_6 ev537) (by decide) rfl ?_
        refine oj_goto 18 dL_law_1228 rfl ?_
        refine oj_lv [1, 2, 3, 0] rfl ?_
        exact hk18 _ _ y538
      · have y536 := y533.2 c534
        refine oj_iconst dL_law_878 ci_0 ?_
        exact oj_ret (r := some (.int (0))) (congrArg (fun z => some (Value.int z)) y536) dL_law_879 (by decide) (by decide)
    have y539 := y521.2 c522
    by_cases c540 : ((xs (ix x3)) &&& (63)) = (30)
    · have y541 := y539.1 c540
      refine oj_tableIn 880 dL_law_33 (by rw [c540] <;> decide) (by rw [c540] <;> decide) (by rw [c540] <;> rfl) rfl ?_
      refine oj_aload_n 1 dL_law_880 rfl rfl ?_
      refine oj_aload_n 0 dL_law_881 rfl rfl ?_
      refine oj_iload_n 3 dL_law_882 rfl rfl ?_
      refine oj_iconst dL_law_883 ci_1 ?_
      refine oj_iadd dL_law_884 ?_
      obtain ⟨c542, y543⟩ := y541
      refine oj_sld rfl c542 rfl dL_law_885 ?_
      refine oc_Vi [.int (xs (ix (x3 + (1))))] mi_RL_138 ow_1079 ow_1080 rfl k_0 (BX11_swap  y543) ⟨by decide, by decide⟩ ⟨by decide, by decide⟩ rfl (Nat.le_of_ble_eq_true rfl) dL_law_886 (fun r544 f546 h545 y547 => ?_)
      refine oj_aload_n 2 dL_law_889 rfl rfl ?_
      refine oj_aload_n 0 dL_law_890 rfl rfl ?_
      refine oj_iload_n 3 dL_law_891 rfl rfl ?_
      refine oj_iconst dL_law_892 ci_1 ?_
      refine oj_iadd dL_law_893 ?_
      refine oj_sld rfl c542 rfl dL_law_894 ?_
      refine oc_Vi [.int (xs (ix (x3 + (1))))] mi_RL_141 ow_1864 ow_1865 rfl k_108 (BX12_swap  y547) ⟨by decide, by decide⟩ ⟨by decide, by decide⟩ rfl (Nat.le_of_ble_eq_true rfl) dL_law_895 (fun r548 f550 h549 y551 => ?_)
      refine oj_icmp_eq 1225 dL_law_898 rfl (fun c552 => ?_) (fun c552 => ?_)
      · have y553 := y551.1 c552
        obtain ⟨v555, ev555⟩ : ∃ z : Int32, z = x3 + (6) := ⟨_, rfl⟩
        have y556 := Lt_at y553 v555 ev555
        refine oj_iinc (v := v555) (lv' := [(3, .int v555), (0, .ref 100000), (1, .ref 0), (2, .ref 108)]) 3 dL_law_1225 rfl (iinc_e ci_6 ev555) (by decide) rfl ?_
        refine oj_goto 18 dL_law_1228 rfl ?_
        refine oj_lv [1, 2, 3, 0] rfl ?_
        exact hk18 _ _ y556
      · have y554 := y551.2 c552
        refine oj_iconst dL_law_901 ci_0 ?_
        exact oj_ret (r := some (.int (0))) (congrArg (fun z => some (Value.int z)) y554) dL_law_902 (by decide) (by decide)
    have y557 := y539.2 c540
    by_cases c558 : ((xs (ix x3)) &&& (63)) = (31)
    · have y559 := y557.1 c558
      refine oj_tableIn 903 dL_law_33 (by rw [c558] <;> decide) (by rw [c558] <;> decide) (by rw [c558] <;> rfl) rfl ?_
      refine oj_aload_n 1 dL_law_903 rfl rfl ?_
      refine oj_aload_n 0 dL_law_904 rfl rfl ?_
      refine oj_iload_n 3 dL_law_905 rfl rfl ?_
      refine oj_iconst dL_law_906 ci_1 ?_
      refine oj_iadd dL_law_907 ?_
      obtain ⟨c560, y561⟩ := y559
      refine oj_sld rfl c560 rfl dL_law_908 ?_
      refine oc_Vi [.int (xs (ix (x3 + (1))))] mi_RL_142 ow_1092 ow_1093 rfl k_0 (BX11_by  y561) ⟨by decide, by decide⟩ ⟨by decide, by decide⟩ rfl (Nat.le_of_ble_eq_true rfl) dL_law_909 (fun r562 f564 h563 y565 => ?_)
      refine oj_aload_n 2 dL_law_912 rfl rfl ?_
      refine oj_aload_n 0 dL_law_913 rfl rfl ?_
      refine oj_iload_n 3 dL_law_914 rfl rfl ?_
      refine oj_iconst dL_law_915 ci_1 ?_
      refine oj_iadd dL_law_916 ?_
      refine oj_sld rfl c560 rfl dL_law_917 ?_
      refine oc_Vi [.int (xs (ix (x3 + (1))))] mi_RL_145 ow_1868 ow_1869 rfl k_108 (BX12_by  y565) ⟨by decide, by decide⟩ ⟨by decide, by decide⟩ rfl (Nat.le_of_ble_eq_true rfl) dL_law_918 (fun r566 f568 h567 y569 => ?_)
      refine oj_icmp_eq 1225 dL_law_921 rfl (fun c570 => ?_) (fun c570 => ?_)
      · have y571 := y569.1 c570
        obtain ⟨v573, ev573⟩ : ∃ z : Int32, z = x3 + (6) := ⟨_, rfl⟩
        have y574 := Lt_at y571 v573 ev573
        refine oj_iinc (v := v573) (lv' := [(3, .int v573), (0, .ref 100000), (1, .ref 0), (2, .ref 108)]) 3 dL_law_1225 rfl (iinc_e ci_6 ev573) (by decide) rfl ?_
        refine oj_goto 18 dL_law_1228 rfl ?_
        refine oj_lv [1, 2, 3, 0] rfl ?_
        exact hk18 _ _ y574
      · have y572 := y569.2 c570
        refine oj_iconst dL_law_924 ci_0 ?_
        exact oj_ret (r := some (.int (0))) (congrArg (fun z => some (Value.int z)) y572) dL_law_925 (by decide) (by decide)
    have y575 := y557.2 c558
    by_cases c576 : ((xs (ix x3)) &&& (63)) = (32)
    · have y577 := y575.1 c576
      refine oj_tableIn 926 dL_law_33 (by rw [c576] <;> decide) (by rw [c576] <;> decide) (by rw [c576] <;> rfl) rfl ?_
      refine oj_aload_n 1 dL_law_926 rfl rfl ?_
      refine oc_Vi [] mi_RL_146 ow_1096 ow_1097 rfl k_0 (BX11_upset  y577) ⟨by decide, by decide⟩ ⟨by decide, by decide⟩ rfl (Nat.le_of_ble_eq_true rfl) dL_law_927 (fun r578 f580 h579 y581 => ?_)
      refine oj_aload_n 2 dL_law_930 rfl rfl ?_
      refine oc_Vi [] mi_RL_149 ow_1872 ow_1873 rfl k_108 (BX12_upset  y581) ⟨by decide, by decide⟩ ⟨by decide, by decide⟩ rfl (Nat.le_of_ble_eq_true rfl) dL_law_931 (fun r582 f584 h583 y585 => ?_)
      refine oj_icmp_eq 1225 dL_law_934 rfl (fun c586 => ?_) (fun c586 => ?_)
      · have y587 := y585.1 c586
        obtain ⟨v589, ev589⟩ : ∃ z : Int32, z = x3 + (6) := ⟨_, rfl⟩
        have y590 := Lt_at y587 v589 ev589
        refine oj_iinc (v := v589) (lv' := [(3, .int v589), (0, .ref 100000), (1, .ref 0), (2, .ref 108)]) 3 dL_law_1225 rfl (iinc_e ci_6 ev589) (by decide) rfl ?_
        refine oj_goto 18 dL_law_1228 rfl ?_
        refine oj_lv [1, 2, 3, 0] rfl ?_
        exact hk18 _ _ y590
      · have y588 := y585.2 c586
        refine oj_iconst dL_law_937 ci_0 ?_
        exact oj_ret (r := some (.int (0))) (congrArg (fun z => some (Value.int z)) y588) dL_law_938 (by decide) (by decide)
    have y591 := y575.2 c576
    by_cases c592 : ((xs (ix x3)) &&& (63)) = (33)
    · have y593 := y591.1 c592
      refine oj_tableIn 939 dL_law_33 (by rw [c592] <;> decide) (by rw [c592] <;> decide) (by rw [c592] <;> rfl) rfl ?_
      refine oj_aload_n 1 dL_law_939 rfl rfl ?_
      refine oj_aload_n 0 dL_law_940 rfl rfl ?_
      refine oj_iload_n 3 dL_law_941 rfl rfl ?_
      refine oj_iconst dL_law_942 ci_1 ?_
      refine oj_iadd dL_law_943 ?_
      obtain ⟨c594, y595⟩ := y593
      refine oj_sld rfl c594 rfl dL_law_944 ?_
      refine oc_Vpi [.int (xs (ix (x3 + (1))))] mi_RL_150 ow_1100 ow_1101 rfl k_0 (BX11_lies  y595) ⟨by decide, by decide⟩ ⟨by decide, by decide⟩ rfl (Nat.le_of_ble_eq_true rfl) dL_law_945 (fun r596 f598 y599 => ?_)
      refine oj_aload_n 2 dL_law_948 rfl rfl ?_
      refine oj_aload_n 0 dL_law_949 rfl rfl ?_
      refine oj_iload_n 3 dL_law_950 rfl rfl ?_
      refine oj_iconst dL_law_951 ci_1 ?_
      refine oj_iadd dL_law_952 ?_
      refine oj_sld rfl c594 rfl dL_law_953 ?_
      refine oc_Vpi [.int (xs (ix (x3 + (1))))] mi_RL_153 ow_1876 ow_1877 rfl k_108 (BX12_lies  y599) ⟨by decide, by decide⟩ ⟨by decide, by decide⟩ rfl (Nat.le_of_ble_eq_true rfl) dL_law_954 (fun r600 f602 y603 => ?_)
      refine oj_icmp_eq 1225 dL_law_957 rfl (fun c604 => ?_) (fun c604 => ?_)
      · have y605 := y603.1 c604
        obtain ⟨v607, ev607⟩ : ∃ z : Int32, z = x3 + (6) := ⟨_, rfl⟩
        have y608 := Lt_at y605 v607 ev607
        refine oj_iinc (v := v607) (lv' := [(3, .int v607), (0, .ref 100000), (1, .ref 0), (2, .ref 108)]) 3 dL_law_1225 rfl (iinc_e ci_6 ev607) (by decide) rfl ?_
        refine oj_goto 18 dL_law_1228 rfl ?_
        refine oj_lv [1, 2, 3, 0] rfl ?_
        exact hk18 _ _ y608
      · have y606 := y603.2 c604
        refine oj_iconst dL_law_960 ci_0 ?_
        exact oj_ret (r := some (.int (0))) (congrArg (fun z => some (Value.int z)) y606) dL_law_961 (by decide) (by decide)
    have y609 := y591.2 c592
    by_cases c610 : ((xs (ix x3)) &&& (63)) = (34)
    · have y611 := y609.1 c610
      refine oj_tableIn 962 dL_law_33 (by rw [c610] <;> decide) (by rw [c610] <;> decide) (by rw [c610] <;> rfl) rfl ?_
      refine oj_aload_n 1 dL_law_962 rfl rfl ?_
      refine oj_aload_n 0 dL_law_963 rfl rfl ?_
      refine oj_iload_n 3 dL_law_964 rfl rfl ?_
      refine oj_iconst dL_law_965 ci_1 ?_
      refine oj_iadd dL_law_966 ?_
      obtain ⟨c612, y613⟩ := y611
      refine oj_sld rfl c612 rfl dL_law_967 ?_
      refine oj_aload_n 0 dL_law_968 rfl rfl ?_
      refine oj_iload_n 3 dL_law_969 rfl rfl ?_
      refine oj_iconst dL_law_970 ci_2 ?_
      refine oj_iadd dL_law_971 ?_
      obtain ⟨c614, y615⟩ := y613
      refine oj_sld rfl c614 rfl dL_law_972 ?_
      refine oj_aload_n 0 dL_law_973 rfl rfl ?_
      refine oj_iload_n 3 dL_law_974 rfl rfl ?_
      refine oj_iconst dL_law_975 ci_3 ?_
      refine oj_iadd dL_law_976 ?_
      obtain ⟨c616, y617⟩ := y615
      refine oj_sld rfl c616 rfl dL_law_977 ?_
      refine oj_if_eq 985 dL_law_978 rfl (fun c618 => ?_) (fun c618 => ?_)
      · have y619 := y617.1 c618
        refine oj_iconst dL_law_985 ci_0 ?_
        refine oj_lv [0, 1, 2, 3] rfl ?_
        exact BKL_law_986 hk18 y619
      · have y620 := y617.2 c618
        refine oj_iconst dL_law_981 ci_1 ?_
        refine oj_goto 986 dL_law_982 rfl ?_
        refine oj_lv [0, 1, 2, 3] rfl ?_
        exact BKL_law_986 hk18 y620
    have y643 := y609.2 c610
    by_cases c644 : ((xs (ix x3)) &&& (63)) = (35)
    · have y645 := y643.1 c644
      refine oj_tableIn 1021 dL_law_33 (by rw [c644] <;> decide) (by rw [c644] <;> decide) (by rw [c644] <;> rfl) rfl ?_
      refine oj_aload_n 1 dL_law_1021 rfl rfl ?_
      refine oj_aload_n 0 dL_law_1022 rfl rfl ?_
      refine oj_iload_n 3 dL_law_1023 rfl rfl ?_
      refine oj_iconst dL_law_1024 ci_1 ?_
      refine oj_iadd dL_law_1025 ?_
      obtain ⟨c646, y647⟩ := y645
      refine oj_sld rfl c646 rfl dL_law_1026 ?_
      refine oc_Vi [.int (xs (ix (x3 + (1))))] mi_RL_159 ow_1112 ow_1113 rfl k_0 (BX11_untell  y647) ⟨by decide, by decide⟩ ⟨by decide, by decide⟩ rfl (Nat.le_of_ble_eq_true rfl) dL_law_1027 (fun r648 f650 h649 y651 => ?_)
      refine oj_aload_n 2 dL_law_1030 rfl rfl ?_
      refine oj_aload_n 0 dL_law_1031 rfl rfl ?_
      refine oj_iload_n 3 dL_law_1032 rfl rfl ?_
      refine oj_iconst dL_law_1033 ci_1 ?_
      refine oj_iadd dL_law_1034 ?_
      refine oj_sld rfl c646 rfl dL_law_1035 ?_
      refine oc_Vi [.int (xs (ix (x3 + (1))))] mi_RL_163 ow_1884 ow_1885 rfl k_108 (BX12_untell  y651) ⟨by decide, by decide⟩ ⟨by decide, by decide⟩ rfl (Nat.le_of_ble_eq_true rfl) dL_law_1036 (fun r652 f654 h653 y655 => ?_)
      refine oj_icmp_eq 1225 dL_law_1039 rfl (fun c656 => ?_) (fun c656 => ?_)
      · have y657 := y655.1 c656
        obtain ⟨v659, ev659⟩ : ∃ z : Int32, z = x3 + (6) := ⟨_, rfl⟩
        have y660 := Lt_at y657 v659 ev659
        refine oj_iinc (v := v659) (lv' := [(3, .int v659), (0, .ref 100000), (1, .ref 0), (2, .ref 108)]) 3 dL_law_1225 rfl (iinc_e ci_6 ev659) (by decide) rfl ?_
        refine oj_goto 18 dL_law_1228 rfl ?_
        refine oj_lv [1, 2, 3, 0] rfl ?_
        exact hk18 _ _ y660
      · have y658 := y655.2 c656
        refine oj_iconst dL_law_1042 ci_0 ?_
        exact oj_ret (r := some (.int (0))) (congrArg (fun z => some (Value.int z)) y658) dL_law_1043 (by decide) (by decide)
    have y661 := y643.2 c644
    by_cases c662 : ((xs (ix x3)) &&& (63)) = (36)
    · have y663 := y661.1 c662
      refine oj_tableIn 1044 dL_law_33 (by rw [c662] <;> decide) (by rw [c662] <;> decide) (by rw [c662] <;> rfl) rfl ?_
      refine oj_aload_n 1 dL_law_1044 rfl rfl ?_
      refine oj_aload_n 0 dL_law_1045 rfl rfl ?_
      refine oj_iload_n 3 dL_law_1046 rfl rfl ?_
      refine oj_iconst dL_law_1047 ci_1 ?_
      refine oj_iadd dL_law_1048 ?_
      obtain ⟨c664, y665⟩ := y663
      refine oj_sld rfl c664 rfl dL_law_1049 ?_
      refine oc_Vi [.int (xs (ix (x3 + (1))))] mi_RL_164 ow_1120 ow_1121 rfl k_0 (BX11_later  y665) ⟨by decide, by decide⟩ ⟨by decide, by decide⟩ rfl (Nat.le_of_ble_eq_true rfl) dL_law_1050 (fun r666 f668 h667 y669 => ?_)
      refine oj_aload_n 2 dL_law_1053 rfl rfl ?_
      refine oj_aload_n 0 dL_law_1054 rfl rfl ?_
      refine oj_iload_n 3 dL_law_1055 rfl rfl ?_
      refine oj_iconst dL_law_1056 ci_1 ?_
      refine oj_iadd dL_law_1057 ?_
      refine oj_sld rfl c664 rfl dL_law_1058 ?_
      refine oc_Vi [.int (xs (ix (x3 + (1))))] mi_RL_167 ow_1888 ow_1889 rfl k_108 (BX12_later  y669) ⟨by decide, by decide⟩ ⟨by decide, by decide⟩ rfl (Nat.le_of_ble_eq_true rfl) dL_law_1059 (fun r670 f672 h671 y673 => ?_)
      refine oj_icmp_eq 1225 dL_law_1062 rfl (fun c674 => ?_) (fun c674 => ?_)
      · have y675 := y673.1 c674
        obtain ⟨v677, ev677⟩ : ∃ z : Int32, z = x3 + (6) := ⟨_, rfl⟩
        have y678 := Lt_at y675 v677 ev677
        refine oj_iinc (v := v677) (lv' := [(3, .int v677), (0, .ref 100000), (1, .ref 0), (2, .ref 108)]) 3 dL_law_1225 rfl (iinc_e ci_6 ev677) (by decide) rfl ?_
        refine oj_goto 18 dL_law_1228 rfl ?_
        refine oj_lv [1, 2, 3, 0] rfl ?_
        exact hk18 _ _ y678
      · have y676 := y673.2 c674
        refine oj_iconst dL_law_1065 ci_0 ?_
        exact oj_ret (r := some (.int (0))) (congrArg (fun z => some (Value.int z)) y676) dL_law_1066 (by decide) (by decide)
    have y679 := y661.2 c662
    by_cases c680 : ((xs (ix x3)) &&& (63)) = (37)
    · have y681 := y679.1 c680
      refine oj_tableIn 1067 dL_law_33 (by rw [c680] <;> decide) (by rw [c680] <;> decide) (by rw [c680] <;> rfl) rfl ?_
      refine oj_aload_n 1 dL_law_1067 rfl rfl ?_
      refine oj_aload_n 0 dL_law_1068 rfl rfl ?_
      refine oj_iload_n 3 dL_law_1069 rfl rfl ?_
      refine oj_iconst dL_law_1070 ci_1 ?_
      refine oj_iadd dL_law_1071 ?_
      obtain ⟨c682, y683⟩ := y681
      refine oj_sld rfl c682 rfl dL_law_1072 ?_
      refine oc_Vi [.int (xs (ix (x3 + (1))))] mi_RL_168 ow_1129 ow_1130 rfl k_0 (BX11_fits  y683) ⟨by decide, by decide⟩ ⟨by decide, by decide⟩ rfl (Nat.le_of_ble_eq_true rfl) dL_law_1073 (fun r684 f686 h685 y687 => ?_)
      refine oj_aload_n 2 dL_law_1076 rfl rfl ?_
      refine oj_aload_n 0 dL_law_1077 rfl rfl ?_
      refine oj_iload_n 3 dL_law_1078 rfl rfl ?_
      refine oj_iconst dL_law_1079 ci_1 ?_
      refine oj_iadd dL_law_1080 ?_
      refine oj_sld rfl c682 rfl dL_law_1081 ?_
      refine oc_Vi [.int (xs (ix (x3 + (1))))] mi_RL_171 ow_1893 ow_1894 rfl k_108 (BX12_fits  y687) ⟨by decide, by decide⟩ ⟨by decide, by decide⟩ rfl (Nat.le_of_ble_eq_true rfl) dL_law_1082 (fun r688 f690 h689 y691 => ?_)
      refine oj_icmp_eq 1225 dL_law_1085 rfl (fun c692 => ?_) (fun c692 => ?_)
      · have y693 := y691.1 c692
        obtain ⟨v695, ev695⟩ : ∃ z : Int32, z = x3 + (6) := ⟨_, rfl⟩
        have y696 := Lt_at y693 v695 ev695
        refine oj_iinc (v := v695) (lv' := [(3, .int v695), (0, .ref 100000), (1, .ref 0), (2, .ref 108)]) 3 dL_law_1225 rfl (iinc_e ci_6 ev695) (by decide) rfl ?_
        refine oj_goto 18 dL_law_1228 rfl ?_
        refine oj_lv [1, 2, 3, 0] rfl ?_
        exact hk18 _ _ y696
      · have y694 := y691.2 c692
        refine oj_iconst dL_law_1088 ci_0 ?_
        exact oj_ret (r := some (.int (0))) (congrArg (fun z => some (Value.int z)) y694) dL_law_1089 (by decide) (by decide)
    have y697 := y679.2 c680
    by_cases c698 : ((xs (ix x3)) &&& (63)) = (38)
    · have y699 := y697.1 c698
      refine oj_tableIn 1090 dL_law_33 (by rw [c698] <;> decide) (by rw [c698] <;> decide) (by rw [c698] <;> rfl) rfl ?_
      refine oj_aload_n 1 dL_law_1090 rfl rfl ?_
      refine oj_aload_n 0 dL_law_1091 rfl rfl ?_
      refine oj_iload_n 3 dL_law_1092 rfl rfl ?_
      refine oj_iconst dL_law_1093 ci_1 ?_
      refine oj_iadd dL_law_1094 ?_
      obtain ⟨c700, y701⟩ := y699
      refine oj_sld rfl c700 rfl dL_law_1095 ?_
      refine oj_aload_n 0 dL_law_1096 rfl rfl ?_
      refine oj_iload_n 3 dL_law_1097 rfl rfl ?_
      refine oj_iconst dL_law_1098 ci_2 ?_
      refine oj_iadd dL_law_1099 ?_
      obtain ⟨c702, y703⟩ := y701
      refine oj_sld rfl c702 rfl dL_law_1100 ?_
      refine oc_Vi [.int (xs (ix (x3 + (1)))), .int (xs (ix (x3 + (2))))] mi_RL_172 ow_1147 ow_1148 rfl k_0 (BX11_sure  y703) ⟨by decide, by decide⟩ ⟨by decide, by decide⟩ rfl (Nat.le_of_ble_eq_true rfl) dL_law_1101 (fun r704 f706 h705 y707 => ?_)
      refine oj_aload_n 2 dL_law_1104 rfl rfl ?_
      refine oj_aload_n 0 dL_law_1105 rfl rfl ?_
      refine oj_iload_n 3 dL_law_1106 rfl rfl ?_
      refine oj_iconst dL_law_1107 ci_1 ?_
      refine oj_iadd dL_law_1108 ?_
      refine oj_sld rfl c700 rfl dL_law_1109 ?_
      refine oj_aload_n 0 dL_law_1110 rfl rfl ?_
      refine oj_iload_n 3 dL_law_1111 rfl rfl ?_
      refine oj_iconst dL_law_1112 ci_2 ?_
      refine oj_iadd dL_law_1113 ?_
      refine oj_sld rfl c702 rfl dL_law_1114 ?_
      refine oc_Vi [.int (xs (ix (x3 + (1)))), .int (xs (ix (x3 + (2))))] mi_RL_175 ow_1905 ow_1906 rfl k_108 (BX12_sure  y707) ⟨by decide, by decide⟩ ⟨by decide, by decide⟩ rfl (Nat.le_of_ble_eq_true rfl) dL_law_1115 (fun r708 f710 h709 y711 => ?_)
      refine oj_icmp_eq 1225 dL_law_1118 rfl (fun c712 => ?_) (fun c712 => ?_)
      · have y713 := y711.1 c712
        obtain ⟨v715, ev715⟩ : ∃ z : Int32, z = x3 + (6) := ⟨_, rfl⟩
        have y716 := Lt_at y713 v715 ev715
        refine oj_iinc (v := v715) (lv' := [(3, .int v715), (0, .ref 100000), (1, .ref 0), (2, .ref 108)]) 3 dL_law_1225 rfl (iinc_e ci_6 ev715) (by decide) rfl ?_
        refine oj_goto 18 dL_law_1228 rfl ?_
        refine oj_lv [1, 2, 3, 0] rfl ?_
        exact hk18 _ _ y716
      · have y714 := y711.2 c712
        refine oj_iconst dL_law_1121 ci_0 ?_
        exact oj_ret (r := some (.int (0))) (congrArg (fun z => some (Value.int z)) y714) dL_law_1122 (by decide) (by decide)
    have y717 := y697.2 c698
    by_cases c718 : ((xs (ix x3)) &&& (63)) = (39)
    · have y719 := y717.1 c718
      refine oj_tableIn 1123 dL_law_33 (by rw [c718] <;> decide) (by rw [c718] <;> decide) (by rw [c718] <;> rfl) rfl ?_
      refine oj_aload_n 1 dL_law_1123 rfl rfl ?_
      refine oj_aload_n 0 dL_law_1124 rfl rfl ?_
      refine oj_iload_n 3 dL_law_1125 rfl rfl ?_
      refine oj_iconst dL_law_1126 ci_1 ?_
      refine oj_iadd dL_law_1127 ?_
      obtain ⟨c720, y721⟩ := y719
      refine oj_sld rfl c720 rfl dL_law_1128 ?_
      refine oj_aload_n 0 dL_law_1129 rfl rfl ?_
      refine oj_iload_n 3 dL_law_1130 rfl rfl ?_
      refine oj_iconst dL_law_1131 ci_2 ?_
      refine oj_iadd dL_law_1132 ?_
      obtain ⟨c722, y723⟩ := y721
      refine oj_sld rfl c722 rfl dL_law_1133 ?_
      refine oc_Vi [.int (xs (ix (x3 + (1)))), .int (xs (ix (x3 + (2))))] mi_RL_176 ow_1159 ow_1160 rfl k_0 (BX11_ask  y723) ⟨by decide, by decide⟩ ⟨by decide, by decide⟩ rfl (Nat.le_of_ble_eq_true rfl) dL_law_1134 (fun r724 f726 h725 y727 => ?_)
      refine oj_aload_n 2 dL_law_1137 rfl rfl ?_
      refine oj_aload_n 0 dL_law_1138 rfl rfl ?_
      refine oj_iload_n 3 dL_law_1139 rfl rfl ?_
      refine oj_iconst dL_law_1140 ci_1 ?_
      refine oj_iadd dL_law_1141 ?_
      refine oj_sld rfl c720 rfl dL_law_1142 ?_
      refine oj_aload_n 0 dL_law_1143 rfl rfl ?_
      refine oj_iload_n 3 dL_law_1144 rfl rfl ?_
      refine oj_iconst dL_law_1145 ci_2 ?_
      refine oj_iadd dL_law_1146 ?_
      refine oj_sld rfl c722 rfl dL_law_1147 ?_
      refine oc_Vi [.int (xs (ix (x3 + (1)))), .int (xs (ix (x3 + (2))))] mi_RL_179 ow_1909 ow_1910 rfl k_108 (BX12_ask  y727) ⟨by decide, by decide⟩ ⟨by decide, by decide⟩ rfl (Nat.le_of_ble_eq_true rfl) dL_law_1148 (fun r728 f730 h729 y731 => ?_)
      refine oj_icmp_eq 1225 dL_law_1151 rfl (fun c732 => ?_) (fun c732 => ?_)
      · have y733 := y731.1 c732
        obtain ⟨v735, ev735⟩ : ∃ z : Int32, z = x3 + (6) := ⟨_, rfl⟩
        have y736 := Lt_at y733 v735 ev735
        refine oj_iinc (v := v735) (lv' := [(3, .int v735), (0, .ref 100000), (1, .ref 0), (2, .ref 108)]) 3 dL_law_1225 rfl (iinc_e ci_6 ev735) (by decide) rfl ?_
        refine oj_goto 18 dL_law_1228 rfl ?_
        refine oj_lv [1, 2, 3, 0] rfl ?_
        exact hk18 _ _ y736
      · have y734 := y731.2 c732
        refine oj_iconst dL_law_1154 ci_0 ?_
        exact oj_ret (r := some (.int (0))) (congrArg (fun z => some (Value.int z)) y734) dL_law_1155 (by decide) (by decide)
    have y737 := y717.2 c718
    by_cases c738 : ((xs (ix x3)) &&& (63)) = (40)
    · have y739 := y737.1 c738
      refine oj_tableIn 1156 dL_law_33 (by rw [c738] <;> decide) (by rw [c738] <;> decide) (by rw [c738] <;> rfl) rfl ?_
      refine oj_aload_n 1 dL_law_1156 rfl rfl ?_
      refine oj_aload_n 0 dL_law_1157 rfl rfl ?_
      refine oj_iload_n 3 dL_law_1158 rfl rfl ?_
      refine oj_iconst dL_law_1159 ci_1 ?_
      refine oj_iadd dL_law_1160 ?_
      obtain ⟨c740, y741⟩ := y739
      refine oj_sld rfl c740 rfl dL_law_1161 ?_
      refine oc_Vi [.int (xs (ix (x3 + (1))))] mi_RL_180 ow_1172 ow_1173 rfl k_0 (BX11_image  y741) ⟨by decide, by decide⟩ ⟨by decide, by decide⟩ rfl (Nat.le_of_ble_eq_true rfl) dL_law_1162 (fun r742 f744 h743 y745 => ?_)
      refine oj_aload_n 2 dL_law_1165 rfl rfl ?_
      refine oj_aload_n 0 dL_law_1166 rfl rfl ?_
      refine oj_iload_n 3 dL_law_1167 rfl rfl ?_
      refine oj_iconst dL_law_1168 ci_1 ?_
      refine oj_iadd dL_law_1169 ?_
      refine oj_sld rfl c740 rfl dL_law_1170 ?_
      refine oc_Vi [.int (xs (ix (x3 + (1))))] mi_RL_183 ow_1917 ow_1918 rfl k_108 (BX12_image  y745) ⟨by decide, by decide⟩ ⟨by decide, by decide⟩ rfl (Nat.le_of_ble_eq_true rfl) dL_law_1171 (fun r746 f748 h747 y749 => ?_)
      refine oj_icmp_eq 1225 dL_law_1174 rfl (fun c750 => ?_) (fun c750 => ?_)
      · have y751 := y749.1 c750
        obtain ⟨v753, ev753⟩ : ∃ z : Int32, z = x3 + (6) := ⟨_, rfl⟩
        have y754 := Lt_at y751 v753 ev753
        refine oj_iinc (v := v753) (lv' := [(3, .int v753), (0, .ref 100000), (1, .ref 0), (2, .ref 108)]) 3 dL_law_1225 rfl (iinc_e ci_6 ev753) (by decide) rfl ?_
        refine oj_goto 18 dL_law_1228 rfl ?_
        refine oj_lv [1, 2, 3, 0] rfl ?_
        exact hk18 _ _ y754
      · have y752 := y749.2 c750
        refine oj_iconst dL_law_1177 ci_0 ?_
        exact oj_ret (r := some (.int (0))) (congrArg (fun z => some (Value.int z)) y752) dL_law_1178 (by decide) (by decide)
    have y755 := y737.2 c738
    by_cases c756 : ((xs (ix x3)) &&& (63)) = (41)
    · have y757 := y755.1 c756
      refine oj_tableIn 1179 dL_law_33 (by rw [c756] <;> decide) (by rw [c756] <;> decide) (by rw [c756] <;> rfl) rfl ?_
      refine oj_aload_n 1 dL_law_1179 rfl rfl ?_
      refine oj_aload_n 0 dL_law_1180 rfl rfl ?_
      refine oj_iload_n 3 dL_law_1181 rfl rfl ?_
      refine oj_iconst dL_law_1182 ci_1 ?_
      refine oj_iadd dL_law_1183 ?_
      obtain ⟨c758, y759⟩ := y757
      refine oj_sld rfl c758 rfl dL_law_1184 ?_
      refine oc_Vi [.int (xs (ix (x3 + (1))))] mi_RL_184 ow_1180 ow_1181 rfl k_0 (BX11_back  y759) ⟨by decide, by decide⟩ ⟨by decide, by decide⟩ rfl (Nat.le_of_ble_eq_true rfl) dL_law_1185 (fun r760 f762 h761 y763 => ?_)
      refine oj_aload_n 2 dL_law_1188 rfl rfl ?_
      refine oj_aload_n 0 dL_law_1189 rfl rfl ?_
      refine oj_iload_n 3 dL_law_1190 rfl rfl ?_
      refine oj_iconst dL_law_1191 ci_1 ?_
      refine oj_iadd dL_law_1192 ?_
      refine oj_sld rfl c758 rfl dL_law_1193 ?_
      refine oc_Vi [.int (xs (ix (x3 + (1))))] mi_RL_187 ow_1924 ow_1925 rfl k_108 (BX12_back  y763) ⟨by decide, by decide⟩ ⟨by decide, by decide⟩ rfl (Nat.le_of_ble_eq_true rfl) dL_law_1194 (fun r764 f766 h765 y767 => ?_)
      refine oj_icmp_eq 1225 dL_law_1197 rfl (fun c768 => ?_) (fun c768 => ?_)
      · have y769 := y767.1 c768
        obtain ⟨v771, ev771⟩ : ∃ z : Int32, z = x3 + (6) := ⟨_, rfl⟩
        have y772 := Lt_at y769 v771 ev771
        refine oj_iinc (v := v771) (lv' := [(3, .int v771), (0, .ref 100000), (1, .ref 0), (2, .ref 108)]) 3 dL_law_1225 rfl (iinc_e ci_6 ev771) (by decide) rfl ?_
        refine oj_goto 18 dL_law_1228 rfl ?_
        refine oj_lv [1, 2, 3, 0] rfl ?_
        exact hk18 _ _ y772
      · have y770 := y767.2 c768
        refine oj_iconst dL_law_1200 ci_0 ?_
        exact oj_ret (r := some (.int (0))) (congrArg (fun z => some (Value.int z)) y770) dL_law_1201 (by decide) (by decide)
    have y773 := y755.2 c756
    by_cases c774 : ((xs (ix x3)) &&& (63)) = (42)
    · have y775 := y773.1 c774
      refine oj_tableIn 1202 dL_law_33 (by rw [c774] <;> decide) (by rw [c774] <;> decide) (by rw [c774] <;> rfl) rfl ?_
      refine oj_aload_n 1 dL_law_1202 rfl rfl ?_
      refine oj_aload_n 0 dL_law_1203 rfl rfl ?_
      refine oj_iload_n 3 dL_law_1204 rfl rfl ?_
      refine oj_iconst dL_law_1205 ci_1 ?_
      refine oj_iadd dL_law_1206 ?_
      obtain ⟨c776, y777⟩ := y775
      refine oj_sld rfl c776 rfl dL_law_1207 ?_
      refine oc_Vpi [.int (xs (ix (x3 + (1))))] mi_RL_188 ow_1189 ow_1190 rfl k_0 (BX11_about  y777) ⟨by decide, by decide⟩ ⟨by decide, by decide⟩ rfl (Nat.le_of_ble_eq_true rfl) dL_law_1208 (fun r778 f780 y781 => ?_)
      refine oj_aload_n 2 dL_law_1211 rfl rfl ?_
      refine oj_aload_n 0 dL_law_1212 rfl rfl ?_
      refine oj_iload_n 3 dL_law_1213 rfl rfl ?_
      refine oj_iconst dL_law_1214 ci_1 ?_
      refine oj_iadd dL_law_1215 ?_
      refine oj_sld rfl c776 rfl dL_law_1216 ?_
      refine oc_Vi [.int (xs (ix (x3 + (1))))] mi_RL_191 ow_1928 ow_1929 rfl k_108 (BX12_about  y781) ⟨by decide, by decide⟩ ⟨by decide, by decide⟩ rfl (Nat.le_of_ble_eq_true rfl) dL_law_1217 (fun r782 f784 h783 y785 => ?_)
      refine oj_icmp_eq 1225 dL_law_1220 rfl (fun c786 => ?_) (fun c786 => ?_)
      · have y787 := y785.1 c786
        obtain ⟨v789, ev789⟩ : ∃ z : Int32, z = x3 + (6) := ⟨_, rfl⟩
        have y790 := Lt_at y787 v789 ev789
        refine oj_iinc (v := v789) (lv' := [(3, .int v789), (0, .ref 100000), (1, .ref 0), (2, .ref 108)]) 3 dL_law_1225 rfl (iinc_e ci_6 ev789) (by decide) rfl ?_
        refine oj_goto 18 dL_law_1228 rfl ?_
        refine oj_lv [1, 2, 3, 0] rfl ?_
        exact hk18 _ _ y790
      · have y788 := y785.2 c786
        refine oj_iconst dL_law_1223 ci_0 ?_
        exact oj_ret (r := some (.int (0))) (congrArg (fun z => some (Value.int z)) y788) dL_law_1224 (by decide) (by decide)
    have y791 := y773.2 c774
    refine oj_tableOut 1225 dL_law_33 (show (((xs (ix x3)) &&& (63)) : Int32).toInt < 0 ∨ 42 < (((xs (ix x3)) &&& (63)) : Int32).toInt by have nc6 := lv_neT c6 (show (0 : Int32).toInt = 0 by decide); have nc32 := lv_neT c32 (show (1 : Int32).toInt = 1 by decide); have nc50 := lv_neT c50 (show (2 : Int32).toInt = 2 by decide); have nc66 := lv_neT c66 (show (3 : Int32).toInt = 3 by decide); have nc84 := lv_neT c84 (show (4 : Int32).toInt = 4 by decide); have nc104 := lv_neT c104 (show (5 : Int32).toInt = 5 by decide); have nc122 := lv_neT c122 (show (6 : Int32).toInt = 6 by decide); have nc138 := lv_neT c138 (show (7 : Int32).toInt = 7 by decide); have nc156 := lv_neT c156 (show (8 : Int32).toInt = 8 by decide); have nc174 := lv_neT c174 (show (9 : Int32).toInt = 9 by decide); have nc194 := lv_neT c194 (show (10 : Int32).toInt = 10 by decide); have nc210 := lv_neT c210 (show (11 : Int32).toInt = 11 by decide); have nc226 := lv_neT c226 (show (12 : Int32).toInt = 12 by decide); have nc242 := lv_neT c242 (show (13 : Int32).toInt = 13 by decide); have nc258 := lv_neT c258 (show (14 : Int32).toInt = 14 by decide); have nc274 := lv_neT c274 (show (15 : Int32).toInt = 15 by decide); have nc292 := lv_neT c292 (show (16 : Int32).toInt = 16 by decide); have nc308 := lv_neT c308 (show (17 : Int32).toInt = 17 by decide); have nc324 := lv_neT c324 (show (18 : Int32).toInt = 18 by decide); have nc340 := lv_neT c340 (show (19 : Int32).toInt = 19 by decide); have nc358 := lv_neT c358 (show (20 : Int32).toInt = 20 by decide); have nc378 := lv_neT c378 (show (21 : Int32).toInt = 21 by decide); have nc396 := lv_neT c396 (show (22 : Int32).toInt = 22 by decide); have nc412 := lv_neT c412 (show (23 : Int32).toInt = 23 by decide); have nc430 := lv_neT c430 (show (24 : Int32).toInt = 24 by decide); have nc446 := lv_neT c446 (show (25 : Int32).toInt = 25 by decide); have nc464 := lv_neT c464 (show (26 : Int32).toInt = 26 by decide); have nc482 := lv_neT c482 (show (27 : Int32).toInt = 27 by decide); have nc502 := lv_neT c502 (show (28 : Int32).toInt = 28 by decide); have nc522 := lv_neT c522 (show (29 : Int32).toInt = 29 by decide); have nc540 := lv_neT c540 (show (30 : Int32).toInt = 30 by decide); have nc558 := lv_neT c558 (show (31 : Int32).toInt = 31 by decide); have nc576 := lv_neT c576 (show (32 : Int32).toInt = 32 by decide); have nc592 := lv_neT c592 (show (33 : Int32).toInt = 33 by decide); have nc610 := lv_neT c610 (show (34 : Int32).toInt = 34 by decide); have nc644 := lv_neT c644 (show (35 : Int32).toInt = 35 by decide); have nc662 := lv_neT c662 (show (36 : Int32).toInt = 36 by decide); have nc680 := lv_neT c680 (show (37 : Int32).toInt = 37 by decide); have nc698 := lv_neT c698 (show (38 : Int32).toInt = 38 by decide); have nc718 := lv_neT c718 (show (39 : Int32).toInt = 39 by decide); have nc738 := lv_neT c738 (show (40 : Int32).toInt = 40 by decide); have nc756 := lv_neT c756 (show (41 : Int32).toInt = 41 by decide); have nc774 := lv_neT c774 (show (42 : Int32).toInt = 42 by decide); omega) rfl ?_
    obtain ⟨v792, ev792⟩ : ∃ z : Int32, z = x3 + (6) := ⟨_, rfl⟩
    have y793 := Lt_at y791 v792 ev792
    refine oj_iinc (v := v792) (lv' := [(3, .int v792), (0, .ref 100000), (1, .ref 0), (2, .ref 108)]) 3 dL_law_1225 rfl (iinc_e ci_6 ev792) (by decide) rfl ?_
    refine oj_goto 18 dL_law_1228 rfl ?_
    refine oj_lv [1, 2, 3, 0] rfl ?_
    exact hk18 _ _ y793
