-- ===== constructors that call others =====
theorem KW_nest {ks : Nat → ob_K} {o : Nat} {L M : List ob_K} : KW (KW ks o L) (o + L.length) M = KW ks o (L ++ M) := by
  funext q
  unfold KW
  by_cases c : q < o
  · rw [if_pos (by omega), if_pos c, if_pos c]
  · rw [if_neg c]
    by_cases d : q < o + L.length
    · rw [if_pos d, if_neg c]
      simp [List.getD_eq_getElem?_getD, List.getElem?_append_left (show q - o < L.length by omega)]
    · rw [if_neg d, if_neg c]
      rw [List.getD_eq_getElem?_getD, List.getD_eq_getElem?_getD, List.getElem?_append_right (by omega), show q - (o + L.length) = q - o - L.length by omega]
theorem mi_RX3_24 : ob_mi RX3 24 yX6_init cX6_init 2 none 1 := ⟨ow_343, ow_10, by first | exact ow_296 | exact ow_294, by decide +kernel⟩
set_option maxHeartbeats 1000000 in
theorem I3 {ks : Nat → ob_K} {o : Nat} {h : ob_H} (hz : Fz o h) (hn : o + 9 ≤ 100000) {a1 : Nat} {c1 : ob_K} {m1 : Nat} (h1 : ob_is ks m1 a1 c1) (l1 : a1 < o) : ob_T yX3_init cX3_init 2 none { frames := 2, cells := 7, slots := 49, locals := 61 } (KW ks o [(8, [3, 3, 3, 0])]) (o + 1) h [.ref o, .ref a1] (fun r ks' n' h' => r = none ∧ ks' = KW ks o [(8, [o + 7, o + 5, o + 6, 0]), (0, [7]), (0, [7]), (11, [o + 8, o + 9, o + 10, 0, 0, 0, a1 + 4, o + 11]), (0, [7]), (0, [7]), (0, [7]), (0, [6])] ∧ n' = o + 8 ∧ h' = h) := by
  refine ob_T_of (ini := true) (by decide +kernel) (fun _ => rfl) (Nat.le_of_ble_eq_true rfl) ?_
  show ob_J RX3 cX3_init 2 { frames := 2, cells := 7, slots := 49, locals := 61 } true none 0 0 (KW ks o [(8, [3, 3, 3, 0])]) (o + 1) h 0 [(0, .ref o), (1, .ref a1)] [] _
  refine oj_aload_n 0 dX3_init_0 rfl rfl ?_
  refine oj_objInit (KW_is (i := 0) (L := [(8, [3, 3, 3, 0])]) rfl (by simp; omega)) ow_341 ow_27 ow_28 (by decide) (by decide) rfl dX3_init_1 ?_
  refine oj_aload_n 0 dX3_init_4 rfl rfl ?_
  refine oj_bipush dX3_init_5 cb_7 ?_
  refine oj_newa_i (N := 7) ow_152 (by decide) rfl (by decide) (fun k => (hz (o + 1) (by omega) k).1) (by omega) (by decide) (by decide) dX3_init_7 ?_
  rw [show ku (KW ks o [(8, [3, 3, 3, 0])]) (o + 1) (0, [7]) = KW ks o [(8, [3, 3, 3, 0]), (0, [7])] from KW_push]
  refine oj_putr fl_RX3_9 (Or.inr ⟨rfl, RX3, TX3, 4, rfl, rfl⟩) (KW_is (i := 0) (L := [(8, [3, 3, 3, 0]), (0, [7])]) rfl (by simp; omega)) (KW_is (i := 1) (L := [(8, [3, 3, 3, 0]), (0, [7])]) rfl (by simp; omega)) (by show 1 < 4; decide) (fun _ => rfl) (fun _ => rfl) dX3_init_9 ?_
  rw [show ku (KW ks o [(8, [3, 3, 3, 0]), (0, [7])]) o (8, List.set [3, 3, 3, 0] 1 (o + 1 + 4)) = KW ks o [(8, [3, o + 5, 3, 0]), (0, [7])] from KW_set (i := 0) (Nat.succ_pos _)]
  refine oj_aload_n 0 dX3_init_12 rfl rfl ?_
  refine oj_bipush dX3_init_13 cb_7 ?_
  refine oj_newa_i (N := 7) ow_152 (by decide) rfl (by decide) (fun k => (hz (o + 2) (by omega) k).1) (by omega) (by decide) (by decide) dX3_init_15 ?_
  rw [show ku (KW ks o [(8, [3, o + 5, 3, 0]), (0, [7])]) (o + 2) (0, [7]) = KW ks o [(8, [3, o + 5, 3, 0]), (0, [7]), (0, [7])] from KW_push]
  refine oj_putr fl_RX3_15 (Or.inr ⟨rfl, RX3, TX3, 4, rfl, rfl⟩) (KW_is (i := 0) (L := [(8, [3, o + 5, 3, 0]), (0, [7]), (0, [7])]) rfl (by simp; omega)) (KW_is (i := 2) (L := [(8, [3, o + 5, 3, 0]), (0, [7]), (0, [7])]) rfl (by simp; omega)) (by show 2 < 4; decide) (fun _ => rfl) (fun _ => rfl) dX3_init_17 ?_
  rw [show ku (KW ks o [(8, [3, o + 5, 3, 0]), (0, [7]), (0, [7])]) o (8, List.set [3, o + 5, 3, 0] 2 (o + 2 + 4)) = KW ks o [(8, [3, o + 5, o + 6, 0]), (0, [7]), (0, [7])] from KW_set (i := 0) (Nat.succ_pos _)]
  refine oj_aload_n 0 dX3_init_20 rfl rfl ?_
  refine oj_iconst dX3_init_21 ci_0 ?_
  refine oj_puti fl_RX3_18 (Or.inl rfl) (KW_is (i := 0) (L := [(8, [3, o + 5, o + 6, 0]), (0, [7]), (0, [7])]) rfl (by simp; omega)) rfl rfl rfl dX3_init_22 ?_
  rw [h_same (hz o (Nat.le_refl _) 3).1]
  refine oj_aload_n 0 dX3_init_25 rfl rfl ?_
  refine oj_new (ci := 6) (codes := [3, 3, 3, 0, 0, 0, 3, 3]) rfl inX6 tyX6_ok ow_342 ow_293 ow_10 (fun base' j hj => ?_) (by omega) (by decide) (by decide) dX3_init_26 ?_
  · rcases (by omega : j = 0 ∨ j = 1 ∨ j = 2 ∨ j = 3 ∨ j = 4 ∨ j = 5 ∨ j = 6 ∨ j = 7) with rfl | rfl | rfl | rfl | rfl | rfl | rfl | rfl
    all_goals first
      | rfl
      | exact congrArg Value.int (hz (o + 3) (by omega) _).1.symm
  rw [show ku (KW ks o [(8, [3, o + 5, o + 6, 0]), (0, [7]), (0, [7])]) (o + 3) (6 + 5, [3, 3, 3, 0, 0, 0, 3, 3]) = KW (KW ks o [(8, [3, o + 5, o + 6, 0]), (0, [7]), (0, [7])]) (o + 3) [(11, [3, 3, 3, 0, 0, 0, 3, 3])] from KW_push.trans (KW_nest (L := [(8, [3, o + 5, o + 6, 0]), (0, [7]), (0, [7])])).symm]
  refine oj_dup dX3_init_29 rfl ?_
  refine oj_aload_n 1 dX3_init_30 rfl rfl ?_
  refine oj_callI [.ref a1] mi_RX3_24 rfl ow_295 (KW_is (i := 0) (L := [(11, [3, 3, 3, 0, 0, 0, 3, 3])]) rfl (by simp; omega)) (I6 (hz.up (by omega)) (by omega) (KW_lo (L := [(8, [3, o + 5, o + 6, 0]), (0, [7]), (0, [7])]) h1 l1 (by simp; omega)) (by omega)) ⟨by decide, by decide⟩ ⟨by decide, by decide⟩ rfl (Nat.le_of_ble_eq_true rfl) dX3_init_31 (fun r ks' n' h' hq => ?_)
  obtain ⟨rfl, rfl, rfl, rfl⟩ := hq
  rw [show KW (KW ks o [(8, [3, o + 5, o + 6, 0]), (0, [7]), (0, [7])]) (o + 3) [(11, [o + 3 + 5, o + 3 + 6, o + 3 + 7, 0, 0, 0, a1 + 4, o + 3 + 8]), (0, [7]), (0, [7]), (0, [7]), (0, [6])] = KW ks o [(8, [3, o + 5, o + 6, 0]), (0, [7]), (0, [7]), (11, [o + 8, o + 9, o + 10, 0, 0, 0, a1 + 4, o + 11]), (0, [7]), (0, [7]), (0, [7]), (0, [6])] from KW_nest (L := [(8, [3, o + 5, o + 6, 0]), (0, [7]), (0, [7])])]
  refine oj_putr fl_RX3_27 (Or.inr ⟨rfl, RX3, TX3, 4, rfl, rfl⟩) (KW_is (i := 0) (L := [(8, [3, o + 5, o + 6, 0]), (0, [7]), (0, [7]), (11, [o + 8, o + 9, o + 10, 0, 0, 0, a1 + 4, o + 11]), (0, [7]), (0, [7]), (0, [7]), (0, [6])]) rfl (by simp; omega)) (KW_is (i := 3) (L := [(8, [3, o + 5, o + 6, 0]), (0, [7]), (0, [7]), (11, [o + 8, o + 9, o + 10, 0, 0, 0, a1 + 4, o + 11]), (0, [7]), (0, [7]), (0, [7]), (0, [6])]) rfl (by simp; omega)) (by show 0 < 4; decide) (fun _ => rfl) (fun _ => rfl) dX3_init_34 ?_
  exact oj_ret (r := none) ⟨trivial, rfl, KW_set (i := 0) (Nat.succ_pos _), rfl, rfl⟩ dX3_init_37 (by decide) (by decide)
