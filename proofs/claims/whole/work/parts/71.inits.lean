-- ===== the plain constructors =====
theorem h_same {h : ob_H} {o k : Nat} {v : Int32} (e : h.1 o k = v) : h_i h o k v = h := by
  refine Prod.ext ?_ rfl
  funext q j
  show (if q = o ∧ j = k then v else h.1 q j) = h.1 q j
  by_cases c : q = o ∧ j = k
  · rw [if_pos c, c.1, c.2, e]
  · rw [if_neg c]
set_option maxHeartbeats 1000000 in
theorem I4w {ks : Nat → ob_K} {o : Nat} {h : ob_H} (hz : Fz o h) (hn : o + 4 ≤ 100000) : ob_T yX4_init cX4_init 1 none { frames := 1, cells := 2, slots := 332, locals := 40 } (KW ks o [(9, [3, 0, 3])]) (o + 1) h [.ref o] (fun r ks' n' h' => r = none ∧ ks' = KW ks o [(9, [o + 5, 0, o + 6]), (0, [300]), (0, [32])] ∧ n' = o + 3 ∧ h' = h) := by
  refine ob_T_of (ini := true) (by decide +kernel) (fun _ => rfl) (Nat.le_of_ble_eq_true rfl) ?_
  show ob_J RX4 cX4_init 1 { frames := 1, cells := 2, slots := 332, locals := 40 } true none 0 0 (KW ks o [(9, [3, 0, 3])]) (o + 1) h 0 [(0, .ref o)] [] _
  refine oj_aload_n 0 dX4_init_0 rfl rfl ?_
  refine oj_objInit (KW_is (i := 0) (L := [(9, [3, 0, 3])]) rfl (by simpa using (by omega : o + 1 ≤ 100000))) ow_141 ow_27 ow_28 (by decide) (by decide) rfl dX4_init_1 ?_
  refine oj_aload_n 0 dX4_init_4 rfl rfl ?_
  refine oj_sipush dX4_init_5 cs_300 ?_
  refine oj_newa_i (N := 300) ow_152 (by decide) rfl (by decide) (fun k => (hz (o + 1) (by omega) k).1) (by omega) (by decide) (by decide) dX4_init_8 ?_
  rw [show ku (KW ks o [(9, [3, 0, 3])]) (o + 1) (0, [300]) = KW ks o [(9, [3, 0, 3]), (0, [300])] from KW_push]
  refine oj_putr fl_RX4_9 (Or.inr ⟨rfl, RX4, TX4, 3, rfl, rfl⟩) (KW_is (i := 0) (L := [(9, [3, 0, 3]), (0, [300])]) rfl (by simp; omega)) (KW_is (i := 1) (L := [(9, [3, 0, 3]), (0, [300])]) rfl (by simp; omega)) (by show 0 < 3; decide) (fun _ => rfl) (fun _ => rfl) dX4_init_10 ?_
  rw [show ku (KW ks o [(9, [3, 0, 3]), (0, [300])]) o (9, List.set [3, 0, 3] 0 (o + 1 + 4)) = KW ks o [(9, [o + 5, 0, 3]), (0, [300])] from KW_set (i := 0) (Nat.succ_pos _)]
  refine oj_aload_n 0 dX4_init_13 rfl rfl ?_
  refine oj_iconst dX4_init_14 ci_0 ?_
  refine oj_puti fl_RX4_13 (Or.inl rfl) (KW_is (i := 0) (L := [(9, [o + 5, 0, 3]), (0, [300])]) rfl (by simp; omega)) rfl rfl rfl dX4_init_15 ?_
  rw [h_same (hz o (Nat.le_refl _) 1).1]
  refine oj_aload_n 0 dX4_init_18 rfl rfl ?_
  refine oj_bipush dX4_init_19 cb_32 ?_
  refine oj_newa_i (N := 32) ow_152 (by decide) rfl (by decide) (fun k => (hz (o + 2) (by omega) k).1) (by omega) (by decide) (by decide) dX4_init_21 ?_
  rw [show ku (KW ks o [(9, [o + 5, 0, 3]), (0, [300])]) (o + 2) (0, [32]) = KW ks o [(9, [o + 5, 0, 3]), (0, [300]), (0, [32])] from KW_push]
  refine oj_putr fl_RX4_17 (Or.inr ⟨rfl, RX4, TX4, 3, rfl, rfl⟩) (KW_is (i := 0) (L := [(9, [o + 5, 0, 3]), (0, [300]), (0, [32])]) rfl (by simp; omega)) (KW_is (i := 2) (L := [(9, [o + 5, 0, 3]), (0, [300]), (0, [32])]) rfl (by simp; omega)) (by show 2 < 3; decide) (fun _ => rfl) (fun _ => rfl) dX4_init_23 ?_
  rw [show ku (KW ks o [(9, [o + 5, 0, 3]), (0, [300]), (0, [32])]) o (9, List.set [o + 5, 0, 3] 2 (o + 2 + 4)) = KW ks o [(9, [o + 5, 0, o + 6]), (0, [300]), (0, [32])] from KW_set (i := 0) (Nat.succ_pos _)]
  exact oj_ret (r := none) ⟨trivial, rfl, rfl, rfl, rfl⟩ dX4_init_26 (by decide) (by decide)
set_option maxHeartbeats 1000000 in
theorem I6 {ks : Nat → ob_K} {o : Nat} {h : ob_H} (hz : Fz o h) (hn : o + 6 ≤ 100000) {a1 : Nat} {c1 : ob_K} {m1 : Nat} (h1 : ob_is ks m1 a1 c1) (l1 : a1 < o) : ob_T yX6_init cX6_init 2 none { frames := 1, cells := 4, slots := 27, locals := 40 } (KW ks o [(11, [3, 3, 3, 0, 0, 0, 3, 3])]) (o + 1) h [.ref o, .ref a1] (fun r ks' n' h' => r = none ∧ ks' = KW ks o [(11, [o + 5, o + 6, o + 7, 0, 0, 0, a1 + 4, o + 8]), (0, [7]), (0, [7]), (0, [7]), (0, [6])] ∧ n' = o + 5 ∧ h' = h) := by
  refine ob_T_of (ini := true) (by decide +kernel) (fun _ => rfl) (Nat.le_of_ble_eq_true rfl) ?_
  show ob_J RX6 cX6_init 2 { frames := 1, cells := 4, slots := 27, locals := 40 } true none 0 0 (KW ks o [(11, [3, 3, 3, 0, 0, 0, 3, 3])]) (o + 1) h 0 [(0, .ref o), (1, .ref a1)] [] _
  refine oj_aload_n 0 dX6_init_0 rfl rfl ?_
  refine oj_objInit (KW_is (i := 0) (L := [(11, [3, 3, 3, 0, 0, 0, 3, 3])]) rfl (by simpa using (by omega : o + 1 ≤ 100000))) ow_297 ow_27 ow_28 (by decide) (by decide) rfl dX6_init_1 ?_
  refine oj_aload_n 0 dX6_init_4 rfl rfl ?_
  refine oj_bipush dX6_init_5 cb_7 ?_
  refine oj_newa_i (N := 7) ow_152 (by decide) rfl (by decide) (fun k => (hz (o + 1) (by omega) k).1) (by omega) (by decide) (by decide) dX6_init_7 ?_
  rw [show ku (KW ks o [(11, [3, 3, 3, 0, 0, 0, 3, 3])]) (o + 1) (0, [7]) = KW ks o [(11, [3, 3, 3, 0, 0, 0, 3, 3]), (0, [7])] from KW_push]
  refine oj_putr fl_RX6_13 (Or.inr ⟨rfl, RX6, TX6, 8, rfl, rfl⟩) (KW_is (i := 0) (L := [(11, [3, 3, 3, 0, 0, 0, 3, 3]), (0, [7])]) rfl (by simp; omega)) (KW_is (i := 1) (L := [(11, [3, 3, 3, 0, 0, 0, 3, 3]), (0, [7])]) rfl (by simp; omega)) (by show 0 < 8; decide) (fun _ => rfl) (fun _ => rfl) dX6_init_9 ?_
  rw [show ku (KW ks o [(11, [3, 3, 3, 0, 0, 0, 3, 3]), (0, [7])]) o (11, List.set [3, 3, 3, 0, 0, 0, 3, 3] 0 (o + 1 + 4)) = KW ks o [(11, [o + 5, 3, 3, 0, 0, 0, 3, 3]), (0, [7])] from KW_set (i := 0) (Nat.succ_pos _)]
  refine oj_aload_n 0 dX6_init_12 rfl rfl ?_
  refine oj_bipush dX6_init_13 cb_7 ?_
  refine oj_newa_i (N := 7) ow_152 (by decide) rfl (by decide) (fun k => (hz (o + 2) (by omega) k).1) (by omega) (by decide) (by decide) dX6_init_15 ?_
  rw [show ku (KW ks o [(11, [o + 5, 3, 3, 0, 0, 0, 3, 3]), (0, [7])]) (o + 2) (0, [7]) = KW ks o [(11, [o + 5, 3, 3, 0, 0, 0, 3, 3]), (0, [7]), (0, [7])] from KW_push]
  refine oj_putr fl_RX6_17 (Or.inr ⟨rfl, RX6, TX6, 8, rfl, rfl⟩) (KW_is (i := 0) (L := [(11, [o + 5, 3, 3, 0, 0, 0, 3, 3]), (0, [7]), (0, [7])]) rfl (by simp; omega)) (KW_is (i := 2) (L := [(11, [o + 5, 3, 3, 0, 0, 0, 3, 3]), (0, [7]), (0, [7])]) rfl (by simp; omega)) (by show 1 < 8; decide) (fun _ => rfl) (fun _ => rfl) dX6_init_17 ?_
  rw [show ku (KW ks o [(11, [o + 5, 3, 3, 0, 0, 0, 3, 3]), (0, [7]), (0, [7])]) o (11, List.set [o + 5, 3, 3, 0, 0, 0, 3, 3] 1 (o + 2 + 4)) = KW ks o [(11, [o + 5, o + 6, 3, 0, 0, 0, 3, 3]), (0, [7]), (0, [7])] from KW_set (i := 0) (Nat.succ_pos _)]
  refine oj_aload_n 0 dX6_init_20 rfl rfl ?_
  refine oj_bipush dX6_init_21 cb_7 ?_
  refine oj_newa_i (N := 7) ow_152 (by decide) rfl (by decide) (fun k => (hz (o + 3) (by omega) k).1) (by omega) (by decide) (by decide) dX6_init_23 ?_
  rw [show ku (KW ks o [(11, [o + 5, o + 6, 3, 0, 0, 0, 3, 3]), (0, [7]), (0, [7])]) (o + 3) (0, [7]) = KW ks o [(11, [o + 5, o + 6, 3, 0, 0, 0, 3, 3]), (0, [7]), (0, [7]), (0, [7])] from KW_push]
  refine oj_putr fl_RX6_20 (Or.inr ⟨rfl, RX6, TX6, 8, rfl, rfl⟩) (KW_is (i := 0) (L := [(11, [o + 5, o + 6, 3, 0, 0, 0, 3, 3]), (0, [7]), (0, [7]), (0, [7])]) rfl (by simp; omega)) (KW_is (i := 3) (L := [(11, [o + 5, o + 6, 3, 0, 0, 0, 3, 3]), (0, [7]), (0, [7]), (0, [7])]) rfl (by simp; omega)) (by show 2 < 8; decide) (fun _ => rfl) (fun _ => rfl) dX6_init_25 ?_
  rw [show ku (KW ks o [(11, [o + 5, o + 6, 3, 0, 0, 0, 3, 3]), (0, [7]), (0, [7]), (0, [7])]) o (11, List.set [o + 5, o + 6, 3, 0, 0, 0, 3, 3] 2 (o + 3 + 4)) = KW ks o [(11, [o + 5, o + 6, o + 7, 0, 0, 0, 3, 3]), (0, [7]), (0, [7]), (0, [7])] from KW_set (i := 0) (Nat.succ_pos _)]
  refine oj_aload_n 0 dX6_init_28 rfl rfl ?_
  refine oj_iconst dX6_init_29 ci_0 ?_
  refine oj_puti fl_RX6_23 (Or.inl rfl) (KW_is (i := 0) (L := [(11, [o + 5, o + 6, o + 7, 0, 0, 0, 3, 3]), (0, [7]), (0, [7]), (0, [7])]) rfl (by simp; omega)) rfl rfl rfl dX6_init_30 ?_
  rw [h_same (hz o (Nat.le_refl _) 3).1]
  refine oj_aload_n 0 dX6_init_33 rfl rfl ?_
  refine oj_iconst dX6_init_34 ci_0 ?_
  refine oj_puti fl_RX6_27 (Or.inl rfl) (KW_is (i := 0) (L := [(11, [o + 5, o + 6, o + 7, 0, 0, 0, 3, 3]), (0, [7]), (0, [7]), (0, [7])]) rfl (by simp; omega)) rfl rfl rfl dX6_init_35 ?_
  rw [h_same (hz o (Nat.le_refl _) 4).1]
  refine oj_aload_n 0 dX6_init_38 rfl rfl ?_
  refine oj_iconst dX6_init_39 ci_0 ?_
  refine oj_puti fl_RX6_30 (Or.inl rfl) (KW_is (i := 0) (L := [(11, [o + 5, o + 6, o + 7, 0, 0, 0, 3, 3]), (0, [7]), (0, [7]), (0, [7])]) rfl (by simp; omega)) rfl rfl rfl dX6_init_40 ?_
  rw [h_same (hz o (Nat.le_refl _) 5).1]
  refine oj_aload_n 0 dX6_init_43 rfl rfl ?_
  refine oj_bipush dX6_init_44 cb_6 ?_
  refine oj_newa_i (N := 6) ow_152 (by decide) rfl (by decide) (fun k => (hz (o + 4) (by omega) k).1) (by omega) (by decide) (by decide) dX6_init_46 ?_
  rw [show ku (KW ks o [(11, [o + 5, o + 6, o + 7, 0, 0, 0, 3, 3]), (0, [7]), (0, [7]), (0, [7])]) (o + 4) (0, [6]) = KW ks o [(11, [o + 5, o + 6, o + 7, 0, 0, 0, 3, 3]), (0, [7]), (0, [7]), (0, [7]), (0, [6])] from KW_push]
  refine oj_putr fl_RX6_35 (Or.inr ⟨rfl, RX6, TX6, 8, rfl, rfl⟩) (KW_is (i := 0) (L := [(11, [o + 5, o + 6, o + 7, 0, 0, 0, 3, 3]), (0, [7]), (0, [7]), (0, [7]), (0, [6])]) rfl (by simp; omega)) (KW_is (i := 4) (L := [(11, [o + 5, o + 6, o + 7, 0, 0, 0, 3, 3]), (0, [7]), (0, [7]), (0, [7]), (0, [6])]) rfl (by simp; omega)) (by show 7 < 8; decide) (fun _ => rfl) (fun _ => rfl) dX6_init_48 ?_
  rw [show ku (KW ks o [(11, [o + 5, o + 6, o + 7, 0, 0, 0, 3, 3]), (0, [7]), (0, [7]), (0, [7]), (0, [6])]) o (11, List.set [o + 5, o + 6, o + 7, 0, 0, 0, 3, 3] 7 (o + 4 + 4)) = KW ks o [(11, [o + 5, o + 6, o + 7, 0, 0, 0, 3, o + 8]), (0, [7]), (0, [7]), (0, [7]), (0, [6])] from KW_set (i := 0) (Nat.succ_pos _)]
  refine oj_aload_n 0 dX6_init_51 rfl rfl ?_
  refine oj_aload_n 1 dX6_init_52 rfl rfl ?_
  refine oj_putr fl_RX6_38 (Or.inr ⟨rfl, RX6, TX6, 8, rfl, rfl⟩) (KW_is (i := 0) (L := [(11, [o + 5, o + 6, o + 7, 0, 0, 0, 3, o + 8]), (0, [7]), (0, [7]), (0, [7]), (0, [6])]) rfl (by simp; omega)) (KW_lo (L := [(11, [o + 5, o + 6, o + 7, 0, 0, 0, 3, o + 8]), (0, [7]), (0, [7]), (0, [7]), (0, [6])]) h1 l1 (by simp; omega)) (by show 6 < 8; decide) (fun _ => rfl) (fun _ => rfl) dX6_init_53 ?_
  rw [show ku (KW ks o [(11, [o + 5, o + 6, o + 7, 0, 0, 0, 3, o + 8]), (0, [7]), (0, [7]), (0, [7]), (0, [6])]) o (11, List.set [o + 5, o + 6, o + 7, 0, 0, 0, 3, o + 8] 6 (a1 + 4)) = KW ks o [(11, [o + 5, o + 6, o + 7, 0, 0, 0, a1 + 4, o + 8]), (0, [7]), (0, [7]), (0, [7]), (0, [6])] from KW_set (i := 0) (Nat.succ_pos _)]
  exact oj_ret (r := none) ⟨trivial, rfl, rfl, rfl, rfl⟩ dX6_init_56 (by decide) (by decide)
set_option maxHeartbeats 1000000 in
theorem I7 {ks : Nat → ob_K} {o : Nat} {h : ob_H} (hz : Fz o h) (hn : o + 3 ≤ 100000) {a1 : Nat} {c1 : ob_K} {m1 : Nat} (h1 : ob_is ks m1 a1 c1) (l1 : a1 < o) {a2 : Nat} {c2 : ob_K} {m2 : Nat} (h2 : ob_is ks m2 a2 c2) (l2 : a2 < o) : ob_T yX7_init cX7_init 3 none { frames := 1, cells := 1, slots := 7, locals := 40 } (KW ks o [(12, [0, 3, 3, 3])]) (o + 1) h [.ref o, .ref a1, .ref a2] (fun r ks' n' h' => r = none ∧ ks' = KW ks o [(12, [0, a1 + 4, a2 + 4, o + 5]), (0, [7])] ∧ n' = o + 2 ∧ h' = h) := by
  refine ob_T_of (ini := true) (by decide +kernel) (fun _ => rfl) (Nat.le_of_ble_eq_true rfl) ?_
  show ob_J RX7 cX7_init 3 { frames := 1, cells := 1, slots := 7, locals := 40 } true none 0 0 (KW ks o [(12, [0, 3, 3, 3])]) (o + 1) h 0 [(0, .ref o), (1, .ref a1), (2, .ref a2)] [] _
  refine oj_aload_n 0 dX7_init_0 rfl rfl ?_
  refine oj_objInit (KW_is (i := 0) (L := [(12, [0, 3, 3, 3])]) rfl (by simpa using (by omega : o + 1 ≤ 100000))) ow_440 ow_27 ow_28 (by decide) (by decide) rfl dX7_init_1 ?_
  refine oj_aload_n 0 dX7_init_4 rfl rfl ?_
  refine oj_iconst dX7_init_5 ci_0 ?_
  refine oj_puti fl_RX7_9 (Or.inl rfl) (KW_is (i := 0) (L := [(12, [0, 3, 3, 3])]) rfl (by simp; omega)) rfl rfl rfl dX7_init_6 ?_
  rw [h_same (hz o (Nat.le_refl _) 0).1]
  refine oj_aload_n 0 dX7_init_9 rfl rfl ?_
  refine oj_bipush dX7_init_10 cb_7 ?_
  refine oj_newa_i (N := 7) ow_152 (by decide) rfl (by decide) (fun k => (hz (o + 1) (by omega) k).1) (by omega) (by decide) (by decide) dX7_init_12 ?_
  rw [show ku (KW ks o [(12, [0, 3, 3, 3])]) (o + 1) (0, [7]) = KW ks o [(12, [0, 3, 3, 3]), (0, [7])] from KW_push]
  refine oj_putr fl_RX7_15 (Or.inr ⟨rfl, RX7, TX7, 4, rfl, rfl⟩) (KW_is (i := 0) (L := [(12, [0, 3, 3, 3]), (0, [7])]) rfl (by simp; omega)) (KW_is (i := 1) (L := [(12, [0, 3, 3, 3]), (0, [7])]) rfl (by simp; omega)) (by show 3 < 4; decide) (fun _ => rfl) (fun _ => rfl) dX7_init_14 ?_
  rw [show ku (KW ks o [(12, [0, 3, 3, 3]), (0, [7])]) o (12, List.set [0, 3, 3, 3] 3 (o + 1 + 4)) = KW ks o [(12, [0, 3, 3, o + 5]), (0, [7])] from KW_set (i := 0) (Nat.succ_pos _)]
  refine oj_aload_n 0 dX7_init_17 rfl rfl ?_
  refine oj_aload_n 1 dX7_init_18 rfl rfl ?_
  refine oj_putr fl_RX7_19 (Or.inr ⟨rfl, RX7, TX7, 4, rfl, rfl⟩) (KW_is (i := 0) (L := [(12, [0, 3, 3, o + 5]), (0, [7])]) rfl (by simp; omega)) (KW_lo (L := [(12, [0, 3, 3, o + 5]), (0, [7])]) h1 l1 (by simp; omega)) (by show 1 < 4; decide) (fun _ => rfl) (fun _ => rfl) dX7_init_19 ?_
  rw [show ku (KW ks o [(12, [0, 3, 3, o + 5]), (0, [7])]) o (12, List.set [0, 3, 3, o + 5] 1 (a1 + 4)) = KW ks o [(12, [0, a1 + 4, 3, o + 5]), (0, [7])] from KW_set (i := 0) (Nat.succ_pos _)]
  refine oj_aload_n 0 dX7_init_22 rfl rfl ?_
  refine oj_aload_n 2 dX7_init_23 rfl rfl ?_
  refine oj_putr fl_RX7_23 (Or.inr ⟨rfl, RX7, TX7, 4, rfl, rfl⟩) (KW_is (i := 0) (L := [(12, [0, a1 + 4, 3, o + 5]), (0, [7])]) rfl (by simp; omega)) (KW_lo (L := [(12, [0, a1 + 4, 3, o + 5]), (0, [7])]) h2 l2 (by simp; omega)) (by show 2 < 4; decide) (fun _ => rfl) (fun _ => rfl) dX7_init_24 ?_
  rw [show ku (KW ks o [(12, [0, a1 + 4, 3, o + 5]), (0, [7])]) o (12, List.set [0, a1 + 4, 3, o + 5] 2 (a2 + 4)) = KW ks o [(12, [0, a1 + 4, a2 + 4, o + 5]), (0, [7])] from KW_set (i := 0) (Nat.succ_pos _)]
  exact oj_ret (r := none) ⟨trivial, rfl, rfl, rfl, rfl⟩ dX7_init_27 (by decide) (by decide)
theorem cs_700 : (Int16.ofInt (700)).toInt32 = (700 : Int32) := by decide
set_option maxHeartbeats 1000000 in
theorem I9 {ks : Nat → ob_K} {o : Nat} {h : ob_H} (hz : Fz o h) (hn : o + 10 ≤ 100000) {a1 : Nat} {c1 : ob_K} {m1 : Nat} (h1 : ob_is ks m1 a1 c1) (l1 : a1 < o) {a2 : Nat} {c2 : ob_K} {m2 : Nat} (h2 : ob_is ks m2 a2 c2) (l2 : a2 < o) : ob_T yX9_init cX9_init 3 none { frames := 1, cells := 8, slots := 958, locals := 40 } (KW ks o [(14, [0, 0, 0, 0, 3, 3, 3, 3, 3, 3, 3, 3, 0, 3, 3])]) (o + 1) h [.ref o, .ref a1, .ref a2] (fun r ks' n' h' => r = none ∧ ks' = KW ks o [(14, [0, 0, 0, 0, a1 + 4, a2 + 4, o + 5, o + 6, o + 7, o + 8, o + 9, o + 10, 0, o + 11, o + 12]), (0, [30]), (0, [30]), (3, [30]), (0, [30]), (0, [30]), (0, [700]), (3, [100]), (0, [8])] ∧ n' = o + 9 ∧ h' = h) := by
  refine ob_T_of (ini := true) (by decide +kernel) (fun _ => rfl) (Nat.le_of_ble_eq_true rfl) ?_
  show ob_J RX9 cX9_init 3 { frames := 1, cells := 8, slots := 958, locals := 40 } true none 0 0 (KW ks o [(14, [0, 0, 0, 0, 3, 3, 3, 3, 3, 3, 3, 3, 0, 3, 3])]) (o + 1) h 0 [(0, .ref o), (1, .ref a1), (2, .ref a2)] [] _
  refine oj_aload_n 0 dX9_init_0 rfl rfl ?_
  refine oj_objInit (KW_is (i := 0) (L := [(14, [0, 0, 0, 0, 3, 3, 3, 3, 3, 3, 3, 3, 0, 3, 3])]) rfl (by simpa using (by omega : o + 1 ≤ 100000))) ow_490 ow_27 ow_28 (by decide) (by decide) rfl dX9_init_1 ?_
  refine oj_aload_n 0 dX9_init_4 rfl rfl ?_
  refine oj_iconst dX9_init_5 ci_0 ?_
  refine oj_puti fl_RX9_11 (Or.inl rfl) (KW_is (i := 0) (L := [(14, [0, 0, 0, 0, 3, 3, 3, 3, 3, 3, 3, 3, 0, 3, 3])]) rfl (by simp; omega)) rfl rfl rfl dX9_init_6 ?_
  rw [h_same (hz o (Nat.le_refl _) 0).1]
  refine oj_aload_n 0 dX9_init_9 rfl rfl ?_
  refine oj_iconst dX9_init_10 ci_0 ?_
  refine oj_puti fl_RX9_17 (Or.inl rfl) (KW_is (i := 0) (L := [(14, [0, 0, 0, 0, 3, 3, 3, 3, 3, 3, 3, 3, 0, 3, 3])]) rfl (by simp; omega)) rfl rfl rfl dX9_init_11 ?_
  rw [h_same (hz o (Nat.le_refl _) 1).1]
  refine oj_aload_n 0 dX9_init_14 rfl rfl ?_
  refine oj_iconst dX9_init_15 ci_0 ?_
  refine oj_puti fl_RX9_20 (Or.inl rfl) (KW_is (i := 0) (L := [(14, [0, 0, 0, 0, 3, 3, 3, 3, 3, 3, 3, 3, 0, 3, 3])]) rfl (by simp; omega)) rfl rfl rfl dX9_init_16 ?_
  rw [h_same (hz o (Nat.le_refl _) 2).1]
  refine oj_aload_n 0 dX9_init_19 rfl rfl ?_
  refine oj_iconst dX9_init_20 ci_0 ?_
  refine oj_puti fl_RX9_23 (Or.inl rfl) (KW_is (i := 0) (L := [(14, [0, 0, 0, 0, 3, 3, 3, 3, 3, 3, 3, 3, 0, 3, 3])]) rfl (by simp; omega)) rfl rfl rfl dX9_init_21 ?_
  rw [h_same (hz o (Nat.le_refl _) 3).1]
  refine oj_aload_n 0 dX9_init_24 rfl rfl ?_
  refine oj_bipush dX9_init_25 cb_30 ?_
  refine oj_newa_i (N := 30) ow_152 (by decide) rfl (by decide) (fun k => (hz (o + 1) (by omega) k).1) (by omega) (by decide) (by decide) dX9_init_27 ?_
  rw [show ku (KW ks o [(14, [0, 0, 0, 0, 3, 3, 3, 3, 3, 3, 3, 3, 0, 3, 3])]) (o + 1) (0, [30]) = KW ks o [(14, [0, 0, 0, 0, 3, 3, 3, 3, 3, 3, 3, 3, 0, 3, 3]), (0, [30])] from KW_push]
  refine oj_putr fl_RX9_26 (Or.inr ⟨rfl, RX9, TX9, 15, rfl, rfl⟩) (KW_is (i := 0) (L := [(14, [0, 0, 0, 0, 3, 3, 3, 3, 3, 3, 3, 3, 0, 3, 3]), (0, [30])]) rfl (by simp; omega)) (KW_is (i := 1) (L := [(14, [0, 0, 0, 0, 3, 3, 3, 3, 3, 3, 3, 3, 0, 3, 3]), (0, [30])]) rfl (by simp; omega)) (by show 6 < 15; decide) (fun _ => rfl) (fun _ => rfl) dX9_init_29 ?_
  rw [show ku (KW ks o [(14, [0, 0, 0, 0, 3, 3, 3, 3, 3, 3, 3, 3, 0, 3, 3]), (0, [30])]) o (14, List.set [0, 0, 0, 0, 3, 3, 3, 3, 3, 3, 3, 3, 0, 3, 3] 6 (o + 1 + 4)) = KW ks o [(14, [0, 0, 0, 0, 3, 3, o + 5, 3, 3, 3, 3, 3, 0, 3, 3]), (0, [30])] from KW_set (i := 0) (Nat.succ_pos _)]
  refine oj_aload_n 0 dX9_init_32 rfl rfl ?_
  refine oj_bipush dX9_init_33 cb_30 ?_
  refine oj_newa_i (N := 30) ow_152 (by decide) rfl (by decide) (fun k => (hz (o + 2) (by omega) k).1) (by omega) (by decide) (by decide) dX9_init_35 ?_
  rw [show ku (KW ks o [(14, [0, 0, 0, 0, 3, 3, o + 5, 3, 3, 3, 3, 3, 0, 3, 3]), (0, [30])]) (o + 2) (0, [30]) = KW ks o [(14, [0, 0, 0, 0, 3, 3, o + 5, 3, 3, 3, 3, 3, 0, 3, 3]), (0, [30]), (0, [30])] from KW_push]
  refine oj_putr fl_RX9_30 (Or.inr ⟨rfl, RX9, TX9, 15, rfl, rfl⟩) (KW_is (i := 0) (L := [(14, [0, 0, 0, 0, 3, 3, o + 5, 3, 3, 3, 3, 3, 0, 3, 3]), (0, [30]), (0, [30])]) rfl (by simp; omega)) (KW_is (i := 2) (L := [(14, [0, 0, 0, 0, 3, 3, o + 5, 3, 3, 3, 3, 3, 0, 3, 3]), (0, [30]), (0, [30])]) rfl (by simp; omega)) (by show 7 < 15; decide) (fun _ => rfl) (fun _ => rfl) dX9_init_37 ?_
  rw [show ku (KW ks o [(14, [0, 0, 0, 0, 3, 3, o + 5, 3, 3, 3, 3, 3, 0, 3, 3]), (0, [30]), (0, [30])]) o (14, List.set [0, 0, 0, 0, 3, 3, o + 5, 3, 3, 3, 3, 3, 0, 3, 3] 7 (o + 2 + 4)) = KW ks o [(14, [0, 0, 0, 0, 3, 3, o + 5, o + 6, 3, 3, 3, 3, 0, 3, 3]), (0, [30]), (0, [30])] from KW_set (i := 0) (Nat.succ_pos _)]
  refine oj_aload_n 0 dX9_init_40 rfl rfl ?_
  refine oj_bipush dX9_init_41 cb_30 ?_
  refine oj_newa_z (N := 30) ow_541 (by decide) rfl (by decide) (fun k => (hz (o + 3) (by omega) k).1) (by omega) (by decide) (by decide) dX9_init_43 ?_
  rw [show ku (KW ks o [(14, [0, 0, 0, 0, 3, 3, o + 5, o + 6, 3, 3, 3, 3, 0, 3, 3]), (0, [30]), (0, [30])]) (o + 3) (3, [30]) = KW ks o [(14, [0, 0, 0, 0, 3, 3, o + 5, o + 6, 3, 3, 3, 3, 0, 3, 3]), (0, [30]), (0, [30]), (3, [30])] from KW_push]
  refine oj_putr fl_RX9_33 (Or.inr ⟨rfl, RX9, TX9, 15, rfl, rfl⟩) (KW_is (i := 0) (L := [(14, [0, 0, 0, 0, 3, 3, o + 5, o + 6, 3, 3, 3, 3, 0, 3, 3]), (0, [30]), (0, [30]), (3, [30])]) rfl (by simp; omega)) (KW_is (i := 3) (L := [(14, [0, 0, 0, 0, 3, 3, o + 5, o + 6, 3, 3, 3, 3, 0, 3, 3]), (0, [30]), (0, [30]), (3, [30])]) rfl (by simp; omega)) (by show 8 < 15; decide) (fun _ => rfl) (fun _ => rfl) dX9_init_45 ?_
  rw [show ku (KW ks o [(14, [0, 0, 0, 0, 3, 3, o + 5, o + 6, 3, 3, 3, 3, 0, 3, 3]), (0, [30]), (0, [30]), (3, [30])]) o (14, List.set [0, 0, 0, 0, 3, 3, o + 5, o + 6, 3, 3, 3, 3, 0, 3, 3] 8 (o + 3 + 4)) = KW ks o [(14, [0, 0, 0, 0, 3, 3, o + 5, o + 6, o + 7, 3, 3, 3, 0, 3, 3]), (0, [30]), (0, [30]), (3, [30])] from KW_set (i := 0) (Nat.succ_pos _)]
  refine oj_aload_n 0 dX9_init_48 rfl rfl ?_
  refine oj_bipush dX9_init_49 cb_30 ?_
  refine oj_newa_i (N := 30) ow_152 (by decide) rfl (by decide) (fun k => (hz (o + 4) (by omega) k).1) (by omega) (by decide) (by decide) dX9_init_51 ?_
  rw [show ku (KW ks o [(14, [0, 0, 0, 0, 3, 3, o + 5, o + 6, o + 7, 3, 3, 3, 0, 3, 3]), (0, [30]), (0, [30]), (3, [30])]) (o + 4) (0, [30]) = KW ks o [(14, [0, 0, 0, 0, 3, 3, o + 5, o + 6, o + 7, 3, 3, 3, 0, 3, 3]), (0, [30]), (0, [30]), (3, [30]), (0, [30])] from KW_push]
  refine oj_putr fl_RX9_37 (Or.inr ⟨rfl, RX9, TX9, 15, rfl, rfl⟩) (KW_is (i := 0) (L := [(14, [0, 0, 0, 0, 3, 3, o + 5, o + 6, o + 7, 3, 3, 3, 0, 3, 3]), (0, [30]), (0, [30]), (3, [30]), (0, [30])]) rfl (by simp; omega)) (KW_is (i := 4) (L := [(14, [0, 0, 0, 0, 3, 3, o + 5, o + 6, o + 7, 3, 3, 3, 0, 3, 3]), (0, [30]), (0, [30]), (3, [30]), (0, [30])]) rfl (by simp; omega)) (by show 9 < 15; decide) (fun _ => rfl) (fun _ => rfl) dX9_init_53 ?_
  rw [show ku (KW ks o [(14, [0, 0, 0, 0, 3, 3, o + 5, o + 6, o + 7, 3, 3, 3, 0, 3, 3]), (0, [30]), (0, [30]), (3, [30]), (0, [30])]) o (14, List.set [0, 0, 0, 0, 3, 3, o + 5, o + 6, o + 7, 3, 3, 3, 0, 3, 3] 9 (o + 4 + 4)) = KW ks o [(14, [0, 0, 0, 0, 3, 3, o + 5, o + 6, o + 7, o + 8, 3, 3, 0, 3, 3]), (0, [30]), (0, [30]), (3, [30]), (0, [30])] from KW_set (i := 0) (Nat.succ_pos _)]
  refine oj_aload_n 0 dX9_init_56 rfl rfl ?_
  refine oj_bipush dX9_init_57 cb_30 ?_
  refine oj_newa_i (N := 30) ow_152 (by decide) rfl (by decide) (fun k => (hz (o + 5) (by omega) k).1) (by omega) (by decide) (by decide) dX9_init_59 ?_
  rw [show ku (KW ks o [(14, [0, 0, 0, 0, 3, 3, o + 5, o + 6, o + 7, o + 8, 3, 3, 0, 3, 3]), (0, [30]), (0, [30]), (3, [30]), (0, [30])]) (o + 5) (0, [30]) = KW ks o [(14, [0, 0, 0, 0, 3, 3, o + 5, o + 6, o + 7, o + 8, 3, 3, 0, 3, 3]), (0, [30]), (0, [30]), (3, [30]), (0, [30]), (0, [30])] from KW_push]
  refine oj_putr fl_RX9_40 (Or.inr ⟨rfl, RX9, TX9, 15, rfl, rfl⟩) (KW_is (i := 0) (L := [(14, [0, 0, 0, 0, 3, 3, o + 5, o + 6, o + 7, o + 8, 3, 3, 0, 3, 3]), (0, [30]), (0, [30]), (3, [30]), (0, [30]), (0, [30])]) rfl (by simp; omega)) (KW_is (i := 5) (L := [(14, [0, 0, 0, 0, 3, 3, o + 5, o + 6, o + 7, o + 8, 3, 3, 0, 3, 3]), (0, [30]), (0, [30]), (3, [30]), (0, [30]), (0, [30])]) rfl (by simp; omega)) (by show 10 < 15; decide) (fun _ => rfl) (fun _ => rfl) dX9_init_61 ?_
  rw [show ku (KW ks o [(14, [0, 0, 0, 0, 3, 3, o + 5, o + 6, o + 7, o + 8, 3, 3, 0, 3, 3]), (0, [30]), (0, [30]), (3, [30]), (0, [30]), (0, [30])]) o (14, List.set [0, 0, 0, 0, 3, 3, o + 5, o + 6, o + 7, o + 8, 3, 3, 0, 3, 3] 10 (o + 5 + 4)) = KW ks o [(14, [0, 0, 0, 0, 3, 3, o + 5, o + 6, o + 7, o + 8, o + 9, 3, 0, 3, 3]), (0, [30]), (0, [30]), (3, [30]), (0, [30]), (0, [30])] from KW_set (i := 0) (Nat.succ_pos _)]
  refine oj_aload_n 0 dX9_init_64 rfl rfl ?_
  refine oj_sipush dX9_init_65 cs_700 ?_
  refine oj_newa_i (N := 700) ow_152 (by decide) rfl (by decide) (fun k => (hz (o + 6) (by omega) k).1) (by omega) (by decide) (by decide) dX9_init_68 ?_
  rw [show ku (KW ks o [(14, [0, 0, 0, 0, 3, 3, o + 5, o + 6, o + 7, o + 8, o + 9, 3, 0, 3, 3]), (0, [30]), (0, [30]), (3, [30]), (0, [30]), (0, [30])]) (o + 6) (0, [700]) = KW ks o [(14, [0, 0, 0, 0, 3, 3, o + 5, o + 6, o + 7, o + 8, o + 9, 3, 0, 3, 3]), (0, [30]), (0, [30]), (3, [30]), (0, [30]), (0, [30]), (0, [700])] from KW_push]
  refine oj_putr fl_RX9_43 (Or.inr ⟨rfl, RX9, TX9, 15, rfl, rfl⟩) (KW_is (i := 0) (L := [(14, [0, 0, 0, 0, 3, 3, o + 5, o + 6, o + 7, o + 8, o + 9, 3, 0, 3, 3]), (0, [30]), (0, [30]), (3, [30]), (0, [30]), (0, [30]), (0, [700])]) rfl (by simp; omega)) (KW_is (i := 6) (L := [(14, [0, 0, 0, 0, 3, 3, o + 5, o + 6, o + 7, o + 8, o + 9, 3, 0, 3, 3]), (0, [30]), (0, [30]), (3, [30]), (0, [30]), (0, [30]), (0, [700])]) rfl (by simp; omega)) (by show 11 < 15; decide) (fun _ => rfl) (fun _ => rfl) dX9_init_70 ?_
  rw [show ku (KW ks o [(14, [0, 0, 0, 0, 3, 3, o + 5, o + 6, o + 7, o + 8, o + 9, 3, 0, 3, 3]), (0, [30]), (0, [30]), (3, [30]), (0, [30]), (0, [30]), (0, [700])]) o (14, List.set [0, 0, 0, 0, 3, 3, o + 5, o + 6, o + 7, o + 8, o + 9, 3, 0, 3, 3] 11 (o + 6 + 4)) = KW ks o [(14, [0, 0, 0, 0, 3, 3, o + 5, o + 6, o + 7, o + 8, o + 9, o + 10, 0, 3, 3]), (0, [30]), (0, [30]), (3, [30]), (0, [30]), (0, [30]), (0, [700])] from KW_set (i := 0) (Nat.succ_pos _)]
  refine oj_aload_n 0 dX9_init_73 rfl rfl ?_
  refine oj_iconst dX9_init_74 ci_0 ?_
  refine oj_puti fl_RX9_46 (Or.inl rfl) (KW_is (i := 0) (L := [(14, [0, 0, 0, 0, 3, 3, o + 5, o + 6, o + 7, o + 8, o + 9, o + 10, 0, 3, 3]), (0, [30]), (0, [30]), (3, [30]), (0, [30]), (0, [30]), (0, [700])]) rfl (by simp; omega)) rfl rfl rfl dX9_init_75 ?_
  rw [h_same (hz o (Nat.le_refl _) 12).1]
  refine oj_aload_n 0 dX9_init_78 rfl rfl ?_
  refine oj_bipush dX9_init_79 cb_100 ?_
  refine oj_newa_z (N := 100) ow_541 (by decide) rfl (by decide) (fun k => (hz (o + 7) (by omega) k).1) (by omega) (by decide) (by decide) dX9_init_81 ?_
  rw [show ku (KW ks o [(14, [0, 0, 0, 0, 3, 3, o + 5, o + 6, o + 7, o + 8, o + 9, o + 10, 0, 3, 3]), (0, [30]), (0, [30]), (3, [30]), (0, [30]), (0, [30]), (0, [700])]) (o + 7) (3, [100]) = KW ks o [(14, [0, 0, 0, 0, 3, 3, o + 5, o + 6, o + 7, o + 8, o + 9, o + 10, 0, 3, 3]), (0, [30]), (0, [30]), (3, [30]), (0, [30]), (0, [30]), (0, [700]), (3, [100])] from KW_push]
  refine oj_putr fl_RX9_50 (Or.inr ⟨rfl, RX9, TX9, 15, rfl, rfl⟩) (KW_is (i := 0) (L := [(14, [0, 0, 0, 0, 3, 3, o + 5, o + 6, o + 7, o + 8, o + 9, o + 10, 0, 3, 3]), (0, [30]), (0, [30]), (3, [30]), (0, [30]), (0, [30]), (0, [700]), (3, [100])]) rfl (by simp; omega)) (KW_is (i := 7) (L := [(14, [0, 0, 0, 0, 3, 3, o + 5, o + 6, o + 7, o + 8, o + 9, o + 10, 0, 3, 3]), (0, [30]), (0, [30]), (3, [30]), (0, [30]), (0, [30]), (0, [700]), (3, [100])]) rfl (by simp; omega)) (by show 13 < 15; decide) (fun _ => rfl) (fun _ => rfl) dX9_init_83 ?_
  rw [show ku (KW ks o [(14, [0, 0, 0, 0, 3, 3, o + 5, o + 6, o + 7, o + 8, o + 9, o + 10, 0, 3, 3]), (0, [30]), (0, [30]), (3, [30]), (0, [30]), (0, [30]), (0, [700]), (3, [100])]) o (14, List.set [0, 0, 0, 0, 3, 3, o + 5, o + 6, o + 7, o + 8, o + 9, o + 10, 0, 3, 3] 13 (o + 7 + 4)) = KW ks o [(14, [0, 0, 0, 0, 3, 3, o + 5, o + 6, o + 7, o + 8, o + 9, o + 10, 0, o + 11, 3]), (0, [30]), (0, [30]), (3, [30]), (0, [30]), (0, [30]), (0, [700]), (3, [100])] from KW_set (i := 0) (Nat.succ_pos _)]
  refine oj_aload_n 0 dX9_init_86 rfl rfl ?_
  refine oj_bipush dX9_init_87 cb_8 ?_
  refine oj_newa_i (N := 8) ow_152 (by decide) rfl (by decide) (fun k => (hz (o + 8) (by omega) k).1) (by omega) (by decide) (by decide) dX9_init_89 ?_
  rw [show ku (KW ks o [(14, [0, 0, 0, 0, 3, 3, o + 5, o + 6, o + 7, o + 8, o + 9, o + 10, 0, o + 11, 3]), (0, [30]), (0, [30]), (3, [30]), (0, [30]), (0, [30]), (0, [700]), (3, [100])]) (o + 8) (0, [8]) = KW ks o [(14, [0, 0, 0, 0, 3, 3, o + 5, o + 6, o + 7, o + 8, o + 9, o + 10, 0, o + 11, 3]), (0, [30]), (0, [30]), (3, [30]), (0, [30]), (0, [30]), (0, [700]), (3, [100]), (0, [8])] from KW_push]
  refine oj_putr fl_RX9_53 (Or.inr ⟨rfl, RX9, TX9, 15, rfl, rfl⟩) (KW_is (i := 0) (L := [(14, [0, 0, 0, 0, 3, 3, o + 5, o + 6, o + 7, o + 8, o + 9, o + 10, 0, o + 11, 3]), (0, [30]), (0, [30]), (3, [30]), (0, [30]), (0, [30]), (0, [700]), (3, [100]), (0, [8])]) rfl (by simp; omega)) (KW_is (i := 8) (L := [(14, [0, 0, 0, 0, 3, 3, o + 5, o + 6, o + 7, o + 8, o + 9, o + 10, 0, o + 11, 3]), (0, [30]), (0, [30]), (3, [30]), (0, [30]), (0, [30]), (0, [700]), (3, [100]), (0, [8])]) rfl (by simp; omega)) (by show 14 < 15; decide) (fun _ => rfl) (fun _ => rfl) dX9_init_91 ?_
  rw [show ku (KW ks o [(14, [0, 0, 0, 0, 3, 3, o + 5, o + 6, o + 7, o + 8, o + 9, o + 10, 0, o + 11, 3]), (0, [30]), (0, [30]), (3, [30]), (0, [30]), (0, [30]), (0, [700]), (3, [100]), (0, [8])]) o (14, List.set [0, 0, 0, 0, 3, 3, o + 5, o + 6, o + 7, o + 8, o + 9, o + 10, 0, o + 11, 3] 14 (o + 8 + 4)) = KW ks o [(14, [0, 0, 0, 0, 3, 3, o + 5, o + 6, o + 7, o + 8, o + 9, o + 10, 0, o + 11, o + 12]), (0, [30]), (0, [30]), (3, [30]), (0, [30]), (0, [30]), (0, [700]), (3, [100]), (0, [8])] from KW_set (i := 0) (Nat.succ_pos _)]
  refine oj_aload_n 0 dX9_init_94 rfl rfl ?_
  refine oj_aload_n 1 dX9_init_95 rfl rfl ?_
  refine oj_putr fl_RX9_56 (Or.inr ⟨rfl, RX9, TX9, 15, rfl, rfl⟩) (KW_is (i := 0) (L := [(14, [0, 0, 0, 0, 3, 3, o + 5, o + 6, o + 7, o + 8, o + 9, o + 10, 0, o + 11, o + 12]), (0, [30]), (0, [30]), (3, [30]), (0, [30]), (0, [30]), (0, [700]), (3, [100]), (0, [8])]) rfl (by simp; omega)) (KW_lo (L := [(14, [0, 0, 0, 0, 3, 3, o + 5, o + 6, o + 7, o + 8, o + 9, o + 10, 0, o + 11, o + 12]), (0, [30]), (0, [30]), (3, [30]), (0, [30]), (0, [30]), (0, [700]), (3, [100]), (0, [8])]) h1 l1 (by simp; omega)) (by show 4 < 15; decide) (fun _ => rfl) (fun _ => rfl) dX9_init_96 ?_
  rw [show ku (KW ks o [(14, [0, 0, 0, 0, 3, 3, o + 5, o + 6, o + 7, o + 8, o + 9, o + 10, 0, o + 11, o + 12]), (0, [30]), (0, [30]), (3, [30]), (0, [30]), (0, [30]), (0, [700]), (3, [100]), (0, [8])]) o (14, List.set [0, 0, 0, 0, 3, 3, o + 5, o + 6, o + 7, o + 8, o + 9, o + 10, 0, o + 11, o + 12] 4 (a1 + 4)) = KW ks o [(14, [0, 0, 0, 0, a1 + 4, 3, o + 5, o + 6, o + 7, o + 8, o + 9, o + 10, 0, o + 11, o + 12]), (0, [30]), (0, [30]), (3, [30]), (0, [30]), (0, [30]), (0, [700]), (3, [100]), (0, [8])] from KW_set (i := 0) (Nat.succ_pos _)]
  refine oj_aload_n 0 dX9_init_99 rfl rfl ?_
  refine oj_aload_n 2 dX9_init_100 rfl rfl ?_
  refine oj_putr fl_RX9_60 (Or.inr ⟨rfl, RX9, TX9, 15, rfl, rfl⟩) (KW_is (i := 0) (L := [(14, [0, 0, 0, 0, a1 + 4, 3, o + 5, o + 6, o + 7, o + 8, o + 9, o + 10, 0, o + 11, o + 12]), (0, [30]), (0, [30]), (3, [30]), (0, [30]), (0, [30]), (0, [700]), (3, [100]), (0, [8])]) rfl (by simp; omega)) (KW_lo (L := [(14, [0, 0, 0, 0, a1 + 4, 3, o + 5, o + 6, o + 7, o + 8, o + 9, o + 10, 0, o + 11, o + 12]), (0, [30]), (0, [30]), (3, [30]), (0, [30]), (0, [30]), (0, [700]), (3, [100]), (0, [8])]) h2 l2 (by simp; omega)) (by show 5 < 15; decide) (fun _ => rfl) (fun _ => rfl) dX9_init_101 ?_
  rw [show ku (KW ks o [(14, [0, 0, 0, 0, a1 + 4, 3, o + 5, o + 6, o + 7, o + 8, o + 9, o + 10, 0, o + 11, o + 12]), (0, [30]), (0, [30]), (3, [30]), (0, [30]), (0, [30]), (0, [700]), (3, [100]), (0, [8])]) o (14, List.set [0, 0, 0, 0, a1 + 4, 3, o + 5, o + 6, o + 7, o + 8, o + 9, o + 10, 0, o + 11, o + 12] 5 (a2 + 4)) = KW ks o [(14, [0, 0, 0, 0, a1 + 4, a2 + 4, o + 5, o + 6, o + 7, o + 8, o + 9, o + 10, 0, o + 11, o + 12]), (0, [30]), (0, [30]), (3, [30]), (0, [30]), (0, [30]), (0, [700]), (3, [100]), (0, [8])] from KW_set (i := 0) (Nat.succ_pos _)]
  exact oj_ret (r := none) ⟨trivial, rfl, rfl, rfl, rfl⟩ dX9_init_104 (by decide) (by decide)
set_option maxHeartbeats 1000000 in
theorem I0 {ks : Nat → ob_K} {o : Nat} {h : ob_H} (hz : Fz o h) (hn : o + 2 ≤ 100000) {a1 : Nat} {c1 : ob_K} {m1 : Nat} (h1 : ob_is ks m1 a1 c1) (l1 : a1 < o) {a2 : Nat} {c2 : ob_K} {m2 : Nat} (h2 : ob_is ks m2 a2 c2) (l2 : a2 < o) {a3 : Nat} {c3 : ob_K} {m3 : Nat} (h3 : ob_is ks m3 a3 c3) (l3 : a3 < o) : ob_T yX0_init cX0_init 4 none { frames := 1, cells := 0, slots := 0, locals := 40 } (KW ks o [(5, [0, 0, 0, 0, 0, 3, 3, 3])]) (o + 1) h [.ref o, .ref a1, .ref a2, .ref a3] (fun r ks' n' h' => r = none ∧ ks' = KW ks o [(5, [0, 0, 0, 0, 0, a1 + 4, a2 + 4, a3 + 4])] ∧ n' = o + 1 ∧ h' = h) := by
  refine ob_T_of (ini := true) (by decide +kernel) (fun _ => rfl) (Nat.le_of_ble_eq_true rfl) ?_
  show ob_J RX0 cX0_init 4 { frames := 1, cells := 0, slots := 0, locals := 40 } true none 0 0 (KW ks o [(5, [0, 0, 0, 0, 0, 3, 3, 3])]) (o + 1) h 0 [(0, .ref o), (1, .ref a1), (2, .ref a2), (3, .ref a3)] [] _
  refine oj_aload_n 0 dX0_init_0 rfl rfl ?_
  refine oj_objInit (KW_is (i := 0) (L := [(5, [0, 0, 0, 0, 0, 3, 3, 3])]) rfl (by simpa using (by omega : o + 1 ≤ 100000))) ow_404 ow_27 ow_28 (by decide) (by decide) rfl dX0_init_1 ?_
  refine oj_aload_n 0 dX0_init_4 rfl rfl ?_
  refine oj_iconst dX0_init_5 ci_0 ?_
  refine oj_puti fl_RX0_9 (Or.inl rfl) (KW_is (i := 0) (L := [(5, [0, 0, 0, 0, 0, 3, 3, 3])]) rfl (by simp; omega)) rfl rfl rfl dX0_init_6 ?_
  rw [h_same (hz o (Nat.le_refl _) 0).1]
  refine oj_aload_n 0 dX0_init_9 rfl rfl ?_
  refine oj_iconst dX0_init_10 ci_0 ?_
  refine oj_puti fl_RX0_15 (Or.inl rfl) (KW_is (i := 0) (L := [(5, [0, 0, 0, 0, 0, 3, 3, 3])]) rfl (by simp; omega)) rfl rfl rfl dX0_init_11 ?_
  rw [h_same (hz o (Nat.le_refl _) 1).1]
  refine oj_aload_n 0 dX0_init_14 rfl rfl ?_
  refine oj_iconst dX0_init_15 ci_0 ?_
  refine oj_puti fl_RX0_18 (Or.inl rfl) (KW_is (i := 0) (L := [(5, [0, 0, 0, 0, 0, 3, 3, 3])]) rfl (by simp; omega)) rfl rfl rfl dX0_init_16 ?_
  rw [h_same (hz o (Nat.le_refl _) 2).1]
  refine oj_aload_n 0 dX0_init_19 rfl rfl ?_
  refine oj_iconst dX0_init_20 ci_0 ?_
  refine oj_puti fl_RX0_21 (Or.inl rfl) (KW_is (i := 0) (L := [(5, [0, 0, 0, 0, 0, 3, 3, 3])]) rfl (by simp; omega)) rfl rfl rfl dX0_init_21 ?_
  rw [h_same (hz o (Nat.le_refl _) 3).1]
  refine oj_aload_n 0 dX0_init_24 rfl rfl ?_
  refine oj_iconst dX0_init_25 ci_0 ?_
  refine oj_puti fl_RX0_24 (Or.inl rfl) (KW_is (i := 0) (L := [(5, [0, 0, 0, 0, 0, 3, 3, 3])]) rfl (by simp; omega)) rfl rfl rfl dX0_init_26 ?_
  rw [h_same (hz o (Nat.le_refl _) 4).1]
  refine oj_aload_n 0 dX0_init_29 rfl rfl ?_
  refine oj_aload_n 1 dX0_init_30 rfl rfl ?_
  refine oj_putr fl_RX0_27 (Or.inr ⟨rfl, RX0, TX0, 8, rfl, rfl⟩) (KW_is (i := 0) (L := [(5, [0, 0, 0, 0, 0, 3, 3, 3])]) rfl (by simp; omega)) (KW_lo (L := [(5, [0, 0, 0, 0, 0, 3, 3, 3])]) h1 l1 (by simp; omega)) (by show 5 < 8; decide) (fun _ => rfl) (fun _ => rfl) dX0_init_31 ?_
  rw [show ku (KW ks o [(5, [0, 0, 0, 0, 0, 3, 3, 3])]) o (5, List.set [0, 0, 0, 0, 0, 3, 3, 3] 5 (a1 + 4)) = KW ks o [(5, [0, 0, 0, 0, 0, a1 + 4, 3, 3])] from KW_set (i := 0) (Nat.succ_pos _)]
  refine oj_aload_n 0 dX0_init_34 rfl rfl ?_
  refine oj_aload_n 2 dX0_init_35 rfl rfl ?_
  refine oj_putr fl_RX0_31 (Or.inr ⟨rfl, RX0, TX0, 8, rfl, rfl⟩) (KW_is (i := 0) (L := [(5, [0, 0, 0, 0, 0, a1 + 4, 3, 3])]) rfl (by simp; omega)) (KW_lo (L := [(5, [0, 0, 0, 0, 0, a1 + 4, 3, 3])]) h2 l2 (by simp; omega)) (by show 6 < 8; decide) (fun _ => rfl) (fun _ => rfl) dX0_init_36 ?_
  rw [show ku (KW ks o [(5, [0, 0, 0, 0, 0, a1 + 4, 3, 3])]) o (5, List.set [0, 0, 0, 0, 0, a1 + 4, 3, 3] 6 (a2 + 4)) = KW ks o [(5, [0, 0, 0, 0, 0, a1 + 4, a2 + 4, 3])] from KW_set (i := 0) (Nat.succ_pos _)]
  refine oj_aload_n 0 dX0_init_39 rfl rfl ?_
  refine oj_aload_n 3 dX0_init_40 rfl rfl ?_
  refine oj_putr fl_RX0_35 (Or.inr ⟨rfl, RX0, TX0, 8, rfl, rfl⟩) (KW_is (i := 0) (L := [(5, [0, 0, 0, 0, 0, a1 + 4, a2 + 4, 3])]) rfl (by simp; omega)) (KW_lo (L := [(5, [0, 0, 0, 0, 0, a1 + 4, a2 + 4, 3])]) h3 l3 (by simp; omega)) (by show 7 < 8; decide) (fun _ => rfl) (fun _ => rfl) dX0_init_41 ?_
  rw [show ku (KW ks o [(5, [0, 0, 0, 0, 0, a1 + 4, a2 + 4, 3])]) o (5, List.set [0, 0, 0, 0, 0, a1 + 4, a2 + 4, 3] 7 (a3 + 4)) = KW ks o [(5, [0, 0, 0, 0, 0, a1 + 4, a2 + 4, a3 + 4])] from KW_set (i := 0) (Nat.succ_pos _)]
  exact oj_ret (r := none) ⟨trivial, rfl, rfl, rfl, rfl⟩ dX0_init_44 (by decide) (by decide)
theorem cs_984 : (Int16.ofInt (984)).toInt32 = (984 : Int32) := by decide
theorem cb_72 : (Int8.ofInt (72)).toInt32 = (72 : Int32) := by decide
set_option maxHeartbeats 1000000 in
theorem I1 {ks : Nat → ob_K} {o : Nat} {h : ob_H} (hz : Fz o h) (hn : o + 4 ≤ 100000) {a1 : Nat} {c1 : ob_K} {m1 : Nat} (h1 : ob_is ks m1 a1 c1) (l1 : a1 < o) : ob_T yX1_init cX1_init 2 none { frames := 1, cells := 2, slots := 1056, locals := 40 } (KW ks o [(6, [0, 0, 3, 3, 0, 3, 0])]) (o + 1) h [.ref o, .ref a1] (fun r ks' n' h' => r = none ∧ ks' = KW ks o [(6, [0, 0, a1 + 4, o + 5, 0, o + 6, 0]), (0, [984]), (0, [72])] ∧ n' = o + 3 ∧ h' = h) := by
  refine ob_T_of (ini := true) (by decide +kernel) (fun _ => rfl) (Nat.le_of_ble_eq_true rfl) ?_
  show ob_J RX1 cX1_init 2 { frames := 1, cells := 2, slots := 1056, locals := 40 } true none 0 0 (KW ks o [(6, [0, 0, 3, 3, 0, 3, 0])]) (o + 1) h 0 [(0, .ref o), (1, .ref a1)] [] _
  refine oj_aload_n 0 dX1_init_0 rfl rfl ?_
  refine oj_objInit (KW_is (i := 0) (L := [(6, [0, 0, 3, 3, 0, 3, 0])]) rfl (by simpa using (by omega : o + 1 ≤ 100000))) ow_460 ow_27 ow_28 (by decide) (by decide) rfl dX1_init_1 ?_
  refine oj_aload_n 0 dX1_init_4 rfl rfl ?_
  refine oj_iconst dX1_init_5 ci_0 ?_
  refine oj_puti fl_RX1_11 (Or.inl rfl) (KW_is (i := 0) (L := [(6, [0, 0, 3, 3, 0, 3, 0])]) rfl (by simp; omega)) rfl rfl rfl dX1_init_6 ?_
  rw [h_same (hz o (Nat.le_refl _) 0).1]
  refine oj_aload_n 0 dX1_init_9 rfl rfl ?_
  refine oj_iconst dX1_init_10 ci_0 ?_
  refine oj_puti fl_RX1_15 (Or.inl rfl) (KW_is (i := 0) (L := [(6, [0, 0, 3, 3, 0, 3, 0])]) rfl (by simp; omega)) rfl rfl rfl dX1_init_11 ?_
  rw [h_same (hz o (Nat.le_refl _) 1).1]
  refine oj_aload_n 0 dX1_init_14 rfl rfl ?_
  refine oj_sipush dX1_init_15 cs_984 ?_
  refine oj_newa_i (N := 984) ow_152 (by decide) rfl (by decide) (fun k => (hz (o + 1) (by omega) k).1) (by omega) (by decide) (by decide) dX1_init_18 ?_
  rw [show ku (KW ks o [(6, [0, 0, 3, 3, 0, 3, 0])]) (o + 1) (0, [984]) = KW ks o [(6, [0, 0, 3, 3, 0, 3, 0]), (0, [984])] from KW_push]
  refine oj_putr fl_RX1_20 (Or.inr ⟨rfl, RX1, TX1, 7, rfl, rfl⟩) (KW_is (i := 0) (L := [(6, [0, 0, 3, 3, 0, 3, 0]), (0, [984])]) rfl (by simp; omega)) (KW_is (i := 1) (L := [(6, [0, 0, 3, 3, 0, 3, 0]), (0, [984])]) rfl (by simp; omega)) (by show 3 < 7; decide) (fun _ => rfl) (fun _ => rfl) dX1_init_20 ?_
  rw [show ku (KW ks o [(6, [0, 0, 3, 3, 0, 3, 0]), (0, [984])]) o (6, List.set [0, 0, 3, 3, 0, 3, 0] 3 (o + 1 + 4)) = KW ks o [(6, [0, 0, 3, o + 5, 0, 3, 0]), (0, [984])] from KW_set (i := 0) (Nat.succ_pos _)]
  refine oj_aload_n 0 dX1_init_23 rfl rfl ?_
  refine oj_iconst dX1_init_24 ci_0 ?_
  refine oj_puti fl_RX1_24 (Or.inl rfl) (KW_is (i := 0) (L := [(6, [0, 0, 3, o + 5, 0, 3, 0]), (0, [984])]) rfl (by simp; omega)) rfl rfl rfl dX1_init_25 ?_
  rw [h_same (hz o (Nat.le_refl _) 4).1]
  refine oj_aload_n 0 dX1_init_28 rfl rfl ?_
  refine oj_bipush dX1_init_29 cb_72 ?_
  refine oj_newa_i (N := 72) ow_152 (by decide) rfl (by decide) (fun k => (hz (o + 2) (by omega) k).1) (by omega) (by decide) (by decide) dX1_init_31 ?_
  rw [show ku (KW ks o [(6, [0, 0, 3, o + 5, 0, 3, 0]), (0, [984])]) (o + 2) (0, [72]) = KW ks o [(6, [0, 0, 3, o + 5, 0, 3, 0]), (0, [984]), (0, [72])] from KW_push]
  refine oj_putr fl_RX1_27 (Or.inr ⟨rfl, RX1, TX1, 7, rfl, rfl⟩) (KW_is (i := 0) (L := [(6, [0, 0, 3, o + 5, 0, 3, 0]), (0, [984]), (0, [72])]) rfl (by simp; omega)) (KW_is (i := 2) (L := [(6, [0, 0, 3, o + 5, 0, 3, 0]), (0, [984]), (0, [72])]) rfl (by simp; omega)) (by show 5 < 7; decide) (fun _ => rfl) (fun _ => rfl) dX1_init_33 ?_
  rw [show ku (KW ks o [(6, [0, 0, 3, o + 5, 0, 3, 0]), (0, [984]), (0, [72])]) o (6, List.set [0, 0, 3, o + 5, 0, 3, 0] 5 (o + 2 + 4)) = KW ks o [(6, [0, 0, 3, o + 5, 0, o + 6, 0]), (0, [984]), (0, [72])] from KW_set (i := 0) (Nat.succ_pos _)]
  refine oj_aload_n 0 dX1_init_36 rfl rfl ?_
  refine oj_iconst dX1_init_37 ci_0 ?_
  refine oj_puti fl_RX1_30 (Or.inl rfl) (KW_is (i := 0) (L := [(6, [0, 0, 3, o + 5, 0, o + 6, 0]), (0, [984]), (0, [72])]) rfl (by simp; omega)) rfl rfl rfl dX1_init_38 ?_
  rw [h_same (hz o (Nat.le_refl _) 6).1]
  refine oj_aload_n 0 dX1_init_41 rfl rfl ?_
  refine oj_aload_n 1 dX1_init_42 rfl rfl ?_
  refine oj_putr fl_RX1_33 (Or.inr ⟨rfl, RX1, TX1, 7, rfl, rfl⟩) (KW_is (i := 0) (L := [(6, [0, 0, 3, o + 5, 0, o + 6, 0]), (0, [984]), (0, [72])]) rfl (by simp; omega)) (KW_lo (L := [(6, [0, 0, 3, o + 5, 0, o + 6, 0]), (0, [984]), (0, [72])]) h1 l1 (by simp; omega)) (by show 2 < 7; decide) (fun _ => rfl) (fun _ => rfl) dX1_init_43 ?_
  rw [show ku (KW ks o [(6, [0, 0, 3, o + 5, 0, o + 6, 0]), (0, [984]), (0, [72])]) o (6, List.set [0, 0, 3, o + 5, 0, o + 6, 0] 2 (a1 + 4)) = KW ks o [(6, [0, 0, a1 + 4, o + 5, 0, o + 6, 0]), (0, [984]), (0, [72])] from KW_set (i := 0) (Nat.succ_pos _)]
  exact oj_ret (r := none) ⟨trivial, rfl, rfl, rfl, rfl⟩ dX1_init_46 (by decide) (by decide)
