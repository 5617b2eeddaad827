-- ===== the plain constructors =====
theorem h_same {h : ob_H} {o k : Nat} {v : Int32} (e : h.1 o k = v) : h_i h o k v = h := by
  refine Prod.ext ?_ rfl
  funext q j
  show (if q = o ∧ j = k then v else h.1 q j) = h.1 q j
  by_cases c : q = o ∧ j = k
  · rw [if_pos c, c.1, c.2, e]
  · rw [if_neg c]
set_option maxHeartbeats 1000000 in
theorem I4w {ks : Nat → ob_K} {o : Nat} {h : ob_H} (hz : Fz o h) (hn : o + 4 ≤ 100000) : ob_T yX4_init cX4_init 1 none { frames := 1, cells := 2, slots := 332, locals := 40 } (KW ks o [(9, [3, 0, 3])]) (o + 1) h [.ref o] (fun r ks' n' h' => r = none ∧ ks' = KW ks o [(9, [o + 5, 0, o + 6]), (0, [300]), (0, [32])] ∧ n' = o + 3 ∧ h' = h) := by
  refine ob_T_of (ini := true) (by decide +kernel) (fun _ => rfl) (Nat.le_of_ble_eq_true rfl) ?_
  show ob_J RX4 cX4_init 1 { frames := 1, cells := 2, slots := 332, locals := 40 } true none 0 0 (KW ks o [(9, [3, 0, 3])]) (o + 1) h 0 [(0, .ref o)] [] _
  refine oj_aload_n 0 dX4_init_0 rfl rfl ?_
  refine oj_objInit (KW_is (i := 0) (L := [(9, [3, 0, 3])]) rfl (by simpa using (by omega : o + 1 ≤ 100000))) ow_141 ow_27 ow_28 (by decide) (by decide) rfl dX4_init_1 ?_
  refine oj_aload_n 0 dX4_init_4 rfl rfl ?_
  refine oj_sipush dX4_init_5 cs_300 ?_
  refine oj_newa_i (N := 300) ow_152 (by decide) rfl (by decide) (fun k => (hz (o + 1) (by omega) k).1) (by omega) (by decide) (by decide) dX4_init_8 ?_
  rw [show ku (KW ks o [(9, [3, 0, 3])]) (o + 1) (0, [300]) = KW ks o [(9, [3, 0, 3]), (0, [300])] from KW_push]
  refine oj_putr fl_RX4_9 (Or.inr ⟨rfl, RX4, TX4, 3, rfl, rfl⟩) (KW_is (i := 0) (L := [(9, [3, 0, 3]), (0, [300])]) rfl (by simp; omega)) (KW_is (i := 1) (L := [(9, [3, 0, 3]), (0, [300])]) rfl (by simp; omega)) (by show 0 < 3; decide) (fun _ => rfl) (fun _ => rfl) dX4_init_10 ?_
  rw [show ku (KW ks o [(9, [3, 0, 3]), (0, [300])]) o (9, List.set [3, 0, 3] 0 (o + 1 + 4)) = KW ks o [(9, [o + 5, 0, 3]), (0, [300])] from KW_set (i := 0) (Nat.succ_pos _)]
  refine oj_aload_n 0 dX4_init_13 rfl rfl ?_
  refine oj_iconst dX4_init_14 ci_0 ?_
  refine oj_puti fl_RX4_13 (Or.inl rfl) (KW_is (i := 0) (L := [(9, [o + 5, 0, 3]), (0, [300])]) rfl (by simp; omega)) rfl rfl rfl dX4_init_15 ?_
  rw [h_same (hz o (Nat.le_refl _) 1).1]
  refine oj_aload_n 0 dX4_init_18 rfl rfl ?_
  refine oj_bipush dX4_init_19 cb_32 ?_
  refine oj_newa_i (N := 32) ow_152 (by decide) rfl (by decide) (fun k => (hz (o + 2) (by omega) k).1) (by omega) (by decide) (by decide) dX4_init_21 ?_
  rw [show ku (KW ks o [(9, [o + 5, 0, 3]), (0, [300])]) (o + 2) (0, [32]) = KW ks o [(9, [o + 5, 0, 3]), (0, [300]), (0, [32])] from KW_push]
  refine oj_putr fl_RX4_17 (Or.inr ⟨rfl, RX4, TX4, 3, rfl, rfl⟩) (KW_is (i := 0) (L := [(9, [o + 5, 0, 3]), (0, [300]), (0, [32])]) rfl (by simp; omega)) (KW_is (i := 2) (L := [(9, [o + 5, 0, 3]), (0, [300]), (0, [32])]) rfl (by simp; omega)) (by show 2 < 3; decide) (fun _ => rfl) (fun _ => rfl) dX4_init_23 ?_
  rw [show ku (KW ks o [(9, [o + 5, 0, 3]), (0, [300]), (0, [32])]) o (9, List.set [o + 5, 0, 3] 2 (o + 2 + 4)) = KW ks o [(9, [o + 5, 0, o + 6]), (0, [300]), (0, [32])] from KW_set (i := 0) (Nat.succ_pos _)]
  exact oj_ret (r := none) ⟨trivial, rfl, rfl, rfl, rfl⟩ dX4_init_26 (by decide) (by decide)
