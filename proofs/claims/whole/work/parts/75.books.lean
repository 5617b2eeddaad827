-- ===== the Book at 5 and at 20, the Reader at 4 =====
theorem cs_clear20 {h : ob_H} {Q : ob_H → Prop} (hq : ∀ h', Fr (fun q _ => 20 ≤ q ∧ q ≤ 33) h h' → (h'.1 20 0 = 0 ∧ h'.1 20 8 = 0 ∧ h'.1 20 9 = 100 ∧ h'.1 20 10 = 0 ∧ h'.1 20 11 = 0) → CF h' 28 [(1, 0)] → CF h' 31 [(0, 100)] → Q h') : MX2_clear 20 h Q := by
  unfold MX2_clear
  refine Lt_i fun y1 z1 => Lt_i fun y2 z2 => Lt_i fun y3 z3 => Lt_i fun y4 z4 => Lt_i fun y5 z5 => ?_
  have f5 : Fr (fun q k => q = 20) h y5 := by rw [z5, z4, z3, z2, z1]; refine Fr.st (Fr.st (Fr.st (Fr.st (Fr.st Fr.rf ?_) ?_) ?_) ?_) ?_ <;> rfl
  have v5 : y5.1 20 0 = 0 ∧ y5.1 20 8 = 0 ∧ y5.1 20 9 = 100 ∧ y5.1 20 10 = 0 ∧ y5.1 20 11 = 0 := by
    rw [z5, z4, z3, z2, z1]
    refine ⟨rfl, rfl, rfl, rfl, rfl⟩
  refine lo2c1 7 (by omega) (fun j h1 => Fr (fun q k => q = 25 ∨ q = 26) y5 h1) ?_ ?_ 0 (Nat.zero_le _) _ Fr.rf
  · intro k j h1 hj i1 hk
    unfold FX2_clear_28
    rw [show ix (nI j) = j from nI_clamp (by omega)]
    refine br_f (nI_ge (b := 7) hj (by decide)) ⟨vp_in_nI (by omega) (by omega), Lt_i fun u1 w1 => Lt_i fun u2 w2 => Lt_eq (nI_1 _) (hk _ ?_)⟩
    rw [w2, w1]; exact (i1.st (by omega)).st (by omega)
  · intro k h1 i1
    unfold FX2_clear_28
    refine br_t (nI_le (a := 7) (Nat.le_refl _) (by decide)) ?_
    refine lo2c1 49 (by omega) (fun j h2 => Fr (fun q k => q = 27) h1 h2) ?_ ?_ 0 (Nat.zero_le _) _ Fr.rf
    · intro k j h2 hj j1 hk
      unfold FX2_clear_56
      rw [show ix (nI j) = j from nI_clamp (by omega)]
      refine br_f (nI_ge (b := 49) hj (by decide)) ⟨vp_in_nI (by omega) (by omega), Lt_i fun u1 w1 => Lt_eq (nI_1 _) (hk _ ?_)⟩
      rw [w1]; exact Fr.st (P := fun q k => q = 27) j1 rfl
    · intro k h2 j1
      unfold FX2_clear_56 MX4_clear
      refine br_t (nI_le (a := 49) (Nat.le_refl _) (by decide)) (Lt_i fun u1 w1 => ?_)
      have c1 : CF u1 28 [] := ⟨by rw [w1]; rfl, fun k hk => absurd hk (Nat.not_lt_zero _)⟩
      refine cs_add (s := (1, 0)) c1 (by decide) (by decide) fun u2 g2 c2 => Lt_i fun u3 w3 => ?_
      have c3 : CF u3 31 [] := ⟨by rw [w3]; rfl, fun k hk => absurd hk (Nat.not_lt_zero _)⟩
      refine cs_add (s := (0, 100)) c3 (by decide) (by decide) fun u4 g4 c4 => ?_
      have e1 : ∀ q k, q ≠ 28 → q ≠ 29 → q ≠ 31 → q ≠ 32 → u4.1 q k = h2.1 q k := fun q k n1 n2 n3 n4 => by rw [g4.i (by omega), w3, h_i_1, if_neg (by omega), g2.i (by omega), w1, h_i_1, if_neg (by omega)]
      refine hq u4 ?_ ?_ ?_ c4
      · refine Fr.tr (h1 := u3) ?_ (g4.mono fun q k p => by omega)
        rw [w3]
        refine Fr.st (Fr.tr (h1 := u1) ?_ (g2.mono fun q k p => by omega)) (by omega)
        rw [w1]
        exact (((f5.mono fun q k p => by omega).tr (i1.mono fun q k p => by omega)).tr (j1.mono fun q k p => by omega)).st (by omega)
      · have e5 : ∀ k, u4.1 20 k = y5.1 20 k := fun k => by rw [e1 _ _ (by omega) (by omega) (by omega) (by omega), j1.i (by omega), i1.i (by omega)]
        rw [e5, e5, e5, e5, e5]; exact v5
      · exact c2.fr2 fun q k z => by rw [g4.i (by omega), w3, h_i_1, if_neg (by omega)]
theorem Fz.fr {n m a b : Nat} {h h' : ob_H} (z : Fz n h) (f : Fr (fun q _ => a ≤ q ∧ q ≤ b) h h') (hm : b < m) (hn : n ≤ m) : Fz m h' := fun q hq k => by
  have d : ¬ (a ≤ q ∧ q ≤ b) := by omega
  refine ⟨?_, ?_⟩
  · rw [f.i d]; exact (z q (by omega) k).1
  · rw [f.l d]; exact (z q (by omega) k).2
theorem mi_RX2_57 : ob_mi RX2 57 yX2_clear cX2_clear 2 none 0 := ⟨ow_153, ow_8, ow_156, by decide +kernel⟩
set_option maxHeartbeats 1000000 in
theorem I2_5 {ks : Nat → ob_K} {h : ob_H} (hz : Fz 5 h) {Q : ob_H → Prop} (y : MX2_clear 5 (h_i h 5 9 100) Q) : ob_T yX2_init cX2_init 1 none { frames := 3, cells := 13, slots := 761, locals := 101 } (KW ks 5 [(7, [0, 3, 3, 3, 3, 3, 3, 3, 0, 0, 0, 0, 3, 3])]) 6 h [.ref 5] (fun r ks' n' h' => r = none ∧ ks' = KW ks 5 [(7, [0, 10, 11, 12, 13, 14, 15, 16, 0, 0, 0, 0, 17, 20]), (0, [7]), (0, [7]), (0, [7]), (0, [7]), (0, [7]), (0, [7]), (0, [49]), (9, [18, 0, 19]), (0, [300]), (0, [32]), (9, [21, 0, 22]), (0, [300]), (0, [32])] ∧ n' = 19 ∧ Q h') := by
  refine ob_T_of (ini := true) (by decide +kernel) (fun _ => rfl) (Nat.le_of_ble_eq_true rfl) ?_
  show ob_J RX2 cX2_init 1 { frames := 3, cells := 13, slots := 761, locals := 101 } true none 0 0 (KW ks 5 [(7, [0, 3, 3, 3, 3, 3, 3, 3, 0, 0, 0, 0, 3, 3])]) 6 h 0 [(0, .ref 5)] [] _
  refine oj_aload_n 0 dX2_init_0 rfl rfl ?_
  refine oj_objInit (KW_at (i := 0) (L := [(7, [0, 3, 3, 3, 3, 3, 3, 3, 0, 0, 0, 0, 3, 3])]) rfl (by decide) (by decide) (by decide)) ow_135 ow_27 ow_28 (by decide) (by decide) rfl dX2_init_1 ?_
  refine oj_aload_n 0 dX2_init_4 rfl rfl ?_
  refine oj_iconst dX2_init_5 ci_0 ?_
  refine oj_puti fl_RX2_7 (Or.inl rfl) (KW_at (i := 0) (L := [(7, [0, 3, 3, 3, 3, 3, 3, 3, 0, 0, 0, 0, 3, 3])]) rfl (by decide) (by decide) (by decide)) rfl rfl rfl dX2_init_6 ?_
  rw [h_same ((hz) 5 (Nat.le_refl _) 0).1]
  refine oj_aload_n 0 dX2_init_9 rfl rfl ?_
  refine oj_bipush dX2_init_10 cb_7 ?_
  refine oj_newa_i (N := 7) ow_152 (by decide) rfl (by decide) (fun k => ((hz.up (m := 6) (by decide)) 6 (Nat.le_refl _) k).1) (by decide) (by decide) (by decide) dX2_init_12 ?_
  refine oj_kn (ks' := KW ks 5 [(7, [0, 3, 3, 3, 3, 3, 3, 3, 0, 0, 0, 0, 3, 3]), (0, [7])]) (n' := 7) (KW_pushN (by decide) rfl) rfl ?_
  refine oj_putr fl_RX2_13 (Or.inr ⟨rfl, RX2, TX2, 14, rfl, rfl⟩) (KW_at (i := 0) (L := [(7, [0, 3, 3, 3, 3, 3, 3, 3, 0, 0, 0, 0, 3, 3]), (0, [7])]) rfl (by decide) (by decide) (by decide)) (KW_at (i := 1) (L := [(7, [0, 3, 3, 3, 3, 3, 3, 3, 0, 0, 0, 0, 3, 3]), (0, [7])]) rfl (by decide) (by decide) (by decide)) (by decide) (fun _ => rfl) (fun _ => rfl) dX2_init_14 ?_
  refine oj_kn (ks' := KW ks 5 [(7, [0, 10, 3, 3, 3, 3, 3, 3, 0, 0, 0, 0, 3, 3]), (0, [7])]) (n' := 7) (KW_setN (i := 0) (by decide) (by decide) rfl) rfl ?_
  refine oj_aload_n 0 dX2_init_17 rfl rfl ?_
  refine oj_bipush dX2_init_18 cb_7 ?_
  refine oj_newa_i (N := 7) ow_152 (by decide) rfl (by decide) (fun k => ((hz.up (m := 7) (by decide)) 7 (Nat.le_refl _) k).1) (by decide) (by decide) (by decide) dX2_init_20 ?_
  refine oj_kn (ks' := KW ks 5 [(7, [0, 10, 3, 3, 3, 3, 3, 3, 0, 0, 0, 0, 3, 3]), (0, [7]), (0, [7])]) (n' := 8) (KW_pushN (by decide) rfl) rfl ?_
  refine oj_putr fl_RX2_17 (Or.inr ⟨rfl, RX2, TX2, 14, rfl, rfl⟩) (KW_at (i := 0) (L := [(7, [0, 10, 3, 3, 3, 3, 3, 3, 0, 0, 0, 0, 3, 3]), (0, [7]), (0, [7])]) rfl (by decide) (by decide) (by decide)) (KW_at (i := 2) (L := [(7, [0, 10, 3, 3, 3, 3, 3, 3, 0, 0, 0, 0, 3, 3]), (0, [7]), (0, [7])]) rfl (by decide) (by decide) (by decide)) (by decide) (fun _ => rfl) (fun _ => rfl) dX2_init_22 ?_
  refine oj_kn (ks' := KW ks 5 [(7, [0, 10, 11, 3, 3, 3, 3, 3, 0, 0, 0, 0, 3, 3]), (0, [7]), (0, [7])]) (n' := 8) (KW_setN (i := 0) (by decide) (by decide) rfl) rfl ?_
  refine oj_aload_n 0 dX2_init_25 rfl rfl ?_
  refine oj_bipush dX2_init_26 cb_7 ?_
  refine oj_newa_i (N := 7) ow_152 (by decide) rfl (by decide) (fun k => ((hz.up (m := 8) (by decide)) 8 (Nat.le_refl _) k).1) (by decide) (by decide) (by decide) dX2_init_28 ?_
  refine oj_kn (ks' := KW ks 5 [(7, [0, 10, 11, 3, 3, 3, 3, 3, 0, 0, 0, 0, 3, 3]), (0, [7]), (0, [7]), (0, [7])]) (n' := 9) (KW_pushN (by decide) rfl) rfl ?_
  refine oj_putr fl_RX2_20 (Or.inr ⟨rfl, RX2, TX2, 14, rfl, rfl⟩) (KW_at (i := 0) (L := [(7, [0, 10, 11, 3, 3, 3, 3, 3, 0, 0, 0, 0, 3, 3]), (0, [7]), (0, [7]), (0, [7])]) rfl (by decide) (by decide) (by decide)) (KW_at (i := 3) (L := [(7, [0, 10, 11, 3, 3, 3, 3, 3, 0, 0, 0, 0, 3, 3]), (0, [7]), (0, [7]), (0, [7])]) rfl (by decide) (by decide) (by decide)) (by decide) (fun _ => rfl) (fun _ => rfl) dX2_init_30 ?_
  refine oj_kn (ks' := KW ks 5 [(7, [0, 10, 11, 12, 3, 3, 3, 3, 0, 0, 0, 0, 3, 3]), (0, [7]), (0, [7]), (0, [7])]) (n' := 9) (KW_setN (i := 0) (by decide) (by decide) rfl) rfl ?_
  refine oj_aload_n 0 dX2_init_33 rfl rfl ?_
  refine oj_bipush dX2_init_34 cb_7 ?_
  refine oj_newa_i (N := 7) ow_152 (by decide) rfl (by decide) (fun k => ((hz.up (m := 9) (by decide)) 9 (Nat.le_refl _) k).1) (by decide) (by decide) (by decide) dX2_init_36 ?_
  refine oj_kn (ks' := KW ks 5 [(7, [0, 10, 11, 12, 3, 3, 3, 3, 0, 0, 0, 0, 3, 3]), (0, [7]), (0, [7]), (0, [7]), (0, [7])]) (n' := 10) (KW_pushN (by decide) rfl) rfl ?_
  refine oj_putr fl_RX2_23 (Or.inr ⟨rfl, RX2, TX2, 14, rfl, rfl⟩) (KW_at (i := 0) (L := [(7, [0, 10, 11, 12, 3, 3, 3, 3, 0, 0, 0, 0, 3, 3]), (0, [7]), (0, [7]), (0, [7]), (0, [7])]) rfl (by decide) (by decide) (by decide)) (KW_at (i := 4) (L := [(7, [0, 10, 11, 12, 3, 3, 3, 3, 0, 0, 0, 0, 3, 3]), (0, [7]), (0, [7]), (0, [7]), (0, [7])]) rfl (by decide) (by decide) (by decide)) (by decide) (fun _ => rfl) (fun _ => rfl) dX2_init_38 ?_
  refine oj_kn (ks' := KW ks 5 [(7, [0, 10, 11, 12, 13, 3, 3, 3, 0, 0, 0, 0, 3, 3]), (0, [7]), (0, [7]), (0, [7]), (0, [7])]) (n' := 10) (KW_setN (i := 0) (by decide) (by decide) rfl) rfl ?_
  refine oj_aload_n 0 dX2_init_41 rfl rfl ?_
  refine oj_bipush dX2_init_42 cb_7 ?_
  refine oj_newa_i (N := 7) ow_152 (by decide) rfl (by decide) (fun k => ((hz.up (m := 10) (by decide)) 10 (Nat.le_refl _) k).1) (by decide) (by decide) (by decide) dX2_init_44 ?_
  refine oj_kn (ks' := KW ks 5 [(7, [0, 10, 11, 12, 13, 3, 3, 3, 0, 0, 0, 0, 3, 3]), (0, [7]), (0, [7]), (0, [7]), (0, [7]), (0, [7])]) (n' := 11) (KW_pushN (by decide) rfl) rfl ?_
  refine oj_putr fl_RX2_26 (Or.inr ⟨rfl, RX2, TX2, 14, rfl, rfl⟩) (KW_at (i := 0) (L := [(7, [0, 10, 11, 12, 13, 3, 3, 3, 0, 0, 0, 0, 3, 3]), (0, [7]), (0, [7]), (0, [7]), (0, [7]), (0, [7])]) rfl (by decide) (by decide) (by decide)) (KW_at (i := 5) (L := [(7, [0, 10, 11, 12, 13, 3, 3, 3, 0, 0, 0, 0, 3, 3]), (0, [7]), (0, [7]), (0, [7]), (0, [7]), (0, [7])]) rfl (by decide) (by decide) (by decide)) (by decide) (fun _ => rfl) (fun _ => rfl) dX2_init_46 ?_
  refine oj_kn (ks' := KW ks 5 [(7, [0, 10, 11, 12, 13, 14, 3, 3, 0, 0, 0, 0, 3, 3]), (0, [7]), (0, [7]), (0, [7]), (0, [7]), (0, [7])]) (n' := 11) (KW_setN (i := 0) (by decide) (by decide) rfl) rfl ?_
  refine oj_aload_n 0 dX2_init_49 rfl rfl ?_
  refine oj_bipush dX2_init_50 cb_7 ?_
  refine oj_newa_i (N := 7) ow_152 (by decide) rfl (by decide) (fun k => ((hz.up (m := 11) (by decide)) 11 (Nat.le_refl _) k).1) (by decide) (by decide) (by decide) dX2_init_52 ?_
  refine oj_kn (ks' := KW ks 5 [(7, [0, 10, 11, 12, 13, 14, 3, 3, 0, 0, 0, 0, 3, 3]), (0, [7]), (0, [7]), (0, [7]), (0, [7]), (0, [7]), (0, [7])]) (n' := 12) (KW_pushN (by decide) rfl) rfl ?_
  refine oj_putr fl_RX2_29 (Or.inr ⟨rfl, RX2, TX2, 14, rfl, rfl⟩) (KW_at (i := 0) (L := [(7, [0, 10, 11, 12, 13, 14, 3, 3, 0, 0, 0, 0, 3, 3]), (0, [7]), (0, [7]), (0, [7]), (0, [7]), (0, [7]), (0, [7])]) rfl (by decide) (by decide) (by decide)) (KW_at (i := 6) (L := [(7, [0, 10, 11, 12, 13, 14, 3, 3, 0, 0, 0, 0, 3, 3]), (0, [7]), (0, [7]), (0, [7]), (0, [7]), (0, [7]), (0, [7])]) rfl (by decide) (by decide) (by decide)) (by decide) (fun _ => rfl) (fun _ => rfl) dX2_init_54 ?_
  refine oj_kn (ks' := KW ks 5 [(7, [0, 10, 11, 12, 13, 14, 15, 3, 0, 0, 0, 0, 3, 3]), (0, [7]), (0, [7]), (0, [7]), (0, [7]), (0, [7]), (0, [7])]) (n' := 12) (KW_setN (i := 0) (by decide) (by decide) rfl) rfl ?_
  refine oj_aload_n 0 dX2_init_57 rfl rfl ?_
  refine oj_bipush dX2_init_58 cb_49 ?_
  refine oj_newa_i (N := 49) ow_152 (by decide) rfl (by decide) (fun k => ((hz.up (m := 12) (by decide)) 12 (Nat.le_refl _) k).1) (by decide) (by decide) (by decide) dX2_init_60 ?_
  refine oj_kn (ks' := KW ks 5 [(7, [0, 10, 11, 12, 13, 14, 15, 3, 0, 0, 0, 0, 3, 3]), (0, [7]), (0, [7]), (0, [7]), (0, [7]), (0, [7]), (0, [7]), (0, [49])]) (n' := 13) (KW_pushN (by decide) rfl) rfl ?_
  refine oj_putr fl_RX2_32 (Or.inr ⟨rfl, RX2, TX2, 14, rfl, rfl⟩) (KW_at (i := 0) (L := [(7, [0, 10, 11, 12, 13, 14, 15, 3, 0, 0, 0, 0, 3, 3]), (0, [7]), (0, [7]), (0, [7]), (0, [7]), (0, [7]), (0, [7]), (0, [49])]) rfl (by decide) (by decide) (by decide)) (KW_at (i := 7) (L := [(7, [0, 10, 11, 12, 13, 14, 15, 3, 0, 0, 0, 0, 3, 3]), (0, [7]), (0, [7]), (0, [7]), (0, [7]), (0, [7]), (0, [7]), (0, [49])]) rfl (by decide) (by decide) (by decide)) (by decide) (fun _ => rfl) (fun _ => rfl) dX2_init_62 ?_
  refine oj_kn (ks' := KW ks 5 [(7, [0, 10, 11, 12, 13, 14, 15, 16, 0, 0, 0, 0, 3, 3]), (0, [7]), (0, [7]), (0, [7]), (0, [7]), (0, [7]), (0, [7]), (0, [49])]) (n' := 13) (KW_setN (i := 0) (by decide) (by decide) rfl) rfl ?_
  refine oj_aload_n 0 dX2_init_65 rfl rfl ?_
  refine oj_iconst dX2_init_66 ci_0 ?_
  refine oj_puti fl_RX2_35 (Or.inl rfl) (KW_at (i := 0) (L := [(7, [0, 10, 11, 12, 13, 14, 15, 16, 0, 0, 0, 0, 3, 3]), (0, [7]), (0, [7]), (0, [7]), (0, [7]), (0, [7]), (0, [7]), (0, [49])]) rfl (by decide) (by decide) (by decide)) rfl rfl rfl dX2_init_67 ?_
  rw [h_same ((hz) 5 (Nat.le_refl _) 8).1]
  refine oj_aload_n 0 dX2_init_70 rfl rfl ?_
  refine oj_bipush dX2_init_71 cb_100 ?_
  refine oj_puti fl_RX2_38 (Or.inl rfl) (KW_at (i := 0) (L := [(7, [0, 10, 11, 12, 13, 14, 15, 16, 0, 0, 0, 0, 3, 3]), (0, [7]), (0, [7]), (0, [7]), (0, [7]), (0, [7]), (0, [7]), (0, [49])]) rfl (by decide) (by decide) (by decide)) rfl rfl rfl dX2_init_73 ?_
  have zq : ∀ {n : Nat}, 5 < n → Fz n (h_i h 5 9 (100)) := fun hn => ((hz.up (Nat.le_of_lt hn)).i hn)
  refine oj_aload_n 0 dX2_init_76 rfl rfl ?_
  refine oj_iconst dX2_init_77 ci_0 ?_
  refine oj_puti fl_RX2_41 (Or.inl rfl) (KW_at (i := 0) (L := [(7, [0, 10, 11, 12, 13, 14, 15, 16, 0, 0, 0, 0, 3, 3]), (0, [7]), (0, [7]), (0, [7]), (0, [7]), (0, [7]), (0, [7]), (0, [49])]) rfl (by decide) (by decide) (by decide)) rfl rfl rfl dX2_init_78 ?_
  rw [h_same (show (h_i h 5 9 (100)).1 5 10 = 0 from by rw [h_i_1, if_neg (by decide)]; exact (hz 5 (by decide) 10).1)]
  refine oj_aload_n 0 dX2_init_81 rfl rfl ?_
  refine oj_iconst dX2_init_82 ci_0 ?_
  refine oj_puti fl_RX2_44 (Or.inl rfl) (KW_at (i := 0) (L := [(7, [0, 10, 11, 12, 13, 14, 15, 16, 0, 0, 0, 0, 3, 3]), (0, [7]), (0, [7]), (0, [7]), (0, [7]), (0, [7]), (0, [7]), (0, [49])]) rfl (by decide) (by decide) (by decide)) rfl rfl rfl dX2_init_83 ?_
  rw [h_same (show (h_i h 5 9 (100)).1 5 11 = 0 from by rw [h_i_1, if_neg (by decide)]; exact (hz 5 (by decide) 11).1)]
  refine oj_aload_n 0 dX2_init_86 rfl rfl ?_
  refine oj_new (ci := 4) (codes := [3, 0, 3]) rfl inX4 tyX4_ok ow_136 ow_137 ow_9 (fun base' j hj => ?_) (by decide) (by decide) (by decide) dX2_init_87 ?_
  · rcases (by omega : j = 0 ∨ j = 1 ∨ j = 2) with rfl | rfl | rfl
    all_goals first
      | rfl
      | exact congrArg Value.int ((zq (n := 13) (by decide)) 13 (Nat.le_refl _) _).1.symm
      | exact congrArg Value.long ((zq (n := 13) (by decide)) 13 (Nat.le_refl _) _).2.symm
  refine oj_kn (ks' := KW ks 5 [(7, [0, 10, 11, 12, 13, 14, 15, 16, 0, 0, 0, 0, 3, 3]), (0, [7]), (0, [7]), (0, [7]), (0, [7]), (0, [7]), (0, [7]), (0, [49]), (9, [3, 0, 3])]) (n' := 14) (KW_pushN (by decide) rfl) rfl ?_
  refine oj_dup dX2_init_90 rfl ?_
  refine oj_kn (ks' := KW (KW ks 5 [(7, [0, 10, 11, 12, 13, 14, 15, 16, 0, 0, 0, 0, 3, 3]), (0, [7]), (0, [7]), (0, [7]), (0, [7]), (0, [7]), (0, [7]), (0, [49])]) 13 [(9, [3, 0, 3])]) (n' := 14) (Eq.symm (KW_nestN (by decide) rfl)) rfl ?_
  refine oj_callIN [] rfl ow_9 ow_140 (by decide +kernel) ow_139 (KW_at (i := 0) (L := [(9, [3, 0, 3])]) rfl (by decide) (by decide) (by decide)) (I4w (ks := KW ks 5 [(7, [0, 10, 11, 12, 13, 14, 15, 16, 0, 0, 0, 0, 3, 3]), (0, [7]), (0, [7]), (0, [7]), (0, [7]), (0, [7]), (0, [7]), (0, [49])]) (o := 13) (zq (n := 13) (by decide)) (by decide)) ⟨by decide, by decide⟩ ⟨by decide, by decide⟩ rfl (Nat.le_of_ble_eq_true rfl) dX2_init_91 (fun r ks' n' h' hq => ?_)
  obtain ⟨rfl, rfl, rfl, rfl⟩ := hq
  refine oj_kn (ks' := KW ks 5 [(7, [0, 10, 11, 12, 13, 14, 15, 16, 0, 0, 0, 0, 3, 3]), (0, [7]), (0, [7]), (0, [7]), (0, [7]), (0, [7]), (0, [7]), (0, [49]), (9, [18, 0, 19]), (0, [300]), (0, [32])]) (n' := 16) (KW_nestN (by decide) rfl) rfl ?_
  refine oj_putr fl_RX2_50 (Or.inr ⟨rfl, RX2, TX2, 14, rfl, rfl⟩) (KW_at (i := 0) (L := [(7, [0, 10, 11, 12, 13, 14, 15, 16, 0, 0, 0, 0, 3, 3]), (0, [7]), (0, [7]), (0, [7]), (0, [7]), (0, [7]), (0, [7]), (0, [49]), (9, [18, 0, 19]), (0, [300]), (0, [32])]) rfl (by decide) (by decide) (by decide)) (KW_at (i := 8) (L := [(7, [0, 10, 11, 12, 13, 14, 15, 16, 0, 0, 0, 0, 3, 3]), (0, [7]), (0, [7]), (0, [7]), (0, [7]), (0, [7]), (0, [7]), (0, [49]), (9, [18, 0, 19]), (0, [300]), (0, [32])]) rfl (by decide) (by decide) (by decide)) (by decide) (fun _ => rfl) (fun _ => rfl) dX2_init_94 ?_
  refine oj_kn (ks' := KW ks 5 [(7, [0, 10, 11, 12, 13, 14, 15, 16, 0, 0, 0, 0, 17, 3]), (0, [7]), (0, [7]), (0, [7]), (0, [7]), (0, [7]), (0, [7]), (0, [49]), (9, [18, 0, 19]), (0, [300]), (0, [32])]) (n' := 16) (KW_setN (i := 0) (by decide) (by decide) rfl) rfl ?_
  refine oj_aload_n 0 dX2_init_97 rfl rfl ?_
  refine oj_new (ci := 4) (codes := [3, 0, 3]) rfl inX4 tyX4_ok ow_136 ow_137 ow_9 (fun base' j hj => ?_) (by decide) (by decide) (by decide) dX2_init_98 ?_
  · rcases (by omega : j = 0 ∨ j = 1 ∨ j = 2) with rfl | rfl | rfl
    all_goals first
      | rfl
      | exact congrArg Value.int ((zq (n := 16) (by decide)) 16 (Nat.le_refl _) _).1.symm
      | exact congrArg Value.long ((zq (n := 16) (by decide)) 16 (Nat.le_refl _) _).2.symm
  refine oj_kn (ks' := KW ks 5 [(7, [0, 10, 11, 12, 13, 14, 15, 16, 0, 0, 0, 0, 17, 3]), (0, [7]), (0, [7]), (0, [7]), (0, [7]), (0, [7]), (0, [7]), (0, [49]), (9, [18, 0, 19]), (0, [300]), (0, [32]), (9, [3, 0, 3])]) (n' := 17) (KW_pushN (by decide) rfl) rfl ?_
  refine oj_dup dX2_init_101 rfl ?_
  refine oj_kn (ks' := KW (KW ks 5 [(7, [0, 10, 11, 12, 13, 14, 15, 16, 0, 0, 0, 0, 17, 3]), (0, [7]), (0, [7]), (0, [7]), (0, [7]), (0, [7]), (0, [7]), (0, [49]), (9, [18, 0, 19]), (0, [300]), (0, [32])]) 16 [(9, [3, 0, 3])]) (n' := 17) (Eq.symm (KW_nestN (by decide) rfl)) rfl ?_
  refine oj_callIN [] rfl ow_9 ow_140 (by decide +kernel) ow_139 (KW_at (i := 0) (L := [(9, [3, 0, 3])]) rfl (by decide) (by decide) (by decide)) (I4w (ks := KW ks 5 [(7, [0, 10, 11, 12, 13, 14, 15, 16, 0, 0, 0, 0, 17, 3]), (0, [7]), (0, [7]), (0, [7]), (0, [7]), (0, [7]), (0, [7]), (0, [49]), (9, [18, 0, 19]), (0, [300]), (0, [32])]) (o := 16) (zq (n := 16) (by decide)) (by decide)) ⟨by decide, by decide⟩ ⟨by decide, by decide⟩ rfl (Nat.le_of_ble_eq_true rfl) dX2_init_102 (fun r ks' n' h' hq => ?_)
  obtain ⟨rfl, rfl, rfl, rfl⟩ := hq
  refine oj_kn (ks' := KW ks 5 [(7, [0, 10, 11, 12, 13, 14, 15, 16, 0, 0, 0, 0, 17, 3]), (0, [7]), (0, [7]), (0, [7]), (0, [7]), (0, [7]), (0, [7]), (0, [49]), (9, [18, 0, 19]), (0, [300]), (0, [32]), (9, [21, 0, 22]), (0, [300]), (0, [32])]) (n' := 19) (KW_nestN (by decide) rfl) rfl ?_
  refine oj_putr fl_RX2_54 (Or.inr ⟨rfl, RX2, TX2, 14, rfl, rfl⟩) (KW_at (i := 0) (L := [(7, [0, 10, 11, 12, 13, 14, 15, 16, 0, 0, 0, 0, 17, 3]), (0, [7]), (0, [7]), (0, [7]), (0, [7]), (0, [7]), (0, [7]), (0, [49]), (9, [18, 0, 19]), (0, [300]), (0, [32]), (9, [21, 0, 22]), (0, [300]), (0, [32])]) rfl (by decide) (by decide) (by decide)) (KW_at (i := 11) (L := [(7, [0, 10, 11, 12, 13, 14, 15, 16, 0, 0, 0, 0, 17, 3]), (0, [7]), (0, [7]), (0, [7]), (0, [7]), (0, [7]), (0, [7]), (0, [49]), (9, [18, 0, 19]), (0, [300]), (0, [32]), (9, [21, 0, 22]), (0, [300]), (0, [32])]) rfl (by decide) (by decide) (by decide)) (by decide) (fun _ => rfl) (fun _ => rfl) dX2_init_105 ?_
  refine oj_kn (ks' := KW ks 5 [(7, [0, 10, 11, 12, 13, 14, 15, 16, 0, 0, 0, 0, 17, 20]), (0, [7]), (0, [7]), (0, [7]), (0, [7]), (0, [7]), (0, [7]), (0, [49]), (9, [18, 0, 19]), (0, [300]), (0, [32]), (9, [21, 0, 22]), (0, [300]), (0, [32])]) (n' := 19) (KW_setN (i := 0) (by decide) (by decide) rfl) rfl ?_
  refine oj_aload_n 0 dX2_init_108 rfl rfl ?_
  have hA : A2g (KW ks 5 [(7, [0, 10, 11, 12, 13, 14, 15, 16, 0, 0, 0, 0, 17, 20]), (0, [7]), (0, [7]), (0, [7]), (0, [7]), (0, [7]), (0, [7]), (0, [49]), (9, [18, 0, 19]), (0, [300]), (0, [32]), (9, [21, 0, 22]), (0, [300]), (0, [32])]) 19 5 := by
    refine ⟨?_, ?_, ?_, ?_, ?_, ?_, ?_, ?_, ?_, ?_, ?_, ?_, ?_, ?_⟩
    all_goals first
      | exact KW_at (i := 0) rfl (by decide) (by decide) (by decide)
      | exact KW_at (i := 1) rfl (by decide) (by decide) (by decide)
      | exact KW_at (i := 2) rfl (by decide) (by decide) (by decide)
      | exact KW_at (i := 3) rfl (by decide) (by decide) (by decide)
      | exact KW_at (i := 4) rfl (by decide) (by decide) (by decide)
      | exact KW_at (i := 5) rfl (by decide) (by decide) (by decide)
      | exact KW_at (i := 6) rfl (by decide) (by decide) (by decide)
      | exact KW_at (i := 7) rfl (by decide) (by decide) (by decide)
      | exact KW_at (i := 8) rfl (by decide) (by decide) (by decide)
      | exact KW_at (i := 9) rfl (by decide) (by decide) (by decide)
      | exact KW_at (i := 10) rfl (by decide) (by decide) (by decide)
      | exact KW_at (i := 11) rfl (by decide) (by decide) (by decide)
      | exact KW_at (i := 12) rfl (by decide) (by decide) (by decide)
      | exact KW_at (i := 13) rfl (by decide) (by decide) (by decide)
  refine og_Vv (dq := 2) [] mi_RX2_57 ow_154 ow_155 rfl (A2g_0 hA) (BG2_clear hA y) ⟨by decide, by decide⟩ ⟨by decide, by decide⟩ rfl (Nat.le_of_ble_eq_true rfl) dX2_init_109 (fun h' hq => ?_)
  exact oj_ret (r := none) ⟨trivial, rfl, rfl, rfl, hq⟩ dX2_init_112 (by decide) (by decide)
set_option maxHeartbeats 1000000 in
theorem I2_20 {ks : Nat → ob_K} {h : ob_H} (hz : Fz 20 h) {Q : ob_H → Prop} (y : MX2_clear 20 (h_i h 20 9 100) Q) : ob_T yX2_init cX2_init 1 none { frames := 3, cells := 13, slots := 761, locals := 101 } (KW ks 20 [(7, [0, 3, 3, 3, 3, 3, 3, 3, 0, 0, 0, 0, 3, 3])]) 21 h [.ref 20] (fun r ks' n' h' => r = none ∧ ks' = KW ks 20 [(7, [0, 25, 26, 27, 28, 29, 30, 31, 0, 0, 0, 0, 32, 35]), (0, [7]), (0, [7]), (0, [7]), (0, [7]), (0, [7]), (0, [7]), (0, [49]), (9, [33, 0, 34]), (0, [300]), (0, [32]), (9, [36, 0, 37]), (0, [300]), (0, [32])] ∧ n' = 34 ∧ Q h') := by
  refine ob_T_of (ini := true) (by decide +kernel) (fun _ => rfl) (Nat.le_of_ble_eq_true rfl) ?_
  show ob_J RX2 cX2_init 1 { frames := 3, cells := 13, slots := 761, locals := 101 } true none 0 0 (KW ks 20 [(7, [0, 3, 3, 3, 3, 3, 3, 3, 0, 0, 0, 0, 3, 3])]) 21 h 0 [(0, .ref 20)] [] _
  refine oj_aload_n 0 dX2_init_0 rfl rfl ?_
  refine oj_objInit (KW_at (i := 0) (L := [(7, [0, 3, 3, 3, 3, 3, 3, 3, 0, 0, 0, 0, 3, 3])]) rfl (by decide) (by decide) (by decide)) ow_135 ow_27 ow_28 (by decide) (by decide) rfl dX2_init_1 ?_
  refine oj_aload_n 0 dX2_init_4 rfl rfl ?_
  refine oj_iconst dX2_init_5 ci_0 ?_
  refine oj_puti fl_RX2_7 (Or.inl rfl) (KW_at (i := 0) (L := [(7, [0, 3, 3, 3, 3, 3, 3, 3, 0, 0, 0, 0, 3, 3])]) rfl (by decide) (by decide) (by decide)) rfl rfl rfl dX2_init_6 ?_
  rw [h_same ((hz) 20 (Nat.le_refl _) 0).1]
  refine oj_aload_n 0 dX2_init_9 rfl rfl ?_
  refine oj_bipush dX2_init_10 cb_7 ?_
  refine oj_newa_i (N := 7) ow_152 (by decide) rfl (by decide) (fun k => ((hz.up (m := 21) (by decide)) 21 (Nat.le_refl _) k).1) (by decide) (by decide) (by decide) dX2_init_12 ?_
  refine oj_kn (ks' := KW ks 20 [(7, [0, 3, 3, 3, 3, 3, 3, 3, 0, 0, 0, 0, 3, 3]), (0, [7])]) (n' := 22) (KW_pushN (by decide) rfl) rfl ?_
  refine oj_putr fl_RX2_13 (Or.inr ⟨rfl, RX2, TX2, 14, rfl, rfl⟩) (KW_at (i := 0) (L := [(7, [0, 3, 3, 3, 3, 3, 3, 3, 0, 0, 0, 0, 3, 3]), (0, [7])]) rfl (by decide) (by decide) (by decide)) (KW_at (i := 1) (L := [(7, [0, 3, 3, 3, 3, 3, 3, 3, 0, 0, 0, 0, 3, 3]), (0, [7])]) rfl (by decide) (by decide) (by decide)) (by decide) (fun _ => rfl) (fun _ => rfl) dX2_init_14 ?_
  refine oj_kn (ks' := KW ks 20 [(7, [0, 25, 3, 3, 3, 3, 3, 3, 0, 0, 0, 0, 3, 3]), (0, [7])]) (n' := 22) (KW_setN (i := 0) (by decide) (by decide) rfl) rfl ?_
  refine oj_aload_n 0 dX2_init_17 rfl rfl ?_
  refine oj_bipush dX2_init_18 cb_7 ?_
  refine oj_newa_i (N := 7) ow_152 (by decide) rfl (by decide) (fun k => ((hz.up (m := 22) (by decide)) 22 (Nat.le_refl _) k).1) (by decide) (by decide) (by decide) dX2_init_20 ?_
  refine oj_kn (ks' := KW ks 20 [(7, [0, 25, 3, 3, 3, 3, 3, 3, 0, 0, 0, 0, 3, 3]), (0, [7]), (0, [7])]) (n' := 23) (KW_pushN (by decide) rfl) rfl ?_
  refine oj_putr fl_RX2_17 (Or.inr ⟨rfl, RX2, TX2, 14, rfl, rfl⟩) (KW_at (i := 0) (L := [(7, [0, 25, 3, 3, 3, 3, 3, 3, 0, 0, 0, 0, 3, 3]), (0, [7]), (0, [7])]) rfl (by decide) (by decide) (by decide)) (KW_at (i := 2) (L := [(7, [0, 25, 3, 3, 3, 3, 3, 3, 0, 0, 0, 0, 3, 3]), (0, [7]), (0, [7])]) rfl (by decide) (by decide) (by decide)) (by decide) (fun _ => rfl) (fun _ => rfl) dX2_init_22 ?_
  refine oj_kn (ks' := KW ks 20 [(7, [0, 25, 26, 3, 3, 3, 3, 3, 0, 0, 0, 0, 3, 3]), (0, [7]), (0, [7])]) (n' := 23) (KW_setN (i := 0) (by decide) (by decide) rfl) rfl ?_
  refine oj_aload_n 0 dX2_init_25 rfl rfl ?_
  refine oj_bipush dX2_init_26 cb_7 ?_
  refine oj_newa_i (N := 7) ow_152 (by decide) rfl (by decide) (fun k => ((hz.up (m := 23) (by decide)) 23 (Nat.le_refl _) k).1) (by decide) (by decide) (by decide) dX2_init_28 ?_
  refine oj_kn (ks' := KW ks 20 [(7, [0, 25, 26, 3, 3, 3, 3, 3, 0, 0, 0, 0, 3, 3]), (0, [7]), (0, [7]), (0, [7])]) (n' := 24) (KW_pushN (by decide) rfl) rfl ?_
  refine oj_putr fl_RX2_20 (Or.inr ⟨rfl, RX2, TX2, 14, rfl, rfl⟩) (KW_at (i := 0) (L := [(7, [0, 25, 26, 3, 3, 3, 3, 3, 0, 0, 0, 0, 3, 3]), (0, [7]), (0, [7]), (0, [7])]) rfl (by decide) (by decide) (by decide)) (KW_at (i := 3) (L := [(7, [0, 25, 26, 3, 3, 3, 3, 3, 0, 0, 0, 0, 3, 3]), (0, [7]), (0, [7]), (0, [7])]) rfl (by decide) (by decide) (by decide)) (by decide) (fun _ => rfl) (fun _ => rfl) dX2_init_30 ?_
  refine oj_kn (ks' := KW ks 20 [(7, [0, 25, 26, 27, 3, 3, 3, 3, 0, 0, 0, 0, 3, 3]), (0, [7]), (0, [7]), (0, [7])]) (n' := 24) (KW_setN (i := 0) (by decide) (by decide) rfl) rfl ?_
  refine oj_aload_n 0 dX2_init_33 rfl rfl ?_
  refine oj_bipush dX2_init_34 cb_7 ?_
  refine oj_newa_i (N := 7) ow_152 (by decide) rfl (by decide) (fun k => ((hz.up (m := 24) (by decide)) 24 (Nat.le_refl _) k).1) (by decide) (by decide) (by decide) dX2_init_36 ?_
  refine oj_kn (ks' := KW ks 20 [(7, [0, 25, 26, 27, 3, 3, 3, 3, 0, 0, 0, 0, 3, 3]), (0, [7]), (0, [7]), (0, [7]), (0, [7])]) (n' := 25) (KW_pushN (by decide) rfl) rfl ?_
  refine oj_putr fl_RX2_23 (Or.inr ⟨rfl, RX2, TX2, 14, rfl, rfl⟩) (KW_at (i := 0) (L := [(7, [0, 25, 26, 27, 3, 3, 3, 3, 0, 0, 0, 0, 3, 3]), (0, [7]), (0, [7]), (0, [7]), (0, [7])]) rfl (by decide) (by decide) (by decide)) (KW_at (i := 4) (L := [(7, [0, 25, 26, 27, 3, 3, 3, 3, 0, 0, 0, 0, 3, 3]), (0, [7]), (0, [7]), (0, [7]), (0, [7])]) rfl (by decide) (by decide) (by decide)) (by decide) (fun _ => rfl) (fun _ => rfl) dX2_init_38 ?_
  refine oj_kn (ks' := KW ks 20 [(7, [0, 25, 26, 27, 28, 3, 3, 3, 0, 0, 0, 0, 3, 3]), (0, [7]), (0, [7]), (0, [7]), (0, [7])]) (n' := 25) (KW_setN (i := 0) (by decide) (by decide) rfl) rfl ?_
  refine oj_aload_n 0 dX2_init_41 rfl rfl ?_
  refine oj_bipush dX2_init_42 cb_7 ?_
  refine oj_newa_i (N := 7) ow_152 (by decide) rfl (by decide) (fun k => ((hz.up (m := 25) (by decide)) 25 (Nat.le_refl _) k).1) (by decide) (by decide) (by decide) dX2_init_44 ?_
  refine oj_kn (ks' := KW ks 20 [(7, [0, 25, 26, 27, 28, 3, 3, 3, 0, 0, 0, 0, 3, 3]), (0, [7]), (0, [7]), (0, [7]), (0, [7]), (0, [7])]) (n' := 26) (KW_pushN (by decide) rfl) rfl ?_
  refine oj_putr fl_RX2_26 (Or.inr ⟨rfl, RX2, TX2, 14, rfl, rfl⟩) (KW_at (i := 0) (L := [(7, [0, 25, 26, 27, 28, 3, 3, 3, 0, 0, 0, 0, 3, 3]), (0, [7]), (0, [7]), (0, [7]), (0, [7]), (0, [7])]) rfl (by decide) (by decide) (by decide)) (KW_at (i := 5) (L := [(7, [0, 25, 26, 27, 28, 3, 3, 3, 0, 0, 0, 0, 3, 3]), (0, [7]), (0, [7]), (0, [7]), (0, [7]), (0, [7])]) rfl (by decide) (by decide) (by decide)) (by decide) (fun _ => rfl) (fun _ => rfl) dX2_init_46 ?_
  refine oj_kn (ks' := KW ks 20 [(7, [0, 25, 26, 27, 28, 29, 3, 3, 0, 0, 0, 0, 3, 3]), (0, [7]), (0, [7]), (0, [7]), (0, [7]), (0, [7])]) (n' := 26) (KW_setN (i := 0) (by decide) (by decide) rfl) rfl ?_
  refine oj_aload_n 0 dX2_init_49 rfl rfl ?_
  refine oj_bipush dX2_init_50 cb_7 ?_
  refine oj_newa_i (N := 7) ow_152 (by decide) rfl (by decide) (fun k => ((hz.up (m := 26) (by decide)) 26 (Nat.le_refl _) k).1) (by decide) (by decide) (by decide) dX2_init_52 ?_
  refine oj_kn (ks' := KW ks 20 [(7, [0, 25, 26, 27, 28, 29, 3, 3, 0, 0, 0, 0, 3, 3]), (0, [7]), (0, [7]), (0, [7]), (0, [7]), (0, [7]), (0, [7])]) (n' := 27) (KW_pushN (by decide) rfl) rfl ?_
  refine oj_putr fl_RX2_29 (Or.inr ⟨rfl, RX2, TX2, 14, rfl, rfl⟩) (KW_at (i := 0) (L := [(7, [0, 25, 26, 27, 28, 29, 3, 3, 0, 0, 0, 0, 3, 3]), (0, [7]), (0, [7]), (0, [7]), (0, [7]), (0, [7]), (0, [7])]) rfl (by decide) (by decide) (by decide)) (KW_at (i := 6) (L := [(7, [0, 25, 26, 27, 28, 29, 3, 3, 0, 0, 0, 0, 3, 3]), (0, [7]), (0, [7]), (0, [7]), (0, [7]), (0, [7]), (0, [7])]) rfl (by decide) (by decide) (by decide)) (by decide) (fun _ => rfl) (fun _ => rfl) dX2_init_54 ?_
  refine oj_kn (ks' := KW ks 20 [(7, [0, 25, 26, 27, 28, 29, 30, 3, 0, 0, 0, 0, 3, 3]), (0, [7]), (0, [7]), (0, [7]), (0, [7]), (0, [7]), (0, [7])]) (n' := 27) (KW_setN (i := 0) (by decide) (by decide) rfl) rfl ?_
  refine oj_aload_n 0 dX2_init_57 rfl rfl ?_
  refine oj_bipush dX2_init_58 cb_49 ?_
  refine oj_newa_i (N := 49) ow_152 (by decide) rfl (by decide) (fun k => ((hz.up (m := 27) (by decide)) 27 (Nat.le_refl _) k).1) (by decide) (by decide) (by decide) dX2_init_60 ?_
  refine oj_kn (ks' := KW ks 20 [(7, [0, 25, 26, 27, 28, 29, 30, 3, 0, 0, 0, 0, 3, 3]), (0, [7]), (0, [7]), (0, [7]), (0, [7]), (0, [7]), (0, [7]), (0, [49])]) (n' := 28) (KW_pushN (by decide) rfl) rfl ?_
  refine oj_putr fl_RX2_32 (Or.inr ⟨rfl, RX2, TX2, 14, rfl, rfl⟩) (KW_at (i := 0) (L := [(7, [0, 25, 26, 27, 28, 29, 30, 3, 0, 0, 0, 0, 3, 3]), (0, [7]), (0, [7]), (0, [7]), (0, [7]), (0, [7]), (0, [7]), (0, [49])]) rfl (by decide) (by decide) (by decide)) (KW_at (i := 7) (L := [(7, [0, 25, 26, 27, 28, 29, 30, 3, 0, 0, 0, 0, 3, 3]), (0, [7]), (0, [7]), (0, [7]), (0, [7]), (0, [7]), (0, [7]), (0, [49])]) rfl (by decide) (by decide) (by decide)) (by decide) (fun _ => rfl) (fun _ => rfl) dX2_init_62 ?_
  refine oj_kn (ks' := KW ks 20 [(7, [0, 25, 26, 27, 28, 29, 30, 31, 0, 0, 0, 0, 3, 3]), (0, [7]), (0, [7]), (0, [7]), (0, [7]), (0, [7]), (0, [7]), (0, [49])]) (n' := 28) (KW_setN (i := 0) (by decide) (by decide) rfl) rfl ?_
  refine oj_aload_n 0 dX2_init_65 rfl rfl ?_
  refine oj_iconst dX2_init_66 ci_0 ?_
  refine oj_puti fl_RX2_35 (Or.inl rfl) (KW_at (i := 0) (L := [(7, [0, 25, 26, 27, 28, 29, 30, 31, 0, 0, 0, 0, 3, 3]), (0, [7]), (0, [7]), (0, [7]), (0, [7]), (0, [7]), (0, [7]), (0, [49])]) rfl (by decide) (by decide) (by decide)) rfl rfl rfl dX2_init_67 ?_
  rw [h_same ((hz) 20 (Nat.le_refl _) 8).1]
  refine oj_aload_n 0 dX2_init_70 rfl rfl ?_
  refine oj_bipush dX2_init_71 cb_100 ?_
  refine oj_puti fl_RX2_38 (Or.inl rfl) (KW_at (i := 0) (L := [(7, [0, 25, 26, 27, 28, 29, 30, 31, 0, 0, 0, 0, 3, 3]), (0, [7]), (0, [7]), (0, [7]), (0, [7]), (0, [7]), (0, [7]), (0, [49])]) rfl (by decide) (by decide) (by decide)) rfl rfl rfl dX2_init_73 ?_
  have zq : ∀ {n : Nat}, 20 < n → Fz n (h_i h 20 9 (100)) := fun hn => ((hz.up (Nat.le_of_lt hn)).i hn)
  refine oj_aload_n 0 dX2_init_76 rfl rfl ?_
  refine oj_iconst dX2_init_77 ci_0 ?_
  refine oj_puti fl_RX2_41 (Or.inl rfl) (KW_at (i := 0) (L := [(7, [0, 25, 26, 27, 28, 29, 30, 31, 0, 0, 0, 0, 3, 3]), (0, [7]), (0, [7]), (0, [7]), (0, [7]), (0, [7]), (0, [7]), (0, [49])]) rfl (by decide) (by decide) (by decide)) rfl rfl rfl dX2_init_78 ?_
  rw [h_same (show (h_i h 20 9 (100)).1 20 10 = 0 from by rw [h_i_1, if_neg (by decide)]; exact (hz 20 (by decide) 10).1)]
  refine oj_aload_n 0 dX2_init_81 rfl rfl ?_
  refine oj_iconst dX2_init_82 ci_0 ?_
  refine oj_puti fl_RX2_44 (Or.inl rfl) (KW_at (i := 0) (L := [(7, [0, 25, 26, 27, 28, 29, 30, 31, 0, 0, 0, 0, 3, 3]), (0, [7]), (0, [7]), (0, [7]), (0, [7]), (0, [7]), (0, [7]), (0, [49])]) rfl (by decide) (by decide) (by decide)) rfl rfl rfl dX2_init_83 ?_
  rw [h_same (show (h_i h 20 9 (100)).1 20 11 = 0 from by rw [h_i_1, if_neg (by decide)]; exact (hz 20 (by decide) 11).1)]
  refine oj_aload_n 0 dX2_init_86 rfl rfl ?_
  refine oj_new (ci := 4) (codes := [3, 0, 3]) rfl inX4 tyX4_ok ow_136 ow_137 ow_9 (fun base' j hj => ?_) (by decide) (by decide) (by decide) dX2_init_87 ?_
  · rcases (by omega : j = 0 ∨ j = 1 ∨ j = 2) with rfl | rfl | rfl
    all_goals first
      | rfl
      | exact congrArg Value.int ((zq (n := 28) (by decide)) 28 (Nat.le_refl _) _).1.symm
      | exact congrArg Value.long ((zq (n := 28) (by decide)) 28 (Nat.le_refl _) _).2.symm
  refine oj_kn (ks' := KW ks 20 [(7, [0, 25, 26, 27, 28, 29, 30, 31, 0, 0, 0, 0, 3, 3]), (0, [7]), (0, [7]), (0, [7]), (0, [7]), (0, [7]), (0, [7]), (0, [49]), (9, [3, 0, 3])]) (n' := 29) (KW_pushN (by decide) rfl) rfl ?_
  refine oj_dup dX2_init_90 rfl ?_
  refine oj_kn (ks' := KW (KW ks 20 [(7, [0, 25, 26, 27, 28, 29, 30, 31, 0, 0, 0, 0, 3, 3]), (0, [7]), (0, [7]), (0, [7]), (0, [7]), (0, [7]), (0, [7]), (0, [49])]) 28 [(9, [3, 0, 3])]) (n' := 29) (Eq.symm (KW_nestN (by decide) rfl)) rfl ?_
  refine oj_callIN [] rfl ow_9 ow_140 (by decide +kernel) ow_139 (KW_at (i := 0) (L := [(9, [3, 0, 3])]) rfl (by decide) (by decide) (by decide)) (I4w (ks := KW ks 20 [(7, [0, 25, 26, 27, 28, 29, 30, 31, 0, 0, 0, 0, 3, 3]), (0, [7]), (0, [7]), (0, [7]), (0, [7]), (0, [7]), (0, [7]), (0, [49])]) (o := 28) (zq (n := 28) (by decide)) (by decide)) ⟨by decide, by decide⟩ ⟨by decide, by decide⟩ rfl (Nat.le_of_ble_eq_true rfl) dX2_init_91 (fun r ks' n' h' hq => ?_)
  obtain ⟨rfl, rfl, rfl, rfl⟩ := hq
  refine oj_kn (ks' := KW ks 20 [(7, [0, 25, 26, 27, 28, 29, 30, 31, 0, 0, 0, 0, 3, 3]), (0, [7]), (0, [7]), (0, [7]), (0, [7]), (0, [7]), (0, [7]), (0, [49]), (9, [33, 0, 34]), (0, [300]), (0, [32])]) (n' := 31) (KW_nestN (by decide) rfl) rfl ?_
  refine oj_putr fl_RX2_50 (Or.inr ⟨rfl, RX2, TX2, 14, rfl, rfl⟩) (KW_at (i := 0) (L := [(7, [0, 25, 26, 27, 28, 29, 30, 31, 0, 0, 0, 0, 3, 3]), (0, [7]), (0, [7]), (0, [7]), (0, [7]), (0, [7]), (0, [7]), (0, [49]), (9, [33, 0, 34]), (0, [300]), (0, [32])]) rfl (by decide) (by decide) (by decide)) (KW_at (i := 8) (L := [(7, [0, 25, 26, 27, 28, 29, 30, 31, 0, 0, 0, 0, 3, 3]), (0, [7]), (0, [7]), (0, [7]), (0, [7]), (0, [7]), (0, [7]), (0, [49]), (9, [33, 0, 34]), (0, [300]), (0, [32])]) rfl (by decide) (by decide) (by decide)) (by decide) (fun _ => rfl) (fun _ => rfl) dX2_init_94 ?_
  refine oj_kn (ks' := KW ks 20 [(7, [0, 25, 26, 27, 28, 29, 30, 31, 0, 0, 0, 0, 32, 3]), (0, [7]), (0, [7]), (0, [7]), (0, [7]), (0, [7]), (0, [7]), (0, [49]), (9, [33, 0, 34]), (0, [300]), (0, [32])]) (n' := 31) (KW_setN (i := 0) (by decide) (by decide) rfl) rfl ?_
  refine oj_aload_n 0 dX2_init_97 rfl rfl ?_
  refine oj_new (ci := 4) (codes := [3, 0, 3]) rfl inX4 tyX4_ok ow_136 ow_137 ow_9 (fun base' j hj => ?_) (by decide) (by decide) (by decide) dX2_init_98 ?_
  · rcases (by omega : j = 0 ∨ j = 1 ∨ j = 2) with rfl | rfl | rfl
    all_goals first
      | rfl
      | exact congrArg Value.int ((zq (n := 31) (by decide)) 31 (Nat.le_refl _) _).1.symm
      | exact congrArg Value.long ((zq (n := 31) (by decide)) 31 (Nat.le_refl _) _).2.symm
  refine oj_kn (ks' := KW ks 20 [(7, [0, 25, 26, 27, 28, 29, 30, 31, 0, 0, 0, 0, 32, 3]), (0, [7]), (0, [7]), (0, [7]), (0, [7]), (0, [7]), (0, [7]), (0, [49]), (9, [33, 0, 34]), (0, [300]), (0, [32]), (9, [3, 0, 3])]) (n' := 32) (KW_pushN (by decide) rfl) rfl ?_
  refine oj_dup dX2_init_101 rfl ?_
  refine oj_kn (ks' := KW (KW ks 20 [(7, [0, 25, 26, 27, 28, 29, 30, 31, 0, 0, 0, 0, 32, 3]), (0, [7]), (0, [7]), (0, [7]), (0, [7]), (0, [7]), (0, [7]), (0, [49]), (9, [33, 0, 34]), (0, [300]), (0, [32])]) 31 [(9, [3, 0, 3])]) (n' := 32) (Eq.symm (KW_nestN (by decide) rfl)) rfl ?_
  refine oj_callIN [] rfl ow_9 ow_140 (by decide +kernel) ow_139 (KW_at (i := 0) (L := [(9, [3, 0, 3])]) rfl (by decide) (by decide) (by decide)) (I4w (ks := KW ks 20 [(7, [0, 25, 26, 27, 28, 29, 30, 31, 0, 0, 0, 0, 32, 3]), (0, [7]), (0, [7]), (0, [7]), (0, [7]), (0, [7]), (0, [7]), (0, [49]), (9, [33, 0, 34]), (0, [300]), (0, [32])]) (o := 31) (zq (n := 31) (by decide)) (by decide)) ⟨by decide, by decide⟩ ⟨by decide, by decide⟩ rfl (Nat.le_of_ble_eq_true rfl) dX2_init_102 (fun r ks' n' h' hq => ?_)
  obtain ⟨rfl, rfl, rfl, rfl⟩ := hq
  refine oj_kn (ks' := KW ks 20 [(7, [0, 25, 26, 27, 28, 29, 30, 31, 0, 0, 0, 0, 32, 3]), (0, [7]), (0, [7]), (0, [7]), (0, [7]), (0, [7]), (0, [7]), (0, [49]), (9, [33, 0, 34]), (0, [300]), (0, [32]), (9, [36, 0, 37]), (0, [300]), (0, [32])]) (n' := 34) (KW_nestN (by decide) rfl) rfl ?_
  refine oj_putr fl_RX2_54 (Or.inr ⟨rfl, RX2, TX2, 14, rfl, rfl⟩) (KW_at (i := 0) (L := [(7, [0, 25, 26, 27, 28, 29, 30, 31, 0, 0, 0, 0, 32, 3]), (0, [7]), (0, [7]), (0, [7]), (0, [7]), (0, [7]), (0, [7]), (0, [49]), (9, [33, 0, 34]), (0, [300]), (0, [32]), (9, [36, 0, 37]), (0, [300]), (0, [32])]) rfl (by decide) (by decide) (by decide)) (KW_at (i := 11) (L := [(7, [0, 25, 26, 27, 28, 29, 30, 31, 0, 0, 0, 0, 32, 3]), (0, [7]), (0, [7]), (0, [7]), (0, [7]), (0, [7]), (0, [7]), (0, [49]), (9, [33, 0, 34]), (0, [300]), (0, [32]), (9, [36, 0, 37]), (0, [300]), (0, [32])]) rfl (by decide) (by decide) (by decide)) (by decide) (fun _ => rfl) (fun _ => rfl) dX2_init_105 ?_
  refine oj_kn (ks' := KW ks 20 [(7, [0, 25, 26, 27, 28, 29, 30, 31, 0, 0, 0, 0, 32, 35]), (0, [7]), (0, [7]), (0, [7]), (0, [7]), (0, [7]), (0, [7]), (0, [49]), (9, [33, 0, 34]), (0, [300]), (0, [32]), (9, [36, 0, 37]), (0, [300]), (0, [32])]) (n' := 34) (KW_setN (i := 0) (by decide) (by decide) rfl) rfl ?_
  refine oj_aload_n 0 dX2_init_108 rfl rfl ?_
  have hA : A2g (KW ks 20 [(7, [0, 25, 26, 27, 28, 29, 30, 31, 0, 0, 0, 0, 32, 35]), (0, [7]), (0, [7]), (0, [7]), (0, [7]), (0, [7]), (0, [7]), (0, [49]), (9, [33, 0, 34]), (0, [300]), (0, [32]), (9, [36, 0, 37]), (0, [300]), (0, [32])]) 34 20 := by
    refine ⟨?_, ?_, ?_, ?_, ?_, ?_, ?_, ?_, ?_, ?_, ?_, ?_, ?_, ?_⟩
    all_goals first
      | exact KW_at (i := 0) rfl (by decide) (by decide) (by decide)
      | exact KW_at (i := 1) rfl (by decide) (by decide) (by decide)
      | exact KW_at (i := 2) rfl (by decide) (by decide) (by decide)
      | exact KW_at (i := 3) rfl (by decide) (by decide) (by decide)
      | exact KW_at (i := 4) rfl (by decide) (by decide) (by decide)
      | exact KW_at (i := 5) rfl (by decide) (by decide) (by decide)
      | exact KW_at (i := 6) rfl (by decide) (by decide) (by decide)
      | exact KW_at (i := 7) rfl (by decide) (by decide) (by decide)
      | exact KW_at (i := 8) rfl (by decide) (by decide) (by decide)
      | exact KW_at (i := 9) rfl (by decide) (by decide) (by decide)
      | exact KW_at (i := 10) rfl (by decide) (by decide) (by decide)
      | exact KW_at (i := 11) rfl (by decide) (by decide) (by decide)
      | exact KW_at (i := 12) rfl (by decide) (by decide) (by decide)
      | exact KW_at (i := 13) rfl (by decide) (by decide) (by decide)
  refine og_Vv (dq := 2) [] mi_RX2_57 ow_154 ow_155 rfl (A2g_0 hA) (BG2_clear hA y) ⟨by decide, by decide⟩ ⟨by decide, by decide⟩ rfl (Nat.le_of_ble_eq_true rfl) dX2_init_109 (fun h' hq => ?_)
  exact oj_ret (r := none) ⟨trivial, rfl, rfl, rfl, hq⟩ dX2_init_112 (by decide) (by decide)
theorem mi_RX5_11 : ob_mi RX5 11 yX2_init cX2_init 1 none 0 := ⟨ow_132, ow_8, ow_134, by decide +kernel⟩
set_option maxHeartbeats 1000000 in
theorem I5 {ks : Nat → ob_K} {h : ob_H} (hz : Fz 4 h) {c1 : ob_K} {m1 : Nat} (h1 : ob_is ks m1 1 c1) : ob_T yX5_init cX5_init 2 none { frames := 4, cells := 15, slots := 782, locals := 121 } (KW ks 4 [(10, [3, 0, 0, 3, 3, 0, 0, 0, 0, 0, 3, 0])]) 5 h [.ref 4, .ref 1] (fun r ks' n' h' => r = none ∧ ks' = KW ks 4 [(10, [9, 0, 0, 5, 23, 0, 0, 0, 0, 0, 17, 0]), (7, [0, 10, 11, 12, 13, 14, 15, 16, 0, 0, 0, 0, 17, 20]), (0, [7]), (0, [7]), (0, [7]), (0, [7]), (0, [7]), (0, [7]), (0, [49]), (9, [18, 0, 19]), (0, [300]), (0, [32]), (9, [21, 0, 22]), (0, [300]), (0, [32]), (1, [7])] ∧ n' = 20 ∧ ∃ h2, Fr (fun q _ => 5 ≤ q ∧ q ≤ 18) h h2 ∧ h' = h_i h2 4 2 (-1)) := by
  refine ob_T_of (ini := true) (by decide +kernel) (fun _ => rfl) (Nat.le_of_ble_eq_true rfl) ?_
  show ob_J RX5 cX5_init 2 { frames := 4, cells := 15, slots := 782, locals := 121 } true none 0 0 (KW ks 4 [(10, [3, 0, 0, 3, 3, 0, 0, 0, 0, 0, 3, 0])]) 5 h 0 [(0, .ref 4), (1, .ref 1)] [] _
  refine oj_aload_n 0 dX5_init_0 rfl rfl ?_
  refine oj_objInit (KW_at (i := 0) (L := [(10, [3, 0, 0, 3, 3, 0, 0, 0, 0, 0, 3, 0])]) rfl (by decide) (by decide) (by decide)) ow_129 ow_27 ow_28 (by decide) (by decide) rfl dX5_init_1 ?_
  refine oj_aload_n 0 dX5_init_4 rfl rfl ?_
  refine oj_new (ci := 2) (codes := [0, 3, 3, 3, 3, 3, 3, 3, 0, 0, 0, 0, 3, 3]) rfl inX2 tyX2_ok ow_130 ow_131 ow_8 (fun base' j hj => ?_) (by decide) (by decide) (by decide) dX5_init_5 ?_
  · rcases (by omega : j = 0 ∨ j = 1 ∨ j = 2 ∨ j = 3 ∨ j = 4 ∨ j = 5 ∨ j = 6 ∨ j = 7 ∨ j = 8 ∨ j = 9 ∨ j = 10 ∨ j = 11 ∨ j = 12 ∨ j = 13) with rfl | rfl | rfl | rfl | rfl | rfl | rfl | rfl | rfl | rfl | rfl | rfl | rfl | rfl
    all_goals first
      | rfl
      | exact congrArg Value.int ((hz.up (m := 5) (by decide)) 5 (Nat.le_refl _) _).1.symm
      | exact congrArg Value.long ((hz.up (m := 5) (by decide)) 5 (Nat.le_refl _) _).2.symm
  refine oj_kn (ks' := KW ks 4 [(10, [3, 0, 0, 3, 3, 0, 0, 0, 0, 0, 3, 0]), (7, [0, 3, 3, 3, 3, 3, 3, 3, 0, 0, 0, 0, 3, 3])]) (n' := 6) (KW_pushN (by decide) rfl) rfl ?_
  refine oj_dup dX5_init_8 rfl ?_
  refine oj_kn (ks' := KW (KW ks 4 [(10, [3, 0, 0, 3, 3, 0, 0, 0, 0, 0, 3, 0])]) 5 [(7, [0, 3, 3, 3, 3, 3, 3, 3, 0, 0, 0, 0, 3, 3])]) (n' := 6) (Eq.symm (KW_nestN (by decide) rfl)) rfl ?_
  refine oj_callI [] mi_RX5_11 rfl ow_133 (KW_at (i := 0) (L := [(7, [0, 3, 3, 3, 3, 3, 3, 3, 0, 0, 0, 0, 3, 3])]) rfl (by decide) (by decide) (by decide)) (I2_5 (ks := KW ks 4 [(10, [3, 0, 0, 3, 3, 0, 0, 0, 0, 0, 3, 0])]) (h := h) (Q := fun h' => Fr (fun q _ => 5 ≤ q ∧ q ≤ 18) h h') (hz.up (by decide)) (cs_clear fun h2 f2 _ _ _ _ _ => Fr.tr (h1 := h_i h 5 9 100) (Fr.st Fr.rf (by decide)) f2)) ⟨by decide, by decide⟩ ⟨by decide, by decide⟩ rfl (Nat.le_of_ble_eq_true rfl) dX5_init_9 (fun r ks' n' h' hq => ?_)
  obtain ⟨rfl, rfl, rfl, f⟩ := hq
  have z4 : ∀ k, h'.1 4 k = 0 ∧ h'.2.1 4 k = 0 := fun k => ⟨by rw [f.i (by decide)]; exact (hz 4 (Nat.le_refl _) k).1, by rw [f.l (by decide)]; exact (hz 4 (Nat.le_refl _) k).2⟩
  have hz1 : Fz 19 h' := hz.fr f (by decide) (by decide)
  refine oj_kn (ks' := KW ks 4 [(10, [3, 0, 0, 3, 3, 0, 0, 0, 0, 0, 3, 0]), (7, [0, 10, 11, 12, 13, 14, 15, 16, 0, 0, 0, 0, 17, 20]), (0, [7]), (0, [7]), (0, [7]), (0, [7]), (0, [7]), (0, [7]), (0, [49]), (9, [18, 0, 19]), (0, [300]), (0, [32]), (9, [21, 0, 22]), (0, [300]), (0, [32])]) (n' := 19) (KW_nestN (by decide) rfl) rfl ?_
  refine oj_putr fl_RX5_12 (Or.inr ⟨rfl, RX5, TX5, 12, rfl, rfl⟩) (KW_at (i := 0) (L := [(10, [3, 0, 0, 3, 3, 0, 0, 0, 0, 0, 3, 0]), (7, [0, 10, 11, 12, 13, 14, 15, 16, 0, 0, 0, 0, 17, 20]), (0, [7]), (0, [7]), (0, [7]), (0, [7]), (0, [7]), (0, [7]), (0, [49]), (9, [18, 0, 19]), (0, [300]), (0, [32]), (9, [21, 0, 22]), (0, [300]), (0, [32])]) rfl (by decide) (by decide) (by decide)) (KW_at (i := 1) (L := [(10, [3, 0, 0, 3, 3, 0, 0, 0, 0, 0, 3, 0]), (7, [0, 10, 11, 12, 13, 14, 15, 16, 0, 0, 0, 0, 17, 20]), (0, [7]), (0, [7]), (0, [7]), (0, [7]), (0, [7]), (0, [7]), (0, [49]), (9, [18, 0, 19]), (0, [300]), (0, [32]), (9, [21, 0, 22]), (0, [300]), (0, [32])]) rfl (by decide) (by decide) (by decide)) (by decide) (fun _ => rfl) (fun _ => rfl) dX5_init_12 ?_
  refine oj_kn (ks' := KW ks 4 [(10, [9, 0, 0, 3, 3, 0, 0, 0, 0, 0, 3, 0]), (7, [0, 10, 11, 12, 13, 14, 15, 16, 0, 0, 0, 0, 17, 20]), (0, [7]), (0, [7]), (0, [7]), (0, [7]), (0, [7]), (0, [7]), (0, [49]), (9, [18, 0, 19]), (0, [300]), (0, [32]), (9, [21, 0, 22]), (0, [300]), (0, [32])]) (n' := 19) (KW_setN (i := 0) (by decide) (by decide) rfl) rfl ?_
  refine oj_aload_n 0 dX5_init_15 rfl rfl ?_
  refine oj_iconst dX5_init_16 ci_0 ?_
  refine oj_puti fl_RX5_18 (Or.inl rfl) (KW_at (i := 0) (L := [(10, [9, 0, 0, 3, 3, 0, 0, 0, 0, 0, 3, 0]), (7, [0, 10, 11, 12, 13, 14, 15, 16, 0, 0, 0, 0, 17, 20]), (0, [7]), (0, [7]), (0, [7]), (0, [7]), (0, [7]), (0, [7]), (0, [49]), (9, [18, 0, 19]), (0, [300]), (0, [32]), (9, [21, 0, 22]), (0, [300]), (0, [32])]) rfl (by decide) (by decide) (by decide)) rfl rfl rfl dX5_init_17 ?_
  rw [h_same (z4 1).1]
  refine oj_aload_n 0 dX5_init_20 rfl rfl ?_
  refine oj_iconst dX5_init_21 ci_m1 ?_
  refine oj_puti fl_RX5_22 (Or.inl rfl) (KW_at (i := 0) (L := [(10, [9, 0, 0, 3, 3, 0, 0, 0, 0, 0, 3, 0]), (7, [0, 10, 11, 12, 13, 14, 15, 16, 0, 0, 0, 0, 17, 20]), (0, [7]), (0, [7]), (0, [7]), (0, [7]), (0, [7]), (0, [7]), (0, [49]), (9, [18, 0, 19]), (0, [300]), (0, [32]), (9, [21, 0, 22]), (0, [300]), (0, [32])]) rfl (by decide) (by decide) (by decide)) rfl rfl rfl dX5_init_22 ?_
  have hz2 : Fz 19 (h_i h' 4 2 (-1)) := fun q hq k => ⟨by rw [h_i_1, if_neg (by omega)]; exact (hz1 q hq k).1, (hz1 q hq k).2⟩
  refine oj_aload_n 0 dX5_init_25 rfl rfl ?_
  refine oj_bipush dX5_init_26 cb_7 ?_
  refine oj_newa_l (N := 7) ow_123 (by decide) rfl (by decide) (fun k => ((hz2) 19 (Nat.le_refl _) k).2) (by decide) (by decide) (by decide) dX5_init_28 ?_
  refine oj_kn (ks' := KW ks 4 [(10, [9, 0, 0, 3, 3, 0, 0, 0, 0, 0, 3, 0]), (7, [0, 10, 11, 12, 13, 14, 15, 16, 0, 0, 0, 0, 17, 20]), (0, [7]), (0, [7]), (0, [7]), (0, [7]), (0, [7]), (0, [7]), (0, [49]), (9, [18, 0, 19]), (0, [300]), (0, [32]), (9, [21, 0, 22]), (0, [300]), (0, [32]), (1, [7])]) (n' := 20) (KW_pushN (by decide) rfl) rfl ?_
  refine oj_putr fl_RX5_25 (Or.inr ⟨rfl, RX5, TX5, 12, rfl, rfl⟩) (KW_at (i := 0) (L := [(10, [9, 0, 0, 3, 3, 0, 0, 0, 0, 0, 3, 0]), (7, [0, 10, 11, 12, 13, 14, 15, 16, 0, 0, 0, 0, 17, 20]), (0, [7]), (0, [7]), (0, [7]), (0, [7]), (0, [7]), (0, [7]), (0, [49]), (9, [18, 0, 19]), (0, [300]), (0, [32]), (9, [21, 0, 22]), (0, [300]), (0, [32]), (1, [7])]) rfl (by decide) (by decide) (by decide)) (KW_at (i := 15) (L := [(10, [9, 0, 0, 3, 3, 0, 0, 0, 0, 0, 3, 0]), (7, [0, 10, 11, 12, 13, 14, 15, 16, 0, 0, 0, 0, 17, 20]), (0, [7]), (0, [7]), (0, [7]), (0, [7]), (0, [7]), (0, [7]), (0, [49]), (9, [18, 0, 19]), (0, [300]), (0, [32]), (9, [21, 0, 22]), (0, [300]), (0, [32]), (1, [7])]) rfl (by decide) (by decide) (by decide)) (by decide) (fun _ => rfl) (fun _ => rfl) dX5_init_30 ?_
  refine oj_kn (ks' := KW ks 4 [(10, [9, 0, 0, 3, 23, 0, 0, 0, 0, 0, 3, 0]), (7, [0, 10, 11, 12, 13, 14, 15, 16, 0, 0, 0, 0, 17, 20]), (0, [7]), (0, [7]), (0, [7]), (0, [7]), (0, [7]), (0, [7]), (0, [49]), (9, [18, 0, 19]), (0, [300]), (0, [32]), (9, [21, 0, 22]), (0, [300]), (0, [32]), (1, [7])]) (n' := 20) (KW_setN (i := 0) (by decide) (by decide) rfl) rfl ?_
  refine oj_aload_n 0 dX5_init_33 rfl rfl ?_
  refine oj_iconst dX5_init_34 ci_0 ?_
  refine oj_puti fl_RX5_29 (Or.inl rfl) (KW_at (i := 0) (L := [(10, [9, 0, 0, 3, 23, 0, 0, 0, 0, 0, 3, 0]), (7, [0, 10, 11, 12, 13, 14, 15, 16, 0, 0, 0, 0, 17, 20]), (0, [7]), (0, [7]), (0, [7]), (0, [7]), (0, [7]), (0, [7]), (0, [49]), (9, [18, 0, 19]), (0, [300]), (0, [32]), (9, [21, 0, 22]), (0, [300]), (0, [32]), (1, [7])]) rfl (by decide) (by decide) (by decide)) rfl rfl rfl dX5_init_35 ?_
  rw [h_same (show (h_i h' 4 2 (-1)).1 4 5 = 0 from by rw [h_i_1, if_neg (by decide)]; exact (z4 5).1)]
  refine oj_aload_n 0 dX5_init_38 rfl rfl ?_
  refine oj_iconst dX5_init_39 ci_0 ?_
  refine oj_puti fl_RX5_32 (Or.inl rfl) (KW_at (i := 0) (L := [(10, [9, 0, 0, 3, 23, 0, 0, 0, 0, 0, 3, 0]), (7, [0, 10, 11, 12, 13, 14, 15, 16, 0, 0, 0, 0, 17, 20]), (0, [7]), (0, [7]), (0, [7]), (0, [7]), (0, [7]), (0, [7]), (0, [49]), (9, [18, 0, 19]), (0, [300]), (0, [32]), (9, [21, 0, 22]), (0, [300]), (0, [32]), (1, [7])]) rfl (by decide) (by decide) (by decide)) rfl rfl rfl dX5_init_40 ?_
  rw [h_same (show (h_i h' 4 2 (-1)).1 4 6 = 0 from by rw [h_i_1, if_neg (by decide)]; exact (z4 6).1)]
  refine oj_aload_n 0 dX5_init_43 rfl rfl ?_
  refine oj_iconst dX5_init_44 ci_0 ?_
  refine oj_puti fl_RX5_35 (Or.inl rfl) (KW_at (i := 0) (L := [(10, [9, 0, 0, 3, 23, 0, 0, 0, 0, 0, 3, 0]), (7, [0, 10, 11, 12, 13, 14, 15, 16, 0, 0, 0, 0, 17, 20]), (0, [7]), (0, [7]), (0, [7]), (0, [7]), (0, [7]), (0, [7]), (0, [49]), (9, [18, 0, 19]), (0, [300]), (0, [32]), (9, [21, 0, 22]), (0, [300]), (0, [32]), (1, [7])]) rfl (by decide) (by decide) (by decide)) rfl rfl rfl dX5_init_45 ?_
  rw [h_same (show (h_i h' 4 2 (-1)).1 4 7 = 0 from by rw [h_i_1, if_neg (by decide)]; exact (z4 7).1)]
  refine oj_aload_n 0 dX5_init_48 rfl rfl ?_
  refine oj_iconst dX5_init_49 ci_0 ?_
  refine oj_puti fl_RX5_38 (Or.inl rfl) (KW_at (i := 0) (L := [(10, [9, 0, 0, 3, 23, 0, 0, 0, 0, 0, 3, 0]), (7, [0, 10, 11, 12, 13, 14, 15, 16, 0, 0, 0, 0, 17, 20]), (0, [7]), (0, [7]), (0, [7]), (0, [7]), (0, [7]), (0, [7]), (0, [49]), (9, [18, 0, 19]), (0, [300]), (0, [32]), (9, [21, 0, 22]), (0, [300]), (0, [32]), (1, [7])]) rfl (by decide) (by decide) (by decide)) rfl rfl rfl dX5_init_50 ?_
  rw [h_same (show (h_i h' 4 2 (-1)).1 4 8 = 0 from by rw [h_i_1, if_neg (by decide)]; exact (z4 8).1)]
  refine oj_aload_n 0 dX5_init_53 rfl rfl ?_
  refine oj_iconst dX5_init_54 ci_0 ?_
  refine oj_puti fl_RX5_41 (Or.inl rfl) (KW_at (i := 0) (L := [(10, [9, 0, 0, 3, 23, 0, 0, 0, 0, 0, 3, 0]), (7, [0, 10, 11, 12, 13, 14, 15, 16, 0, 0, 0, 0, 17, 20]), (0, [7]), (0, [7]), (0, [7]), (0, [7]), (0, [7]), (0, [7]), (0, [49]), (9, [18, 0, 19]), (0, [300]), (0, [32]), (9, [21, 0, 22]), (0, [300]), (0, [32]), (1, [7])]) rfl (by decide) (by decide) (by decide)) rfl rfl rfl dX5_init_55 ?_
  rw [h_same (show (h_i h' 4 2 (-1)).1 4 9 = 0 from by rw [h_i_1, if_neg (by decide)]; exact (z4 9).1)]
  refine oj_aload_n 0 dX5_init_58 rfl rfl ?_
  refine oj_aload_n 0 dX5_init_59 rfl rfl ?_
  refine oj_getr (q := 5) fl_RX5_12 (KW_at (i := 0) (L := [(10, [9, 0, 0, 3, 23, 0, 0, 0, 0, 0, 3, 0]), (7, [0, 10, 11, 12, 13, 14, 15, 16, 0, 0, 0, 0, 17, 20]), (0, [7]), (0, [7]), (0, [7]), (0, [7]), (0, [7]), (0, [7]), (0, [49]), (9, [18, 0, 19]), (0, [300]), (0, [32]), (9, [21, 0, 22]), (0, [300]), (0, [32]), (1, [7])]) rfl (by decide) (by decide) (by decide)) rfl (KW_at (i := 1) (L := [(10, [9, 0, 0, 3, 23, 0, 0, 0, 0, 0, 3, 0]), (7, [0, 10, 11, 12, 13, 14, 15, 16, 0, 0, 0, 0, 17, 20]), (0, [7]), (0, [7]), (0, [7]), (0, [7]), (0, [7]), (0, [7]), (0, [49]), (9, [18, 0, 19]), (0, [300]), (0, [32]), (9, [21, 0, 22]), (0, [300]), (0, [32]), (1, [7])]) rfl (by decide) (by decide) (by decide)) dX5_init_60 ?_
  refine oj_getr (q := 13) fl_RX5_44 (KW_at (i := 1) (L := [(10, [9, 0, 0, 3, 23, 0, 0, 0, 0, 0, 3, 0]), (7, [0, 10, 11, 12, 13, 14, 15, 16, 0, 0, 0, 0, 17, 20]), (0, [7]), (0, [7]), (0, [7]), (0, [7]), (0, [7]), (0, [7]), (0, [49]), (9, [18, 0, 19]), (0, [300]), (0, [32]), (9, [21, 0, 22]), (0, [300]), (0, [32]), (1, [7])]) rfl (by decide) (by decide) (by decide)) rfl (KW_at (i := 9) (L := [(10, [9, 0, 0, 3, 23, 0, 0, 0, 0, 0, 3, 0]), (7, [0, 10, 11, 12, 13, 14, 15, 16, 0, 0, 0, 0, 17, 20]), (0, [7]), (0, [7]), (0, [7]), (0, [7]), (0, [7]), (0, [7]), (0, [49]), (9, [18, 0, 19]), (0, [300]), (0, [32]), (9, [21, 0, 22]), (0, [300]), (0, [32]), (1, [7])]) rfl (by decide) (by decide) (by decide)) dX5_init_63 ?_
  refine oj_putr fl_RX5_48 (Or.inl rfl) (KW_at (i := 0) (L := [(10, [9, 0, 0, 3, 23, 0, 0, 0, 0, 0, 3, 0]), (7, [0, 10, 11, 12, 13, 14, 15, 16, 0, 0, 0, 0, 17, 20]), (0, [7]), (0, [7]), (0, [7]), (0, [7]), (0, [7]), (0, [7]), (0, [49]), (9, [18, 0, 19]), (0, [300]), (0, [32]), (9, [21, 0, 22]), (0, [300]), (0, [32]), (1, [7])]) rfl (by decide) (by decide) (by decide)) (KW_at (i := 9) (L := [(10, [9, 0, 0, 3, 23, 0, 0, 0, 0, 0, 3, 0]), (7, [0, 10, 11, 12, 13, 14, 15, 16, 0, 0, 0, 0, 17, 20]), (0, [7]), (0, [7]), (0, [7]), (0, [7]), (0, [7]), (0, [7]), (0, [49]), (9, [18, 0, 19]), (0, [300]), (0, [32]), (9, [21, 0, 22]), (0, [300]), (0, [32]), (1, [7])]) rfl (by decide) (by decide) (by decide)) (by decide) (fun _ => rfl) (fun _ => rfl) dX5_init_66 ?_
  refine oj_kn (ks' := KW ks 4 [(10, [9, 0, 0, 3, 23, 0, 0, 0, 0, 0, 17, 0]), (7, [0, 10, 11, 12, 13, 14, 15, 16, 0, 0, 0, 0, 17, 20]), (0, [7]), (0, [7]), (0, [7]), (0, [7]), (0, [7]), (0, [7]), (0, [49]), (9, [18, 0, 19]), (0, [300]), (0, [32]), (9, [21, 0, 22]), (0, [300]), (0, [32]), (1, [7])]) (n' := 20) (KW_setN (i := 0) (by decide) (by decide) rfl) rfl ?_
  refine oj_aload_n 0 dX5_init_69 rfl rfl ?_
  refine oj_iconst dX5_init_70 ci_0 ?_
  refine oj_puti fl_RX5_51 (Or.inl rfl) (KW_at (i := 0) (L := [(10, [9, 0, 0, 3, 23, 0, 0, 0, 0, 0, 17, 0]), (7, [0, 10, 11, 12, 13, 14, 15, 16, 0, 0, 0, 0, 17, 20]), (0, [7]), (0, [7]), (0, [7]), (0, [7]), (0, [7]), (0, [7]), (0, [49]), (9, [18, 0, 19]), (0, [300]), (0, [32]), (9, [21, 0, 22]), (0, [300]), (0, [32]), (1, [7])]) rfl (by decide) (by decide) (by decide)) rfl rfl rfl dX5_init_71 ?_
  rw [h_same (show (h_i h' 4 2 (-1)).1 4 11 = 0 from by rw [h_i_1, if_neg (by decide)]; exact (z4 11).1)]
  refine oj_aload_n 0 dX5_init_74 rfl rfl ?_
  refine oj_aload_n 1 dX5_init_75 rfl rfl ?_
  refine oj_putr fl_RX5_54 (Or.inr ⟨rfl, RX5, TX5, 12, rfl, rfl⟩) (KW_at (i := 0) (L := [(10, [9, 0, 0, 3, 23, 0, 0, 0, 0, 0, 17, 0]), (7, [0, 10, 11, 12, 13, 14, 15, 16, 0, 0, 0, 0, 17, 20]), (0, [7]), (0, [7]), (0, [7]), (0, [7]), (0, [7]), (0, [7]), (0, [49]), (9, [18, 0, 19]), (0, [300]), (0, [32]), (9, [21, 0, 22]), (0, [300]), (0, [32]), (1, [7])]) rfl (by decide) (by decide) (by decide)) (KW_loN (L := [(10, [9, 0, 0, 3, 23, 0, 0, 0, 0, 0, 17, 0]), (7, [0, 10, 11, 12, 13, 14, 15, 16, 0, 0, 0, 0, 17, 20]), (0, [7]), (0, [7]), (0, [7]), (0, [7]), (0, [7]), (0, [7]), (0, [49]), (9, [18, 0, 19]), (0, [300]), (0, [32]), (9, [21, 0, 22]), (0, [300]), (0, [32]), (1, [7])]) h1 (by decide) (by decide) (by decide)) (by decide) (fun _ => rfl) (fun _ => rfl) dX5_init_76 ?_
  refine oj_kn (ks' := KW ks 4 [(10, [9, 0, 0, 5, 23, 0, 0, 0, 0, 0, 17, 0]), (7, [0, 10, 11, 12, 13, 14, 15, 16, 0, 0, 0, 0, 17, 20]), (0, [7]), (0, [7]), (0, [7]), (0, [7]), (0, [7]), (0, [7]), (0, [49]), (9, [18, 0, 19]), (0, [300]), (0, [32]), (9, [21, 0, 22]), (0, [300]), (0, [32]), (1, [7])]) (n' := 20) (KW_setN (i := 0) (by decide) (by decide) rfl) rfl ?_
  exact oj_ret (r := none) ⟨trivial, rfl, rfl, rfl, h', f, rfl⟩ dX5_init_79 (by decide) (by decide)
