-- X5_readTwoNames
set_option maxRecDepth 100000 in
set_option maxHeartbeats 4000000 in
theorem BX5_readTwoNames    {h : ob_H} {Q : Int32 → ob_H → Prop} (y : MX5_readTwoNames   h Q) : ob_T yX5_readTwoNames cX5_readTwoNames 1 (some .boolean) (ob_rm 4) KS NN h [.ref 4] (ob_g (some .boolean) (ob_qi Q)) := by
  unfold MX5_readTwoNames at y
  refine ob_T_gf (by decide +kernel) (Nat.le_of_ble_eq_true rfl) ?_
  show ob_J RX5 cX5_readTwoNames 1 (ob_rm 4) false none 0 0 KS NN h 0 [(0, .ref 4)] [] (ob_g (some .boolean) (ob_qi Q))
  refine oj_aload_n 0 dX5_readTwoNames_0 rfl rfl ?_
  refine oj_getr (q := 1) fl_RX5_54 k_4 rfl k_1 dX5_readTwoNames_1 ?_
  refine oc_Vv [] mi_RX5_106 ow_609 ow_610 rfl k_1 (BX10_step  y) ⟨by decide, by decide⟩ ⟨Nat.le_refl _, Nat.le_refl _⟩ rfl (Nat.le_of_ble_eq_true rfl) dX5_readTwoNames_4 (fun h2 y4 => ?_)
  refine oj_aload_n 0 dX5_readTwoNames_7 rfl rfl ?_
  refine oj_aload_n 0 dX5_readTwoNames_8 rfl rfl ?_
  refine oc_Vpi [] mi_RX5_187 ow_645 op_6 rfl k_4 (BX5_find  y4) ⟨by decide, by decide⟩ ⟨Nat.le_refl _, Nat.le_refl _⟩ rfl (Nat.le_of_ble_eq_true rfl) dX5_readTwoNames_9 (fun r5 f7 y8 => ?_)
  refine oj_puti fl_RX5_38 (Or.inl rfl) k_4 rfl rfl rfl dX5_readTwoNames_12 ?_
  refine oj_toph (fun h9 eh9 => ?_)
  have y10 := Lt_at y8 h9 eh9
  refine oj_aload_n 0 dX5_readTwoNames_15 rfl rfl ?_
  refine oj_geti fl_RX5_38 k_4 rfl dX5_readTwoNames_16 ?_
  refine oj_if_ge 46 dX5_readTwoNames_19 rfl (fun c11 => ?_) (fun c11 => ?_)
  · have y12 := y10.1 c11
    refine oj_aload_n 0 dX5_readTwoNames_46 rfl rfl ?_
    refine oj_getr (q := 1) fl_RX5_54 k_4 rfl k_1 dX5_readTwoNames_47 ?_
    refine oc_Vv [] mi_RX5_106 ow_609 ow_610 rfl k_1 (BX10_step  y12) ⟨by decide, by decide⟩ ⟨Nat.le_refl _, Nat.le_refl _⟩ rfl (Nat.le_of_ble_eq_true rfl) dX5_readTwoNames_50 (fun h15 y17 => ?_)
    refine oj_aload_n 0 dX5_readTwoNames_53 rfl rfl ?_
    refine oj_aload_n 0 dX5_readTwoNames_54 rfl rfl ?_
    refine oc_Vpi [] mi_RX5_187 ow_645 op_6 rfl k_4 (BX5_find  y17) ⟨by decide, by decide⟩ ⟨Nat.le_refl _, Nat.le_refl _⟩ rfl (Nat.le_of_ble_eq_true rfl) dX5_readTwoNames_55 (fun r18 f20 y21 => ?_)
    refine oj_puti fl_RX5_41 (Or.inl rfl) k_4 rfl rfl rfl dX5_readTwoNames_58 ?_
    refine oj_toph (fun h22 eh22 => ?_)
    have y23 := Lt_at y21 h22 eh22
    refine oj_aload_n 0 dX5_readTwoNames_61 rfl rfl ?_
    refine oj_geti fl_RX5_41 k_4 rfl dX5_readTwoNames_62 ?_
    refine oj_if_ge 92 dX5_readTwoNames_65 rfl (fun c24 => ?_) (fun c24 => ?_)
    · have y25 := y23.1 c24
      refine oj_aload_n 0 dX5_readTwoNames_92 rfl rfl ?_
      refine oj_geti fl_RX5_38 k_4 rfl dX5_readTwoNames_93 ?_
      refine oj_aload_n 0 dX5_readTwoNames_96 rfl rfl ?_
      refine oj_geti fl_RX5_41 k_4 rfl dX5_readTwoNames_97 ?_
      refine oj_icmp_ne 111 dX5_readTwoNames_100 rfl (fun c27 => ?_) (fun c27 => ?_)
      · have y28 := y25.2 c27
        refine oj_iconst dX5_readTwoNames_111 ci_1 ?_
        refine oj_goto 116 dX5_readTwoNames_112 rfl ?_
        exact oj_ret (r := some (.int (1))) ⟨rfl, rfl, rfl, (1), rfl, y28⟩ dX5_readTwoNames_116 (Nat.zero_le _) (Nat.zero_le _)
      · have y29 := y25.1 c27
        refine oj_aload_n 0 dX5_readTwoNames_103 rfl rfl ?_
        refine oj_iconst dX5_readTwoNames_104 ci_3 ?_
        refine oc_Vi [.int (3)] mi_RX5_144 ow_636 op_4 rfl k_4 (BX5_refuse  y29) ⟨by decide, by decide⟩ ⟨Nat.le_refl _, Nat.le_refl _⟩ rfl (Nat.le_of_ble_eq_true rfl) dX5_readTwoNames_105 (fun r30 f32 h31 y33 => ?_)
        refine oj_if_eq 115 dX5_readTwoNames_108 rfl (fun c34 => ?_) (fun c34 => ?_)
        · have y35 := y33.1 c34
          refine oj_iconst dX5_readTwoNames_115 ci_0 ?_
          exact oj_ret (r := some (.int (0))) ⟨rfl, rfl, rfl, (0), rfl, y35⟩ dX5_readTwoNames_116 (Nat.zero_le _) (Nat.zero_le _)
        · have y36 := y33.2 c34
          refine oj_iconst dX5_readTwoNames_111 ci_1 ?_
          refine oj_goto 116 dX5_readTwoNames_112 rfl ?_
          exact oj_ret (r := some (.int (1))) ⟨rfl, rfl, rfl, (1), rfl, y36⟩ dX5_readTwoNames_116 (Nat.zero_le _) (Nat.zero_le _)
    · have y26 := y23.2 c24
      refine oj_aload_n 0 dX5_readTwoNames_68 rfl rfl ?_
      refine oj_getr (q := 1) fl_RX5_54 k_4 rfl k_1 dX5_readTwoNames_69 ?_
      refine oj_geti fl_RX5_66 k_1 rfl dX5_readTwoNames_72 ?_
      refine oj_iconst dX5_readTwoNames_75 ci_2 ?_
      refine oj_icmp_ne 87 dX5_readTwoNames_76 rfl (fun c37 => ?_) (fun c37 => ?_)
      · have y38 := y26.2 c37
        refine oj_aload_n 0 dX5_readTwoNames_87 rfl rfl ?_
        refine oc_Vi [] mi_RX5_100 ow_632 op_3 rfl k_4 (BX5_misplaced  y38) ⟨by decide, by decide⟩ ⟨Nat.le_refl _, Nat.le_refl _⟩ rfl (Nat.le_of_ble_eq_true rfl) dX5_readTwoNames_88 (fun r40 f42 h41 y43 => ?_)
        exact oj_ret (r := some (.int r40)) ⟨f42, rfl, rfl, r40, rfl, y43⟩ dX5_readTwoNames_91 (Nat.zero_le _) (Nat.zero_le _)
      · have y39 := y26.1 c37
        refine oj_aload_n 0 dX5_readTwoNames_79 rfl rfl ?_
        refine oj_iconst dX5_readTwoNames_80 ci_5 ?_
        refine oc_Vi [.int (5)] mi_RX5_144 ow_636 op_4 rfl k_4 (BX5_refuse  y39) ⟨by decide, by decide⟩ ⟨Nat.le_refl _, Nat.le_refl _⟩ rfl (Nat.le_of_ble_eq_true rfl) dX5_readTwoNames_81 (fun r44 f46 h45 y47 => ?_)
        refine oj_goto 91 dX5_readTwoNames_84 rfl ?_
        exact oj_ret (r := some (.int r44)) ⟨f46, rfl, rfl, r44, rfl, y47⟩ dX5_readTwoNames_91 (Nat.zero_le _) (Nat.zero_le _)
  · have y13 := y10.2 c11
    refine oj_aload_n 0 dX5_readTwoNames_22 rfl rfl ?_
    refine oj_getr (q := 1) fl_RX5_54 k_4 rfl k_1 dX5_readTwoNames_23 ?_
    refine oj_geti fl_RX5_66 k_1 rfl dX5_readTwoNames_26 ?_
    refine oj_iconst dX5_readTwoNames_29 ci_2 ?_
    refine oj_icmp_ne 41 dX5_readTwoNames_30 rfl (fun c48 => ?_) (fun c48 => ?_)
    · have y49 := y13.2 c48
      refine oj_aload_n 0 dX5_readTwoNames_41 rfl rfl ?_
      refine oc_Vi [] mi_RX5_100 ow_632 op_3 rfl k_4 (BX5_misplaced  y49) ⟨by decide, by decide⟩ ⟨Nat.le_refl _, Nat.le_refl _⟩ rfl (Nat.le_of_ble_eq_true rfl) dX5_readTwoNames_42 (fun r51 f53 h52 y54 => ?_)
      exact oj_ret (r := some (.int r51)) ⟨f53, rfl, rfl, r51, rfl, y54⟩ dX5_readTwoNames_45 (Nat.zero_le _) (Nat.zero_le _)
    · have y50 := y13.1 c48
      refine oj_aload_n 0 dX5_readTwoNames_33 rfl rfl ?_
      refine oj_iconst dX5_readTwoNames_34 ci_5 ?_
      refine oc_Vi [.int (5)] mi_RX5_144 ow_636 op_4 rfl k_4 (BX5_refuse  y50) ⟨by decide, by decide⟩ ⟨Nat.le_refl _, Nat.le_refl _⟩ rfl (Nat.le_of_ble_eq_true rfl) dX5_readTwoNames_35 (fun r55 f57 h56 y58 => ?_)
      refine oj_goto 45 dX5_readTwoNames_38 rfl ?_
      exact oj_ret (r := some (.int r55)) ⟨f57, rfl, rfl, r55, rfl, y58⟩ dX5_readTwoNames_45 (Nat.zero_le _) (Nat.zero_le _)
-- X5_readWhom
set_option maxRecDepth 100000 in
set_option maxHeartbeats 4000000 in
theorem BLX5_readWhom_5 {p1 : Nat} (hp1 : ob_is KS NN p1 (0, [7])) {x2 : Int32} {h : ob_H} {Q : Int32 → ob_H → Prop} :
    ∀ (n : Nat) (x3 : Int32) (x4 : Int32), it2 (FX5_readWhom_5 p1 x2 h Q) n x3 x4 → ob_J RX5 cX5_readWhom 5 (ob_rm 5) false none 0 0 KS NN h 5 [(0, .ref 4), (1, .ref p1), (2, .int x2), (3, .int x3), (4, .int x4)] [] (ob_g (some .boolean) (ob_qi Q)) := by
  intro n
  induction n with
  | zero => intro x3 x4 y; exact False.elim y
  | succ n hk5 =>
    intro x3 x4 y
    have y : FX5_readWhom_5 p1 x2 h Q (it2 (FX5_readWhom_5 p1 x2 h Q) n) x3 x4 := y
    unfold FX5_readWhom_5 at y
    refine oj_iload 4 dX5_readWhom_5 rfl ?_
    refine oj_aload_n 0 dX5_readWhom_7 rfl rfl ?_
    refine oj_getr (q := 5) fl_RX5_12 k_4 rfl k_5 dX5_readWhom_8 ?_
    refine oj_geti fl_RX5_103 k_5 rfl dX5_readWhom_11 ?_
    refine oj_icmp_ge 33 dX5_readWhom_14 rfl (fun c1 => ?_) (fun c1 => ?_)
    · have y2 := y.1 c1
      refine oj_iload_n 3 dX5_readWhom_33 rfl rfl ?_
      refine oj_iload_n 2 dX5_readWhom_34 rfl rfl ?_
      refine oj_icmp_lt 43 dX5_readWhom_35 rfl (fun c4 => ?_) (fun c4 => ?_)
      · have y5 := y2.1 c4
        refine oj_aload_n 0 dX5_readWhom_43 rfl rfl ?_
        refine oc_Vi [] mi_RX5_141 ow_667 op_10 rfl k_4 (BX5_readTwoNames  y5) ⟨by decide, by decide⟩ ⟨Nat.le_refl _, Nat.le_refl _⟩ rfl (Nat.le_of_ble_eq_true rfl) dX5_readWhom_44 (fun r7 f9 h8 y10 => ?_)
        refine oj_if_ne 52 dX5_readWhom_47 rfl (fun c11 => ?_) (fun c11 => ?_)
        · have y12 := y10.2 c11
          refine oj_aload_n 1 dX5_readWhom_52 rfl rfl ?_
          refine oj_aload_n 0 dX5_readWhom_53 rfl rfl ?_
          refine oj_geti fl_RX5_38 k_4 rfl dX5_readWhom_54 ?_
          obtain ⟨c14, y15⟩ := y12
          refine oj_iald hp1 c14 rfl dX5_readWhom_57 ?_
          refine oj_aload_n 0 dX5_readWhom_58 rfl rfl ?_
          refine oj_geti fl_RX5_41 k_4 rfl dX5_readWhom_59 ?_
          refine oj_ishr dX5_readWhom_62 ?_
          refine oj_iconst dX5_readWhom_63 ci_1 ?_
          refine oj_iand dX5_readWhom_64 ?_
          refine oj_if_eq 74 dX5_readWhom_65 rfl (fun c16 => ?_) (fun c16 => ?_)
          · have y17 := y15.1 c16
            refine oj_aload_n 1 dX5_readWhom_74 rfl rfl ?_
            refine oj_aload_n 0 dX5_readWhom_75 rfl rfl ?_
            refine oj_geti fl_RX5_38 k_4 rfl dX5_readWhom_76 ?_
            refine oj_dup2 dX5_readWhom_79 rfl rfl ?_
            refine oj_iald hp1 c14 rfl dX5_readWhom_80 ?_
            refine oj_iconst dX5_readWhom_81 ci_1 ?_
            refine oj_aload_n 0 dX5_readWhom_82 rfl rfl ?_
            refine oj_geti fl_RX5_41 k_4 rfl dX5_readWhom_83 ?_
            refine oj_ishl dX5_readWhom_86 ?_
            refine oj_ior dX5_readWhom_87 ?_
            refine oj_iast hp1 c14 rfl dX5_readWhom_88 ?_
            refine oj_toph (fun h19 eh19 => ?_)
            have y20 := Lt_at y17 h19 eh19
            refine oj_aload_n 0 dX5_readWhom_89 rfl rfl ?_
            refine oj_getr (q := 1) fl_RX5_54 k_4 rfl k_1 dX5_readWhom_90 ?_
            refine oc_Vv [] mi_RX5_106 ow_609 ow_610 rfl k_1 (BX10_step  y20) ⟨by decide, by decide⟩ ⟨Nat.le_refl _, Nat.le_refl _⟩ rfl (Nat.le_of_ble_eq_true rfl) dX5_readWhom_93 (fun h22 y24 => ?_)
            refine oj_aload_n 0 dX5_readWhom_96 rfl rfl ?_
            refine oj_bipush dX5_readWhom_97 cb_59 ?_
            refine oc_Vi [.int (59)] mi_RX5_113 ow_649 op_7 rfl k_4 (BX5_take  y24) ⟨by decide, by decide⟩ ⟨Nat.le_refl _, Nat.le_refl _⟩ rfl (Nat.le_of_ble_eq_true rfl) dX5_readWhom_99 (fun r25 f27 h26 y28 => ?_)
            exact oj_ret (r := some (.int r25)) ⟨f27, rfl, rfl, r25, rfl, y28⟩ dX5_readWhom_102 (Nat.zero_le _) (Nat.zero_le _)
          · have y18 := y15.2 c16
            refine oj_aload_n 0 dX5_readWhom_68 rfl rfl ?_
            refine oj_iconst dX5_readWhom_69 ci_3 ?_
            refine oc_Vi [.int (3)] mi_RX5_144 ow_636 op_4 rfl k_4 (BX5_refuse  y18) ⟨by decide, by decide⟩ ⟨Nat.le_refl _, Nat.le_refl _⟩ rfl (Nat.le_of_ble_eq_true rfl) dX5_readWhom_70 (fun r29 f31 h30 y32 => ?_)
            exact oj_ret (r := some (.int r29)) ⟨f31, rfl, rfl, r29, rfl, y32⟩ dX5_readWhom_73 (Nat.zero_le _) (Nat.zero_le _)
        · have y13 := y10.1 c11
          refine oj_iconst dX5_readWhom_50 ci_0 ?_
          exact oj_ret (r := some (.int (0))) ⟨rfl, rfl, rfl, (0), rfl, y13⟩ dX5_readWhom_51 (Nat.zero_le _) (Nat.zero_le _)
      · have y6 := y2.2 c4
        refine oj_aload_n 0 dX5_readWhom_38 rfl rfl ?_
        refine oc_Vi [] mi_RX5_100 ow_632 op_3 rfl k_4 (BX5_misplaced  y6) ⟨by decide, by decide⟩ ⟨Nat.le_refl _, Nat.le_refl _⟩ rfl (Nat.le_of_ble_eq_true rfl) dX5_readWhom_39 (fun r33 f35 h34 y36 => ?_)
        exact oj_ret (r := some (.int r33)) ⟨f35, rfl, rfl, r33, rfl, y36⟩ dX5_readWhom_42 (Nat.zero_le _) (Nat.zero_le _)
    · have y3 := y.2 c1
      refine oj_iload_n 3 dX5_readWhom_17 rfl rfl ?_
      refine oj_aload_n 1 dX5_readWhom_18 rfl rfl ?_
      refine oj_iload 4 dX5_readWhom_19 rfl ?_
      obtain ⟨c37, y38⟩ := y3
      refine oj_iald hp1 c37 rfl dX5_readWhom_21 ?_
      refine oc_Spi [.int (h.1 p1 (ix x4))] mi_RX5_135 ow_660 (BJ6_bitCount_0f7a4  y38) ⟨by decide, by decide⟩ ⟨Nat.le_refl _, Nat.le_refl _⟩ rfl (Nat.le_of_ble_eq_true rfl) dX5_readWhom_22 (fun r39 f41 y42 => ?_)
      refine oj_iadd dX5_readWhom_25 ?_
      refine oj_topi (fun v43 ev43 => ?_)
      have y44 := Lt_at y42 v43 ev43
      refine oj_istore_n (lv' := [(3, .int v43), (0, .ref 4), (1, .ref p1), (2, .int x2), (4, .int x4)]) dX5_readWhom_26 rfl (by decide) rfl ?_
      obtain ⟨v45, ev45⟩ : ∃ z : Int32, z = x4 + (1) := ⟨_, rfl⟩
      have y46 := Lt_at y44 v45 ev45
      refine oj_iinc (v := v45) (lv' := [(4, .int v45), (3, .int v43), (0, .ref 4), (1, .ref p1), (2, .int x2)]) 4 dX5_readWhom_27 rfl (iinc_e ci_1 ev45) (by decide) rfl ?_
      refine oj_goto 5 dX5_readWhom_30 rfl ?_
      refine oj_lv [2, 3, 4, 1, 0] rfl ?_
      exact hk5 _ _ y46
set_option maxRecDepth 100000 in
set_option maxHeartbeats 4000000 in
theorem BX5_readWhom  {p1 : Nat} {p2 : Int32} (hp1 : ob_is KS NN p1 (0, [7])) {h : ob_H} {Q : Int32 → ob_H → Prop} (y : MX5_readWhom  p1 p2 h Q) : ob_T yX5_readWhom cX5_readWhom 5 (some .boolean) (ob_rm 5) KS NN h [.ref 4, .ref p1, .int p2] (ob_g (some .boolean) (ob_qi Q)) := by
  unfold MX5_readWhom at y
  refine ob_T_gf (by decide +kernel) (Nat.le_of_ble_eq_true rfl) ?_
  show ob_J RX5 cX5_readWhom 5 (ob_rm 5) false none 0 0 KS NN h 0 [(0, .ref 4), (1, .ref p1), (2, .int p2)] [] (ob_g (some .boolean) (ob_qi Q))
  refine oj_iconst dX5_readWhom_0 ci_0 ?_
  refine oj_istore_n (lv' := [(3, .int (0)), (0, .ref 4), (1, .ref p1), (2, .int p2)]) dX5_readWhom_1 rfl (by decide) rfl ?_
  refine oj_iconst dX5_readWhom_2 ci_0 ?_
  refine oj_istore (lv' := [(4, .int (0)), (3, .int (0)), (0, .ref 4), (1, .ref p1), (2, .int p2)]) dX5_readWhom_3 (by decide) rfl ?_
  refine oj_lv [2, 3, 4, 1, 0] rfl ?_
  obtain ⟨n, y47⟩ := y
  exact BLX5_readWhom_5 hp1 n _ _ y47
-- X5_readJoined
set_option maxRecDepth 100000 in
set_option maxHeartbeats 4000000 in
theorem BX5_readJoined    {h : ob_H} {Q : Int32 → ob_H → Prop} (y : MX5_readJoined   h Q) : ob_T yX5_readJoined cX5_readJoined 1 (some .boolean) (ob_rm 5) KS NN h [.ref 4] (ob_g (some .boolean) (ob_qi Q)) := by
  unfold MX5_readJoined at y
  refine ob_T_gf (by decide +kernel) (Nat.le_of_ble_eq_true rfl) ?_
  show ob_J RX5 cX5_readJoined 1 (ob_rm 5) false none 0 0 KS NN h 0 [(0, .ref 4)] [] (ob_g (some .boolean) (ob_qi Q))
  refine oj_aload_n 0 dX5_readJoined_0 rfl rfl ?_
  refine oj_geti fl_RX5_32 k_4 rfl dX5_readJoined_1 ?_
  refine oj_bipush dX5_readJoined_4 cb_6 ?_
  refine oj_icmp_lt 14 dX5_readJoined_6 rfl (fun c1 => ?_) (fun c1 => ?_)
  · have y2 := y.1 c1
    refine oj_aload_n 0 dX5_readJoined_14 rfl rfl ?_
    refine oc_Vi [] mi_RX5_141 ow_667 op_10 rfl k_4 (BX5_readTwoNames  y2) ⟨by decide, by decide⟩ ⟨Nat.le_refl _, Nat.le_refl _⟩ rfl (Nat.le_of_ble_eq_true rfl) dX5_readJoined_15 (fun r4 f6 h5 y7 => ?_)
    refine oj_if_ne 23 dX5_readJoined_18 rfl (fun c8 => ?_) (fun c8 => ?_)
    · have y9 := y7.2 c8
      refine oj_aload_n 0 dX5_readJoined_23 rfl rfl ?_
      refine oj_getr (q := 5) fl_RX5_12 k_4 rfl k_5 dX5_readJoined_24 ?_
      refine oj_getr (q := 12) fl_RX5_147 k_5 rfl k_12 dX5_readJoined_27 ?_
      refine oj_aload_n 0 dX5_readJoined_30 rfl rfl ?_
      refine oj_geti fl_RX5_38 k_4 rfl dX5_readJoined_31 ?_
      refine oj_bipush dX5_readJoined_34 cb_7 ?_
      refine oj_imul dX5_readJoined_36 ?_
      refine oj_aload_n 0 dX5_readJoined_37 rfl rfl ?_
      refine oj_geti fl_RX5_41 k_4 rfl dX5_readJoined_38 ?_
      refine oj_iadd dX5_readJoined_41 ?_
      obtain ⟨c11, y12⟩ := y9
      refine oj_iald k_12 c11 rfl dX5_readJoined_42 ?_
      refine oj_if_eq 52 dX5_readJoined_43 rfl (fun c13 => ?_) (fun c13 => ?_)
      · have y14 := y12.1 c13
        refine oj_aload_n 0 dX5_readJoined_52 rfl rfl ?_
        refine oj_getr (q := 1) fl_RX5_54 k_4 rfl k_1 dX5_readJoined_53 ?_
        refine oc_Vv [] mi_RX5_106 ow_609 ow_610 rfl k_1 (BX10_step  y14) ⟨by decide, by decide⟩ ⟨Nat.le_refl _, Nat.le_refl _⟩ rfl (Nat.le_of_ble_eq_true rfl) dX5_readJoined_56 (fun h17 y19 => ?_)
        refine oj_aload_n 0 dX5_readJoined_59 rfl rfl ?_
        refine oj_iconst dX5_readJoined_60 ci_1 ?_
        refine oj_bipush dX5_readJoined_61 cb_99 ?_
        refine oc_Vi [.int (1), .int (99)] mi_RX5_116 ow_653 op_8 rfl k_4 (BX5_readAmount  y19) ⟨by decide, by decide⟩ ⟨Nat.le_refl _, Nat.le_refl _⟩ rfl (Nat.le_of_ble_eq_true rfl) dX5_readJoined_63 (fun r20 f22 h21 y23 => ?_)
        refine oj_if_ne 71 dX5_readJoined_66 rfl (fun c24 => ?_) (fun c24 => ?_)
        · have y25 := y23.2 c24
          refine oj_aload_n 0 dX5_readJoined_71 rfl rfl ?_
          refine oj_getr (q := 5) fl_RX5_12 k_4 rfl k_5 dX5_readJoined_72 ?_
          refine oj_getr (q := 12) fl_RX5_147 k_5 rfl k_12 dX5_readJoined_75 ?_
          refine oj_aload_n 0 dX5_readJoined_78 rfl rfl ?_
          refine oj_geti fl_RX5_38 k_4 rfl dX5_readJoined_79 ?_
          refine oj_bipush dX5_readJoined_82 cb_7 ?_
          refine oj_imul dX5_readJoined_84 ?_
          refine oj_aload_n 0 dX5_readJoined_85 rfl rfl ?_
          refine oj_geti fl_RX5_41 k_4 rfl dX5_readJoined_86 ?_
          refine oj_iadd dX5_readJoined_89 ?_
          refine oj_aload_n 0 dX5_readJoined_90 rfl rfl ?_
          refine oj_geti fl_RX5_35 k_4 rfl dX5_readJoined_91 ?_
          obtain ⟨c27, y28⟩ := y25
          refine oj_iast k_12 c27 rfl dX5_readJoined_94 ?_
          refine oj_toph (fun h29 eh29 => ?_)
          have y30 := Lt_at y28 h29 eh29
          refine oj_aload_n 0 dX5_readJoined_95 rfl rfl ?_
          refine oj_getr (q := 5) fl_RX5_12 k_4 rfl k_5 dX5_readJoined_96 ?_
          refine oj_getr (q := 12) fl_RX5_147 k_5 rfl k_12 dX5_readJoined_99 ?_
          refine oj_aload_n 0 dX5_readJoined_102 rfl rfl ?_
          refine oj_geti fl_RX5_41 k_4 rfl dX5_readJoined_103 ?_
          refine oj_bipush dX5_readJoined_106 cb_7 ?_
          refine oj_imul dX5_readJoined_108 ?_
          refine oj_aload_n 0 dX5_readJoined_109 rfl rfl ?_
          refine oj_geti fl_RX5_38 k_4 rfl dX5_readJoined_110 ?_
          refine oj_iadd dX5_readJoined_113 ?_
          refine oj_aload_n 0 dX5_readJoined_114 rfl rfl ?_
          refine oj_geti fl_RX5_35 k_4 rfl dX5_readJoined_115 ?_
          obtain ⟨c31, y32⟩ := y30
          refine oj_iast k_12 c31 rfl dX5_readJoined_118 ?_
          refine oj_toph (fun h33 eh33 => ?_)
          have y34 := Lt_at y32 h33 eh33
          refine oj_aload_n 0 dX5_readJoined_119 rfl rfl ?_
          refine oj_dup dX5_readJoined_120 rfl ?_
          refine oj_geti fl_RX5_32 k_4 rfl dX5_readJoined_121 ?_
          refine oj_iconst dX5_readJoined_124 ci_1 ?_
          refine oj_iadd dX5_readJoined_125 ?_
          refine oj_puti fl_RX5_32 (Or.inl rfl) k_4 rfl rfl rfl dX5_readJoined_126 ?_
          refine oj_toph (fun h35 eh35 => ?_)
          have y36 := Lt_at y34 h35 eh35
          refine oj_aload_n 0 dX5_readJoined_129 rfl rfl ?_
          refine oj_bipush dX5_readJoined_130 cb_59 ?_
          refine oc_Vi [.int (59)] mi_RX5_113 ow_649 op_7 rfl k_4 (BX5_take  y36) ⟨by decide, by decide⟩ ⟨Nat.le_refl _, Nat.le_refl _⟩ rfl (Nat.le_of_ble_eq_true rfl) dX5_readJoined_132 (fun r37 f39 h38 y40 => ?_)
          exact oj_ret (r := some (.int r37)) ⟨f39, rfl, rfl, r37, rfl, y40⟩ dX5_readJoined_135 (Nat.zero_le _) (Nat.zero_le _)
        · have y26 := y23.1 c24
          refine oj_iconst dX5_readJoined_69 ci_0 ?_
          exact oj_ret (r := some (.int (0))) ⟨rfl, rfl, rfl, (0), rfl, y26⟩ dX5_readJoined_70 (Nat.zero_le _) (Nat.zero_le _)
      · have y15 := y12.2 c13
        refine oj_aload_n 0 dX5_readJoined_46 rfl rfl ?_
        refine oj_iconst dX5_readJoined_47 ci_3 ?_
        refine oc_Vi [.int (3)] mi_RX5_144 ow_636 op_4 rfl k_4 (BX5_refuse  y15) ⟨by decide, by decide⟩ ⟨Nat.le_refl _, Nat.le_refl _⟩ rfl (Nat.le_of_ble_eq_true rfl) dX5_readJoined_48 (fun r41 f43 h42 y44 => ?_)
        exact oj_ret (r := some (.int r41)) ⟨f43, rfl, rfl, r41, rfl, y44⟩ dX5_readJoined_51 (Nat.zero_le _) (Nat.zero_le _)
    · have y10 := y7.1 c8
      refine oj_iconst dX5_readJoined_21 ci_0 ?_
      exact oj_ret (r := some (.int (0))) ⟨rfl, rfl, rfl, (0), rfl, y10⟩ dX5_readJoined_22 (Nat.zero_le _) (Nat.zero_le _)
  · have y3 := y.2 c1
    refine oj_aload_n 0 dX5_readJoined_9 rfl rfl ?_
    refine oc_Vi [] mi_RX5_100 ow_632 op_3 rfl k_4 (BX5_misplaced  y3) ⟨by decide, by decide⟩ ⟨Nat.le_refl _, Nat.le_refl _⟩ rfl (Nat.le_of_ble_eq_true rfl) dX5_readJoined_10 (fun r45 f47 h46 y48 => ?_)
    exact oj_ret (r := some (.int r45)) ⟨f47, rfl, rfl, r45, rfl, y48⟩ dX5_readJoined_13 (Nat.zero_le _) (Nat.zero_le _)
-- X5_beginOnce
set_option maxRecDepth 100000 in
set_option maxHeartbeats 4000000 in
theorem BX5_beginOnce    {h : ob_H} {Q : Int32 → ob_H → Prop} (y : MX5_beginOnce   h Q) : ob_T yX5_beginOnce cX5_beginOnce 2 (some .boolean) (ob_rm 4) KS NN h [.ref 4] (ob_g (some .boolean) (ob_qi Q)) := by
  unfold MX5_beginOnce at y
  refine ob_T_gf (by decide +kernel) (Nat.le_of_ble_eq_true rfl) ?_
  show ob_J RX5 cX5_beginOnce 2 (ob_rm 4) false none 0 0 KS NN h 0 [(0, .ref 4)] [] (ob_g (some .boolean) (ob_qi Q))
  refine oj_iconst dX5_beginOnce_0 ci_1 ?_
  refine oj_aload_n 0 dX5_beginOnce_1 rfl rfl ?_
  refine oj_getr (q := 1) fl_RX5_54 k_4 rfl k_1 dX5_beginOnce_2 ?_
  refine oj_geti fl_RX5_66 k_1 rfl dX5_beginOnce_5 ?_
  refine oj_bipush dX5_beginOnce_8 cb_113 ?_
  refine oj_isub dX5_beginOnce_10 ?_
  refine oj_ishl dX5_beginOnce_11 ?_
  refine oj_topi (fun v1 ev1 => ?_)
  have y2 := Lt_at y v1 ev1
  refine oj_istore_n (lv' := [(1, .int v1), (0, .ref 4)]) dX5_beginOnce_12 rfl (by decide) rfl ?_
  refine oj_aload_n 1 dX5_beginOnce_13 rfl rfl ?_
  refine oj_geti fl_RX5_29 k_4 rfl dX5_beginOnce_14 ?_
  refine oj_iload_n 0 dX5_beginOnce_17 rfl rfl ?_
  refine oj_iand dX5_beginOnce_18 ?_
  refine oj_if_eq 27 dX5_beginOnce_19 rfl (fun c3 => ?_) (fun c3 => ?_)
  · have y4 := y2.1 c3
    refine oj_aload_n 1 dX5_beginOnce_27 rfl rfl ?_
    refine oj_dup dX5_beginOnce_28 rfl ?_
    refine oj_geti fl_RX5_29 k_4 rfl dX5_beginOnce_29 ?_
    refine oj_iload_n 0 dX5_beginOnce_32 rfl rfl ?_
    refine oj_ior dX5_beginOnce_33 ?_
    refine oj_puti fl_RX5_29 (Or.inl rfl) k_4 rfl rfl rfl dX5_beginOnce_34 ?_
    refine oj_toph (fun h6 eh6 => ?_)
    have y7 := Lt_at y4 h6 eh6
    refine oj_aload_n 1 dX5_beginOnce_37 rfl rfl ?_
    refine oj_getr (q := 1) fl_RX5_54 k_4 rfl k_1 dX5_beginOnce_38 ?_
    refine oc_Vv [] mi_RX5_106 ow_609 ow_610 rfl k_1 (BX10_step  y7) ⟨by decide, by decide⟩ ⟨Nat.le_refl _, Nat.le_refl _⟩ rfl (Nat.le_of_ble_eq_true rfl) dX5_beginOnce_41 (fun h9 y11 => ?_)
    refine oj_iconst dX5_beginOnce_44 ci_1 ?_
    exact oj_ret (r := some (.int (1))) ⟨rfl, rfl, rfl, (1), rfl, y11⟩ dX5_beginOnce_45 (Nat.zero_le _) (Nat.zero_le _)
  · have y5 := y2.2 c3
    refine oj_aload_n 1 dX5_beginOnce_22 rfl rfl ?_
    refine oc_Vi [] mi_RX5_100 ow_632 op_3 rfl k_4 (BX5_misplaced  y5) ⟨by decide, by decide⟩ ⟨Nat.le_refl _, Nat.le_refl _⟩ rfl (Nat.le_of_ble_eq_true rfl) dX5_beginOnce_23 (fun r12 f14 h13 y15 => ?_)
    exact oj_ret (r := some (.int r12)) ⟨f14, rfl, rfl, r12, rfl, y15⟩ dX5_beginOnce_26 (Nat.zero_le _) (Nat.zero_le _)
-- X4_isFact
set_option maxRecDepth 100000 in
set_option maxHeartbeats 4000000 in
theorem BX4_isFact  {p0 : Int32}  {h : ob_H} {Q : Int32 → Prop} (y : MX4_isFact  p0 h Q) : ob_T yX4_isFact cX4_isFact 1 (some .boolean) (ob_rm 1) KS NN h [.int p0] (ob_g (some .boolean) (ob_pi h Q)) := by
  unfold MX4_isFact at y
  refine ob_T_gf (by decide +kernel) (Nat.le_of_ble_eq_true rfl) ?_
  show ob_J RX4 cX4_isFact 1 (ob_rm 1) false none 0 0 KS NN h 0 [(0, .int p0)] [] (ob_g (some .boolean) (ob_pi h Q))
  refine oj_iload_n 0 dX4_isFact_0 rfl rfl ?_
  refine oj_bipush dX4_isFact_1 cb_100 ?_
  refine oj_icmp_lt 16 dX4_isFact_3 rfl (fun c1 => ?_) (fun c1 => ?_)
  · have y2 := y.1 c1
    refine oj_iconst dX4_isFact_16 ci_0 ?_
    exact oj_ret (r := some (.int (0))) ⟨rfl, rfl, rfl, rfl, (0), rfl, y2⟩ dX4_isFact_17 (Nat.zero_le _) (Nat.zero_le _)
  · have y3 := y.2 c1
    refine oj_iload_n 0 dX4_isFact_6 rfl rfl ?_
    refine oj_bipush dX4_isFact_7 cb_105 ?_
    refine oj_icmp_gt 16 dX4_isFact_9 rfl (fun c4 => ?_) (fun c4 => ?_)
    · have y5 := y3.1 c4
      refine oj_iconst dX4_isFact_16 ci_0 ?_
      exact oj_ret (r := some (.int (0))) ⟨rfl, rfl, rfl, rfl, (0), rfl, y5⟩ dX4_isFact_17 (Nat.zero_le _) (Nat.zero_le _)
    · have y6 := y3.2 c4
      refine oj_iconst dX4_isFact_12 ci_1 ?_
      refine oj_goto 17 dX4_isFact_13 rfl ?_
      exact oj_ret (r := some (.int (1))) ⟨rfl, rfl, rfl, rfl, (1), rfl, y6⟩ dX4_isFact_17 (Nat.zero_le _) (Nat.zero_le _)
-- X5_levelOf
set_option maxRecDepth 100000 in
set_option maxHeartbeats 4000000 in
theorem BX5_levelOf  {p0 : Int32}  {h : ob_H} {Q : Int32 → Prop} (y : MX5_levelOf  p0 h Q) : ob_T yX5_levelOf cX5_levelOf 1 (some .int) (ob_rm 1) KS NN h [.int p0] (ob_g (some .int) (ob_pi h Q)) := by
  unfold MX5_levelOf at y
  refine ob_T_gf (by decide +kernel) (Nat.le_of_ble_eq_true rfl) ?_
  show ob_J RX5 cX5_levelOf 1 (ob_rm 1) false none 0 0 KS NN h 0 [(0, .int p0)] [] (ob_g (some .int) (ob_pi h Q))
  refine oj_iload_n 0 dX5_levelOf_0 rfl rfl ?_
  by_cases c1 : p0 = (37)
  · have y2 := y.1 c1
    refine oj_lookup 100 dX5_levelOf_1 (by decide) (by rw [c1] <;> rfl) rfl ?_
    refine oj_iconst dX5_levelOf_100 ci_4 ?_
    exact oj_ret (r := some (.int (4))) ⟨trivial, rfl, rfl, rfl, (4), rfl, y2⟩ dX5_levelOf_101 (Nat.zero_le _) (Nat.zero_le _)
  have y3 := y.2 c1
  by_cases c4 : p0 = (42)
  · have y5 := y3.1 c4
    refine oj_lookup 100 dX5_levelOf_1 (by decide) (by rw [c4] <;> rfl) rfl ?_
    refine oj_iconst dX5_levelOf_100 ci_4 ?_
    exact oj_ret (r := some (.int (4))) ⟨trivial, rfl, rfl, rfl, (4), rfl, y5⟩ dX5_levelOf_101 (Nat.zero_le _) (Nat.zero_le _)
  have y6 := y3.2 c4
  by_cases c7 : p0 = (43)
  · have y8 := y6.1 c7
    refine oj_lookup 98 dX5_levelOf_1 (by decide) (by rw [c7] <;> rfl) rfl ?_
    refine oj_iconst dX5_levelOf_98 ci_3 ?_
    exact oj_ret (r := some (.int (3))) ⟨trivial, rfl, rfl, rfl, (3), rfl, y8⟩ dX5_levelOf_99 (Nat.zero_le _) (Nat.zero_le _)
  have y9 := y6.2 c7
  by_cases c10 : p0 = (45)
  · have y11 := y9.1 c10
    refine oj_lookup 98 dX5_levelOf_1 (by decide) (by rw [c10] <;> rfl) rfl ?_
    refine oj_iconst dX5_levelOf_98 ci_3 ?_
    exact oj_ret (r := some (.int (3))) ⟨trivial, rfl, rfl, rfl, (3), rfl, y11⟩ dX5_levelOf_99 (Nat.zero_le _) (Nat.zero_le _)
  have y12 := y9.2 c10
  by_cases c13 : p0 = (47)
  · have y14 := y12.1 c13
    refine oj_lookup 100 dX5_levelOf_1 (by decide) (by rw [c13] <;> rfl) rfl ?_
    refine oj_iconst dX5_levelOf_100 ci_4 ?_
    exact oj_ret (r := some (.int (4))) ⟨trivial, rfl, rfl, rfl, (4), rfl, y14⟩ dX5_levelOf_101 (Nat.zero_le _) (Nat.zero_le _)
  have y15 := y12.2 c13
  by_cases c16 : p0 = (60)
  · have y17 := y15.1 c16
    refine oj_lookup 96 dX5_levelOf_1 (by decide) (by rw [c16] <;> rfl) rfl ?_
    refine oj_iconst dX5_levelOf_96 ci_2 ?_
    exact oj_ret (r := some (.int (2))) ⟨trivial, rfl, rfl, rfl, (2), rfl, y17⟩ dX5_levelOf_97 (Nat.zero_le _) (Nat.zero_le _)
  have y18 := y15.2 c16
  by_cases c19 : p0 = (61)
  · have y20 := y18.1 c19
    refine oj_lookup 96 dX5_levelOf_1 (by decide) (by rw [c19] <;> rfl) rfl ?_
    refine oj_iconst dX5_levelOf_96 ci_2 ?_
    exact oj_ret (r := some (.int (2))) ⟨trivial, rfl, rfl, rfl, (2), rfl, y20⟩ dX5_levelOf_97 (Nat.zero_le _) (Nat.zero_le _)
  have y21 := y18.2 c19
  by_cases c22 : p0 = (62)
  · have y23 := y21.1 c22
    refine oj_lookup 96 dX5_levelOf_1 (by decide) (by rw [c22] <;> rfl) rfl ?_
    refine oj_iconst dX5_levelOf_96 ci_2 ?_
    exact oj_ret (r := some (.int (2))) ⟨trivial, rfl, rfl, rfl, (2), rfl, y23⟩ dX5_levelOf_97 (Nat.zero_le _) (Nat.zero_le _)
  have y24 := y21.2 c22
  by_cases c25 : p0 = (117)
  · have y26 := y24.1 c25
    refine oj_lookup 92 dX5_levelOf_1 (by decide) (by rw [c25] <;> rfl) rfl ?_
    refine oj_iconst dX5_levelOf_92 ci_0 ?_
    exact oj_ret (r := some (.int (0))) ⟨trivial, rfl, rfl, rfl, (0), rfl, y26⟩ dX5_levelOf_93 (Nat.zero_le _) (Nat.zero_le _)
  have y27 := y24.2 c25
  by_cases c28 : p0 = (118)
  · have y29 := y27.1 c28
    refine oj_lookup 94 dX5_levelOf_1 (by decide) (by rw [c28] <;> rfl) rfl ?_
    refine oj_iconst dX5_levelOf_94 ci_1 ?_
    exact oj_ret (r := some (.int (1))) ⟨trivial, rfl, rfl, rfl, (1), rfl, y29⟩ dX5_levelOf_95 (Nat.zero_le _) (Nat.zero_le _)
  have y30 := y27.2 c28
  refine oj_lookup 102 dX5_levelOf_1 (by decide) (by show Op.lookupswitch.offset [(37, 99), (42, 99), (43, 97), (45, 97), (47, 99), (60, 95), (61, 95), (62, 95), (117, 91), (118, 93)] 101 p0.toInt = _; rw [lv_osw c1 (show (37 : Int32).toInt = 37 by decide), lv_osw c4 (show (42 : Int32).toInt = 42 by decide), lv_osw c7 (show (43 : Int32).toInt = 43 by decide), lv_osw c10 (show (45 : Int32).toInt = 45 by decide), lv_osw c13 (show (47 : Int32).toInt = 47 by decide), lv_osw c16 (show (60 : Int32).toInt = 60 by decide), lv_osw c19 (show (61 : Int32).toInt = 61 by decide), lv_osw c22 (show (62 : Int32).toInt = 62 by decide), lv_osw c25 (show (117 : Int32).toInt = 117 by decide), lv_osw c28 (show (118 : Int32).toInt = 118 by decide)] <;> rfl) rfl ?_
  refine oj_iconst dX5_levelOf_102 ci_m1 ?_
  exact oj_ret (r := some (.int (-1))) ⟨trivial, rfl, rfl, rfl, (-1), rfl, y30⟩ dX5_levelOf_103 (Nat.zero_le _) (Nat.zero_le _)
-- X5_readNot
set_option maxRecDepth 100000 in
set_option maxHeartbeats 4000000 in
theorem BX5_readNot {dq : Nat} (hdq : 5 ≤ dq) {RP : Int32 → Int32 → ob_H → (Int32 → ob_H → Prop) → Prop} (hRP : ∀ {a b h} {Q : Int32 → ob_H → Prop}, RP a b h Q → ob_T yX5_readPart cX5_readPart 5 (some .boolean) (ob_rm dq) KS NN h [.ref 4, .int a, .int b] (ob_g (some .boolean) (ob_qi Q))) {p1 : Int32}  {h : ob_H} {Q : Int32 → ob_H → Prop} (y : MX5_readNot RP p1 h Q) : ob_T yX5_readNot cX5_readNot 2 (some .boolean) (ob_rm (dq + 1)) KS NN h [.ref 4, .int p1] (ob_g (some .boolean) (ob_qi Q)) := by
  unfold MX5_readNot at y
  refine ob_T_gf (by decide +kernel) (Nat.le_of_ble_eq_true rfl) ?_
  show ob_J RX5 cX5_readNot 2 (ob_rm (dq + 1)) false none 0 0 KS NN h 0 [(0, .ref 4), (1, .int p1)] [] (ob_g (some .boolean) (ob_qi Q))
  refine oj_iload_n 1 dX5_readNot_0 rfl rfl ?_
  refine oj_bipush dX5_readNot_1 cb_6 ?_
  refine oj_icmp_le 11 dX5_readNot_3 rfl (fun c1 => ?_) (fun c1 => ?_)
  · have y2 := y.1 c1
    refine oj_aload_n 0 dX5_readNot_11 rfl rfl ?_
    refine oj_getr (q := 1) fl_RX5_54 k_4 rfl k_1 dX5_readNot_12 ?_
    refine oc_Vv [] mi_RX5_106 ow_609 ow_610 rfl k_1 (BX10_step  y2) ⟨by simp only [ob_rm]; omega, by simp only [ob_rm]; omega⟩ ⟨Nat.le_refl _, Nat.le_refl _⟩ rfl (Nat.le_of_ble_eq_true rfl) dX5_readNot_15 (fun h5 y7 => ?_)
    refine oj_aload_n 0 dX5_readNot_18 rfl rfl ?_
    refine oj_iconst dX5_readNot_19 ci_2 ?_
    refine oj_iload_n 1 dX5_readNot_20 rfl rfl ?_
    refine oj_iconst dX5_readNot_21 ci_1 ?_
    refine oj_iadd dX5_readNot_22 ?_
    refine oc_Vi [.int (2), .int (p1 + (1))] mi_RX5_156 ow_684 op_14 rfl k_4 (hRP  y7) ⟨by simp only [ob_rm]; omega, by simp only [ob_rm]; omega⟩ ⟨Nat.le_refl _, Nat.le_refl _⟩ rfl (Nat.le_of_ble_eq_true rfl) dX5_readNot_23 (fun r8 f10 h9 y11 => ?_)
    refine oj_if_ne 31 dX5_readNot_26 rfl (fun c12 => ?_) (fun c12 => ?_)
    · have y13 := y11.2 c12
      refine oj_aload_n 0 dX5_readNot_31 rfl rfl ?_
      obtain ⟨c15, y16⟩ := y13
      refine oj_getd fl_RX5_48 k_4 rfl (A4_0 c15) dX5_readNot_32 ?_
      refine oj_bipush dX5_readNot_35 cb_m119 ?_
      refine oc_Vv [.int (-119)] mi_RX5_174 ow_162 ow_163 rfl (A4_0 c15) (BX4_add c15 y16) ⟨by simp only [ob_rm]; omega, by simp only [ob_rm]; omega⟩ ⟨Nat.le_refl _, Nat.le_refl _⟩ rfl (Nat.le_of_ble_eq_true rfl) dX5_readNot_37 (fun h18 y20 => ?_)
      refine oj_iconst dX5_readNot_40 ci_1 ?_
      exact oj_ret (r := some (.int (1))) ⟨rfl, rfl, rfl, (1), rfl, y20⟩ dX5_readNot_41 (Nat.zero_le _) (Nat.zero_le _)
    · have y14 := y11.1 c12
      refine oj_iconst dX5_readNot_29 ci_0 ?_
      exact oj_ret (r := some (.int (0))) ⟨rfl, rfl, rfl, (0), rfl, y14⟩ dX5_readNot_30 (Nat.zero_le _) (Nat.zero_le _)
  · have y3 := y.2 c1
    refine oj_aload_n 0 dX5_readNot_6 rfl rfl ?_
    refine oc_Vi [] mi_RX5_100 ow_632 op_3 rfl k_4 (BX5_misplaced  y3) ⟨by simp only [ob_rm]; omega, by simp only [ob_rm]; omega⟩ ⟨Nat.le_refl _, Nat.le_refl _⟩ rfl (Nat.le_of_ble_eq_true rfl) dX5_readNot_7 (fun r21 f23 h22 y24 => ?_)
    exact oj_ret (r := some (.int r21)) ⟨f23, rfl, rfl, r21, rfl, y24⟩ dX5_readNot_10 (Nat.zero_le _) (Nat.zero_le _)
-- X5_readUnit
set_option maxRecDepth 100000 in
set_option maxHeartbeats 4000000 in
theorem BKX5_readUnit_69 {dq : Nat} (hdq : 5 ≤ dq) {RP : Int32 → Int32 → ob_H → (Int32 → ob_H → Prop) → Prop} (hRP : ∀ {a b h} {Q : Int32 → ob_H → Prop}, RP a b h Q → ob_T yX5_readPart cX5_readPart 5 (some .boolean) (ob_rm dq) KS NN h [.ref 4, .int a, .int b] (ob_g (some .boolean) (ob_qi Q))) {h : ob_H} {Q : Int32 → ob_H → Prop}
    (y : KX5_readUnit_69 RP h Q) : ob_J RX5 cX5_readUnit 5 (ob_rm (dq + 1)) false none 0 0 KS NN h 69 [(0, .ref 4)] [] (ob_g (some .boolean) (ob_qi Q)) := by
  unfold KX5_readUnit_69 at y
  refine oj_aload_n 0 dX5_readUnit_69 rfl rfl ?_
  refine oc_Vi [] mi_RX5_100 ow_632 op_3 rfl k_4 (BX5_misplaced  y) ⟨by simp only [ob_rm]; omega, by simp only [ob_rm]; omega⟩ ⟨Nat.le_refl _, Nat.le_refl _⟩ rfl (Nat.le_of_ble_eq_true rfl) dX5_readUnit_70 (fun r15 f17 h16 y18 => ?_)
  exact oj_ret (r := some (.int r15)) ⟨f17, rfl, rfl, r15, rfl, y18⟩ dX5_readUnit_73 (Nat.zero_le _) (Nat.zero_le _)
set_option maxRecDepth 100000 in
set_option maxHeartbeats 4000000 in
theorem BKX5_readUnit_123 {dq : Nat} (hdq : 5 ≤ dq) {RP : Int32 → Int32 → ob_H → (Int32 → ob_H → Prop) → Prop} (hRP : ∀ {a b h} {Q : Int32 → ob_H → Prop}, RP a b h Q → ob_T yX5_readPart cX5_readPart 5 (some .boolean) (ob_rm dq) KS NN h [.ref 4, .int a, .int b] (ob_g (some .boolean) (ob_qi Q))) {t1 : Nat} (ht1 : A4 t1) {s0 : Int32} {h : ob_H} {Q : Int32 → ob_H → Prop}
    (y : KX5_readUnit_123 RP t1 s0 h Q) : ob_J RX5 cX5_readUnit 5 (ob_rm (dq + 1)) false none 0 0 KS NN h 123 [(0, .ref 4)] [.int s0, .ref t1] (ob_g (some .boolean) (ob_qi Q)) := by
  unfold KX5_readUnit_123 at y
  refine oc_Vv [.int s0] mi_RX5_174 ow_162 ow_163 rfl (A4_0 ht1) (BX4_add ht1 y) ⟨by simp only [ob_rm]; omega, by simp only [ob_rm]; omega⟩ ⟨Nat.le_refl _, Nat.le_refl _⟩ rfl (Nat.le_of_ble_eq_true rfl) dX5_readUnit_123 (fun h64 y66 => ?_)
  refine oj_aload_n 0 dX5_readUnit_126 rfl rfl ?_
  refine oj_getr (q := 1) fl_RX5_54 k_4 rfl k_1 dX5_readUnit_127 ?_
  refine oc_Vv [] mi_RX5_106 ow_609 ow_610 rfl k_1 (BX10_step  y66) ⟨by simp only [ob_rm]; omega, by simp only [ob_rm]; omega⟩ ⟨Nat.le_refl _, Nat.le_refl _⟩ rfl (Nat.le_of_ble_eq_true rfl) dX5_readUnit_130 (fun h68 y70 => ?_)
  refine oj_iconst dX5_readUnit_133 ci_1 ?_
  exact oj_ret (r := some (.int (1))) ⟨rfl, rfl, rfl, (1), rfl, y70⟩ dX5_readUnit_134 (Nat.zero_le _) (Nat.zero_le _)
set_option maxRecDepth 100000 in
set_option maxHeartbeats 4000000 in
theorem BKX5_readUnit_48 {dq : Nat} (hdq : 5 ≤ dq) {RP : Int32 → Int32 → ob_H → (Int32 → ob_H → Prop) → Prop} (hRP : ∀ {a b h} {Q : Int32 → ob_H → Prop}, RP a b h Q → ob_T yX5_readPart cX5_readPart 5 (some .boolean) (ob_rm dq) KS NN h [.ref 4, .int a, .int b] (ob_g (some .boolean) (ob_qi Q))) {x1 : Int32} {x2 : Int32} {x4 : Int32} {h : ob_H} {Q : Int32 → ob_H → Prop}
    (y : KX5_readUnit_48 RP x1 x2 x4 h Q) : ob_J RX5 cX5_readUnit 5 (ob_rm (dq + 1)) false none 0 0 KS NN h 48 [(0, .ref 4), (1, .int x1), (2, .int x2), (4, .int x4)] [] (ob_g (some .boolean) (ob_qi Q)) := by
  unfold KX5_readUnit_48 at y
  refine oj_aload_n 0 dX5_readUnit_48 rfl rfl ?_
  refine oj_geti fl_RX5_51 k_4 rfl dX5_readUnit_49 ?_
  refine oj_bipush dX5_readUnit_52 cb_30 ?_
  refine oj_icmp_ge 69 dX5_readUnit_54 rfl (fun c12 => ?_) (fun c12 => ?_)
  · have y13 := y.1 c12
    refine oj_lv [0] rfl ?_
    exact BKX5_readUnit_69 hdq hRP y13
  · have y14 := y.2 c12
    refine oj_aload_n 0 dX5_readUnit_57 rfl rfl ?_
    refine oj_getr (q := 5) fl_RX5_12 k_4 rfl k_5 dX5_readUnit_58 ?_
    refine oj_geti fl_RX5_181 k_5 rfl dX5_readUnit_61 ?_
    refine oj_bipush dX5_readUnit_64 cb_60 ?_
    refine oj_icmp_lt 74 dX5_readUnit_66 rfl (fun c19 => ?_) (fun c19 => ?_)
    · have y20 := y14.1 c19
      refine oj_aload_n 0 dX5_readUnit_74 rfl rfl ?_
      refine oj_dup dX5_readUnit_75 rfl ?_
      refine oj_geti fl_RX5_51 k_4 rfl dX5_readUnit_76 ?_
      refine oj_iconst dX5_readUnit_79 ci_1 ?_
      refine oj_iadd dX5_readUnit_80 ?_
      refine oj_puti fl_RX5_51 (Or.inl rfl) k_4 rfl rfl rfl dX5_readUnit_81 ?_
      refine oj_toph (fun h22 eh22 => ?_)
      have y23 := Lt_at y20 h22 eh22
      refine oj_aload_n 0 dX5_readUnit_84 rfl rfl ?_
      refine oj_getr (q := 5) fl_RX5_12 k_4 rfl k_5 dX5_readUnit_85 ?_
      refine oj_dup dX5_readUnit_88 rfl ?_
      refine oj_geti fl_RX5_181 k_5 rfl dX5_readUnit_89 ?_
      refine oj_iconst dX5_readUnit_92 ci_1 ?_
      refine oj_iadd dX5_readUnit_93 ?_
      refine oj_puti fl_RX5_181 (Or.inl rfl) k_5 rfl rfl rfl dX5_readUnit_94 ?_
      refine oj_toph (fun h24 eh24 => ?_)
      have y25 := Lt_at y23 h24 eh24
      refine oj_iload 3 dX5_readUnit_97 rfl ?_
      refine oj_if_eq 135 dX5_readUnit_99 rfl (fun c26 => ?_) (fun c26 => ?_)
      · have y27 := y25.1 c26
        refine oj_iload_n 1 dX5_readUnit_135 rfl rfl ?_
        refine oj_bipush dX5_readUnit_136 cb_6 ?_
        refine oj_icmp_le 146 dX5_readUnit_138 rfl (fun c29 => ?_) (fun c29 => ?_)
        · have y30 := y27.1 c29
          refine oj_aload_n 0 dX5_readUnit_146 rfl rfl ?_
          refine oj_getr (q := 1) fl_RX5_54 k_4 rfl k_1 dX5_readUnit_147 ?_
          refine oc_Vv [] mi_RX5_106 ow_609 ow_610 rfl k_1 (BX10_step  y30) ⟨by simp only [ob_rm]; omega, by simp only [ob_rm]; omega⟩ ⟨Nat.le_refl _, Nat.le_refl _⟩ rfl (Nat.le_of_ble_eq_true rfl) dX5_readUnit_150 (fun h33 y35 => ?_)
          refine oj_aload_n 0 dX5_readUnit_153 rfl rfl ?_
          refine oj_iconst dX5_readUnit_154 ci_0 ?_
          refine oj_iload_n 1 dX5_readUnit_155 rfl rfl ?_
          refine oj_iconst dX5_readUnit_156 ci_1 ?_
          refine oj_iadd dX5_readUnit_157 ?_
          refine oc_Vi [.int (0), .int (x1 + (1))] mi_RX5_156 ow_684 op_14 rfl k_4 (hRP  y35) ⟨by simp only [ob_rm]; omega, by simp only [ob_rm]; omega⟩ ⟨Nat.le_refl _, Nat.le_refl _⟩ rfl (Nat.le_of_ble_eq_true rfl) dX5_readUnit_158 (fun r36 f38 h37 y39 => ?_)
          refine oj_if_ne 166 dX5_readUnit_161 rfl (fun c40 => ?_) (fun c40 => ?_)
          · have y41 := y39.2 c40
            refine oj_aload_n 0 dX5_readUnit_166 rfl rfl ?_
            refine oj_getr (q := 1) fl_RX5_54 k_4 rfl k_1 dX5_readUnit_167 ?_
            refine oj_geti fl_RX5_66 k_1 rfl dX5_readUnit_170 ?_
            refine oj_bipush dX5_readUnit_173 cb_41 ?_
            refine oj_icmp_eq 183 dX5_readUnit_175 rfl (fun c43 => ?_) (fun c43 => ?_)
            · have y44 := y41.1 c43
              refine oj_aload_n 0 dX5_readUnit_183 rfl rfl ?_
              refine oj_getr (q := 1) fl_RX5_54 k_4 rfl k_1 dX5_readUnit_184 ?_
              refine oc_Vv [] mi_RX5_106 ow_609 ow_610 rfl k_1 (BX10_step  y44) ⟨by simp only [ob_rm]; omega, by simp only [ob_rm]; omega⟩ ⟨Nat.le_refl _, Nat.le_refl _⟩ rfl (Nat.le_of_ble_eq_true rfl) dX5_readUnit_187 (fun h47 y49 => ?_)
              refine oj_iconst dX5_readUnit_190 ci_1 ?_
              exact oj_ret (r := some (.int (1))) ⟨rfl, rfl, rfl, (1), rfl, y49⟩ dX5_readUnit_191 (Nat.zero_le _) (Nat.zero_le _)
            · have y45 := y41.2 c43
              refine oj_aload_n 0 dX5_readUnit_178 rfl rfl ?_
              refine oc_Vi [] mi_RX5_100 ow_632 op_3 rfl k_4 (BX5_misplaced  y45) ⟨by simp only [ob_rm]; omega, by simp only [ob_rm]; omega⟩ ⟨Nat.le_refl _, Nat.le_refl _⟩ rfl (Nat.le_of_ble_eq_true rfl) dX5_readUnit_179 (fun r50 f52 h51 y53 => ?_)
              exact oj_ret (r := some (.int r50)) ⟨f52, rfl, rfl, r50, rfl, y53⟩ dX5_readUnit_182 (Nat.zero_le _) (Nat.zero_le _)
          · have y42 := y39.1 c40
            refine oj_iconst dX5_readUnit_164 ci_0 ?_
            exact oj_ret (r := some (.int (0))) ⟨rfl, rfl, rfl, (0), rfl, y42⟩ dX5_readUnit_165 (Nat.zero_le _) (Nat.zero_le _)
        · have y31 := y27.2 c29
          refine oj_aload_n 0 dX5_readUnit_141 rfl rfl ?_
          refine oc_Vi [] mi_RX5_100 ow_632 op_3 rfl k_4 (BX5_misplaced  y31) ⟨by simp only [ob_rm]; omega, by simp only [ob_rm]; omega⟩ ⟨Nat.le_refl _, Nat.le_refl _⟩ rfl (Nat.le_of_ble_eq_true rfl) dX5_readUnit_142 (fun r54 f56 h55 y57 => ?_)
          exact oj_ret (r := some (.int r54)) ⟨f56, rfl, rfl, r54, rfl, y57⟩ dX5_readUnit_145 (Nat.zero_le _) (Nat.zero_le _)
      · have y28 := y25.2 c26
        refine oj_aload_n 0 dX5_readUnit_102 rfl rfl ?_
        obtain ⟨c58, y59⟩ := y28
        refine oj_getd fl_RX5_48 k_4 rfl (A4_0 c58) dX5_readUnit_103 ?_
        refine oj_iload_n 2 dX5_readUnit_106 rfl rfl ?_
        refine oj_iconst dX5_readUnit_107 ci_3 ?_
        refine oj_icmp_ne 121 dX5_readUnit_108 rfl (fun c60 => ?_) (fun c60 => ?_)
        · have y61 := y59.2 c60
          refine oj_iload_n 2 dX5_readUnit_121 rfl rfl ?_
          refine oj_ineg dX5_readUnit_122 ?_
          refine oj_lv [0] rfl ?_
          exact BKX5_readUnit_123 hdq hRP c58 y61
        · have y62 := y59.1 c60
          refine oj_aload_n 0 dX5_readUnit_111 rfl rfl ?_
          refine oj_getr (q := 1) fl_RX5_54 k_4 rfl k_1 dX5_readUnit_112 ?_
          refine oj_geti fl_RX5_184 k_1 rfl dX5_readUnit_115 ?_
          refine oj_goto 123 dX5_readUnit_118 rfl ?_
          refine oj_lv [0] rfl ?_
          exact BKX5_readUnit_123 hdq hRP c58 y62
    · have y21 := y14.2 c19
      refine oj_lv [0] rfl ?_
      exact BKX5_readUnit_69 hdq hRP y21
set_option maxRecDepth 100000 in
set_option maxHeartbeats 4000000 in
theorem BKX5_readUnit_37 {dq : Nat} (hdq : 5 ≤ dq) {RP : Int32 → Int32 → ob_H → (Int32 → ob_H → Prop) → Prop} (hRP : ∀ {a b h} {Q : Int32 → ob_H → Prop}, RP a b h Q → ob_T yX5_readPart cX5_readPart 5 (some .boolean) (ob_rm dq) KS NN h [.ref 4, .int a, .int b] (ob_g (some .boolean) (ob_qi Q))) {x1 : Int32} {x2 : Int32} {x3 : Int32} {s0 : Int32} {h : ob_H} {Q : Int32 → ob_H → Prop}
    (y : KX5_readUnit_37 RP x1 x2 x3 s0 h Q) : ob_J RX5 cX5_readUnit 5 (ob_rm (dq + 1)) false none 0 0 KS NN h 37 [(0, .ref 4), (1, .int x1), (2, .int x2), (3, .int x3)] [.int s0] (ob_g (some .boolean) (ob_qi Q)) := by
  unfold KX5_readUnit_37 at y
  refine oj_istore (lv' := [(4, .int s0), (0, .ref 4), (1, .int x1), (2, .int x2), (3, .int x3)]) dX5_readUnit_37 (by decide) rfl ?_
  refine oj_iload_n 4 dX5_readUnit_39 rfl rfl ?_
  refine oj_if_ne 48 dX5_readUnit_40 rfl (fun c9 => ?_) (fun c9 => ?_)
  · have y10 := y.2 c9
    refine oj_lv [1, 2, 3, 0] rfl ?_
    exact BKX5_readUnit_48 hdq hRP y10
  · have y11 := y.1 c9
    refine oj_iload 0 dX5_readUnit_43 rfl ?_
    refine oj_if_eq 69 dX5_readUnit_45 rfl (fun c71 => ?_) (fun c71 => ?_)
    · have y72 := y11.1 c71
      refine oj_lv [1] rfl ?_
      exact BKX5_readUnit_69 hdq hRP y72
    · have y73 := y11.2 c71
      refine oj_lv [1, 2, 3, 0] rfl ?_
      exact BKX5_readUnit_48 hdq hRP y73
set_option maxRecDepth 100000 in
set_option maxHeartbeats 4000000 in
theorem BKX5_readUnit_19 {dq : Nat} (hdq : 5 ≤ dq) {RP : Int32 → Int32 → ob_H → (Int32 → ob_H → Prop) → Prop} (hRP : ∀ {a b h} {Q : Int32 → ob_H → Prop}, RP a b h Q → ob_T yX5_readPart cX5_readPart 5 (some .boolean) (ob_rm dq) KS NN h [.ref 4, .int a, .int b] (ob_g (some .boolean) (ob_qi Q))) {x1 : Int32} {x2 : Int32} {s0 : Int32} {h : ob_H} {Q : Int32 → ob_H → Prop}
    (y : KX5_readUnit_19 RP x1 x2 s0 h Q) : ob_J RX5 cX5_readUnit 5 (ob_rm (dq + 1)) false none 0 0 KS NN h 19 [(0, .ref 4), (1, .int x1), (2, .int x2)] [.int s0] (ob_g (some .boolean) (ob_qi Q)) := by
  unfold KX5_readUnit_19 at y
  refine oj_istore_n (lv' := [(3, .int s0), (0, .ref 4), (1, .int x1), (2, .int x2)]) dX5_readUnit_19 rfl (by decide) rfl ?_
  refine oj_iload_n 3 dX5_readUnit_20 rfl rfl ?_
  refine oj_iconst dX5_readUnit_21 ci_3 ?_
  refine oj_icmp_eq 32 dX5_readUnit_22 rfl (fun c6 => ?_) (fun c6 => ?_)
  · have y7 := y.1 c6
    refine oj_iconst dX5_readUnit_32 ci_1 ?_
    refine oj_goto 37 dX5_readUnit_33 rfl ?_
    refine oj_lv [1, 2, 3, 0] rfl ?_
    exact BKX5_readUnit_37 hdq hRP y7
  · have y8 := y.2 c6
    refine oj_iload_n 3 dX5_readUnit_25 rfl rfl ?_
    refine oc_Spi [.int x2] mi_RX5_178 ow_691 (BX4_isFact  y8) ⟨by simp only [ob_rm]; omega, by simp only [ob_rm]; omega⟩ ⟨Nat.le_refl _, Nat.le_refl _⟩ rfl (Nat.le_of_ble_eq_true rfl) dX5_readUnit_26 (fun r74 f76 y77 => ?_)
    refine oj_if_eq 36 dX5_readUnit_29 rfl (fun c78 => ?_) (fun c78 => ?_)
    · have y79 := y77.1 c78
      refine oj_iconst dX5_readUnit_36 ci_0 ?_
      refine oj_lv [1, 2, 3, 0] rfl ?_
      exact BKX5_readUnit_37 hdq hRP y79
    · have y80 := y77.2 c78
      refine oj_iconst dX5_readUnit_32 ci_1 ?_
      refine oj_goto 37 dX5_readUnit_33 rfl ?_
      refine oj_lv [1, 2, 3, 0] rfl ?_
      exact BKX5_readUnit_37 hdq hRP y80
set_option maxRecDepth 100000 in
set_option maxHeartbeats 4000000 in
theorem BX5_readUnit {dq : Nat} (hdq : 5 ≤ dq) {RP : Int32 → Int32 → ob_H → (Int32 → ob_H → Prop) → Prop} (hRP : ∀ {a b h} {Q : Int32 → ob_H → Prop}, RP a b h Q → ob_T yX5_readPart cX5_readPart 5 (some .boolean) (ob_rm dq) KS NN h [.ref 4, .int a, .int b] (ob_g (some .boolean) (ob_qi Q))) {p1 : Int32}  {h : ob_H} {Q : Int32 → ob_H → Prop} (y : MX5_readUnit RP p1 h Q) : ob_T yX5_readUnit cX5_readUnit 5 (some .boolean) (ob_rm (dq + 1)) KS NN h [.ref 4, .int p1] (ob_g (some .boolean) (ob_qi Q)) := by
  unfold MX5_readUnit at y
  refine ob_T_gf (by decide +kernel) (Nat.le_of_ble_eq_true rfl) ?_
  show ob_J RX5 cX5_readUnit 5 (ob_rm (dq + 1)) false none 0 0 KS NN h 0 [(0, .ref 4), (1, .int p1)] [] (ob_g (some .boolean) (ob_qi Q))
  refine oj_aload_n 0 dX5_readUnit_0 rfl rfl ?_
  refine oj_getr (q := 1) fl_RX5_54 k_4 rfl k_1 dX5_readUnit_1 ?_
  refine oj_geti fl_RX5_66 k_1 rfl dX5_readUnit_4 ?_
  refine oj_topi (fun v1 ev1 => ?_)
  have y2 := Lt_at y v1 ev1
  refine oj_istore_n (lv' := [(2, .int v1), (0, .ref 4), (1, .int p1)]) dX5_readUnit_7 rfl (by decide) rfl ?_
  refine oj_iload_n 0 dX5_readUnit_8 rfl rfl ?_
  refine oj_bipush dX5_readUnit_9 cb_40 ?_
  refine oj_icmp_ne 18 dX5_readUnit_11 rfl (fun c3 => ?_) (fun c3 => ?_)
  · have y4 := y2.2 c3
    refine oj_iconst dX5_readUnit_18 ci_0 ?_
    refine oj_lv [1, 2, 0] rfl ?_
    exact BKX5_readUnit_19 hdq hRP y4
  · have y5 := y2.1 c3
    refine oj_iconst dX5_readUnit_14 ci_1 ?_
    refine oj_goto 19 dX5_readUnit_15 rfl ?_
    refine oj_lv [1, 2, 0] rfl ?_
    exact BKX5_readUnit_19 hdq hRP y5
-- X5_readPart
set_option maxRecDepth 100000 in
set_option maxHeartbeats 4000000 in
theorem BLX5_readPart_49 {dq : Nat} (hdq : 5 ≤ dq) {RP : Int32 → Int32 → ob_H → (Int32 → ob_H → Prop) → Prop} (hRP : ∀ {a b h} {Q : Int32 → ob_H → Prop}, RP a b h Q → ob_T yX5_readPart cX5_readPart 5 (some .boolean) (ob_rm dq) KS NN h [.ref 4, .int a, .int b] (ob_g (some .boolean) (ob_qi Q))) {x1 : Int32} {x2 : Int32} {Q : Int32 → ob_H → Prop} :
    ∀ (n : Nat) (x3 : Int32) (h : ob_H), it2 (FX5_readPart_49 RP x1 x2 Q) n x3 h → ob_J RX5 cX5_readPart 5 (ob_rm (dq + 2)) false none 0 0 KS NN h 49 [(0, .ref 4), (1, .int x1), (2, .int x2), (3, .int x3)] [] (ob_g (some .boolean) (ob_qi Q)) := by
  intro n
  induction n with
  | zero => intro x3 h y; exact False.elim y
  | succ n hk49 =>
    intro x3 h y
    have y : FX5_readPart_49 RP x1 x2 Q (it2 (FX5_readPart_49 RP x1 x2 Q) n) x3 h := y
    unfold FX5_readPart_49 at y
    refine oj_iload_n 3 dX5_readPart_49 rfl rfl ?_
    refine oj_sipush dX5_readPart_50 cs_1600 ?_
    refine oj_icmp_ge 122 dX5_readPart_53 rfl (fun c14 => ?_) (fun c14 => ?_)
    · have y15 := y.1 c14
      refine oj_iconst dX5_readPart_122 ci_1 ?_
      exact oj_ret (r := some (.int (1))) ⟨rfl, rfl, rfl, (1), rfl, y15⟩ dX5_readPart_123 (Nat.zero_le _) (Nat.zero_le _)
    · have y16 := y.2 c14
      refine oj_aload_n 0 dX5_readPart_56 rfl rfl ?_
      refine oj_getr (q := 1) fl_RX5_54 k_4 rfl k_1 dX5_readPart_57 ?_
      refine oj_geti fl_RX5_66 k_1 rfl dX5_readPart_60 ?_
      refine oc_Spi [.int (h.1 1 2)] mi_RX5_171 ow_699 (BX5_levelOf  y16) ⟨by simp only [ob_rm]; omega, by simp only [ob_rm]; omega⟩ ⟨Nat.le_refl _, Nat.le_refl _⟩ rfl (Nat.le_of_ble_eq_true rfl) dX5_readPart_63 (fun r17 f19 y20 => ?_)
      refine oj_iload_n 1 dX5_readPart_66 rfl rfl ?_
      refine oj_icmp_ne 122 dX5_readPart_67 rfl (fun c21 => ?_) (fun c21 => ?_)
      · have y22 := y20.2 c21
        refine oj_iconst dX5_readPart_122 ci_1 ?_
        exact oj_ret (r := some (.int (1))) ⟨rfl, rfl, rfl, (1), rfl, y22⟩ dX5_readPart_123 (Nat.zero_le _) (Nat.zero_le _)
      · have y23 := y20.1 c21
        refine oj_aload_n 0 dX5_readPart_70 rfl rfl ?_
        refine oj_getr (q := 1) fl_RX5_54 k_4 rfl k_1 dX5_readPart_71 ?_
        refine oj_geti fl_RX5_66 k_1 rfl dX5_readPart_74 ?_
        refine oj_topi (fun v24 ev24 => ?_)
        have y25 := Lt_at y23 v24 ev24
        refine oj_istore (lv' := [(4, .int v24), (0, .ref 4), (1, .int x1), (2, .int x2), (3, .int x3)]) dX5_readPart_77 (by decide) rfl ?_
        refine oj_aload_n 1 dX5_readPart_79 rfl rfl ?_
        refine oj_getr (q := 1) fl_RX5_54 k_4 rfl k_1 dX5_readPart_80 ?_
        refine oc_Vv [] mi_RX5_106 ow_609 ow_610 rfl k_1 (BX10_step  y25) ⟨by simp only [ob_rm]; omega, by simp only [ob_rm]; omega⟩ ⟨Nat.le_refl _, Nat.le_refl _⟩ rfl (Nat.le_of_ble_eq_true rfl) dX5_readPart_83 (fun h27 y29 => ?_)
        refine oj_aload_n 1 dX5_readPart_86 rfl rfl ?_
        refine oj_iload_n 2 dX5_readPart_87 rfl rfl ?_
        refine oj_iconst dX5_readPart_88 ci_1 ?_
        refine oj_iadd dX5_readPart_89 ?_
        refine oj_iload_n 3 dX5_readPart_90 rfl rfl ?_
        refine oc_Vi [.int (x1 + (1)), .int x2] mi_RX5_156 ow_684 op_14 rfl k_4 (hRP  y29) ⟨by simp only [ob_rm]; omega, by simp only [ob_rm]; omega⟩ ⟨Nat.le_refl _, Nat.le_refl _⟩ rfl (Nat.le_of_ble_eq_true rfl) dX5_readPart_91 (fun r30 f32 h31 y33 => ?_)
        refine oj_if_ne 99 dX5_readPart_94 rfl (fun c34 => ?_) (fun c34 => ?_)
        · have y35 := y33.2 c34
          refine oj_aload_n 1 dX5_readPart_99 rfl rfl ?_
          obtain ⟨c37, y38⟩ := y35
          refine oj_getd fl_RX5_48 k_4 rfl (A4_0 c37) dX5_readPart_100 ?_
          refine oj_iload 0 dX5_readPart_103 rfl ?_
          refine oj_ineg dX5_readPart_105 ?_
          refine oc_Vv [.int (-v24)] mi_RX5_174 ow_162 ow_163 rfl (A4_0 c37) (BX4_add c37 y38) ⟨by simp only [ob_rm]; omega, by simp only [ob_rm]; omega⟩ ⟨Nat.le_refl _, Nat.le_refl _⟩ rfl (Nat.le_of_ble_eq_true rfl) dX5_readPart_106 (fun h40 y42 => ?_)
          refine oj_iload_n 2 dX5_readPart_109 rfl rfl ?_
          refine oj_iconst dX5_readPart_110 ci_2 ?_
          refine oj_icmp_ne 116 dX5_readPart_111 rfl (fun c43 => ?_) (fun c43 => ?_)
          · have y44 := y42.2 c43
            obtain ⟨v46, ev46⟩ : ∃ z : Int32, z = x3 + (1) := ⟨_, rfl⟩
            have y47 := Lt_at y44 v46 ev46
            refine oj_iinc (v := v46) (lv' := [(3, .int v46), (4, .int v24), (0, .ref 4), (1, .int x1), (2, .int x2)]) 4 dX5_readPart_116 rfl (iinc_e ci_1 ev46) (by decide) rfl ?_
            refine oj_goto 49 dX5_readPart_119 rfl ?_
            refine oj_lv [2, 3, 4, 0] rfl ?_
            exact hk49 _ _ y47
          · have y45 := y42.1 c43
            refine oj_iconst dX5_readPart_114 ci_1 ?_
            exact oj_ret (r := some (.int (1))) ⟨rfl, rfl, rfl, (1), rfl, y45⟩ dX5_readPart_115 (Nat.zero_le _) (Nat.zero_le _)
        · have y36 := y33.1 c34
          refine oj_iconst dX5_readPart_97 ci_0 ?_
          exact oj_ret (r := some (.int (0))) ⟨rfl, rfl, rfl, (0), rfl, y36⟩ dX5_readPart_98 (Nat.zero_le _) (Nat.zero_le _)
set_option maxRecDepth 100000 in
set_option maxHeartbeats 4000000 in
theorem BKX5_readPart_34 {dq : Nat} (hdq : 5 ≤ dq) {RP : Int32 → Int32 → ob_H → (Int32 → ob_H → Prop) → Prop} (hRP : ∀ {a b h} {Q : Int32 → ob_H → Prop}, RP a b h Q → ob_T yX5_readPart cX5_readPart 5 (some .boolean) (ob_rm dq) KS NN h [.ref 4, .int a, .int b] (ob_g (some .boolean) (ob_qi Q))) {x1 : Int32} {x2 : Int32} {h : ob_H} {Q : Int32 → ob_H → Prop}
    (y : KX5_readPart_34 RP x1 x2 h Q) : ob_J RX5 cX5_readPart 5 (ob_rm (dq + 2)) false none 0 0 KS NN h 34 [(0, .ref 4), (1, .int x1), (2, .int x2)] [] (ob_g (some .boolean) (ob_qi Q)) := by
  unfold KX5_readPart_34 at y
  refine oj_aload_n 0 dX5_readPart_34 rfl rfl ?_
  refine oj_iload_n 1 dX5_readPart_35 rfl rfl ?_
  refine oj_iconst dX5_readPart_36 ci_1 ?_
  refine oj_iadd dX5_readPart_37 ?_
  refine oj_iload_n 2 dX5_readPart_38 rfl rfl ?_
  refine oc_Vi [.int (x1 + (1)), .int x2] mi_RX5_156 ow_684 op_14 rfl k_4 (hRP  y) ⟨by simp only [ob_rm]; omega, by simp only [ob_rm]; omega⟩ ⟨Nat.le_refl _, Nat.le_refl _⟩ rfl (Nat.le_of_ble_eq_true rfl) dX5_readPart_39 (fun r7 f9 h8 y10 => ?_)
  refine oj_if_ne 47 dX5_readPart_42 rfl (fun c11 => ?_) (fun c11 => ?_)
  · have y12 := y10.2 c11
    refine oj_iconst dX5_readPart_47 ci_0 ?_
    refine oj_istore_n (lv' := [(3, .int (0)), (0, .ref 4), (1, .int x1), (2, .int x2)]) dX5_readPart_48 rfl (by decide) rfl ?_
    refine oj_lv [1, 2, 3, 0] rfl ?_
    obtain ⟨n, y48⟩ := y12
    exact BLX5_readPart_49 hdq hRP n _ _ y48
  · have y13 := y10.1 c11
    refine oj_iconst dX5_readPart_45 ci_0 ?_
    exact oj_ret (r := some (.int (0))) ⟨rfl, rfl, rfl, (0), rfl, y13⟩ dX5_readPart_46 (Nat.zero_le _) (Nat.zero_le _)
set_option maxRecDepth 100000 in
set_option maxHeartbeats 4000000 in
theorem BGX5_readPart {dq : Nat} (hdq : 5 ≤ dq) {RP : Int32 → Int32 → ob_H → (Int32 → ob_H → Prop) → Prop} (hRP : ∀ {a b h} {Q : Int32 → ob_H → Prop}, RP a b h Q → ob_T yX5_readPart cX5_readPart 5 (some .boolean) (ob_rm dq) KS NN h [.ref 4, .int a, .int b] (ob_g (some .boolean) (ob_qi Q))) {p1 : Int32} {p2 : Int32}  {h : ob_H} {Q : Int32 → ob_H → Prop} (y : GX5_readPart RP p1 p2 h Q) : ob_T yX5_readPart cX5_readPart 5 (some .boolean) (ob_rm (dq + 2)) KS NN h [.ref 4, .int p1, .int p2] (ob_g (some .boolean) (ob_qi Q)) := by
  unfold GX5_readPart at y
  refine ob_T_gf (by decide +kernel) (Nat.le_of_ble_eq_true rfl) ?_
  show ob_J RX5 cX5_readPart 5 (ob_rm (dq + 2)) false none 0 0 KS NN h 0 [(0, .ref 4), (1, .int p1), (2, .int p2)] [] (ob_g (some .boolean) (ob_qi Q))
  refine oj_iload_n 1 dX5_readPart_0 rfl rfl ?_
  refine oj_iconst dX5_readPart_1 ci_5 ?_
  refine oj_icmp_lt 11 dX5_readPart_2 rfl (fun c1 => ?_) (fun c1 => ?_)
  · have y2 := y.1 c1
    refine oj_iload_n 1 dX5_readPart_11 rfl rfl ?_
    refine oj_iconst dX5_readPart_12 ci_2 ?_
    refine oj_icmp_ne 34 dX5_readPart_13 rfl (fun c4 => ?_) (fun c4 => ?_)
    · have y5 := y2.2 c4
      refine oj_lv [0, 1, 2] rfl ?_
      exact BKX5_readPart_34 hdq hRP y5
    · have y6 := y2.1 c4
      refine oj_aload_n 0 dX5_readPart_16 rfl rfl ?_
      refine oj_getr (q := 1) fl_RX5_54 k_4 rfl k_1 dX5_readPart_17 ?_
      refine oj_geti fl_RX5_66 k_1 rfl dX5_readPart_20 ?_
      refine oj_bipush dX5_readPart_23 cb_119 ?_
      refine oj_icmp_ne 34 dX5_readPart_25 rfl (fun c49 => ?_) (fun c49 => ?_)
      · have y50 := y6.2 c49
        refine oj_lv [0, 1, 2] rfl ?_
        exact BKX5_readPart_34 hdq hRP y50
      · have y51 := y6.1 c49
        refine oj_aload_n 0 dX5_readPart_28 rfl rfl ?_
        refine oj_iload_n 2 dX5_readPart_29 rfl rfl ?_
        refine oc_Vi [.int p2] mi_RX5_168 ow_696 op_16 rfl k_4 (BX5_readNot hdq hRP  y51) ⟨by simp only [ob_rm]; omega, by simp only [ob_rm]; omega⟩ ⟨Nat.le_refl _, Nat.le_refl _⟩ rfl (Nat.le_of_ble_eq_true rfl) dX5_readPart_30 (fun r52 f54 h53 y55 => ?_)
        exact oj_ret (r := some (.int r52)) ⟨f54, rfl, rfl, r52, rfl, y55⟩ dX5_readPart_33 (Nat.zero_le _) (Nat.zero_le _)
  · have y3 := y.2 c1
    refine oj_aload_n 0 dX5_readPart_5 rfl rfl ?_
    refine oj_iload_n 2 dX5_readPart_6 rfl rfl ?_
    refine oc_Vi [.int p2] mi_RX5_165 ow_688 op_15 rfl k_4 (BX5_readUnit hdq hRP  y3) ⟨by simp only [ob_rm]; omega, by simp only [ob_rm]; omega⟩ ⟨Nat.le_refl _, Nat.le_refl _⟩ rfl (Nat.le_of_ble_eq_true rfl) dX5_readPart_7 (fun r56 f58 h57 y59 => ?_)
    exact oj_ret (r := some (.int r56)) ⟨f58, rfl, rfl, r56, rfl, y59⟩ dX5_readPart_10 (Nat.zero_le _) (Nat.zero_le _)
set_option maxRecDepth 100000 in
set_option maxHeartbeats 4000000 in
theorem BX5_readPart : ∀ (d : Nat) {p1 : Int32} {p2 : Int32} {h : ob_H} {Q : Int32 → ob_H → Prop} (y : MX5_readPart d p1 p2 h Q), ob_T yX5_readPart cX5_readPart 5 (some .boolean) (ob_rm (5 + 2 * d)) KS NN h [.ref 4, .int p1, .int p2] (ob_g (some .boolean) (ob_qi Q)) := by
  intro d
  induction d with
  | zero => intro p1 p2 h Q y; exact False.elim y
  | succ d ih =>
    intro p1 p2 h Q y
    have y : GX5_readPart (MX5_readPart d) p1 p2 h Q := y
    exact BGX5_readPart (dq := 5 + 2 * d) (by omega) (fun z => ih z) y
-- X5_readFormula
set_option maxRecDepth 100000 in
set_option maxHeartbeats 4000000 in
theorem BX5_readFormula  {p1 : Nat} (hp1 : A4 p1) {h : ob_H} {Q : Int32 → ob_H → Prop} (y : MX5_readFormula  p1 h Q) : ob_T yX5_readFormula cX5_readFormula 2 (some .boolean) (ob_rm 246) KS NN h [.ref 4, .ref p1] (ob_g (some .boolean) (ob_qi Q)) := by
  unfold MX5_readFormula at y
  refine ob_T_gf (by decide +kernel) (Nat.le_of_ble_eq_true rfl) ?_
  show ob_J RX5 cX5_readFormula 2 (ob_rm 246) false none 0 0 KS NN h 0 [(0, .ref 4), (1, .ref p1)] [] (ob_g (some .boolean) (ob_qi Q))
  refine oj_aload_n 0 dX5_readFormula_0 rfl rfl ?_
  refine oc_Vi [] mi_RX5_150 ow_679 op_13 rfl k_4 (BX5_beginOnce  y) ⟨by decide, by decide⟩ ⟨Nat.le_refl _, Nat.le_refl _⟩ rfl (Nat.le_of_ble_eq_true rfl) dX5_readFormula_1 (fun r1 f3 h2 y4 => ?_)
  refine oj_if_ne 9 dX5_readFormula_4 rfl (fun c5 => ?_) (fun c5 => ?_)
  · have y6 := y4.2 c5
    refine oj_aload_n 0 dX5_readFormula_9 rfl rfl ?_
    refine oj_aload_n 1 dX5_readFormula_10 rfl rfl ?_
    refine oj_putd fl_RX5_48 k_4 (A4_0 hp1) rfl (fun _ => rfl) (fun _ => rfl) ks_one ks_one2 dX5_readFormula_11 ?_
    refine oj_toph (fun h8 eh8 => ?_)
    have y9 := Lt_at y6 h8 eh8
    refine oj_aload_n 0 dX5_readFormula_14 rfl rfl ?_
    obtain ⟨c10, y11⟩ := y9
    refine oj_getd fl_RX5_48 k_4 rfl (A4_0 c10) dX5_readFormula_15 ?_
    refine oc_Vv [] mi_RX5_153 ow_158 ow_159 rfl (A4_0 c10) (BX4_clear c10 y11) ⟨by decide, by decide⟩ ⟨Nat.le_refl _, Nat.le_refl _⟩ rfl (Nat.le_of_ble_eq_true rfl) dX5_readFormula_18 (fun h13 y15 => ?_)
    refine oj_aload_n 0 dX5_readFormula_21 rfl rfl ?_
    refine oj_iconst dX5_readFormula_22 ci_0 ?_
    refine oj_puti fl_RX5_51 (Or.inl rfl) k_4 rfl rfl rfl dX5_readFormula_23 ?_
    refine oj_toph (fun h16 eh16 => ?_)
    have y17 := Lt_at y15 h16 eh16
    refine oj_aload_n 0 dX5_readFormula_26 rfl rfl ?_
    refine oj_iconst dX5_readFormula_27 ci_0 ?_
    refine oj_iconst dX5_readFormula_28 ci_0 ?_
    refine oc_Vi [.int (0), .int (0)] mi_RX5_156 ow_684 op_14 rfl k_4 (BX5_readPart 120  y17) ⟨by decide, by decide⟩ ⟨Nat.le_refl _, Nat.le_refl _⟩ rfl (Nat.le_of_ble_eq_true rfl) dX5_readFormula_29 (fun r18 f20 h19 y21 => ?_)
    refine oj_if_eq 48 dX5_readFormula_32 rfl (fun c22 => ?_) (fun c22 => ?_)
    · have y23 := y21.1 c22
      refine oj_iconst dX5_readFormula_48 ci_0 ?_
      exact oj_ret (r := some (.int (0))) ⟨rfl, rfl, rfl, (0), rfl, y23⟩ dX5_readFormula_49 (Nat.zero_le _) (Nat.zero_le _)
    · have y24 := y21.2 c22
      refine oj_aload_n 0 dX5_readFormula_35 rfl rfl ?_
      refine oj_bipush dX5_readFormula_36 cb_59 ?_
      refine oc_Vi [.int (59)] mi_RX5_113 ow_649 op_7 rfl k_4 (BX5_take  y24) ⟨by decide, by decide⟩ ⟨Nat.le_refl _, Nat.le_refl _⟩ rfl (Nat.le_of_ble_eq_true rfl) dX5_readFormula_38 (fun r25 f27 h26 y28 => ?_)
      refine oj_if_eq 48 dX5_readFormula_41 rfl (fun c29 => ?_) (fun c29 => ?_)
      · have y30 := y28.1 c29
        refine oj_iconst dX5_readFormula_48 ci_0 ?_
        exact oj_ret (r := some (.int (0))) ⟨rfl, rfl, rfl, (0), rfl, y30⟩ dX5_readFormula_49 (Nat.zero_le _) (Nat.zero_le _)
      · have y31 := y28.2 c29
        refine oj_iconst dX5_readFormula_44 ci_1 ?_
        refine oj_goto 49 dX5_readFormula_45 rfl ?_
        exact oj_ret (r := some (.int (1))) ⟨rfl, rfl, rfl, (1), rfl, y31⟩ dX5_readFormula_49 (Nat.zero_le _) (Nat.zero_le _)
  · have y7 := y4.1 c5
    refine oj_iconst dX5_readFormula_7 ci_0 ?_
    exact oj_ret (r := some (.int (0))) ⟨rfl, rfl, rfl, (0), rfl, y7⟩ dX5_readFormula_8 (Nat.zero_le _) (Nat.zero_le _)
-- X5_readBar
set_option maxRecDepth 100000 in
set_option maxHeartbeats 4000000 in
theorem BX5_readBar    {h : ob_H} {Q : Int32 → ob_H → Prop} (y : MX5_readBar   h Q) : ob_T yX5_readBar cX5_readBar 1 (some .boolean) (ob_rm 5) KS NN h [.ref 4] (ob_g (some .boolean) (ob_qi Q)) := by
  unfold MX5_readBar at y
  refine ob_T_gf (by decide +kernel) (Nat.le_of_ble_eq_true rfl) ?_
  show ob_J RX5 cX5_readBar 1 (ob_rm 5) false none 0 0 KS NN h 0 [(0, .ref 4)] [] (ob_g (some .boolean) (ob_qi Q))
  refine oj_aload_n 0 dX5_readBar_0 rfl rfl ?_
  refine oc_Vi [] mi_RX5_150 ow_679 op_13 rfl k_4 (BX5_beginOnce  y) ⟨by decide, by decide⟩ ⟨Nat.le_refl _, Nat.le_refl _⟩ rfl (Nat.le_of_ble_eq_true rfl) dX5_readBar_1 (fun r1 f3 h2 y4 => ?_)
  refine oj_if_eq 18 dX5_readBar_4 rfl (fun c5 => ?_) (fun c5 => ?_)
  · have y6 := y4.1 c5
    refine oj_iconst dX5_readBar_18 ci_0 ?_
    exact oj_ret (r := some (.int (0))) ⟨rfl, rfl, rfl, (0), rfl, y6⟩ dX5_readBar_19 (Nat.zero_le _) (Nat.zero_le _)
  · have y7 := y4.2 c5
    refine oj_aload_n 0 dX5_readBar_7 rfl rfl ?_
    refine oj_iconst dX5_readBar_8 ci_1 ?_
    refine oj_sipush dX5_readBar_9 cs_999 ?_
    refine oc_Vi [.int (1), .int (999)] mi_RX5_116 ow_653 op_8 rfl k_4 (BX5_readAmount  y7) ⟨by decide, by decide⟩ ⟨Nat.le_refl _, Nat.le_refl _⟩ rfl (Nat.le_of_ble_eq_true rfl) dX5_readBar_12 (fun r8 f10 h9 y11 => ?_)
    refine oj_if_ne 20 dX5_readBar_15 rfl (fun c12 => ?_) (fun c12 => ?_)
    · have y13 := y11.2 c12
      refine oj_aload_n 0 dX5_readBar_20 rfl rfl ?_
      refine oj_getr (q := 5) fl_RX5_12 k_4 rfl k_5 dX5_readBar_21 ?_
      refine oj_aload_n 0 dX5_readBar_24 rfl rfl ?_
      refine oj_geti fl_RX5_35 k_4 rfl dX5_readBar_25 ?_
      refine oj_puti fl_RX5_159 (Or.inl rfl) k_5 rfl rfl rfl dX5_readBar_28 ?_
      refine oj_toph (fun h15 eh15 => ?_)
      have y16 := Lt_at y13 h15 eh15
      refine oj_aload_n 0 dX5_readBar_31 rfl rfl ?_
      refine oj_bipush dX5_readBar_32 cb_59 ?_
      refine oc_Vi [.int (59)] mi_RX5_113 ow_649 op_7 rfl k_4 (BX5_take  y16) ⟨by decide, by decide⟩ ⟨Nat.le_refl _, Nat.le_refl _⟩ rfl (Nat.le_of_ble_eq_true rfl) dX5_readBar_34 (fun r17 f19 h18 y20 => ?_)
      exact oj_ret (r := some (.int r17)) ⟨f19, rfl, rfl, r17, rfl, y20⟩ dX5_readBar_37 (Nat.zero_le _) (Nat.zero_le _)
    · have y14 := y11.1 c12
      refine oj_iconst dX5_readBar_18 ci_0 ?_
      exact oj_ret (r := some (.int (0))) ⟨rfl, rfl, rfl, (0), rfl, y14⟩ dX5_readBar_19 (Nat.zero_le _) (Nat.zero_le _)
-- X5_readDraw
set_option maxRecDepth 100000 in
set_option maxHeartbeats 4000000 in
theorem BX5_readDraw    {h : ob_H} {Q : Int32 → ob_H → Prop} (y : MX5_readDraw   h Q) : ob_T yX5_readDraw cX5_readDraw 1 (some .boolean) (ob_rm 5) KS NN h [.ref 4] (ob_g (some .boolean) (ob_qi Q)) := by
  unfold MX5_readDraw at y
  refine ob_T_gf (by decide +kernel) (Nat.le_of_ble_eq_true rfl) ?_
  show ob_J RX5 cX5_readDraw 1 (ob_rm 5) false none 0 0 KS NN h 0 [(0, .ref 4)] [] (ob_g (some .boolean) (ob_qi Q))
  refine oj_aload_n 0 dX5_readDraw_0 rfl rfl ?_
  refine oc_Vi [] mi_RX5_150 ow_679 op_13 rfl k_4 (BX5_beginOnce  y) ⟨by decide, by decide⟩ ⟨Nat.le_refl _, Nat.le_refl _⟩ rfl (Nat.le_of_ble_eq_true rfl) dX5_readDraw_1 (fun r1 f3 h2 y4 => ?_)
  refine oj_if_eq 18 dX5_readDraw_4 rfl (fun c5 => ?_) (fun c5 => ?_)
  · have y6 := y4.1 c5
    refine oj_iconst dX5_readDraw_18 ci_0 ?_
    exact oj_ret (r := some (.int (0))) ⟨rfl, rfl, rfl, (0), rfl, y6⟩ dX5_readDraw_19 (Nat.zero_le _) (Nat.zero_le _)
  · have y7 := y4.2 c5
    refine oj_aload_n 0 dX5_readDraw_7 rfl rfl ?_
    refine oj_iconst dX5_readDraw_8 ci_0 ?_
    refine oj_sipush dX5_readDraw_9 cs_999 ?_
    refine oc_Vi [.int (0), .int (999)] mi_RX5_116 ow_653 op_8 rfl k_4 (BX5_readAmount  y7) ⟨by decide, by decide⟩ ⟨Nat.le_refl _, Nat.le_refl _⟩ rfl (Nat.le_of_ble_eq_true rfl) dX5_readDraw_12 (fun r8 f10 h9 y11 => ?_)
    refine oj_if_ne 20 dX5_readDraw_15 rfl (fun c12 => ?_) (fun c12 => ?_)
    · have y13 := y11.2 c12
      refine oj_aload_n 0 dX5_readDraw_20 rfl rfl ?_
      refine oj_getr (q := 5) fl_RX5_12 k_4 rfl k_5 dX5_readDraw_21 ?_
      refine oj_aload_n 0 dX5_readDraw_24 rfl rfl ?_
      refine oj_geti fl_RX5_35 k_4 rfl dX5_readDraw_25 ?_
      refine oj_puti fl_RX5_162 (Or.inl rfl) k_5 rfl rfl rfl dX5_readDraw_28 ?_
      refine oj_toph (fun h15 eh15 => ?_)
      have y16 := Lt_at y13 h15 eh15
      refine oj_aload_n 0 dX5_readDraw_31 rfl rfl ?_
      refine oj_bipush dX5_readDraw_32 cb_59 ?_
      refine oc_Vi [.int (59)] mi_RX5_113 ow_649 op_7 rfl k_4 (BX5_take  y16) ⟨by decide, by decide⟩ ⟨Nat.le_refl _, Nat.le_refl _⟩ rfl (Nat.le_of_ble_eq_true rfl) dX5_readDraw_34 (fun r17 f19 h18 y20 => ?_)
      exact oj_ret (r := some (.int r17)) ⟨f19, rfl, rfl, r17, rfl, y20⟩ dX5_readDraw_37 (Nat.zero_le _) (Nat.zero_le _)
    · have y14 := y11.1 c12
      refine oj_iconst dX5_readDraw_18 ci_0 ?_
      exact oj_ret (r := some (.int (0))) ⟨rfl, rfl, rfl, (0), rfl, y14⟩ dX5_readDraw_19 (Nat.zero_le _) (Nat.zero_le _)
-- X5_read
set_option maxRecDepth 100000 in
set_option maxHeartbeats 4000000 in
theorem BLX5_read_38 {Q : Int32 → ob_H → Prop} :
    ∀ (n : Nat) (x1 : Int32) (x2 : Int32) (h : ob_H), it3 (FX5_read_38 Q) n x1 x2 h → ob_J RX5 cX5_read 3 (ob_rm 247) false none 0 0 KS NN h 38 [(0, .ref 4), (1, .int x1), (2, .int x2)] [] (ob_g (some .boolean) (ob_qi Q)) := by
  intro n
  induction n with
  | zero => intro x1 x2 h y; exact False.elim y
  | succ n hk38 =>
    intro x1 x2 h y
    have y : FX5_read_38 Q (it3 (FX5_read_38 Q) n) x1 x2 h := y
    unfold FX5_read_38 at y
    refine oj_iload_n 2 dX5_read_38 rfl rfl ?_
    refine oj_sipush dX5_read_39 cs_1600 ?_
    refine oj_icmp_gt 231 dX5_read_42 rfl (fun c17 => ?_) (fun c17 => ?_)
    · have y18 := y.1 c17
      refine oj_iload_n 1 dX5_read_231 rfl rfl ?_
      obtain ⟨c20, y21⟩ := y18
      exact oj_ret (r := some (.int x1)) ⟨c20, rfl, rfl, x1, rfl, y21⟩ dX5_read_232 (Nat.zero_le _) (Nat.zero_le _)
    · have y19 := y.2 c17
      refine oj_iload_n 1 dX5_read_45 rfl rfl ?_
      refine oj_if_eq 231 dX5_read_46 rfl (fun c22 => ?_) (fun c22 => ?_)
      · have y23 := y19.1 c22
        refine oj_iload_n 1 dX5_read_231 rfl rfl ?_
        obtain ⟨c25, y26⟩ := y23
        exact oj_ret (r := some (.int x1)) ⟨c25, rfl, rfl, x1, rfl, y26⟩ dX5_read_232 (Nat.zero_le _) (Nat.zero_le _)
      · have y24 := y19.2 c22
        refine oj_aload_n 0 dX5_read_49 rfl rfl ?_
        refine oj_getr (q := 1) fl_RX5_54 k_4 rfl k_1 dX5_read_50 ?_
        refine oj_geti fl_RX5_66 k_1 rfl dX5_read_53 ?_
        refine oj_if_eq 231 dX5_read_56 rfl (fun c27 => ?_) (fun c27 => ?_)
        · have y28 := y24.1 c27
          refine oj_iload_n 1 dX5_read_231 rfl rfl ?_
          obtain ⟨c30, y31⟩ := y28
          exact oj_ret (r := some (.int x1)) ⟨c30, rfl, rfl, x1, rfl, y31⟩ dX5_read_232 (Nat.zero_le _) (Nat.zero_le _)
        · have y29 := y24.2 c27
          refine oj_aload_n 0 dX5_read_59 rfl rfl ?_
          refine oj_getr (q := 1) fl_RX5_54 k_4 rfl k_1 dX5_read_60 ?_
          refine oj_geti fl_RX5_66 k_1 rfl dX5_read_63 ?_
          by_cases c32 : (h.1 1 2) = (106)
          · have y33 := y29.1 c32
            refine oj_tableIn 124 dX5_read_66 (by rw [c32] <;> decide) (by rw [c32] <;> decide) (by rw [c32] <;> rfl) rfl ?_
            refine oj_aload_n 0 dX5_read_124 rfl rfl ?_
            refine oc_Vi [] mi_RX5_69 ow_628 op_2 rfl k_4 (BX5_readObjector  y33) ⟨by decide, by decide⟩ ⟨Nat.le_refl _, Nat.le_refl _⟩ rfl (Nat.le_of_ble_eq_true rfl) dX5_read_125 (fun r34 f36 h35 y37 => ?_)
            refine oj_istore_n (lv' := [(1, .int r34), (0, .ref 4), (2, .int x2)]) dX5_read_128 rfl (by decide) rfl ?_
            refine oj_goto 225 dX5_read_129 rfl ?_
            obtain ⟨v38, ev38⟩ : ∃ z : Int32, z = x2 + (1) := ⟨_, rfl⟩
            have y39 := Lt_at y37 v38 ev38
            refine oj_iinc (v := v38) (lv' := [(2, .int v38), (1, .int r34), (0, .ref 4)]) 2 dX5_read_225 rfl (iinc_e ci_1 ev38) (by decide) rfl ?_
            refine oj_goto 38 dX5_read_228 rfl ?_
            refine oj_lv [2, 1, 0] rfl ?_
            exact hk38 _ _ _ y39
          have y40 := y29.2 c32
          by_cases c41 : (h.1 1 2) = (110)
          · have y42 := y40.1 c41
            refine oj_tableIn 132 dX5_read_66 (by rw [c41] <;> decide) (by rw [c41] <;> decide) (by rw [c41] <;> rfl) rfl ?_
            refine oj_aload_n 0 dX5_read_132 rfl rfl ?_
            refine oj_aload_n 0 dX5_read_133 rfl rfl ?_
            refine oj_getr (q := 5) fl_RX5_12 k_4 rfl k_5 dX5_read_134 ?_
            refine oj_getr (q := 10) fl_RX5_73 k_5 rfl k_10 dX5_read_137 ?_
            refine oj_bipush dX5_read_140 cb_12 ?_
            refine oc_Vi [.ref 10, .int (12)] mi_RX5_77 ow_657 op_9 rfl k_4 (BX5_readWhom k_10 y42) ⟨by decide, by decide⟩ ⟨Nat.le_refl _, Nat.le_refl _⟩ rfl (Nat.le_of_ble_eq_true rfl) dX5_read_142 (fun r43 f45 h44 y46 => ?_)
            refine oj_istore_n (lv' := [(1, .int r43), (0, .ref 4), (2, .int x2)]) dX5_read_145 rfl (by decide) rfl ?_
            refine oj_goto 225 dX5_read_146 rfl ?_
            obtain ⟨v47, ev47⟩ : ∃ z : Int32, z = x2 + (1) := ⟨_, rfl⟩
            have y48 := Lt_at y46 v47 ev47
            refine oj_iinc (v := v47) (lv' := [(2, .int v47), (1, .int r43), (0, .ref 4)]) 2 dX5_read_225 rfl (iinc_e ci_1 ev47) (by decide) rfl ?_
            refine oj_goto 38 dX5_read_228 rfl ?_
            refine oj_lv [2, 1, 0] rfl ?_
            exact hk38 _ _ _ y48
          have y49 := y40.2 c41
          by_cases c50 : (h.1 1 2) = (111)
          · have y51 := y49.1 c50
            refine oj_tableIn 149 dX5_read_66 (by rw [c50] <;> decide) (by rw [c50] <;> decide) (by rw [c50] <;> rfl) rfl ?_
            refine oj_aload_n 0 dX5_read_149 rfl rfl ?_
            refine oj_aload_n 0 dX5_read_150 rfl rfl ?_
            refine oj_getr (q := 5) fl_RX5_12 k_4 rfl k_5 dX5_read_151 ?_
            refine oj_getr (q := 11) fl_RX5_81 k_5 rfl k_11 dX5_read_154 ?_
            refine oj_bipush dX5_read_157 cb_6 ?_
            refine oc_Vi [.ref 11, .int (6)] mi_RX5_77 ow_657 op_9 rfl k_4 (BX5_readWhom k_11 y51) ⟨by decide, by decide⟩ ⟨Nat.le_refl _, Nat.le_refl _⟩ rfl (Nat.le_of_ble_eq_true rfl) dX5_read_159 (fun r52 f54 h53 y55 => ?_)
            refine oj_istore_n (lv' := [(1, .int r52), (0, .ref 4), (2, .int x2)]) dX5_read_162 rfl (by decide) rfl ?_
            refine oj_goto 225 dX5_read_163 rfl ?_
            obtain ⟨v56, ev56⟩ : ∃ z : Int32, z = x2 + (1) := ⟨_, rfl⟩
            have y57 := Lt_at y55 v56 ev56
            refine oj_iinc (v := v56) (lv' := [(2, .int v56), (1, .int r52), (0, .ref 4)]) 2 dX5_read_225 rfl (iinc_e ci_1 ev56) (by decide) rfl ?_
            refine oj_goto 38 dX5_read_228 rfl ?_
            refine oj_lv [2, 1, 0] rfl ?_
            exact hk38 _ _ _ y57
          have y58 := y49.2 c50
          by_cases c59 : (h.1 1 2) = (112)
          · have y60 := y58.1 c59
            refine oj_tableIn 166 dX5_read_66 (by rw [c59] <;> decide) (by rw [c59] <;> decide) (by rw [c59] <;> rfl) rfl ?_
            refine oj_aload_n 0 dX5_read_166 rfl rfl ?_
            refine oc_Vi [] mi_RX5_84 ow_671 op_11 rfl k_4 (BX5_readJoined  y60) ⟨by decide, by decide⟩ ⟨Nat.le_refl _, Nat.le_refl _⟩ rfl (Nat.le_of_ble_eq_true rfl) dX5_read_167 (fun r61 f63 h62 y64 => ?_)
            refine oj_istore_n (lv' := [(1, .int r61), (0, .ref 4), (2, .int x2)]) dX5_read_170 rfl (by decide) rfl ?_
            refine oj_goto 225 dX5_read_171 rfl ?_
            obtain ⟨v65, ev65⟩ : ∃ z : Int32, z = x2 + (1) := ⟨_, rfl⟩
            have y66 := Lt_at y64 v65 ev65
            refine oj_iinc (v := v65) (lv' := [(2, .int v65), (1, .int r61), (0, .ref 4)]) 2 dX5_read_225 rfl (iinc_e ci_1 ev65) (by decide) rfl ?_
            refine oj_goto 38 dX5_read_228 rfl ?_
            refine oj_lv [2, 1, 0] rfl ?_
            exact hk38 _ _ _ y66
          have y67 := y58.2 c59
          by_cases c68 : (h.1 1 2) = (113)
          · have y69 := y67.1 c68
            refine oj_tableIn 174 dX5_read_66 (by rw [c68] <;> decide) (by rw [c68] <;> decide) (by rw [c68] <;> rfl) rfl ?_
            refine oj_aload_n 0 dX5_read_174 rfl rfl ?_
            refine oj_aload_n 0 dX5_read_175 rfl rfl ?_
            refine oj_getr (q := 5) fl_RX5_12 k_4 rfl k_5 dX5_read_176 ?_
            refine oj_getr (q := 13) fl_RX5_44 k_5 rfl k_13 dX5_read_179 ?_
            refine oc_Vi [.ref 13] mi_RX5_87 ow_675 op_12 rfl k_4 (BX5_readFormula AA4_13 y69) ⟨by decide, by decide⟩ ⟨Nat.le_refl _, Nat.le_refl _⟩ rfl (Nat.le_of_ble_eq_true rfl) dX5_read_182 (fun r70 f72 h71 y73 => ?_)
            refine oj_istore_n (lv' := [(1, .int r70), (0, .ref 4), (2, .int x2)]) dX5_read_185 rfl (by decide) rfl ?_
            refine oj_goto 225 dX5_read_186 rfl ?_
            obtain ⟨v74, ev74⟩ : ∃ z : Int32, z = x2 + (1) := ⟨_, rfl⟩
            have y75 := Lt_at y73 v74 ev74
            refine oj_iinc (v := v74) (lv' := [(2, .int v74), (1, .int r70), (0, .ref 4)]) 2 dX5_read_225 rfl (iinc_e ci_1 ev74) (by decide) rfl ?_
            refine oj_goto 38 dX5_read_228 rfl ?_
            refine oj_lv [2, 1, 0] rfl ?_
            exact hk38 _ _ _ y75
          have y76 := y67.2 c68
          by_cases c77 : (h.1 1 2) = (114)
          · have y78 := y76.1 c77
            refine oj_tableIn 189 dX5_read_66 (by rw [c77] <;> decide) (by rw [c77] <;> decide) (by rw [c77] <;> rfl) rfl ?_
            refine oj_aload_n 0 dX5_read_189 rfl rfl ?_
            refine oj_aload_n 0 dX5_read_190 rfl rfl ?_
            refine oj_getr (q := 5) fl_RX5_12 k_4 rfl k_5 dX5_read_191 ?_
            refine oj_getr (q := 16) fl_RX5_91 k_5 rfl k_16 dX5_read_194 ?_
            refine oc_Vi [.ref 16] mi_RX5_87 ow_675 op_12 rfl k_4 (BX5_readFormula AA4_16 y78) ⟨by decide, by decide⟩ ⟨Nat.le_refl _, Nat.le_refl _⟩ rfl (Nat.le_of_ble_eq_true rfl) dX5_read_197 (fun r79 f81 h80 y82 => ?_)
            refine oj_istore_n (lv' := [(1, .int r79), (0, .ref 4), (2, .int x2)]) dX5_read_200 rfl (by decide) rfl ?_
            refine oj_goto 225 dX5_read_201 rfl ?_
            obtain ⟨v83, ev83⟩ : ∃ z : Int32, z = x2 + (1) := ⟨_, rfl⟩
            have y84 := Lt_at y82 v83 ev83
            refine oj_iinc (v := v83) (lv' := [(2, .int v83), (1, .int r79), (0, .ref 4)]) 2 dX5_read_225 rfl (iinc_e ci_1 ev83) (by decide) rfl ?_
            refine oj_goto 38 dX5_read_228 rfl ?_
            refine oj_lv [2, 1, 0] rfl ?_
            exact hk38 _ _ _ y84
          have y85 := y76.2 c77
          by_cases c86 : (h.1 1 2) = (115)
          · have y87 := y85.1 c86
            refine oj_tableIn 204 dX5_read_66 (by rw [c86] <;> decide) (by rw [c86] <;> decide) (by rw [c86] <;> rfl) rfl ?_
            refine oj_aload_n 0 dX5_read_204 rfl rfl ?_
            refine oc_Vi [] mi_RX5_94 ow_703 op_17 rfl k_4 (BX5_readBar  y87) ⟨by decide, by decide⟩ ⟨Nat.le_refl _, Nat.le_refl _⟩ rfl (Nat.le_of_ble_eq_true rfl) dX5_read_205 (fun r88 f90 h89 y91 => ?_)
            refine oj_istore_n (lv' := [(1, .int r88), (0, .ref 4), (2, .int x2)]) dX5_read_208 rfl (by decide) rfl ?_
            refine oj_goto 225 dX5_read_209 rfl ?_
            obtain ⟨v92, ev92⟩ : ∃ z : Int32, z = x2 + (1) := ⟨_, rfl⟩
            have y93 := Lt_at y91 v92 ev92
            refine oj_iinc (v := v92) (lv' := [(2, .int v92), (1, .int r88), (0, .ref 4)]) 2 dX5_read_225 rfl (iinc_e ci_1 ev92) (by decide) rfl ?_
            refine oj_goto 38 dX5_read_228 rfl ?_
            refine oj_lv [2, 1, 0] rfl ?_
            exact hk38 _ _ _ y93
          have y94 := y85.2 c86
          by_cases c95 : (h.1 1 2) = (116)
          · have y96 := y94.1 c95
            refine oj_tableIn 212 dX5_read_66 (by rw [c95] <;> decide) (by rw [c95] <;> decide) (by rw [c95] <;> rfl) rfl ?_
            refine oj_aload_n 0 dX5_read_212 rfl rfl ?_
            refine oc_Vi [] mi_RX5_97 ow_707 op_18 rfl k_4 (BX5_readDraw  y96) ⟨by decide, by decide⟩ ⟨Nat.le_refl _, Nat.le_refl _⟩ rfl (Nat.le_of_ble_eq_true rfl) dX5_read_213 (fun r97 f99 h98 y100 => ?_)
            refine oj_istore_n (lv' := [(1, .int r97), (0, .ref 4), (2, .int x2)]) dX5_read_216 rfl (by decide) rfl ?_
            refine oj_goto 225 dX5_read_217 rfl ?_
            obtain ⟨v101, ev101⟩ : ∃ z : Int32, z = x2 + (1) := ⟨_, rfl⟩
            have y102 := Lt_at y100 v101 ev101
            refine oj_iinc (v := v101) (lv' := [(2, .int v101), (1, .int r97), (0, .ref 4)]) 2 dX5_read_225 rfl (iinc_e ci_1 ev101) (by decide) rfl ?_
            refine oj_goto 38 dX5_read_228 rfl ?_
            refine oj_lv [2, 1, 0] rfl ?_
            exact hk38 _ _ _ y102
          have y103 := y94.2 c95
          have hd110 : ob_J RX5 cX5_read 3 (ob_rm 247) false none 0 0 KS NN h 220 [(0, .ref 4), (1, .int x1), (2, .int x2)] [] (ob_g (some .boolean) (ob_qi Q)) := by
            refine oj_aload_n 0 dX5_read_220 rfl rfl ?_
            refine oc_Vi [] mi_RX5_100 ow_632 op_3 rfl k_4 (BX5_misplaced  y103) ⟨by decide, by decide⟩ ⟨Nat.le_refl _, Nat.le_refl _⟩ rfl (Nat.le_of_ble_eq_true rfl) dX5_read_221 (fun r104 f106 h105 y107 => ?_)
            refine oj_istore_n (lv' := [(1, .int r104), (0, .ref 4), (2, .int x2)]) dX5_read_224 rfl (by decide) rfl ?_
            obtain ⟨v108, ev108⟩ : ∃ z : Int32, z = x2 + (1) := ⟨_, rfl⟩
            have y109 := Lt_at y107 v108 ev108
            refine oj_iinc (v := v108) (lv' := [(2, .int v108), (1, .int r104), (0, .ref 4)]) 2 dX5_read_225 rfl (iinc_e ci_1 ev108) (by decide) rfl ?_
            refine oj_goto 38 dX5_read_228 rfl ?_
            refine oj_lv [2, 1, 0] rfl ?_
            exact hk38 _ _ _ y109
          by_cases c111 : (h.1 1 2) = (107)
          · exact oj_tableIn 220 dX5_read_66 (by rw [c111] <;> decide) (by rw [c111] <;> decide) (by rw [c111] <;> rfl) rfl hd110
          by_cases c112 : (h.1 1 2) = (108)
          · exact oj_tableIn 220 dX5_read_66 (by rw [c112] <;> decide) (by rw [c112] <;> decide) (by rw [c112] <;> rfl) rfl hd110
          by_cases c113 : (h.1 1 2) = (109)
          · exact oj_tableIn 220 dX5_read_66 (by rw [c113] <;> decide) (by rw [c113] <;> decide) (by rw [c113] <;> rfl) rfl hd110
          exact oj_tableOut 220 dX5_read_66 (by have nc32 := lv_neT c32 (show (106 : Int32).toInt = 106 by decide); have nc41 := lv_neT c41 (show (110 : Int32).toInt = 110 by decide); have nc50 := lv_neT c50 (show (111 : Int32).toInt = 111 by decide); have nc59 := lv_neT c59 (show (112 : Int32).toInt = 112 by decide); have nc68 := lv_neT c68 (show (113 : Int32).toInt = 113 by decide); have nc77 := lv_neT c77 (show (114 : Int32).toInt = 114 by decide); have nc86 := lv_neT c86 (show (115 : Int32).toInt = 115 by decide); have nc95 := lv_neT c95 (show (116 : Int32).toInt = 116 by decide); have nc111 := lv_neT c111 (show (107 : Int32).toInt = 107 by decide); have nc112 := lv_neT c112 (show (108 : Int32).toInt = 108 by decide); have nc113 := lv_neT c113 (show (109 : Int32).toInt = 109 by decide); omega) rfl hd110
set_option maxRecDepth 100000 in
set_option maxHeartbeats 4000000 in
theorem BX5_read    {h : ob_H} {Q : Int32 → ob_H → Prop} (y : MX5_read   h Q) : ob_T yX5_read cX5_read 3 (some .boolean) (ob_rm 247) KS NN h [.ref 4] (ob_g (some .boolean) (ob_qi Q)) := by
  unfold MX5_read at y
  refine ob_T_gf (by decide +kernel) (Nat.le_of_ble_eq_true rfl) ?_
  show ob_J RX5 cX5_read 3 (ob_rm 247) false none 0 0 KS NN h 0 [(0, .ref 4)] [] (ob_g (some .boolean) (ob_qi Q))
  refine oj_aload_n 0 dX5_read_0 rfl rfl ?_
  refine oj_getr (q := 5) fl_RX5_12 k_4 rfl k_5 dX5_read_1 ?_
  refine oc_Vv [] mi_RX5_58 ow_154 ow_155 rfl k_5 (BX2_clear AA2_5 y) ⟨by decide, by decide⟩ ⟨Nat.le_refl _, Nat.le_refl _⟩ rfl (Nat.le_of_ble_eq_true rfl) dX5_read_4 (fun h2 y4 => ?_)
  refine oj_aload_n 0 dX5_read_7 rfl rfl ?_
  refine oj_iconst dX5_read_8 ci_0 ?_
  refine oj_puti fl_RX5_18 (Or.inl rfl) k_4 rfl rfl rfl dX5_read_9 ?_
  refine oj_toph (fun h5 eh5 => ?_)
  have y6 := Lt_at y4 h5 eh5
  refine oj_aload_n 0 dX5_read_12 rfl rfl ?_
  refine oj_iconst dX5_read_13 ci_m1 ?_
  refine oj_puti fl_RX5_22 (Or.inl rfl) k_4 rfl rfl rfl dX5_read_14 ?_
  refine oj_toph (fun h7 eh7 => ?_)
  have y8 := Lt_at y6 h7 eh7
  refine oj_aload_n 0 dX5_read_17 rfl rfl ?_
  refine oj_iconst dX5_read_18 ci_0 ?_
  refine oj_puti fl_RX5_29 (Or.inl rfl) k_4 rfl rfl rfl dX5_read_19 ?_
  refine oj_toph (fun h9 eh9 => ?_)
  have y10 := Lt_at y8 h9 eh9
  refine oj_aload_n 0 dX5_read_22 rfl rfl ?_
  refine oj_iconst dX5_read_23 ci_0 ?_
  refine oj_puti fl_RX5_32 (Or.inl rfl) k_4 rfl rfl rfl dX5_read_24 ?_
  refine oj_toph (fun h11 eh11 => ?_)
  have y12 := Lt_at y10 h11 eh11
  refine oj_aload_n 0 dX5_read_27 rfl rfl ?_
  refine oj_getr (q := 1) fl_RX5_54 k_4 rfl k_1 dX5_read_28 ?_
  refine oc_Vv [] mi_RX5_61 ow_605 ow_606 rfl k_1 (BX10_rewind  y12) ⟨by decide, by decide⟩ ⟨Nat.le_refl _, Nat.le_refl _⟩ rfl (Nat.le_of_ble_eq_true rfl) dX5_read_31 (fun h14 y16 => ?_)
  refine oj_iconst dX5_read_34 ci_1 ?_
  refine oj_istore_n (lv' := [(1, .int (1)), (0, .ref 4)]) dX5_read_35 rfl (by decide) rfl ?_
  refine oj_iconst dX5_read_36 ci_0 ?_
  refine oj_istore_n (lv' := [(2, .int (0)), (1, .int (1)), (0, .ref 4)]) dX5_read_37 rfl (by decide) rfl ?_
  refine oj_lv [2, 1, 0] rfl ?_
  obtain ⟨n, y114⟩ := y16
  exact BLX5_read_38  n _ _ _ y114
-- X4_copy
set_option maxRecDepth 100000 in
set_option maxHeartbeats 4000000 in
theorem BX4_copy  {o : Nat} {p1 : Nat} (hA : A4 o) (hp1 : A4 p1) {h : ob_H} {Q : ob_H → Prop} (y : MX4_copy  o p1 h Q) : ob_T yX4_copy cX4_copy 2 none (ob_rm 1) KS NN h [.ref o, .ref p1] (ob_g none (ob_qv Q)) := by
  unfold MX4_copy at y
  refine ob_T_gf (by decide +kernel) (Nat.le_of_ble_eq_true rfl) ?_
  show ob_J RX4 cX4_copy 2 (ob_rm 1) false none 0 0 KS NN h 0 [(0, .ref o), (1, .ref p1)] [] (ob_g none (ob_qv Q))
  refine oj_aload_n 0 dX4_copy_0 rfl rfl ?_
  refine oj_aload_n 1 dX4_copy_1 rfl rfl ?_
  refine oj_geti fl_RX4_13 (A4_0 hp1) rfl dX4_copy_2 ?_
  refine oj_puti fl_RX4_13 (Or.inl rfl) (A4_0 hA) rfl rfl rfl dX4_copy_5 ?_
  refine oj_toph (fun h1 eh1 => ?_)
  have y2 := Lt_at y h1 eh1
  refine oj_aload_n 1 dX4_copy_8 rfl rfl ?_
  refine oj_getr (q := (p1 + 1)) fl_RX4_9 (A4_0 hp1) rfl (A4_1 hp1) dX4_copy_9 ?_
  refine oj_iconst dX4_copy_12 ci_0 ?_
  refine oj_aload_n 0 dX4_copy_13 rfl rfl ?_
  refine oj_getr (q := (o + 1)) fl_RX4_9 (A4_0 hA) rfl (A4_1 hA) dX4_copy_14 ?_
  refine oj_iconst dX4_copy_17 ci_0 ?_
  refine oj_aload_n 0 dX4_copy_18 rfl rfl ?_
  refine oj_geti fl_RX4_13 (A4_0 hA) rfl dX4_copy_19 ?_
  obtain ⟨c3, y4⟩ := y2
  obtain ⟨c5, y6⟩ := y4
  obtain ⟨c7, y8⟩ := y6
  refine oj_copy (A4_1 hp1) (A4_1 hA) ow_720 ow_715 ow_714 ow_19 nn_0 nn_0 c3 ix_0 ix_0 rfl c5 c7 (by decide) (by decide) (Nat.le_of_ble_eq_true rfl) dX4_copy_22 ?_
  refine oj_toph (fun h9 eh9 => ?_)
  have y10 := Lt_at y8 h9 eh9
  exact oj_ret (r := none) ⟨trivial, rfl, rfl, rfl, y10⟩ dX4_copy_25 (Nat.zero_le _) (Nat.zero_le _)
-- X2_copy
set_option maxRecDepth 100000 in
set_option maxHeartbeats 4000000 in
theorem BX2_copy  {o : Nat} {p1 : Nat} (hA : A2 o) (hp1 : A2 p1) {h : ob_H} {Q : ob_H → Prop} (y : MX2_copy  o p1 h Q) : ob_T yX2_copy cX2_copy 2 none (ob_rm 2) KS NN h [.ref o, .ref p1] (ob_g none (ob_qv Q)) := by
  unfold MX2_copy at y
  refine ob_T_gf (by decide +kernel) (Nat.le_of_ble_eq_true rfl) ?_
  show ob_J RX2 cX2_copy 2 (ob_rm 2) false none 0 0 KS NN h 0 [(0, .ref o), (1, .ref p1)] [] (ob_g none (ob_qv Q))
  refine oj_aload_n 0 dX2_copy_0 rfl rfl ?_
  refine oj_aload_n 1 dX2_copy_1 rfl rfl ?_
  refine oj_geti fl_RX2_7 (A2_0 hp1) rfl dX2_copy_2 ?_
  refine oj_puti fl_RX2_7 (Or.inl rfl) (A2_0 hA) rfl rfl rfl dX2_copy_5 ?_
  refine oj_toph (fun h1 eh1 => ?_)
  have y2 := Lt_at y h1 eh1
  refine oj_aload_n 0 dX2_copy_8 rfl rfl ?_
  refine oj_aload_n 1 dX2_copy_9 rfl rfl ?_
  refine oj_geti fl_RX2_35 (A2_0 hp1) rfl dX2_copy_10 ?_
  refine oj_puti fl_RX2_35 (Or.inl rfl) (A2_0 hA) rfl rfl rfl dX2_copy_13 ?_
  refine oj_toph (fun h3 eh3 => ?_)
  have y4 := Lt_at y2 h3 eh3
  refine oj_aload_n 0 dX2_copy_16 rfl rfl ?_
  refine oj_aload_n 1 dX2_copy_17 rfl rfl ?_
  refine oj_geti fl_RX2_38 (A2_0 hp1) rfl dX2_copy_18 ?_
  refine oj_puti fl_RX2_38 (Or.inl rfl) (A2_0 hA) rfl rfl rfl dX2_copy_21 ?_
  refine oj_toph (fun h5 eh5 => ?_)
  have y6 := Lt_at y4 h5 eh5
  refine oj_aload_n 0 dX2_copy_24 rfl rfl ?_
  refine oj_aload_n 1 dX2_copy_25 rfl rfl ?_
  refine oj_geti fl_RX2_41 (A2_0 hp1) rfl dX2_copy_26 ?_
  refine oj_puti fl_RX2_41 (Or.inl rfl) (A2_0 hA) rfl rfl rfl dX2_copy_29 ?_
  refine oj_toph (fun h7 eh7 => ?_)
  have y8 := Lt_at y6 h7 eh7
  refine oj_aload_n 0 dX2_copy_32 rfl rfl ?_
  refine oj_aload_n 1 dX2_copy_33 rfl rfl ?_
  refine oj_geti fl_RX2_44 (A2_0 hp1) rfl dX2_copy_34 ?_
  refine oj_puti fl_RX2_44 (Or.inl rfl) (A2_0 hA) rfl rfl rfl dX2_copy_37 ?_
  refine oj_toph (fun h9 eh9 => ?_)
  have y10 := Lt_at y8 h9 eh9
  refine oj_aload_n 1 dX2_copy_40 rfl rfl ?_
  refine oj_getr (q := (p1 + 1)) fl_RX2_13 (A2_0 hp1) rfl (A2_1 hp1) dX2_copy_41 ?_
  refine oj_iconst dX2_copy_44 ci_0 ?_
  refine oj_aload_n 0 dX2_copy_45 rfl rfl ?_
  refine oj_getr (q := (o + 1)) fl_RX2_13 (A2_0 hA) rfl (A2_1 hA) dX2_copy_46 ?_
  refine oj_iconst dX2_copy_49 ci_0 ?_
  refine oj_bipush dX2_copy_50 cb_7 ?_
  refine oj_copy (A2_1 hp1) (A2_1 hA) ow_713 ow_715 ow_714 ow_19 nn_0 nn_0 nn_7 ix_0 ix_0 ix_7 (by decide) (by decide) (by decide) (by decide) (Nat.le_of_ble_eq_true rfl) dX2_copy_52 ?_
  refine oj_toph (fun h11 eh11 => ?_)
  have y12 := Lt_at y10 h11 eh11
  refine oj_aload_n 1 dX2_copy_55 rfl rfl ?_
  refine oj_getr (q := (p1 + 2)) fl_RX2_17 (A2_0 hp1) rfl (A2_2 hp1) dX2_copy_56 ?_
  refine oj_iconst dX2_copy_59 ci_0 ?_
  refine oj_aload_n 0 dX2_copy_60 rfl rfl ?_
  refine oj_getr (q := (o + 2)) fl_RX2_17 (A2_0 hA) rfl (A2_2 hA) dX2_copy_61 ?_
  refine oj_iconst dX2_copy_64 ci_0 ?_
  refine oj_bipush dX2_copy_65 cb_7 ?_
  refine oj_copy (A2_2 hp1) (A2_2 hA) ow_713 ow_715 ow_714 ow_19 nn_0 nn_0 nn_7 ix_0 ix_0 ix_7 (by decide) (by decide) (by decide) (by decide) (Nat.le_of_ble_eq_true rfl) dX2_copy_67 ?_
  refine oj_toph (fun h13 eh13 => ?_)
  have y14 := Lt_at y12 h13 eh13
  refine oj_aload_n 1 dX2_copy_70 rfl rfl ?_
  refine oj_getr (q := (p1 + 3)) fl_RX2_20 (A2_0 hp1) rfl (A2_3 hp1) dX2_copy_71 ?_
  refine oj_iconst dX2_copy_74 ci_0 ?_
  refine oj_aload_n 0 dX2_copy_75 rfl rfl ?_
  refine oj_getr (q := (o + 3)) fl_RX2_20 (A2_0 hA) rfl (A2_3 hA) dX2_copy_76 ?_
  refine oj_iconst dX2_copy_79 ci_0 ?_
  refine oj_bipush dX2_copy_80 cb_7 ?_
  refine oj_copy (A2_3 hp1) (A2_3 hA) ow_713 ow_715 ow_714 ow_19 nn_0 nn_0 nn_7 ix_0 ix_0 ix_7 (by decide) (by decide) (by decide) (by decide) (Nat.le_of_ble_eq_true rfl) dX2_copy_82 ?_
  refine oj_toph (fun h15 eh15 => ?_)
  have y16 := Lt_at y14 h15 eh15
  refine oj_aload_n 1 dX2_copy_85 rfl rfl ?_
  refine oj_getr (q := (p1 + 4)) fl_RX2_23 (A2_0 hp1) rfl (A2_4 hp1) dX2_copy_86 ?_
  refine oj_iconst dX2_copy_89 ci_0 ?_
  refine oj_aload_n 0 dX2_copy_90 rfl rfl ?_
  refine oj_getr (q := (o + 4)) fl_RX2_23 (A2_0 hA) rfl (A2_4 hA) dX2_copy_91 ?_
  refine oj_iconst dX2_copy_94 ci_0 ?_
  refine oj_bipush dX2_copy_95 cb_7 ?_
  refine oj_copy (A2_4 hp1) (A2_4 hA) ow_713 ow_715 ow_714 ow_19 nn_0 nn_0 nn_7 ix_0 ix_0 ix_7 (by decide) (by decide) (by decide) (by decide) (Nat.le_of_ble_eq_true rfl) dX2_copy_97 ?_
  refine oj_toph (fun h17 eh17 => ?_)
  have y18 := Lt_at y16 h17 eh17
  refine oj_aload_n 1 dX2_copy_100 rfl rfl ?_
  refine oj_getr (q := (p1 + 5)) fl_RX2_26 (A2_0 hp1) rfl (A2_5 hp1) dX2_copy_101 ?_
  refine oj_iconst dX2_copy_104 ci_0 ?_
  refine oj_aload_n 0 dX2_copy_105 rfl rfl ?_
  refine oj_getr (q := (o + 5)) fl_RX2_26 (A2_0 hA) rfl (A2_5 hA) dX2_copy_106 ?_
  refine oj_iconst dX2_copy_109 ci_0 ?_
  refine oj_bipush dX2_copy_110 cb_7 ?_
  refine oj_copy (A2_5 hp1) (A2_5 hA) ow_713 ow_715 ow_714 ow_19 nn_0 nn_0 nn_7 ix_0 ix_0 ix_7 (by decide) (by decide) (by decide) (by decide) (Nat.le_of_ble_eq_true rfl) dX2_copy_112 ?_
  refine oj_toph (fun h19 eh19 => ?_)
  have y20 := Lt_at y18 h19 eh19
  refine oj_aload_n 1 dX2_copy_115 rfl rfl ?_
  refine oj_getr (q := (p1 + 6)) fl_RX2_29 (A2_0 hp1) rfl (A2_6 hp1) dX2_copy_116 ?_
  refine oj_iconst dX2_copy_119 ci_0 ?_
  refine oj_aload_n 0 dX2_copy_120 rfl rfl ?_
  refine oj_getr (q := (o + 6)) fl_RX2_29 (A2_0 hA) rfl (A2_6 hA) dX2_copy_121 ?_
  refine oj_iconst dX2_copy_124 ci_0 ?_
  refine oj_bipush dX2_copy_125 cb_7 ?_
  refine oj_copy (A2_6 hp1) (A2_6 hA) ow_713 ow_715 ow_714 ow_19 nn_0 nn_0 nn_7 ix_0 ix_0 ix_7 (by decide) (by decide) (by decide) (by decide) (Nat.le_of_ble_eq_true rfl) dX2_copy_127 ?_
  refine oj_toph (fun h21 eh21 => ?_)
  have y22 := Lt_at y20 h21 eh21
  refine oj_aload_n 1 dX2_copy_130 rfl rfl ?_
  refine oj_getr (q := (p1 + 7)) fl_RX2_32 (A2_0 hp1) rfl (A2_7 hp1) dX2_copy_131 ?_
  refine oj_iconst dX2_copy_134 ci_0 ?_
  refine oj_aload_n 0 dX2_copy_135 rfl rfl ?_
  refine oj_getr (q := (o + 7)) fl_RX2_32 (A2_0 hA) rfl (A2_7 hA) dX2_copy_136 ?_
  refine oj_iconst dX2_copy_139 ci_0 ?_
  refine oj_bipush dX2_copy_140 cb_49 ?_
  refine oj_copy (A2_7 hp1) (A2_7 hA) ow_713 ow_715 ow_714 ow_19 nn_0 nn_0 nn_49 ix_0 ix_0 ix_49 (by decide) (by decide) (by decide) (by decide) (Nat.le_of_ble_eq_true rfl) dX2_copy_142 ?_
  refine oj_toph (fun h23 eh23 => ?_)
  have y24 := Lt_at y22 h23 eh23
  refine oj_aload_n 0 dX2_copy_145 rfl rfl ?_
  refine oj_getr (q := (o + 8)) fl_RX2_50 (A2_0 hA) rfl (A2_8 hA) dX2_copy_146 ?_
  refine oj_aload_n 1 dX2_copy_149 rfl rfl ?_
  refine oj_getr (q := (p1 + 8)) fl_RX2_50 (A2_0 hp1) rfl (A2_8 hp1) dX2_copy_150 ?_
  refine oc_Vv [.ref (p1 + 8)] mi_RX2_73 ow_717 ow_718 rfl (A2_8 hA) (BX4_copy (AS2_8 hA) (AS2_8 hp1) y24) ⟨by decide, by decide⟩ ⟨Nat.le_refl _, Nat.le_refl _⟩ rfl (Nat.le_of_ble_eq_true rfl) dX2_copy_153 (fun h26 y28 => ?_)
  refine oj_aload_n 0 dX2_copy_156 rfl rfl ?_
  refine oj_getr (q := (o + 11)) fl_RX2_54 (A2_0 hA) rfl (A2_11 hA) dX2_copy_157 ?_
  refine oj_aload_n 1 dX2_copy_160 rfl rfl ?_
  refine oj_getr (q := (p1 + 11)) fl_RX2_54 (A2_0 hp1) rfl (A2_11 hp1) dX2_copy_161 ?_
  refine oc_Vv [.ref (p1 + 11)] mi_RX2_73 ow_717 ow_718 rfl (A2_11 hA) (BX4_copy (AS2_11 hA) (AS2_11 hp1) y28) ⟨by decide, by decide⟩ ⟨Nat.le_refl _, Nat.le_refl _⟩ rfl (Nat.le_of_ble_eq_true rfl) dX2_copy_164 (fun h30 y32 => ?_)
  exact oj_ret (r := none) ⟨trivial, rfl, rfl, rfl, y32⟩ dX2_copy_167 (Nat.zero_le _) (Nat.zero_le _)
-- X6_begin
set_option maxRecDepth 100000 in
set_option maxHeartbeats 4000000 in
theorem BLX6_begin_64 {o : Nat} (hA : A6 o) {Q : ob_H → Prop} :
    ∀ (n : Nat) (x1 : Int32) (h : ob_H), it2 (FX6_begin_64 o Q) n x1 h → ob_J RX6 cX6_begin 2 (ob_rm 1) false none 0 0 KS NN h 64 [(0, .ref o), (1, .int x1)] [] (ob_g none (ob_qv Q)) := by
  intro n
  induction n with
  | zero => intro x1 h y; exact False.elim y
  | succ n hk64 =>
    intro x1 h y
    have y : FX6_begin_64 o Q (it2 (FX6_begin_64 o Q) n) x1 h := y
    unfold FX6_begin_64 at y
    refine oj_iload_n 1 dX6_begin_64 rfl rfl ?_
    refine oj_bipush dX6_begin_65 cb_7 ?_
    refine oj_icmp_ge 90 dX6_begin_67 rfl (fun c8 => ?_) (fun c8 => ?_)
    · have y9 := y.1 c8
      refine oj_aload_n 0 dX6_begin_90 rfl rfl ?_
      refine oj_iconst dX6_begin_91 ci_0 ?_
      refine oj_puti fl_RX6_23 (Or.inl rfl) (A6_0 hA) rfl rfl rfl dX6_begin_92 ?_
      refine oj_toph (fun h11 eh11 => ?_)
      have y12 := Lt_at y9 h11 eh11
      refine oj_aload_n 0 dX6_begin_95 rfl rfl ?_
      refine oj_iconst dX6_begin_96 ci_0 ?_
      refine oj_puti fl_RX6_27 (Or.inl rfl) (A6_0 hA) rfl rfl rfl dX6_begin_97 ?_
      refine oj_toph (fun h13 eh13 => ?_)
      have y14 := Lt_at y12 h13 eh13
      refine oj_aload_n 0 dX6_begin_100 rfl rfl ?_
      refine oj_aload_n 0 dX6_begin_101 rfl rfl ?_
      refine oj_getr (q := 20) fl_RX6_38 (A6_0 hA) rfl k_20 dX6_begin_102 ?_
      refine oj_geti fl_RX6_48 k_20 rfl dX6_begin_105 ?_
      refine oj_puti fl_RX6_30 (Or.inl rfl) (A6_0 hA) rfl rfl rfl dX6_begin_108 ?_
      refine oj_toph (fun h15 eh15 => ?_)
      have y16 := Lt_at y14 h15 eh15
      exact oj_ret (r := none) ⟨trivial, rfl, rfl, rfl, y16⟩ dX6_begin_111 (Nat.zero_le _) (Nat.zero_le _)
    · have y10 := y.2 c8
      refine oj_aload_n 0 dX6_begin_70 rfl rfl ?_
      refine oj_getr (q := (o + 2)) fl_RX6_17 (A6_0 hA) rfl (A6_2 hA) dX6_begin_71 ?_
      refine oj_iload_n 1 dX6_begin_74 rfl rfl ?_
      refine oj_iload_n 1 dX6_begin_75 rfl rfl ?_
      obtain ⟨c17, y18⟩ := y10
      refine oj_iast (A6_2 hA) c17 rfl dX6_begin_76 ?_
      refine oj_toph (fun h19 eh19 => ?_)
      have y20 := Lt_at y18 h19 eh19
      refine oj_aload_n 0 dX6_begin_77 rfl rfl ?_
      refine oj_getr (q := (o + 3)) fl_RX6_20 (A6_0 hA) rfl (A6_3 hA) dX6_begin_78 ?_
      refine oj_iload_n 1 dX6_begin_81 rfl rfl ?_
      refine oj_iconst dX6_begin_82 ci_0 ?_
      refine oj_iast (A6_3 hA) c17 rfl dX6_begin_83 ?_
      refine oj_toph (fun h21 eh21 => ?_)
      have y22 := Lt_at y20 h21 eh21
      obtain ⟨v23, ev23⟩ : ∃ z : Int32, z = x1 + (1) := ⟨_, rfl⟩
      have y24 := Lt_at y22 v23 ev23
      refine oj_iinc (v := v23) (lv' := [(1, .int v23), (0, .ref o)]) 1 dX6_begin_84 rfl (iinc_e ci_1 ev23) (by decide) rfl ?_
      refine oj_goto 64 dX6_begin_87 rfl ?_
      refine oj_lv [1, 0] rfl ?_
      exact hk64 _ _ y24
set_option maxRecDepth 100000 in
set_option maxHeartbeats 4000000 in
theorem BLX6_begin_2 {o : Nat} (hA : A6 o) {Q : ob_H → Prop} :
    ∀ (n : Nat) (x1 : Int32) (h : ob_H), it2 (FX6_begin_2 o Q) n x1 h → ob_J RX6 cX6_begin 2 (ob_rm 1) false none 0 0 KS NN h 2 [(0, .ref o), (1, .int x1)] [] (ob_g none (ob_qv Q)) := by
  intro n
  induction n with
  | zero => intro x1 h y; exact False.elim y
  | succ n hk2 =>
    intro x1 h y
    have y : FX6_begin_2 o Q (it2 (FX6_begin_2 o Q) n) x1 h := y
    unfold FX6_begin_2 at y
    refine oj_iload_n 1 dX6_begin_2 rfl rfl ?_
    refine oj_bipush dX6_begin_3 cb_7 ?_
    refine oj_icmp_ge 21 dX6_begin_5 rfl (fun c1 => ?_) (fun c1 => ?_)
    · have y2 := y.1 c1
      refine oj_aload_n 0 dX6_begin_21 rfl rfl ?_
      refine oj_getr (q := (o + 1)) fl_RX6_13 (A6_0 hA) rfl (A6_1 hA) dX6_begin_22 ?_
      refine oj_bipush dX6_begin_25 cb_6 ?_
      refine oj_aload_n 0 dX6_begin_27 rfl rfl ?_
      refine oj_getr (q := 20) fl_RX6_38 (A6_0 hA) rfl k_20 dX6_begin_28 ?_
      refine oj_geti fl_RX6_42 k_20 rfl dX6_begin_31 ?_
      refine oj_iast (A6_1 hA) in_6_7 ix_6 dX6_begin_34 ?_
      refine oj_toph (fun h4 eh4 => ?_)
      have y5 := Lt_at y2 h4 eh4
      refine oj_aload_n 0 dX6_begin_35 rfl rfl ?_
      refine oj_getr (q := (o + 1)) fl_RX6_13 (A6_0 hA) rfl (A6_1 hA) dX6_begin_36 ?_
      refine oj_iconst dX6_begin_39 ci_0 ?_
      refine oj_iconst dX6_begin_40 ci_1 ?_
      refine oj_aload_n 0 dX6_begin_41 rfl rfl ?_
      refine oj_getr (q := 20) fl_RX6_38 (A6_0 hA) rfl k_20 dX6_begin_42 ?_
      refine oj_geti fl_RX6_45 k_20 rfl dX6_begin_45 ?_
      refine oj_ishl dX6_begin_48 ?_
      refine oj_iconst dX6_begin_49 ci_1 ?_
      refine oj_isub dX6_begin_50 ?_
      refine oj_aload_n 0 dX6_begin_51 rfl rfl ?_
      refine oj_getr (q := 20) fl_RX6_38 (A6_0 hA) rfl k_20 dX6_begin_52 ?_
      refine oj_geti fl_RX6_42 k_20 rfl dX6_begin_55 ?_
      refine oj_iconst dX6_begin_58 ci_m1 ?_
      refine oj_ixor dX6_begin_59 ?_
      refine oj_iand dX6_begin_60 ?_
      refine oj_iast (A6_1 hA) in_0_7 ix_0 dX6_begin_61 ?_
      refine oj_toph (fun h6 eh6 => ?_)
      have y7 := Lt_at y5 h6 eh6
      refine oj_iconst dX6_begin_62 ci_0 ?_
      refine oj_istore_n (lv' := [(1, .int (0)), (0, .ref o)]) dX6_begin_63 rfl (by decide) rfl ?_
      refine oj_lv [1, 0] rfl ?_
      obtain ⟨n, y25⟩ := y7
      exact BLX6_begin_64 hA n _ _ y25
    · have y3 := y.2 c1
      refine oj_aload_n 0 dX6_begin_8 rfl rfl ?_
      refine oj_getr (q := (o + 1)) fl_RX6_13 (A6_0 hA) rfl (A6_1 hA) dX6_begin_9 ?_
      refine oj_iload_n 1 dX6_begin_12 rfl rfl ?_
      refine oj_iconst dX6_begin_13 ci_0 ?_
      obtain ⟨c26, y27⟩ := y3
      refine oj_iast (A6_1 hA) c26 rfl dX6_begin_14 ?_
      refine oj_toph (fun h28 eh28 => ?_)
      have y29 := Lt_at y27 h28 eh28
      obtain ⟨v30, ev30⟩ : ∃ z : Int32, z = x1 + (1) := ⟨_, rfl⟩
      have y31 := Lt_at y29 v30 ev30
      refine oj_iinc (v := v30) (lv' := [(1, .int v30), (0, .ref o)]) 1 dX6_begin_15 rfl (iinc_e ci_1 ev30) (by decide) rfl ?_
      refine oj_goto 2 dX6_begin_18 rfl ?_
      refine oj_lv [1, 0] rfl ?_
      exact hk2 _ _ y31
set_option maxRecDepth 100000 in
set_option maxHeartbeats 4000000 in
theorem BX6_begin  {o : Nat} (hA : A6 o) {h : ob_H} {Q : ob_H → Prop} (y : MX6_begin  o h Q) : ob_T yX6_begin cX6_begin 2 none (ob_rm 1) KS NN h [.ref o] (ob_g none (ob_qv Q)) := by
  unfold MX6_begin at y
  refine ob_T_gf (by decide +kernel) (Nat.le_of_ble_eq_true rfl) ?_
  show ob_J RX6 cX6_begin 2 (ob_rm 1) false none 0 0 KS NN h 0 [(0, .ref o)] [] (ob_g none (ob_qv Q))
  refine oj_iconst dX6_begin_0 ci_0 ?_
  refine oj_istore_n (lv' := [(1, .int (0)), (0, .ref o)]) dX6_begin_1 rfl (by decide) rfl ?_
  refine oj_lv [1, 0] rfl ?_
  obtain ⟨n, y32⟩ := y
  exact BLX6_begin_2 hA n _ _ y32
