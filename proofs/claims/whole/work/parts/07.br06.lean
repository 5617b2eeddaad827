-- X9_mostLeft
set_option maxRecDepth 100000 in
set_option maxHeartbeats 4000000 in
theorem BLX9_mostLeft_28 {x1 : Int32} {Q : Int32 → ob_H → Prop} :
    ∀ (n : Nat) (x2 : Int32) (x3 : Int32) (h : ob_H), it3 (FX9_mostLeft_28 x1 Q) n x2 x3 h → ob_J RX9 cX9_mostLeft 5 (ob_rm 1) false none 0 0 KS NN h 28 [(0, .ref 98), (1, .int x1), (2, .int x2), (3, .int x3)] [] (ob_g (some .int) (ob_qi Q)) := by
  intro n
  induction n with
  | zero => intro x2 x3 h y; exact False.elim y
  | succ n hk28 =>
    intro x2 x3 h y
    have y : FX9_mostLeft_28 x1 Q (it3 (FX9_mostLeft_28 x1 Q) n) x2 x3 h := y
    unfold FX9_mostLeft_28 at y
    refine oj_iload_n 3 dX9_mostLeft_28 rfl rfl ?_
    refine oj_bipush dX9_mostLeft_29 cb_100 ?_
    refine oj_icmp_ge 85 dX9_mostLeft_31 rfl (fun c4 => ?_) (fun c4 => ?_)
    · have y5 := y.1 c4
      refine oj_iload_n 2 dX9_mostLeft_85 rfl rfl ?_
      exact oj_ret (r := some (.int x2)) ⟨trivial, rfl, rfl, x2, rfl, y5⟩ dX9_mostLeft_86 (Nat.zero_le _) (Nat.zero_le _)
    · have y6 := y.2 c4
      refine oj_aload_n 0 dX9_mostLeft_34 rfl rfl ?_
      refine oj_getr (q := 105) fl_RX9_50 k_98 rfl k_105 dX9_mostLeft_35 ?_
      refine oj_iload_n 3 dX9_mostLeft_38 rfl rfl ?_
      obtain ⟨c7, y8⟩ := y6
      refine oj_zald k_105 c7 rfl dX9_mostLeft_39 ?_
      refine oj_if_eq 79 dX9_mostLeft_40 rfl (fun c9 => ?_) (fun c9 => ?_)
      · have y10 := y8.1 c9
        obtain ⟨v12, ev12⟩ : ∃ z : Int32, z = x3 + (1) := ⟨_, rfl⟩
        have y13 := Lt_at y10 v12 ev12
        refine oj_iinc (v := v12) (lv' := [(3, .int v12), (0, .ref 98), (1, .int x1), (2, .int x2)]) 3 dX9_mostLeft_79 rfl (iinc_e ci_1 ev12) (by decide) rfl ?_
        refine oj_goto 28 dX9_mostLeft_82 rfl ?_
        refine oj_lv [1, 2, 3, 0] rfl ?_
        exact hk28 _ _ _ y13
      · have y11 := y8.2 c9
        refine oj_aload_n 0 dX9_mostLeft_43 rfl rfl ?_
        refine oj_getr (q := 104) fl_RX9_43 k_98 rfl k_104 dX9_mostLeft_44 ?_
        refine oj_iload_n 3 dX9_mostLeft_47 rfl rfl ?_
        refine oj_bipush dX9_mostLeft_48 cb_7 ?_
        refine oj_imul dX9_mostLeft_50 ?_
        refine oj_iload_n 1 dX9_mostLeft_51 rfl rfl ?_
        refine oj_iadd dX9_mostLeft_52 ?_
        obtain ⟨c14, y15⟩ := y11
        refine oj_iald k_104 c14 rfl dX9_mostLeft_53 ?_
        refine oj_topi (fun v16 ev16 => ?_)
        have y17 := Lt_at y15 v16 ev16
        refine oj_istore (lv' := [(4, .int v16), (0, .ref 98), (1, .int x1), (2, .int x2), (3, .int x3)]) dX9_mostLeft_54 (by decide) rfl ?_
        refine oj_aload_n 1 dX9_mostLeft_56 rfl rfl ?_
        refine oj_getr (q := 106) fl_RX9_53 k_98 rfl k_106 dX9_mostLeft_57 ?_
        refine oj_iload 0 dX9_mostLeft_60 rfl ?_
        refine oj_dup2 dX9_mostLeft_62 rfl rfl ?_
        obtain ⟨c18, y19⟩ := y17
        refine oj_iald k_106 c18 rfl dX9_mostLeft_63 ?_
        refine oj_iconst dX9_mostLeft_64 ci_1 ?_
        refine oj_iadd dX9_mostLeft_65 ?_
        refine oj_iast k_106 c18 rfl dX9_mostLeft_66 ?_
        refine oj_toph (fun h20 eh20 => ?_)
        have y21 := Lt_at y19 h20 eh20
        refine oj_iload_n 3 dX9_mostLeft_67 rfl rfl ?_
        refine oj_aload_n 1 dX9_mostLeft_68 rfl rfl ?_
        refine oj_getr (q := 106) fl_RX9_53 k_98 rfl k_106 dX9_mostLeft_69 ?_
        refine oj_iload 0 dX9_mostLeft_72 rfl ?_
        refine oj_iald k_106 c18 rfl dX9_mostLeft_74 ?_
        refine oj_mmax ow_1170 ow_1048 ow_20 ow_1049 (by decide) (by decide) (Nat.le_of_ble_eq_true rfl) (Nat.zero_le _) (Nat.zero_le _) dX9_mostLeft_75 ?_
        refine oj_topi (fun v22 ev22 => ?_)
        have y23 := Lt_at y21 v22 ev22
        refine oj_istore_n (lv' := [(2, .int v22), (4, .int v16), (0, .ref 98), (1, .int x1), (3, .int x3)]) dX9_mostLeft_78 rfl (by decide) rfl ?_
        obtain ⟨v24, ev24⟩ : ∃ z : Int32, z = x3 + (1) := ⟨_, rfl⟩
        have y25 := Lt_at y23 v24 ev24
        refine oj_iinc (v := v24) (lv' := [(3, .int v24), (2, .int v22), (4, .int v16), (0, .ref 98), (1, .int x1)]) 4 dX9_mostLeft_79 rfl (iinc_e ci_1 ev24) (by decide) rfl ?_
        refine oj_goto 28 dX9_mostLeft_82 rfl ?_
        refine oj_lv [3, 4, 1, 0] rfl ?_
        exact hk28 _ _ _ y25
set_option maxRecDepth 100000 in
set_option maxHeartbeats 4000000 in
theorem BLX9_mostLeft_2 {x1 : Int32} {Q : Int32 → ob_H → Prop} :
    ∀ (n : Nat) (x2 : Int32) (h : ob_H), it2 (FX9_mostLeft_2 x1 Q) n x2 h → ob_J RX9 cX9_mostLeft 5 (ob_rm 1) false none 0 0 KS NN h 2 [(0, .ref 98), (1, .int x1), (2, .int x2)] [] (ob_g (some .int) (ob_qi Q)) := by
  intro n
  induction n with
  | zero => intro x2 h y; exact False.elim y
  | succ n hk2 =>
    intro x2 h y
    have y : FX9_mostLeft_2 x1 Q (it2 (FX9_mostLeft_2 x1 Q) n) x2 h := y
    unfold FX9_mostLeft_2 at y
    refine oj_iload_n 2 dX9_mostLeft_2 rfl rfl ?_
    refine oj_aload_n 0 dX9_mostLeft_3 rfl rfl ?_
    refine oj_getr (q := 106) fl_RX9_53 k_98 rfl k_106 dX9_mostLeft_4 ?_
    refine oj_alen k_106 (by decide) al_8 dX9_mostLeft_7 ?_
    refine oj_icmp_ge 24 dX9_mostLeft_8 rfl (fun c1 => ?_) (fun c1 => ?_)
    · have y2 := y.1 c1
      refine oj_iconst dX9_mostLeft_24 ci_0 ?_
      refine oj_istore_n (lv' := [(2, .int (0)), (0, .ref 98), (1, .int x1)]) dX9_mostLeft_25 rfl (by decide) rfl ?_
      refine oj_iconst dX9_mostLeft_26 ci_0 ?_
      refine oj_istore_n (lv' := [(3, .int (0)), (2, .int (0)), (0, .ref 98), (1, .int x1)]) dX9_mostLeft_27 rfl (by decide) rfl ?_
      refine oj_lv [2, 3, 1, 0] rfl ?_
      obtain ⟨n, y26⟩ := y2
      exact BLX9_mostLeft_28  n _ _ _ y26
    · have y3 := y.2 c1
      refine oj_aload_n 0 dX9_mostLeft_11 rfl rfl ?_
      refine oj_getr (q := 106) fl_RX9_53 k_98 rfl k_106 dX9_mostLeft_12 ?_
      refine oj_iload_n 2 dX9_mostLeft_15 rfl rfl ?_
      refine oj_iconst dX9_mostLeft_16 ci_0 ?_
      obtain ⟨c27, y28⟩ := y3
      refine oj_iast k_106 c27 rfl dX9_mostLeft_17 ?_
      refine oj_toph (fun h29 eh29 => ?_)
      have y30 := Lt_at y28 h29 eh29
      obtain ⟨v31, ev31⟩ : ∃ z : Int32, z = x2 + (1) := ⟨_, rfl⟩
      have y32 := Lt_at y30 v31 ev31
      refine oj_iinc (v := v31) (lv' := [(2, .int v31), (0, .ref 98), (1, .int x1)]) 2 dX9_mostLeft_18 rfl (iinc_e ci_1 ev31) (by decide) rfl ?_
      refine oj_goto 2 dX9_mostLeft_21 rfl ?_
      refine oj_lv [1, 2, 0] rfl ?_
      exact hk2 _ _ y32
set_option maxRecDepth 100000 in
set_option maxHeartbeats 4000000 in
theorem BX9_mostLeft  {p1 : Int32}  {h : ob_H} {Q : Int32 → ob_H → Prop} (y : MX9_mostLeft  p1 h Q) : ob_T yX9_mostLeft cX9_mostLeft 5 (some .int) (ob_rm 1) KS NN h [.ref 98, .int p1] (ob_g (some .int) (ob_qi Q)) := by
  unfold MX9_mostLeft at y
  refine ob_T_gf (by decide +kernel) (Nat.le_of_ble_eq_true rfl) ?_
  show ob_J RX9 cX9_mostLeft 5 (ob_rm 1) false none 0 0 KS NN h 0 [(0, .ref 98), (1, .int p1)] [] (ob_g (some .int) (ob_qi Q))
  refine oj_iconst dX9_mostLeft_0 ci_0 ?_
  refine oj_istore_n (lv' := [(2, .int (0)), (0, .ref 98), (1, .int p1)]) dX9_mostLeft_1 rfl (by decide) rfl ?_
  refine oj_lv [1, 2, 0] rfl ?_
  obtain ⟨n, y33⟩ := y
  exact BLX9_mostLeft_2  n _ _ y33
-- X9_findPlace
set_option maxRecDepth 100000 in
set_option maxHeartbeats 4000000 in
theorem BLX9_findPlace_2 {Q : ob_H → Prop} :
    ∀ (n : Nat) (x1 : Int32) (h : ob_H), it2 (FX9_findPlace_2 Q) n x1 h → ob_J RX9 cX9_findPlace 3 (ob_rm 2) false none 0 0 KS NN h 2 [(0, .ref 98), (1, .int x1)] [] (ob_g none (ob_qv Q)) := by
  intro n
  induction n with
  | zero => intro x1 h y; exact False.elim y
  | succ n hk2 =>
    intro x1 h y
    have y : FX9_findPlace_2 Q (it2 (FX9_findPlace_2 Q) n) x1 h := y
    unfold FX9_findPlace_2 at y
    refine oj_iload_n 1 dX9_findPlace_2 rfl rfl ?_
    refine oj_bipush dX9_findPlace_3 cb_7 ?_
    refine oj_icmp_ge 42 dX9_findPlace_5 rfl (fun c1 => ?_) (fun c1 => ?_)
    · have y2 := y.1 c1
      exact oj_ret (r := none) ⟨trivial, rfl, rfl, rfl, y2⟩ dX9_findPlace_42 (Nat.zero_le _) (Nat.zero_le _)
    · have y3 := y.2 c1
      refine oj_aload_n 0 dX9_findPlace_8 rfl rfl ?_
      refine oj_iload_n 1 dX9_findPlace_9 rfl rfl ?_
      refine oc_Vi [.int x1] mi_RX9_94 ow_1168 op_36 rfl k_98 (BX9_mostLeft  y3) ⟨by decide, by decide⟩ ⟨Nat.le_refl _, Nat.le_refl _⟩ rfl (Nat.le_of_ble_eq_true rfl) dX9_findPlace_10 (fun r4 f6 h5 y7 => ?_)
      refine oj_istore_n (lv' := [(2, .int r4), (0, .ref 98), (1, .int x1)]) dX9_findPlace_13 rfl (by decide) rfl ?_
      refine oj_iload_n 2 dX9_findPlace_14 rfl rfl ?_
      refine oj_if_eq 26 dX9_findPlace_15 rfl (fun c8 => ?_) (fun c8 => ?_)
      · have y9 := y7.1 c8
        refine oj_aload_n 1 dX9_findPlace_26 rfl rfl ?_
        refine oj_iload_n 2 dX9_findPlace_27 rfl rfl ?_
        refine oj_puti fl_RX9_20 (Or.inl rfl) k_98 rfl rfl rfl dX9_findPlace_28 ?_
        refine oj_toph (fun h11 eh11 => ?_)
        have y12 := Lt_at y9 h11 eh11
        refine oj_aload_n 1 dX9_findPlace_31 rfl rfl ?_
        refine oj_iload_n 0 dX9_findPlace_32 rfl rfl ?_
        refine oj_puti fl_RX9_23 (Or.inl rfl) k_98 rfl rfl rfl dX9_findPlace_33 ?_
        refine oj_toph (fun h13 eh13 => ?_)
        have y14 := Lt_at y12 h13 eh13
        obtain ⟨v15, ev15⟩ : ∃ z : Int32, z = x1 + (1) := ⟨_, rfl⟩
        have y16 := Lt_at y14 v15 ev15
        refine oj_iinc (v := v15) (lv' := [(1, .int v15), (2, .int r4), (0, .ref 98)]) 2 dX9_findPlace_36 rfl (iinc_e ci_1 ev15) (by decide) rfl ?_
        refine oj_goto 2 dX9_findPlace_39 rfl ?_
        refine oj_lv [2, 0] rfl ?_
        exact hk2 _ _ y16
      · have y10 := y7.2 c8
        refine oj_iload_n 0 dX9_findPlace_18 rfl rfl ?_
        refine oj_aload_n 1 dX9_findPlace_19 rfl rfl ?_
        refine oj_geti fl_RX9_23 k_98 rfl dX9_findPlace_20 ?_
        refine oj_icmp_ge 36 dX9_findPlace_23 rfl (fun c17 => ?_) (fun c17 => ?_)
        · have y18 := y10.1 c17
          obtain ⟨v20, ev20⟩ : ∃ z : Int32, z = x1 + (1) := ⟨_, rfl⟩
          have y21 := Lt_at y18 v20 ev20
          refine oj_iinc (v := v20) (lv' := [(1, .int v20), (2, .int r4), (0, .ref 98)]) 2 dX9_findPlace_36 rfl (iinc_e ci_1 ev20) (by decide) rfl ?_
          refine oj_goto 2 dX9_findPlace_39 rfl ?_
          refine oj_lv [2, 0] rfl ?_
          exact hk2 _ _ y21
        · have y19 := y10.2 c17
          refine oj_aload_n 1 dX9_findPlace_26 rfl rfl ?_
          refine oj_iload_n 2 dX9_findPlace_27 rfl rfl ?_
          refine oj_puti fl_RX9_20 (Or.inl rfl) k_98 rfl rfl rfl dX9_findPlace_28 ?_
          refine oj_toph (fun h22 eh22 => ?_)
          have y23 := Lt_at y19 h22 eh22
          refine oj_aload_n 1 dX9_findPlace_31 rfl rfl ?_
          refine oj_iload_n 0 dX9_findPlace_32 rfl rfl ?_
          refine oj_puti fl_RX9_23 (Or.inl rfl) k_98 rfl rfl rfl dX9_findPlace_33 ?_
          refine oj_toph (fun h24 eh24 => ?_)
          have y25 := Lt_at y23 h24 eh24
          obtain ⟨v26, ev26⟩ : ∃ z : Int32, z = x1 + (1) := ⟨_, rfl⟩
          have y27 := Lt_at y25 v26 ev26
          refine oj_iinc (v := v26) (lv' := [(1, .int v26), (2, .int r4), (0, .ref 98)]) 2 dX9_findPlace_36 rfl (iinc_e ci_1 ev26) (by decide) rfl ?_
          refine oj_goto 2 dX9_findPlace_39 rfl ?_
          refine oj_lv [2, 0] rfl ?_
          exact hk2 _ _ y27
set_option maxRecDepth 100000 in
set_option maxHeartbeats 4000000 in
theorem BX9_findPlace    {h : ob_H} {Q : ob_H → Prop} (y : MX9_findPlace   h Q) : ob_T yX9_findPlace cX9_findPlace 3 none (ob_rm 2) KS NN h [.ref 98] (ob_g none (ob_qv Q)) := by
  unfold MX9_findPlace at y
  refine ob_T_gf (by decide +kernel) (Nat.le_of_ble_eq_true rfl) ?_
  show ob_J RX9 cX9_findPlace 3 (ob_rm 2) false none 0 0 KS NN h 0 [(0, .ref 98)] [] (ob_g none (ob_qv Q))
  refine oj_iconst dX9_findPlace_0 ci_0 ?_
  refine oj_istore_n (lv' := [(1, .int (0)), (0, .ref 98)]) dX9_findPlace_1 rfl (by decide) rfl ?_
  refine oj_lv [1, 0] rfl ?_
  obtain ⟨n, y28⟩ := y
  exact BLX9_findPlace_2  n _ _ y28
-- X11_ask
set_option maxRecDepth 100000 in
set_option maxHeartbeats 4000000 in
theorem BX11_ask  {p1 : Int32} {p2 : Int32}  {h : ob_H} {Q : Int32 → ob_H → Prop} (y : MX11_ask  p1 p2 h Q) : ob_T yX11_ask cX11_ask 3 (some .int) (ob_rm 7) KS NN h [.ref 0, .int p1, .int p2] (ob_g (some .int) (ob_qi Q)) := by
  unfold MX11_ask at y
  refine ob_T_gf (by decide +kernel) (Nat.le_of_ble_eq_true rfl) ?_
  show ob_J RX11 cX11_ask 3 (ob_rm 7) false none 0 0 KS NN h 0 [(0, .ref 0), (1, .int p1), (2, .int p2)] [] (ob_g (some .int) (ob_qi Q))
  refine oj_iload_n 1 dX11_ask_0 rfl rfl ?_
  refine oj_if_lt 20 dX11_ask_1 rfl (fun c1 => ?_) (fun c1 => ?_)
  · have y2 := y.1 c1
    refine oj_iconst dX11_ask_20 ci_m1 ?_
    exact oj_ret (r := some (.int (-1))) ⟨trivial, rfl, rfl, (-1), rfl, y2⟩ dX11_ask_21 (Nat.zero_le _) (Nat.zero_le _)
  · have y3 := y.2 c1
    refine oj_iload_n 1 dX11_ask_4 rfl rfl ?_
    refine oj_iconst dX11_ask_5 ci_1 ?_
    refine oj_icmp_gt 20 dX11_ask_6 rfl (fun c4 => ?_) (fun c4 => ?_)
    · have y5 := y3.1 c4
      refine oj_iconst dX11_ask_20 ci_m1 ?_
      exact oj_ret (r := some (.int (-1))) ⟨trivial, rfl, rfl, (-1), rfl, y5⟩ dX11_ask_21 (Nat.zero_le _) (Nat.zero_le _)
    · have y6 := y3.2 c4
      refine oj_aload_n 0 dX11_ask_9 rfl rfl ?_
      refine oj_getr (q := 98) fl_RX11_87 k_0 rfl k_98 dX11_ask_10 ?_
      refine oj_iload_n 2 dX11_ask_13 rfl rfl ?_
      refine oc_Vi [.int p2] mi_RX11_311 ow_1133 ow_1134 rfl k_98 (BX9_mark  y6) ⟨by decide, by decide⟩ ⟨Nat.le_refl _, Nat.le_refl _⟩ rfl (Nat.le_of_ble_eq_true rfl) dX11_ask_14 (fun r7 f9 h8 y10 => ?_)
      refine oj_if_ne 22 dX11_ask_17 rfl (fun c11 => ?_) (fun c11 => ?_)
      · have y12 := y10.2 c11
        refine oj_aload_n 0 dX11_ask_22 rfl rfl ?_
        refine oj_getr (q := 98) fl_RX11_87 k_0 rfl k_98 dX11_ask_23 ?_
        refine oc_Vv [] mi_RX11_320 ow_1163 ow_1164 rfl k_98 (BX9_findPlace  y12) ⟨by decide, by decide⟩ ⟨Nat.le_refl _, Nat.le_refl _⟩ rfl (Nat.le_of_ble_eq_true rfl) dX11_ask_26 (fun h15 y17 => ?_)
        refine oj_iload_n 1 dX11_ask_29 rfl rfl ?_
        refine oj_if_ne 45 dX11_ask_30 rfl (fun c18 => ?_) (fun c18 => ?_)
        · have y19 := y17.2 c18
          refine oj_aload_n 0 dX11_ask_45 rfl rfl ?_
          refine oj_getr (q := 98) fl_RX11_87 k_0 rfl k_98 dX11_ask_46 ?_
          refine oj_geti fl_RX11_326 k_98 rfl dX11_ask_49 ?_
          exact oj_ret (r := some (.int (h15.1 98 3))) ⟨trivial, rfl, rfl, (h15.1 98 3), rfl, y19⟩ dX11_ask_52 (Nat.zero_le _) (Nat.zero_le _)
        · have y20 := y17.1 c18
          refine oj_aload_n 0 dX11_ask_33 rfl rfl ?_
          refine oj_getr (q := 98) fl_RX11_87 k_0 rfl k_98 dX11_ask_34 ?_
          refine oj_geti fl_RX11_323 k_98 rfl dX11_ask_37 ?_
          refine oj_iconst dX11_ask_40 ci_1 ?_
          refine oj_iadd dX11_ask_41 ?_
          refine oj_goto 52 dX11_ask_42 rfl ?_
          exact oj_ret (r := some (.int ((h15.1 98 2) + (1)))) ⟨trivial, rfl, rfl, ((h15.1 98 2) + (1)), rfl, y20⟩ dX11_ask_52 (Nat.zero_le _) (Nat.zero_le _)
      · have y13 := y10.1 c11
        refine oj_iconst dX11_ask_20 ci_m1 ?_
        exact oj_ret (r := some (.int (-1))) ⟨trivial, rfl, rfl, (-1), rfl, y13⟩ dX11_ask_21 (Nat.zero_le _) (Nat.zero_le _)
-- X1_keepImage
set_option maxRecDepth 100000 in
set_option maxHeartbeats 4000000 in
theorem BX1_keepImage  {p1 : Int32}  {h : ob_H} {Q : ob_H → Prop} (y : MX1_keepImage  p1 h Q) : ob_T yX1_keepImage cX1_keepImage 2 none (ob_rm 2) KS NN h [.ref 95, .int p1] (ob_g none (ob_qv Q)) := by
  unfold MX1_keepImage at y
  refine ob_T_gf (by decide +kernel) (Nat.le_of_ble_eq_true rfl) ?_
  show ob_J RX1 cX1_keepImage 2 (ob_rm 2) false none 0 0 KS NN h 0 [(0, .ref 95), (1, .int p1)] [] (ob_g none (ob_qv Q))
  refine oj_aload_n 0 dX1_keepImage_0 rfl rfl ?_
  refine oj_getr (q := 34) fl_RX1_33 k_95 rfl k_34 dX1_keepImage_1 ?_
  refine oj_aload_n 0 dX1_keepImage_4 rfl rfl ?_
  refine oj_getr (q := 97) fl_RX1_27 k_95 rfl k_97 dX1_keepImage_5 ?_
  refine oj_iload_n 1 dX1_keepImage_8 rfl rfl ?_
  refine oj_bipush dX1_keepImage_9 cb_24 ?_
  refine oj_imul dX1_keepImage_11 ?_
  refine oc_Vv [.ref 97, .int (p1 * (24))] mi_RX1_41 ow_802 ow_803 rfl k_34 (BX6_write AA6_34 k_97 y) ⟨by decide, by decide⟩ ⟨Nat.le_refl _, Nat.le_refl _⟩ rfl (Nat.le_of_ble_eq_true rfl) dX1_keepImage_12 (fun h2 y4 => ?_)
  refine oj_aload_n 0 dX1_keepImage_15 rfl rfl ?_
  refine oj_dup dX1_keepImage_16 rfl ?_
  refine oj_geti fl_RX1_30 k_95 rfl dX1_keepImage_17 ?_
  refine oj_iconst dX1_keepImage_20 ci_1 ?_
  refine oj_iload_n 1 dX1_keepImage_21 rfl rfl ?_
  refine oj_ishl dX1_keepImage_22 ?_
  refine oj_ior dX1_keepImage_23 ?_
  refine oj_puti fl_RX1_30 (Or.inl rfl) k_95 rfl rfl rfl dX1_keepImage_24 ?_
  refine oj_toph (fun h5 eh5 => ?_)
  have y6 := Lt_at y4 h5 eh5
  exact oj_ret (r := none) ⟨trivial, rfl, rfl, rfl, y6⟩ dX1_keepImage_27 (Nat.zero_le _) (Nat.zero_le _)
-- X11_image
set_option maxRecDepth 100000 in
set_option maxHeartbeats 4000000 in
theorem BX11_image  {p1 : Int32}  {h : ob_H} {Q : Int32 → ob_H → Prop} (y : MX11_image  p1 h Q) : ob_T yX11_image cX11_image 2 (some .int) (ob_rm 3) KS NN h [.ref 0, .int p1] (ob_g (some .int) (ob_qi Q)) := by
  unfold MX11_image at y
  refine ob_T_gf (by decide +kernel) (Nat.le_of_ble_eq_true rfl) ?_
  show ob_J RX11 cX11_image 2 (ob_rm 3) false none 0 0 KS NN h 0 [(0, .ref 0), (1, .int p1)] [] (ob_g (some .int) (ob_qi Q))
  refine oj_iload_n 1 dX11_image_0 rfl rfl ?_
  refine oj_if_lt 9 dX11_image_1 rfl (fun c1 => ?_) (fun c1 => ?_)
  · have y2 := y.1 c1
    refine oj_iconst dX11_image_9 ci_m1 ?_
    exact oj_ret (r := some (.int (-1))) ⟨trivial, rfl, rfl, (-1), rfl, y2⟩ dX11_image_10 (Nat.zero_le _) (Nat.zero_le _)
  · have y3 := y.2 c1
    refine oj_iload_n 1 dX11_image_4 rfl rfl ?_
    refine oj_iconst dX11_image_5 ci_3 ?_
    refine oj_icmp_lt 11 dX11_image_6 rfl (fun c4 => ?_) (fun c4 => ?_)
    · have y5 := y3.1 c4
      refine oj_aload_n 0 dX11_image_11 rfl rfl ?_
      refine oj_getr (q := 95) fl_RX11_78 k_0 rfl k_95 dX11_image_12 ?_
      refine oj_iload_n 1 dX11_image_15 rfl rfl ?_
      refine oc_Vv [.int p1] mi_RX11_329 ow_1176 ow_1177 rfl k_95 (BX1_keepImage  y5) ⟨by decide, by decide⟩ ⟨Nat.le_refl _, Nat.le_refl _⟩ rfl (Nat.le_of_ble_eq_true rfl) dX11_image_16 (fun h8 y10 => ?_)
      refine oj_aload_n 0 dX11_image_19 rfl rfl ?_
      refine oj_getr (q := 34) fl_RX11_37 k_0 rfl k_34 dX11_image_20 ?_
      refine oj_geti fl_RX11_332 k_34 rfl dX11_image_23 ?_
      exact oj_ret (r := some (.int (h8.1 34 3))) ⟨trivial, rfl, rfl, (h8.1 34 3), rfl, y10⟩ dX11_image_26 (Nat.zero_le _) (Nat.zero_le _)
    · have y6 := y3.2 c4
      refine oj_iconst dX11_image_9 ci_m1 ?_
      exact oj_ret (r := some (.int (-1))) ⟨trivial, rfl, rfl, (-1), rfl, y6⟩ dX11_image_10 (Nat.zero_le _) (Nat.zero_le _)
-- X1_goBack
set_option maxRecDepth 100000 in
set_option maxHeartbeats 4000000 in
theorem BX1_goBack  {p1 : Int32}  {h : ob_H} {Q : Int32 → ob_H → Prop} (y : MX1_goBack  p1 h Q) : ob_T yX1_goBack cX1_goBack 2 (some .boolean) (ob_rm 2) KS NN h [.ref 95, .int p1] (ob_g (some .boolean) (ob_qi Q)) := by
  unfold MX1_goBack at y
  refine ob_T_gf (by decide +kernel) (Nat.le_of_ble_eq_true rfl) ?_
  show ob_J RX1 cX1_goBack 2 (ob_rm 2) false none 0 0 KS NN h 0 [(0, .ref 95), (1, .int p1)] [] (ob_g (some .boolean) (ob_qi Q))
  refine oj_aload_n 0 dX1_goBack_0 rfl rfl ?_
  refine oj_geti fl_RX1_30 k_95 rfl dX1_goBack_1 ?_
  refine oj_iload_n 1 dX1_goBack_4 rfl rfl ?_
  refine oj_ishr dX1_goBack_5 ?_
  refine oj_iconst dX1_goBack_6 ci_1 ?_
  refine oj_iand dX1_goBack_7 ?_
  refine oj_if_ne 13 dX1_goBack_8 rfl (fun c1 => ?_) (fun c1 => ?_)
  · have y2 := y.2 c1
    refine oj_aload_n 0 dX1_goBack_13 rfl rfl ?_
    refine oj_getr (q := 34) fl_RX1_33 k_95 rfl k_34 dX1_goBack_14 ?_
    refine oj_aload_n 0 dX1_goBack_17 rfl rfl ?_
    refine oj_getr (q := 97) fl_RX1_27 k_95 rfl k_97 dX1_goBack_18 ?_
    refine oj_iload_n 1 dX1_goBack_21 rfl rfl ?_
    refine oj_bipush dX1_goBack_22 cb_24 ?_
    refine oj_imul dX1_goBack_24 ?_
    refine oc_Vv [.ref 97, .int (p1 * (24))] mi_RX1_45 ow_856 ow_857 rfl k_34 (BX6_restore AA6_34 k_97 y2) ⟨by decide, by decide⟩ ⟨Nat.le_refl _, Nat.le_refl _⟩ rfl (Nat.le_of_ble_eq_true rfl) dX1_goBack_25 (fun h5 y7 => ?_)
    refine oj_aload_n 0 dX1_goBack_28 rfl rfl ?_
    refine oc_Vv [] mi_RX1_48 ow_722 ow_723 rfl k_95 (BX1_forgetActs  y7) ⟨by decide, by decide⟩ ⟨Nat.le_refl _, Nat.le_refl _⟩ rfl (Nat.le_of_ble_eq_true rfl) dX1_goBack_29 (fun h9 y11 => ?_)
    refine oj_iconst dX1_goBack_32 ci_1 ?_
    exact oj_ret (r := some (.int (1))) ⟨rfl, rfl, rfl, (1), rfl, y11⟩ dX1_goBack_33 (Nat.zero_le _) (Nat.zero_le _)
  · have y3 := y.1 c1
    refine oj_iconst dX1_goBack_11 ci_0 ?_
    exact oj_ret (r := some (.int (0))) ⟨rfl, rfl, rfl, (0), rfl, y3⟩ dX1_goBack_12 (Nat.zero_le _) (Nat.zero_le _)
-- X11_back
set_option maxRecDepth 100000 in
set_option maxHeartbeats 4000000 in
theorem BX11_back  {p1 : Int32}  {h : ob_H} {Q : Int32 → ob_H → Prop} (y : MX11_back  p1 h Q) : ob_T yX11_back cX11_back 2 (some .int) (ob_rm 3) KS NN h [.ref 0, .int p1] (ob_g (some .int) (ob_qi Q)) := by
  unfold MX11_back at y
  refine ob_T_gf (by decide +kernel) (Nat.le_of_ble_eq_true rfl) ?_
  show ob_J RX11 cX11_back 2 (ob_rm 3) false none 0 0 KS NN h 0 [(0, .ref 0), (1, .int p1)] [] (ob_g (some .int) (ob_qi Q))
  refine oj_iload_n 1 dX11_back_0 rfl rfl ?_
  refine oj_if_lt 20 dX11_back_1 rfl (fun c1 => ?_) (fun c1 => ?_)
  · have y2 := y.1 c1
    refine oj_iconst dX11_back_20 ci_m1 ?_
    exact oj_ret (r := some (.int (-1))) ⟨trivial, rfl, rfl, (-1), rfl, y2⟩ dX11_back_21 (Nat.zero_le _) (Nat.zero_le _)
  · have y3 := y.2 c1
    refine oj_iload_n 1 dX11_back_4 rfl rfl ?_
    refine oj_iconst dX11_back_5 ci_3 ?_
    refine oj_icmp_ge 20 dX11_back_6 rfl (fun c4 => ?_) (fun c4 => ?_)
    · have y5 := y3.1 c4
      refine oj_iconst dX11_back_20 ci_m1 ?_
      exact oj_ret (r := some (.int (-1))) ⟨trivial, rfl, rfl, (-1), rfl, y5⟩ dX11_back_21 (Nat.zero_le _) (Nat.zero_le _)
    · have y6 := y3.2 c4
      refine oj_aload_n 0 dX11_back_9 rfl rfl ?_
      refine oj_getr (q := 95) fl_RX11_78 k_0 rfl k_95 dX11_back_10 ?_
      refine oj_iload_n 1 dX11_back_13 rfl rfl ?_
      refine oc_Vi [.int p1] mi_RX11_333 ow_1184 ow_1185 rfl k_95 (BX1_goBack  y6) ⟨by decide, by decide⟩ ⟨Nat.le_refl _, Nat.le_refl _⟩ rfl (Nat.le_of_ble_eq_true rfl) dX11_back_14 (fun r7 f9 h8 y10 => ?_)
      refine oj_if_ne 22 dX11_back_17 rfl (fun c11 => ?_) (fun c11 => ?_)
      · have y12 := y10.2 c11
        refine oj_aload_n 0 dX11_back_22 rfl rfl ?_
        refine oj_getr (q := 34) fl_RX11_37 k_0 rfl k_34 dX11_back_23 ?_
        refine oj_geti fl_RX11_332 k_34 rfl dX11_back_26 ?_
        exact oj_ret (r := some (.int (h8.1 34 3))) ⟨trivial, rfl, rfl, (h8.1 34 3), rfl, y12⟩ dX11_back_29 (Nat.zero_le _) (Nat.zero_le _)
      · have y13 := y10.1 c11
        refine oj_iconst dX11_back_20 ci_m1 ?_
        exact oj_ret (r := some (.int (-1))) ⟨trivial, rfl, rfl, (-1), rfl, y13⟩ dX11_back_21 (Nat.zero_le _) (Nat.zero_le _)
-- X11_about
set_option maxRecDepth 100000 in
set_option maxHeartbeats 4000000 in
theorem BX11_about  {p1 : Int32}  {h : ob_H} {Q : Int32 → Prop} (y : MX11_about  p1 h Q) : ob_T yX11_about cX11_about 2 (some .int) (ob_rm 3) KS NN h [.ref 0, .int p1] (ob_g (some .int) (ob_pi h Q)) := by
  unfold MX11_about at y
  refine ob_T_gf (by decide +kernel) (Nat.le_of_ble_eq_true rfl) ?_
  show ob_J RX11 cX11_about 2 (ob_rm 3) false none 0 0 KS NN h 0 [(0, .ref 0), (1, .int p1)] [] (ob_g (some .int) (ob_pi h Q))
  refine oj_iload_n 1 dX11_about_0 rfl rfl ?_
  by_cases c1 : p1 = (0)
  · have y2 := y.1 c1
    refine oj_tableIn 76 dX11_about_1 (by rw [c1] <;> decide) (by rw [c1] <;> decide) (by rw [c1] <;> rfl) rfl ?_
    refine oj_aload_n 0 dX11_about_76 rfl rfl ?_
    refine oj_getr (q := 20) fl_RX11_28 k_0 rfl k_20 dX11_about_77 ?_
    refine oj_geti fl_RX11_128 k_20 rfl dX11_about_80 ?_
    exact oj_ret (r := some (.int (h.1 20 0))) ⟨trivial, rfl, rfl, rfl, (h.1 20 0), rfl, y2⟩ dX11_about_83 (Nat.zero_le _) (Nat.zero_le _)
  have y3 := y.2 c1
  by_cases c4 : p1 = (1)
  · have y5 := y3.1 c4
    refine oj_tableIn 84 dX11_about_1 (by rw [c4] <;> decide) (by rw [c4] <;> decide) (by rw [c4] <;> rfl) rfl ?_
    refine oj_aload_n 0 dX11_about_84 rfl rfl ?_
    refine oj_getr (q := 34) fl_RX11_37 k_0 rfl k_34 dX11_about_85 ?_
    refine oj_geti fl_RX11_332 k_34 rfl dX11_about_88 ?_
    exact oj_ret (r := some (.int (h.1 34 3))) ⟨trivial, rfl, rfl, rfl, (h.1 34 3), rfl, y5⟩ dX11_about_91 (Nat.zero_le _) (Nat.zero_le _)
  have y6 := y3.2 c4
  by_cases c7 : p1 = (2)
  · have y8 := y6.1 c7
    refine oj_tableIn 92 dX11_about_1 (by rw [c7] <;> decide) (by rw [c7] <;> decide) (by rw [c7] <;> rfl) rfl ?_
    refine oj_aload_n 0 dX11_about_92 rfl rfl ?_
    refine oj_getr (q := 34) fl_RX11_37 k_0 rfl k_34 dX11_about_93 ?_
    refine oj_geti fl_RX11_336 k_34 rfl dX11_about_96 ?_
    exact oj_ret (r := some (.int (h.1 34 5))) ⟨trivial, rfl, rfl, rfl, (h.1 34 5), rfl, y8⟩ dX11_about_99 (Nat.zero_le _) (Nat.zero_le _)
  have y9 := y6.2 c7
  by_cases c10 : p1 = (3)
  · have y11 := y9.1 c10
    refine oj_tableIn 100 dX11_about_1 (by rw [c10] <;> decide) (by rw [c10] <;> decide) (by rw [c10] <;> rfl) rfl ?_
    refine oj_aload_n 0 dX11_about_100 rfl rfl ?_
    refine oj_getr (q := 34) fl_RX11_37 k_0 rfl k_34 dX11_about_101 ?_
    refine oj_geti fl_RX11_187 k_34 rfl dX11_about_104 ?_
    exact oj_ret (r := some (.int (h.1 34 4))) ⟨trivial, rfl, rfl, rfl, (h.1 34 4), rfl, y11⟩ dX11_about_107 (Nat.zero_le _) (Nat.zero_le _)
  have y12 := y9.2 c10
  by_cases c13 : p1 = (4)
  · have y14 := y12.1 c13
    refine oj_tableIn 108 dX11_about_1 (by rw [c13] <;> decide) (by rw [c13] <;> decide) (by rw [c13] <;> rfl) rfl ?_
    refine oj_aload_n 0 dX11_about_108 rfl rfl ?_
    refine oj_getr (q := 20) fl_RX11_28 k_0 rfl k_20 dX11_about_109 ?_
    refine oj_geti fl_RX11_339 k_20 rfl dX11_about_112 ?_
    exact oj_ret (r := some (.int (h.1 20 9))) ⟨trivial, rfl, rfl, rfl, (h.1 20 9), rfl, y14⟩ dX11_about_115 (Nat.zero_le _) (Nat.zero_le _)
  have y15 := y12.2 c13
  by_cases c16 : p1 = (5)
  · have y17 := y15.1 c16
    refine oj_tableIn 116 dX11_about_1 (by rw [c16] <;> decide) (by rw [c16] <;> decide) (by rw [c16] <;> rfl) rfl ?_
    refine oj_aload_n 0 dX11_about_116 rfl rfl ?_
    refine oj_getr (q := 93) fl_RX11_69 k_0 rfl k_93 dX11_about_117 ?_
    refine oj_aload_n 0 dX11_about_120 rfl rfl ?_
    refine oj_getr (q := 34) fl_RX11_37 k_0 rfl k_34 dX11_about_121 ?_
    refine oj_getr (q := 35) fl_RX11_227 k_34 rfl k_35 dX11_about_124 ?_
    refine oj_iconst dX11_about_127 ci_2 ?_
    refine oj_iald k_35 in_2_7 ix_2 dX11_about_128 ?_
    refine oc_Vpi [.int (h.1 35 2)] mi_RX11_342 ow_1001 ow_1002 rfl k_93 (BX7_isBarredBy  y17) ⟨by decide, by decide⟩ ⟨Nat.le_refl _, Nat.le_refl _⟩ rfl (Nat.le_of_ble_eq_true rfl) dX11_about_129 (fun r18 f20 y21 => ?_)
    refine oj_if_eq 139 dX11_about_132 rfl (fun c22 => ?_) (fun c22 => ?_)
    · have y23 := y21.1 c22
      refine oj_iconst dX11_about_139 ci_0 ?_
      exact oj_ret (r := some (.int (0))) ⟨trivial, rfl, rfl, rfl, (0), rfl, y23⟩ dX11_about_140 (Nat.zero_le _) (Nat.zero_le _)
    · have y24 := y21.2 c22
      refine oj_iconst dX11_about_135 ci_1 ?_
      refine oj_goto 140 dX11_about_136 rfl ?_
      exact oj_ret (r := some (.int (1))) ⟨trivial, rfl, rfl, rfl, (1), rfl, y24⟩ dX11_about_140 (Nat.zero_le _) (Nat.zero_le _)
  have y25 := y15.2 c16
  by_cases c26 : p1 = (6)
  · have y27 := y25.1 c26
    refine oj_tableIn 141 dX11_about_1 (by rw [c26] <;> decide) (by rw [c26] <;> decide) (by rw [c26] <;> rfl) rfl ?_
    refine oj_aload_n 0 dX11_about_141 rfl rfl ?_
    refine oj_getr (q := 34) fl_RX11_37 k_0 rfl k_34 dX11_about_142 ?_
    refine oj_getr (q := 35) fl_RX11_227 k_34 rfl k_35 dX11_about_145 ?_
    refine oj_iconst dX11_about_148 ci_0 ?_
    refine oj_iald k_35 in_0_7 ix_0 dX11_about_149 ?_
    exact oj_ret (r := some (.int (h.1 35 0))) ⟨trivial, rfl, rfl, rfl, (h.1 35 0), rfl, y27⟩ dX11_about_150 (Nat.zero_le _) (Nat.zero_le _)
  have y28 := y25.2 c26
  by_cases c29 : p1 = (7)
  · have y30 := y28.1 c29
    refine oj_tableIn 151 dX11_about_1 (by rw [c29] <;> decide) (by rw [c29] <;> decide) (by rw [c29] <;> rfl) rfl ?_
    refine oj_aload_n 0 dX11_about_151 rfl rfl ?_
    refine oj_getr (q := 34) fl_RX11_37 k_0 rfl k_34 dX11_about_152 ?_
    refine oj_getr (q := 35) fl_RX11_227 k_34 rfl k_35 dX11_about_155 ?_
    refine oj_iconst dX11_about_158 ci_2 ?_
    refine oj_iald k_35 in_2_7 ix_2 dX11_about_159 ?_
    exact oj_ret (r := some (.int (h.1 35 2))) ⟨trivial, rfl, rfl, rfl, (h.1 35 2), rfl, y30⟩ dX11_about_160 (Nat.zero_le _) (Nat.zero_le _)
  have y31 := y28.2 c29
  by_cases c32 : p1 = (8)
  · have y33 := y31.1 c32
    refine oj_tableIn 161 dX11_about_1 (by rw [c32] <;> decide) (by rw [c32] <;> decide) (by rw [c32] <;> rfl) rfl ?_
    refine oj_aload_n 0 dX11_about_161 rfl rfl ?_
    refine oj_getr (q := 95) fl_RX11_78 k_0 rfl k_95 dX11_about_162 ?_
    refine oj_geti fl_RX11_345 k_95 rfl dX11_about_165 ?_
    exact oj_ret (r := some (.int (h.1 95 0))) ⟨trivial, rfl, rfl, rfl, (h.1 95 0), rfl, y33⟩ dX11_about_168 (Nat.zero_le _) (Nat.zero_le _)
  have y34 := y31.2 c32
  by_cases c35 : p1 = (9)
  · have y36 := y34.1 c35
    refine oj_tableIn 169 dX11_about_1 (by rw [c35] <;> decide) (by rw [c35] <;> decide) (by rw [c35] <;> rfl) rfl ?_
    refine oj_aload_n 0 dX11_about_169 rfl rfl ?_
    refine oj_getr (q := 95) fl_RX11_78 k_0 rfl k_95 dX11_about_170 ?_
    refine oj_geti fl_RX11_348 k_95 rfl dX11_about_173 ?_
    exact oj_ret (r := some (.int (h.1 95 1))) ⟨trivial, rfl, rfl, rfl, (h.1 95 1), rfl, y36⟩ dX11_about_176 (Nat.zero_le _) (Nat.zero_le _)
  have y37 := y34.2 c35
  by_cases c38 : p1 = (10)
  · have y39 := y37.1 c38
    refine oj_tableIn 177 dX11_about_1 (by rw [c38] <;> decide) (by rw [c38] <;> decide) (by rw [c38] <;> rfl) rfl ?_
    refine oj_aload_n 0 dX11_about_177 rfl rfl ?_
    refine oj_getr (q := 98) fl_RX11_87 k_0 rfl k_98 dX11_about_178 ?_
    refine oj_geti fl_RX11_351 k_98 rfl dX11_about_181 ?_
    exact oj_ret (r := some (.int (h.1 98 0))) ⟨trivial, rfl, rfl, rfl, (h.1 98 0), rfl, y39⟩ dX11_about_184 (Nat.zero_le _) (Nat.zero_le _)
  have y40 := y37.2 c38
  by_cases c41 : p1 = (11)
  · have y42 := y40.1 c41
    refine oj_tableIn 185 dX11_about_1 (by rw [c41] <;> decide) (by rw [c41] <;> decide) (by rw [c41] <;> rfl) rfl ?_
    refine oj_aload_n 0 dX11_about_185 rfl rfl ?_
    refine oj_getr (q := 98) fl_RX11_87 k_0 rfl k_98 dX11_about_186 ?_
    refine oj_geti fl_RX11_352 k_98 rfl dX11_about_189 ?_
    exact oj_ret (r := some (.int (h.1 98 1))) ⟨trivial, rfl, rfl, rfl, (h.1 98 1), rfl, y42⟩ dX11_about_192 (Nat.zero_le _) (Nat.zero_le _)
  have y43 := y40.2 c41
  by_cases c44 : p1 = (12)
  · have y45 := y43.1 c44
    refine oj_tableIn 193 dX11_about_1 (by rw [c44] <;> decide) (by rw [c44] <;> decide) (by rw [c44] <;> rfl) rfl ?_
    refine oj_aload_n 0 dX11_about_193 rfl rfl ?_
    refine oj_getr (q := 1) fl_RX11_10 k_0 rfl k_1 dX11_about_194 ?_
    refine oj_geti fl_RX11_102 k_1 rfl dX11_about_197 ?_
    exact oj_ret (r := some (.int (h.1 1 1))) ⟨trivial, rfl, rfl, rfl, (h.1 1 1), rfl, y45⟩ dX11_about_200 (Nat.zero_le _) (Nat.zero_le _)
  have y46 := y43.2 c44
  by_cases c47 : p1 = (13)
  · have y48 := y46.1 c47
    refine oj_tableIn 201 dX11_about_1 (by rw [c47] <;> decide) (by rw [c47] <;> decide) (by rw [c47] <;> rfl) rfl ?_
    refine oj_aload_n 0 dX11_about_201 rfl rfl ?_
    refine oj_getr (q := 20) fl_RX11_28 k_0 rfl k_20 dX11_about_202 ?_
    refine oj_geti fl_RX11_355 k_20 rfl dX11_about_205 ?_
    exact oj_ret (r := some (.int (h.1 20 11))) ⟨trivial, rfl, rfl, rfl, (h.1 20 11), rfl, y48⟩ dX11_about_208 (Nat.zero_le _) (Nat.zero_le _)
  have y49 := y46.2 c47
  by_cases c50 : p1 = (14)
  · have y51 := y49.1 c50
    refine oj_tableIn 209 dX11_about_1 (by rw [c50] <;> decide) (by rw [c50] <;> decide) (by rw [c50] <;> rfl) rfl ?_
    refine oj_aload_n 0 dX11_about_209 rfl rfl ?_
    refine oj_geti fl_RX11_95 k_0 rfl dX11_about_210 ?_
    exact oj_ret (r := some (.int (h.1 0 11))) ⟨trivial, rfl, rfl, rfl, (h.1 0 11), rfl, y51⟩ dX11_about_213 (Nat.zero_le _) (Nat.zero_le _)
  have y52 := y49.2 c50
  refine oj_tableOut 214 dX11_about_1 (show (p1 : Int32).toInt < 0 ∨ 14 < (p1 : Int32).toInt by have nc1 := lv_neT c1 (show (0 : Int32).toInt = 0 by decide); have nc4 := lv_neT c4 (show (1 : Int32).toInt = 1 by decide); have nc7 := lv_neT c7 (show (2 : Int32).toInt = 2 by decide); have nc10 := lv_neT c10 (show (3 : Int32).toInt = 3 by decide); have nc13 := lv_neT c13 (show (4 : Int32).toInt = 4 by decide); have nc16 := lv_neT c16 (show (5 : Int32).toInt = 5 by decide); have nc26 := lv_neT c26 (show (6 : Int32).toInt = 6 by decide); have nc29 := lv_neT c29 (show (7 : Int32).toInt = 7 by decide); have nc32 := lv_neT c32 (show (8 : Int32).toInt = 8 by decide); have nc35 := lv_neT c35 (show (9 : Int32).toInt = 9 by decide); have nc38 := lv_neT c38 (show (10 : Int32).toInt = 10 by decide); have nc41 := lv_neT c41 (show (11 : Int32).toInt = 11 by decide); have nc44 := lv_neT c44 (show (12 : Int32).toInt = 12 by decide); have nc47 := lv_neT c47 (show (13 : Int32).toInt = 13 by decide); have nc50 := lv_neT c50 (show (14 : Int32).toInt = 14 by decide); omega) rfl ?_
  refine oj_iconst dX11_about_214 ci_m1 ?_
  exact oj_ret (r := some (.int (-1))) ⟨trivial, rfl, rfl, rfl, (-1), rfl, y52⟩ dX11_about_215 (Nat.zero_le _) (Nat.zero_le _)
-- X12_four
set_option maxRecDepth 100000 in
set_option maxHeartbeats 4000000 in
theorem BLX12_four_3 {x1 : Int32} {Q : ob_H → Prop} :
    ∀ (n : Nat) (x2 : Int32) (h : ob_H), it2 (FX12_four_3 x1 Q) n x2 h → ob_J RX12 cX12_four 3 (ob_rm 1) false none 0 0 KS NN h 3 [(0, .ref 108), (1, .int x1), (2, .int x2)] [] (ob_g none (ob_qv Q)) := by
  intro n
  induction n with
  | zero => intro x2 h y; exact False.elim y
  | succ n hk3 =>
    intro x2 h y
    have y : FX12_four_3 x1 Q (it2 (FX12_four_3 x1 Q) n) x2 h := y
    unfold FX12_four_3 at y
    refine oj_iload_n 2 dX12_four_3 rfl rfl ?_
    refine oj_if_lt 39 dX12_four_4 rfl (fun c1 => ?_) (fun c1 => ?_)
    · have y2 := y.1 c1
      exact oj_ret (r := none) ⟨trivial, rfl, rfl, rfl, y2⟩ dX12_four_39 (Nat.zero_le _) (Nat.zero_le _)
    · have y3 := y.2 c1
      refine oj_aload_n 0 dX12_four_7 rfl rfl ?_
      refine oj_getr (q := 109) fl_RX12_7 k_108 rfl k_109 dX12_four_8 ?_
      refine oj_aload_n 0 dX12_four_11 rfl rfl ?_
      refine oj_geti fl_RX12_148 k_108 rfl dX12_four_12 ?_
      refine oj_iload_n 1 dX12_four_15 rfl rfl ?_
      refine oj_iload_n 2 dX12_four_16 rfl rfl ?_
      refine oj_ishr dX12_four_17 ?_
      refine oj_sipush dX12_four_18 cs_255 ?_
      refine oj_iand dX12_four_21 ?_
      obtain ⟨c4, y5⟩ := y3
      refine oj_iast k_109 c4 rfl dX12_four_22 ?_
      refine oj_toph (fun h6 eh6 => ?_)
      have y7 := Lt_at y5 h6 eh6
      refine oj_aload_n 0 dX12_four_23 rfl rfl ?_
      refine oj_dup dX12_four_24 rfl ?_
      refine oj_geti fl_RX12_148 k_108 rfl dX12_four_25 ?_
      refine oj_iconst dX12_four_28 ci_1 ?_
      refine oj_iadd dX12_four_29 ?_
      refine oj_puti fl_RX12_148 (Or.inl rfl) k_108 rfl rfl rfl dX12_four_30 ?_
      refine oj_toph (fun h8 eh8 => ?_)
      have y9 := Lt_at y7 h8 eh8
      obtain ⟨v10, ev10⟩ : ∃ z : Int32, z = x2 + (-8) := ⟨_, rfl⟩
      have y11 := Lt_at y9 v10 ev10
      refine oj_iinc (v := v10) (lv' := [(2, .int v10), (0, .ref 108), (1, .int x1)]) 2 dX12_four_33 rfl (iinc_e ci_m8 ev10) (by decide) rfl ?_
      refine oj_goto 3 dX12_four_36 rfl ?_
      refine oj_lv [1, 2, 0] rfl ?_
      exact hk3 _ _ y11
set_option maxRecDepth 100000 in
set_option maxHeartbeats 4000000 in
theorem BX12_four  {p1 : Int32}  {h : ob_H} {Q : ob_H → Prop} (y : MX12_four  p1 h Q) : ob_T yX12_four cX12_four 3 none (ob_rm 1) KS NN h [.ref 108, .int p1] (ob_g none (ob_qv Q)) := by
  unfold MX12_four at y
  refine ob_T_gf (by decide +kernel) (Nat.le_of_ble_eq_true rfl) ?_
  show ob_J RX12 cX12_four 3 (ob_rm 1) false none 0 0 KS NN h 0 [(0, .ref 108), (1, .int p1)] [] (ob_g none (ob_qv Q))
  refine oj_bipush dX12_four_0 cb_24 ?_
  refine oj_istore_n (lv' := [(2, .int (24)), (0, .ref 108), (1, .int p1)]) dX12_four_2 rfl (by decide) rfl ?_
  refine oj_lv [1, 2, 0] rfl ?_
  obtain ⟨n, y12⟩ := y
  exact BLX12_four_3  n _ _ y12
-- X12_feed
set_option maxRecDepth 100000 in
set_option maxHeartbeats 4000000 in
theorem BX12_feed  {p1 : Int32} {p2 : Int32} {p3 : Int32} {p4 : Int32} {p5 : Int32}  {h : ob_H} {Q : Int32 → ob_H → Prop} (y : MX12_feed  p1 p2 p3 p4 p5 h Q) : ob_T yX12_feed cX12_feed 6 (some .int) (ob_rm 2) KS NN h [.ref 108, .int p1, .int p2, .int p3, .int p4, .int p5] (ob_g (some .int) (ob_qi Q)) := by
  unfold MX12_feed at y
  refine ob_T_gf (by decide +kernel) (Nat.le_of_ble_eq_true rfl) ?_
  show ob_J RX12 cX12_feed 6 (ob_rm 2) false none 0 0 KS NN h 0 [(0, .ref 108), (1, .int p1), (2, .int p2), (3, .int p3), (4, .int p4), (5, .int p5)] [] (ob_g (some .int) (ob_qi Q))
  refine oj_aload_n 0 dX12_feed_0 rfl rfl ?_
  refine oj_geti fl_RX12_148 k_108 rfl dX12_feed_1 ?_
  refine oj_bipush dX12_feed_4 cb_20 ?_
  refine oj_iadd dX12_feed_6 ?_
  refine oj_sipush dX12_feed_7 cs_1600 ?_
  refine oj_icmp_le 15 dX12_feed_10 rfl (fun c1 => ?_) (fun c1 => ?_)
  · have y2 := y.1 c1
    refine oj_aload_n 0 dX12_feed_15 rfl rfl ?_
    refine oj_iload_n 1 dX12_feed_16 rfl rfl ?_
    refine oc_Vv [.int p1] mi_RX12_151 ow_1434 op_37 rfl k_108 (BX12_four  y2) ⟨by decide, by decide⟩ ⟨Nat.le_refl _, Nat.le_refl _⟩ rfl (Nat.le_of_ble_eq_true rfl) dX12_feed_17 (fun h5 y7 => ?_)
    refine oj_aload_n 0 dX12_feed_20 rfl rfl ?_
    refine oj_iload_n 2 dX12_feed_21 rfl rfl ?_
    refine oc_Vv [.int p2] mi_RX12_151 ow_1434 op_37 rfl k_108 (BX12_four  y7) ⟨by decide, by decide⟩ ⟨Nat.le_refl _, Nat.le_refl _⟩ rfl (Nat.le_of_ble_eq_true rfl) dX12_feed_22 (fun h9 y11 => ?_)
    refine oj_aload_n 0 dX12_feed_25 rfl rfl ?_
    refine oj_iload_n 3 dX12_feed_26 rfl rfl ?_
    refine oc_Vv [.int p3] mi_RX12_151 ow_1434 op_37 rfl k_108 (BX12_four  y11) ⟨by decide, by decide⟩ ⟨Nat.le_refl _, Nat.le_refl _⟩ rfl (Nat.le_of_ble_eq_true rfl) dX12_feed_27 (fun h13 y15 => ?_)
    refine oj_aload_n 0 dX12_feed_30 rfl rfl ?_
    refine oj_iload 4 dX12_feed_31 rfl ?_
    refine oc_Vv [.int p4] mi_RX12_151 ow_1434 op_37 rfl k_108 (BX12_four  y15) ⟨by decide, by decide⟩ ⟨Nat.le_refl _, Nat.le_refl _⟩ rfl (Nat.le_of_ble_eq_true rfl) dX12_feed_33 (fun h17 y19 => ?_)
    refine oj_aload_n 0 dX12_feed_36 rfl rfl ?_
    refine oj_iload 5 dX12_feed_37 rfl ?_
    refine oc_Vv [.int p5] mi_RX12_151 ow_1434 op_37 rfl k_108 (BX12_four  y19) ⟨by decide, by decide⟩ ⟨Nat.le_refl _, Nat.le_refl _⟩ rfl (Nat.le_of_ble_eq_true rfl) dX12_feed_39 (fun h21 y23 => ?_)
    refine oj_aload_n 0 dX12_feed_42 rfl rfl ?_
    refine oj_geti fl_RX12_148 k_108 rfl dX12_feed_43 ?_
    exact oj_ret (r := some (.int (h21.1 108 1))) ⟨trivial, rfl, rfl, (h21.1 108 1), rfl, y23⟩ dX12_feed_46 (Nat.zero_le _) (Nat.zero_le _)
  · have y3 := y.2 c1
    refine oj_iconst dX12_feed_13 ci_m1 ?_
    exact oj_ret (r := some (.int (-1))) ⟨trivial, rfl, rfl, (-1), rfl, y3⟩ dX12_feed_14 (Nat.zero_le _) (Nat.zero_le _)
-- X12_end
set_option maxRecDepth 100000 in
set_option maxHeartbeats 4000000 in
theorem BX12_end  {p1 : Int32}  {h : ob_H} {Q : Int32 → ob_H → Prop} (y : MX12_end  p1 h Q) : ob_T yX12_end cX12_end 2 (some .int) (ob_rm 1) KS NN h [.ref 108, .int p1] (ob_g (some .int) (ob_qi Q)) := by
  unfold MX12_end at y
  refine ob_T_gf (by decide +kernel) (Nat.le_of_ble_eq_true rfl) ?_
  show ob_J RX12 cX12_end 2 (ob_rm 1) false none 0 0 KS NN h 0 [(0, .ref 108), (1, .int p1)] [] (ob_g (some .int) (ob_qi Q))
  refine oj_iload_n 1 dX12_end_0 rfl rfl ?_
  refine oj_if_lt 12 dX12_end_1 rfl (fun c1 => ?_) (fun c1 => ?_)
  · have y2 := y.1 c1
    refine oj_iconst dX12_end_12 ci_m1 ?_
    exact oj_ret (r := some (.int (-1))) ⟨trivial, rfl, rfl, (-1), rfl, y2⟩ dX12_end_13 (Nat.zero_le _) (Nat.zero_le _)
  · have y3 := y.2 c1
    refine oj_iload_n 1 dX12_end_4 rfl rfl ?_
    refine oj_aload_n 0 dX12_end_5 rfl rfl ?_
    refine oj_geti fl_RX12_148 k_108 rfl dX12_end_6 ?_
    refine oj_icmp_le 14 dX12_end_9 rfl (fun c4 => ?_) (fun c4 => ?_)
    · have y5 := y3.1 c4
      refine oj_aload_n 0 dX12_end_14 rfl rfl ?_
      refine oj_iload_n 1 dX12_end_15 rfl rfl ?_
      refine oj_puti fl_RX12_148 (Or.inl rfl) k_108 rfl rfl rfl dX12_end_16 ?_
      refine oj_toph (fun h7 eh7 => ?_)
      have y8 := Lt_at y5 h7 eh7
      refine oj_iload_n 1 dX12_end_19 rfl rfl ?_
      exact oj_ret (r := some (.int p1)) ⟨trivial, rfl, rfl, p1, rfl, y8⟩ dX12_end_20 (Nat.zero_le _) (Nat.zero_le _)
    · have y6 := y3.2 c4
      refine oj_iconst dX12_end_12 ci_m1 ?_
      exact oj_ret (r := some (.int (-1))) ⟨trivial, rfl, rfl, (-1), rfl, y6⟩ dX12_end_13 (Nat.zero_le _) (Nat.zero_le _)
-- X12_here
set_option maxRecDepth 100000 in
set_option maxHeartbeats 4000000 in
theorem BX12_here  {p1 : Int32}  {h : ob_H} {Q : Int32 → Prop} (y : MX12_here  p1 h Q) : ob_T yX12_here cX12_here 2 (some .int) (ob_rm 1) KS NN h [.ref 108, .int p1] (ob_g (some .int) (ob_pi h Q)) := by
  unfold MX12_here at y
  refine ob_T_gf (by decide +kernel) (Nat.le_of_ble_eq_true rfl) ?_
  show ob_J RX12 cX12_here 2 (ob_rm 1) false none 0 0 KS NN h 0 [(0, .ref 108), (1, .int p1)] [] (ob_g (some .int) (ob_pi h Q))
  refine oj_aload_n 0 dX12_here_0 rfl rfl ?_
  refine oj_geti fl_RX12_155 k_108 rfl dX12_here_1 ?_
  refine oj_iload_n 1 dX12_here_4 rfl rfl ?_
  refine oj_iadd dX12_here_5 ?_
  refine oj_aload_n 0 dX12_here_6 rfl rfl ?_
  refine oj_geti fl_RX12_158 k_108 rfl dX12_here_7 ?_
  refine oj_icmp_ge 27 dX12_here_10 rfl (fun c1 => ?_) (fun c1 => ?_)
  · have y2 := y.1 c1
    refine oj_iconst dX12_here_27 ci_m1 ?_
    exact oj_ret (r := some (.int (-1))) ⟨trivial, rfl, rfl, rfl, (-1), rfl, y2⟩ dX12_here_28 (Nat.zero_le _) (Nat.zero_le _)
  · have y3 := y.2 c1
    refine oj_aload_n 0 dX12_here_13 rfl rfl ?_
    refine oj_getr (q := 109) fl_RX12_7 k_108 rfl k_109 dX12_here_14 ?_
    refine oj_aload_n 0 dX12_here_17 rfl rfl ?_
    refine oj_geti fl_RX12_155 k_108 rfl dX12_here_18 ?_
    refine oj_iload_n 1 dX12_here_21 rfl rfl ?_
    refine oj_iadd dX12_here_22 ?_
    obtain ⟨c4, y5⟩ := y3
    refine oj_iald k_109 c4 rfl dX12_here_23 ?_
    refine oj_goto 28 dX12_here_24 rfl ?_
    exact oj_ret (r := some (.int (h.1 109 (ix ((h.1 108 4) + p1))))) ⟨trivial, rfl, rfl, rfl, (h.1 109 (ix ((h.1 108 4) + p1))), rfl, y5⟩ dX12_here_28 (Nat.zero_le _) (Nat.zero_le _)
-- X12_isLetter
set_option maxRecDepth 100000 in
set_option maxHeartbeats 4000000 in
theorem BX12_isLetter  {p0 : Int32}  {h : ob_H} {Q : Int32 → Prop} (y : MX12_isLetter  p0 h Q) : ob_T yX12_isLetter cX12_isLetter 1 (some .boolean) (ob_rm 1) KS NN h [.int p0] (ob_g (some .boolean) (ob_pi h Q)) := by
  unfold MX12_isLetter at y
  refine ob_T_gf (by decide +kernel) (Nat.le_of_ble_eq_true rfl) ?_
  show ob_J RX12 cX12_isLetter 1 (ob_rm 1) false none 0 0 KS NN h 0 [(0, .int p0)] [] (ob_g (some .boolean) (ob_pi h Q))
  refine oj_iload_n 0 dX12_isLetter_0 rfl rfl ?_
  refine oj_bipush dX12_isLetter_1 cb_97 ?_
  refine oj_icmp_lt 16 dX12_isLetter_3 rfl (fun c1 => ?_) (fun c1 => ?_)
  · have y2 := y.1 c1
    refine oj_iconst dX12_isLetter_16 ci_0 ?_
    exact oj_ret (r := some (.int (0))) ⟨rfl, rfl, rfl, rfl, (0), rfl, y2⟩ dX12_isLetter_17 (Nat.zero_le _) (Nat.zero_le _)
  · have y3 := y.2 c1
    refine oj_iload_n 0 dX12_isLetter_6 rfl rfl ?_
    refine oj_bipush dX12_isLetter_7 cb_122 ?_
    refine oj_icmp_gt 16 dX12_isLetter_9 rfl (fun c4 => ?_) (fun c4 => ?_)
    · have y5 := y3.1 c4
      refine oj_iconst dX12_isLetter_16 ci_0 ?_
      exact oj_ret (r := some (.int (0))) ⟨rfl, rfl, rfl, rfl, (0), rfl, y5⟩ dX12_isLetter_17 (Nat.zero_le _) (Nat.zero_le _)
    · have y6 := y3.2 c4
      refine oj_iconst dX12_isLetter_12 ci_1 ?_
      refine oj_goto 17 dX12_isLetter_13 rfl ?_
      exact oj_ret (r := some (.int (1))) ⟨rfl, rfl, rfl, rfl, (1), rfl, y6⟩ dX12_isLetter_17 (Nat.zero_le _) (Nat.zero_le _)
-- X12_isDigit
set_option maxRecDepth 100000 in
set_option maxHeartbeats 4000000 in
theorem BX12_isDigit  {p0 : Int32}  {h : ob_H} {Q : Int32 → Prop} (y : MX12_isDigit  p0 h Q) : ob_T yX12_isDigit cX12_isDigit 1 (some .boolean) (ob_rm 1) KS NN h [.int p0] (ob_g (some .boolean) (ob_pi h Q)) := by
  unfold MX12_isDigit at y
  refine ob_T_gf (by decide +kernel) (Nat.le_of_ble_eq_true rfl) ?_
  show ob_J RX12 cX12_isDigit 1 (ob_rm 1) false none 0 0 KS NN h 0 [(0, .int p0)] [] (ob_g (some .boolean) (ob_pi h Q))
  refine oj_iload_n 0 dX12_isDigit_0 rfl rfl ?_
  refine oj_bipush dX12_isDigit_1 cb_48 ?_
  refine oj_icmp_lt 16 dX12_isDigit_3 rfl (fun c1 => ?_) (fun c1 => ?_)
  · have y2 := y.1 c1
    refine oj_iconst dX12_isDigit_16 ci_0 ?_
    exact oj_ret (r := some (.int (0))) ⟨rfl, rfl, rfl, rfl, (0), rfl, y2⟩ dX12_isDigit_17 (Nat.zero_le _) (Nat.zero_le _)
  · have y3 := y.2 c1
    refine oj_iload_n 0 dX12_isDigit_6 rfl rfl ?_
    refine oj_bipush dX12_isDigit_7 cb_57 ?_
    refine oj_icmp_gt 16 dX12_isDigit_9 rfl (fun c4 => ?_) (fun c4 => ?_)
    · have y5 := y3.1 c4
      refine oj_iconst dX12_isDigit_16 ci_0 ?_
      exact oj_ret (r := some (.int (0))) ⟨rfl, rfl, rfl, rfl, (0), rfl, y5⟩ dX12_isDigit_17 (Nat.zero_le _) (Nat.zero_le _)
    · have y6 := y3.2 c4
      refine oj_iconst dX12_isDigit_12 ci_1 ?_
      refine oj_goto 17 dX12_isDigit_13 rfl ?_
      exact oj_ret (r := some (.int (1))) ⟨rfl, rfl, rfl, rfl, (1), rfl, y6⟩ dX12_isDigit_17 (Nat.zero_le _) (Nat.zero_le _)
-- X12_isSign
set_option maxRecDepth 100000 in
set_option maxHeartbeats 4000000 in
theorem BX12_isSign  {p0 : Int32}  {h : ob_H} {Q : Int32 → Prop} (y : MX12_isSign  p0 h Q) : ob_T yX12_isSign cX12_isSign 1 (some .boolean) (ob_rm 1) KS NN h [.int p0] (ob_g (some .boolean) (ob_pi h Q)) := by
  unfold MX12_isSign at y
  refine ob_T_gf (by decide +kernel) (Nat.le_of_ble_eq_true rfl) ?_
  show ob_J RX12 cX12_isSign 1 (ob_rm 1) false none 0 0 KS NN h 0 [(0, .int p0)] [] (ob_g (some .boolean) (ob_pi h Q))
  refine oj_iload_n 0 dX12_isSign_0 rfl rfl ?_
  refine oj_bipush dX12_isSign_1 cb_59 ?_
  refine oj_icmp_eq 66 dX12_isSign_3 rfl (fun c1 => ?_) (fun c1 => ?_)
  · have y2 := y.1 c1
    refine oj_iconst dX12_isSign_66 ci_1 ?_
    refine oj_goto 71 dX12_isSign_67 rfl ?_
    exact oj_ret (r := some (.int (1))) ⟨rfl, rfl, rfl, rfl, (1), rfl, y2⟩ dX12_isSign_71 (Nat.zero_le _) (Nat.zero_le _)
  · have y3 := y.2 c1
    refine oj_iload_n 0 dX12_isSign_6 rfl rfl ?_
    refine oj_bipush dX12_isSign_7 cb_40 ?_
    refine oj_icmp_eq 66 dX12_isSign_9 rfl (fun c4 => ?_) (fun c4 => ?_)
    · have y5 := y3.1 c4
      refine oj_iconst dX12_isSign_66 ci_1 ?_
      refine oj_goto 71 dX12_isSign_67 rfl ?_
      exact oj_ret (r := some (.int (1))) ⟨rfl, rfl, rfl, rfl, (1), rfl, y5⟩ dX12_isSign_71 (Nat.zero_le _) (Nat.zero_le _)
    · have y6 := y3.2 c4
      refine oj_iload_n 0 dX12_isSign_12 rfl rfl ?_
      refine oj_bipush dX12_isSign_13 cb_41 ?_
      refine oj_icmp_eq 66 dX12_isSign_15 rfl (fun c7 => ?_) (fun c7 => ?_)
      · have y8 := y6.1 c7
        refine oj_iconst dX12_isSign_66 ci_1 ?_
        refine oj_goto 71 dX12_isSign_67 rfl ?_
        exact oj_ret (r := some (.int (1))) ⟨rfl, rfl, rfl, rfl, (1), rfl, y8⟩ dX12_isSign_71 (Nat.zero_le _) (Nat.zero_le _)
      · have y9 := y6.2 c7
        refine oj_iload_n 0 dX12_isSign_18 rfl rfl ?_
        refine oj_bipush dX12_isSign_19 cb_60 ?_
        refine oj_icmp_eq 66 dX12_isSign_21 rfl (fun c10 => ?_) (fun c10 => ?_)
        · have y11 := y9.1 c10
          refine oj_iconst dX12_isSign_66 ci_1 ?_
          refine oj_goto 71 dX12_isSign_67 rfl ?_
          exact oj_ret (r := some (.int (1))) ⟨rfl, rfl, rfl, rfl, (1), rfl, y11⟩ dX12_isSign_71 (Nat.zero_le _) (Nat.zero_le _)
        · have y12 := y9.2 c10
          refine oj_iload_n 0 dX12_isSign_24 rfl rfl ?_
          refine oj_bipush dX12_isSign_25 cb_62 ?_
          refine oj_icmp_eq 66 dX12_isSign_27 rfl (fun c13 => ?_) (fun c13 => ?_)
          · have y14 := y12.1 c13
            refine oj_iconst dX12_isSign_66 ci_1 ?_
            refine oj_goto 71 dX12_isSign_67 rfl ?_
            exact oj_ret (r := some (.int (1))) ⟨rfl, rfl, rfl, rfl, (1), rfl, y14⟩ dX12_isSign_71 (Nat.zero_le _) (Nat.zero_le _)
          · have y15 := y12.2 c13
            refine oj_iload_n 0 dX12_isSign_30 rfl rfl ?_
            refine oj_bipush dX12_isSign_31 cb_61 ?_
            refine oj_icmp_eq 66 dX12_isSign_33 rfl (fun c16 => ?_) (fun c16 => ?_)
            · have y17 := y15.1 c16
              refine oj_iconst dX12_isSign_66 ci_1 ?_
              refine oj_goto 71 dX12_isSign_67 rfl ?_
              exact oj_ret (r := some (.int (1))) ⟨rfl, rfl, rfl, rfl, (1), rfl, y17⟩ dX12_isSign_71 (Nat.zero_le _) (Nat.zero_le _)
            · have y18 := y15.2 c16
              refine oj_iload_n 0 dX12_isSign_36 rfl rfl ?_
              refine oj_bipush dX12_isSign_37 cb_43 ?_
              refine oj_icmp_eq 66 dX12_isSign_39 rfl (fun c19 => ?_) (fun c19 => ?_)
              · have y20 := y18.1 c19
                refine oj_iconst dX12_isSign_66 ci_1 ?_
                refine oj_goto 71 dX12_isSign_67 rfl ?_
                exact oj_ret (r := some (.int (1))) ⟨rfl, rfl, rfl, rfl, (1), rfl, y20⟩ dX12_isSign_71 (Nat.zero_le _) (Nat.zero_le _)
              · have y21 := y18.2 c19
                refine oj_iload_n 0 dX12_isSign_42 rfl rfl ?_
                refine oj_bipush dX12_isSign_43 cb_45 ?_
                refine oj_icmp_eq 66 dX12_isSign_45 rfl (fun c22 => ?_) (fun c22 => ?_)
                · have y23 := y21.1 c22
                  refine oj_iconst dX12_isSign_66 ci_1 ?_
                  refine oj_goto 71 dX12_isSign_67 rfl ?_
                  exact oj_ret (r := some (.int (1))) ⟨rfl, rfl, rfl, rfl, (1), rfl, y23⟩ dX12_isSign_71 (Nat.zero_le _) (Nat.zero_le _)
                · have y24 := y21.2 c22
                  refine oj_iload_n 0 dX12_isSign_48 rfl rfl ?_
                  refine oj_bipush dX12_isSign_49 cb_42 ?_
                  refine oj_icmp_eq 66 dX12_isSign_51 rfl (fun c25 => ?_) (fun c25 => ?_)
                  · have y26 := y24.1 c25
                    refine oj_iconst dX12_isSign_66 ci_1 ?_
                    refine oj_goto 71 dX12_isSign_67 rfl ?_
                    exact oj_ret (r := some (.int (1))) ⟨rfl, rfl, rfl, rfl, (1), rfl, y26⟩ dX12_isSign_71 (Nat.zero_le _) (Nat.zero_le _)
                  · have y27 := y24.2 c25
                    refine oj_iload_n 0 dX12_isSign_54 rfl rfl ?_
                    refine oj_bipush dX12_isSign_55 cb_47 ?_
                    refine oj_icmp_eq 66 dX12_isSign_57 rfl (fun c28 => ?_) (fun c28 => ?_)
                    · have y29 := y27.1 c28
                      refine oj_iconst dX12_isSign_66 ci_1 ?_
                      refine oj_goto 71 dX12_isSign_67 rfl ?_
                      exact oj_ret (r := some (.int (1))) ⟨rfl, rfl, rfl, rfl, (1), rfl, y29⟩ dX12_isSign_71 (Nat.zero_le _) (Nat.zero_le _)
                    · have y30 := y27.2 c28
                      refine oj_iload_n 0 dX12_isSign_60 rfl rfl ?_
                      refine oj_bipush dX12_isSign_61 cb_37 ?_
                      refine oj_icmp_ne 70 dX12_isSign_63 rfl (fun c31 => ?_) (fun c31 => ?_)
                      · have y32 := y30.2 c31
                        refine oj_iconst dX12_isSign_70 ci_0 ?_
                        exact oj_ret (r := some (.int (0))) ⟨rfl, rfl, rfl, rfl, (0), rfl, y32⟩ dX12_isSign_71 (Nat.zero_le _) (Nat.zero_le _)
                      · have y33 := y30.1 c31
                        refine oj_iconst dX12_isSign_66 ci_1 ?_
                        refine oj_goto 71 dX12_isSign_67 rfl ?_
                        exact oj_ret (r := some (.int (1))) ⟨rfl, rfl, rfl, rfl, (1), rfl, y33⟩ dX12_isSign_71 (Nat.zero_le _) (Nat.zero_le _)
-- X12_token
set_option maxRecDepth 100000 in
set_option maxHeartbeats 4000000 in
theorem BKX12_token_232 {x2 : Int32} {h : ob_H} {Q : ob_H → Prop}
    (y : KX12_token_232 x2 h Q) : ob_J RX12 cX12_token 3 (ob_rm 2) false none 0 0 KS NN h 232 [(0, .ref 108), (2, .int x2)] [] (ob_g none (ob_qv Q)) := by
  unfold KX12_token_232 at y
  refine oj_aload_n 0 dX12_token_232 rfl rfl ?_
  refine oj_geti fl_RX12_175 k_108 rfl dX12_token_233 ?_
  refine oj_iconst dX12_token_236 ci_3 ?_
  refine oj_icmp_eq 250 dX12_token_237 rfl (fun c53 => ?_) (fun c53 => ?_)
  · have y54 := y.1 c53
    exact oj_ret (r := none) ⟨trivial, rfl, rfl, rfl, y54⟩ dX12_token_250 (Nat.zero_le _) (Nat.zero_le _)
  · have y55 := y.2 c53
    refine oj_aload_n 0 dX12_token_240 rfl rfl ?_
    refine oj_dup dX12_token_241 rfl ?_
    refine oj_geti fl_RX12_155 k_108 rfl dX12_token_242 ?_
    refine oj_iload_n 1 dX12_token_245 rfl rfl ?_
    refine oj_iadd dX12_token_246 ?_
    refine oj_puti fl_RX12_155 (Or.inl rfl) k_108 rfl rfl rfl dX12_token_247 ?_
    refine oj_toph (fun h56 eh56 => ?_)
    have y57 := Lt_at y55 h56 eh56
    exact oj_ret (r := none) ⟨trivial, rfl, rfl, rfl, y57⟩ dX12_token_250 (Nat.zero_le _) (Nat.zero_le _)
set_option maxRecDepth 100000 in
set_option maxHeartbeats 4000000 in
theorem BLX12_token_144 {Q : ob_H → Prop} :
    ∀ (n : Nat) (x2 : Int32) (h : ob_H), it2 (FX12_token_144 Q) n x2 h → ob_J RX12 cX12_token 3 (ob_rm 2) false none 0 0 KS NN h 144 [(0, .ref 108), (2, .int x2)] [] (ob_g none (ob_qv Q)) := by
  intro n
  induction n with
  | zero => intro x2 h y; exact False.elim y
  | succ n hk144 =>
    intro x2 h y
    have y : FX12_token_144 Q (it2 (FX12_token_144 Q) n) x2 h := y
    unfold FX12_token_144 at y
    refine oj_aload_n 0 dX12_token_144 rfl rfl ?_
    refine oj_iload_n 1 dX12_token_145 rfl rfl ?_
    refine oc_Vpi [.int x2] mi_RX12_161 ow_1454 op_40 rfl k_108 (BX12_here  y) ⟨by decide, by decide⟩ ⟨Nat.le_refl _, Nat.le_refl _⟩ rfl (Nat.le_of_ble_eq_true rfl) dX12_token_146 (fun r60 f62 y63 => ?_)
    refine oc_Spi [.int r60] mi_RX12_182 ow_1460 (BX12_isDigit  y63) ⟨by decide, by decide⟩ ⟨Nat.le_refl _, Nat.le_refl _⟩ rfl (Nat.le_of_ble_eq_true rfl) dX12_token_149 (fun r64 f66 y67 => ?_)
    refine oj_if_eq 186 dX12_token_152 rfl (fun c68 => ?_) (fun c68 => ?_)
    · have y69 := y67.1 c68
      refine oj_aload_n 0 dX12_token_186 rfl rfl ?_
      refine oj_iload_n 1 dX12_token_187 rfl rfl ?_
      refine oj_iconst dX12_token_188 ci_4 ?_
      refine oj_icmp_gt 203 dX12_token_189 rfl (fun c71 => ?_) (fun c71 => ?_)
      · have y72 := y69.1 c71
        refine oj_iconst dX12_token_203 ci_3 ?_
        refine oj_goto 208 dX12_token_204 rfl ?_
        refine oj_puti fl_RX12_175 (Or.inl rfl) k_108 rfl rfl rfl dX12_token_208 ?_
        refine oj_toph (fun h74 eh74 => ?_)
        have y75 := Lt_at y72 h74 eh74
        refine oj_goto 232 dX12_token_211 rfl ?_
        refine oj_lv [0, 1] rfl ?_
        exact BKX12_token_232  y75
      · have y73 := y69.2 c71
        refine oj_aload_n 0 dX12_token_192 rfl rfl ?_
        refine oj_iload_n 1 dX12_token_193 rfl rfl ?_
        refine oc_Vpi [.int x2] mi_RX12_161 ow_1454 op_40 rfl k_108 (BX12_here  y73) ⟨by decide, by decide⟩ ⟨Nat.le_refl _, Nat.le_refl _⟩ rfl (Nat.le_of_ble_eq_true rfl) dX12_token_194 (fun r76 f78 y79 => ?_)
        refine oc_Spi [.int r76] mi_RX12_178 ow_1457 (BX12_isLetter  y79) ⟨by decide, by decide⟩ ⟨Nat.le_refl _, Nat.le_refl _⟩ rfl (Nat.le_of_ble_eq_true rfl) dX12_token_197 (fun r80 f82 y83 => ?_)
        refine oj_if_eq 207 dX12_token_200 rfl (fun c84 => ?_) (fun c84 => ?_)
        · have y85 := y83.1 c84
          refine oj_iconst dX12_token_207 ci_2 ?_
          refine oj_puti fl_RX12_175 (Or.inl rfl) k_108 rfl rfl rfl dX12_token_208 ?_
          refine oj_toph (fun h87 eh87 => ?_)
          have y88 := Lt_at y85 h87 eh87
          refine oj_goto 232 dX12_token_211 rfl ?_
          refine oj_lv [0, 1] rfl ?_
          exact BKX12_token_232  y88
        · have y86 := y83.2 c84
          refine oj_iconst dX12_token_203 ci_3 ?_
          refine oj_goto 208 dX12_token_204 rfl ?_
          refine oj_puti fl_RX12_175 (Or.inl rfl) k_108 rfl rfl rfl dX12_token_208 ?_
          refine oj_toph (fun h89 eh89 => ?_)
          have y90 := Lt_at y86 h89 eh89
          refine oj_goto 232 dX12_token_211 rfl ?_
          refine oj_lv [0, 1] rfl ?_
          exact BKX12_token_232  y90
    · have y70 := y67.2 c68
      refine oj_iload_n 1 dX12_token_155 rfl rfl ?_
      refine oj_iconst dX12_token_156 ci_4 ?_
      refine oj_icmp_ge 180 dX12_token_157 rfl (fun c91 => ?_) (fun c91 => ?_)
      · have y92 := y70.1 c91
        obtain ⟨v94, ev94⟩ : ∃ z : Int32, z = x2 + (1) := ⟨_, rfl⟩
        have y95 := Lt_at y92 v94 ev94
        refine oj_iinc (v := v94) (lv' := [(2, .int v94), (0, .ref 108)]) 1 dX12_token_180 rfl (iinc_e ci_1 ev94) (by decide) rfl ?_
        refine oj_goto 144 dX12_token_183 rfl ?_
        refine oj_lv [1, 0] rfl ?_
        exact hk144 _ _ y95
      · have y93 := y70.2 c91
        refine oj_aload_n 0 dX12_token_160 rfl rfl ?_
        refine oj_bipush dX12_token_161 cb_10 ?_
        refine oj_aload_n 0 dX12_token_163 rfl rfl ?_
        refine oj_geti fl_RX12_172 k_108 rfl dX12_token_164 ?_
        refine oj_imul dX12_token_167 ?_
        refine oj_aload_n 0 dX12_token_168 rfl rfl ?_
        refine oj_iload_n 1 dX12_token_169 rfl rfl ?_
        refine oc_Vpi [.int x2] mi_RX12_161 ow_1454 op_40 rfl k_108 (BX12_here  y93) ⟨by decide, by decide⟩ ⟨Nat.le_refl _, Nat.le_refl _⟩ rfl (Nat.le_of_ble_eq_true rfl) dX12_token_170 (fun r96 f98 y99 => ?_)
        refine oj_iadd dX12_token_173 ?_
        refine oj_bipush dX12_token_174 cb_48 ?_
        refine oj_isub dX12_token_176 ?_
        refine oj_puti fl_RX12_172 (Or.inl rfl) k_108 rfl rfl rfl dX12_token_177 ?_
        refine oj_toph (fun h100 eh100 => ?_)
        have y101 := Lt_at y99 h100 eh100
        obtain ⟨v102, ev102⟩ : ∃ z : Int32, z = x2 + (1) := ⟨_, rfl⟩
        have y103 := Lt_at y101 v102 ev102
        refine oj_iinc (v := v102) (lv' := [(2, .int v102), (0, .ref 108)]) 1 dX12_token_180 rfl (iinc_e ci_1 ev102) (by decide) rfl ?_
        refine oj_goto 144 dX12_token_183 rfl ?_
        refine oj_lv [1, 0] rfl ?_
        exact hk144 _ _ y103
set_option maxRecDepth 100000 in
set_option maxHeartbeats 4000000 in
theorem BLX12_token_78 {Q : ob_H → Prop} :
    ∀ (n : Nat) (x2 : Int32) (h : ob_H), it2 (FX12_token_78 Q) n x2 h → ob_J RX12 cX12_token 3 (ob_rm 2) false none 0 0 KS NN h 78 [(0, .ref 108), (2, .int x2)] [] (ob_g none (ob_qv Q)) := by
  intro n
  induction n with
  | zero => intro x2 h y; exact False.elim y
  | succ n hk78 =>
    intro x2 h y
    have y : FX12_token_78 Q (it2 (FX12_token_78 Q) n) x2 h := y
    unfold FX12_token_78 at y
    refine oj_aload_n 0 dX12_token_78 rfl rfl ?_
    refine oj_iload_n 1 dX12_token_79 rfl rfl ?_
    refine oc_Vpi [.int x2] mi_RX12_161 ow_1454 op_40 rfl k_108 (BX12_here  y) ⟨by decide, by decide⟩ ⟨Nat.le_refl _, Nat.le_refl _⟩ rfl (Nat.le_of_ble_eq_true rfl) dX12_token_80 (fun r105 f107 y108 => ?_)
    refine oc_Spi [.int r105] mi_RX12_178 ow_1457 (BX12_isLetter  y108) ⟨by decide, by decide⟩ ⟨Nat.le_refl _, Nat.le_refl _⟩ rfl (Nat.le_of_ble_eq_true rfl) dX12_token_83 (fun r109 f111 y112 => ?_)
    refine oj_if_eq 119 dX12_token_86 rfl (fun c113 => ?_) (fun c113 => ?_)
    · have y114 := y112.1 c113
      refine oj_aload_n 0 dX12_token_119 rfl rfl ?_
      refine oj_iload_n 1 dX12_token_120 rfl rfl ?_
      refine oj_bipush dX12_token_121 cb_8 ?_
      refine oj_icmp_le 130 dX12_token_123 rfl (fun c116 => ?_) (fun c116 => ?_)
      · have y117 := y114.1 c116
        refine oj_iconst dX12_token_130 ci_1 ?_
        refine oj_puti fl_RX12_175 (Or.inl rfl) k_108 rfl rfl rfl dX12_token_131 ?_
        refine oj_toph (fun h119 eh119 => ?_)
        have y120 := Lt_at y117 h119 eh119
        refine oj_goto 232 dX12_token_134 rfl ?_
        refine oj_lv [0, 1] rfl ?_
        exact BKX12_token_232  y120
      · have y118 := y114.2 c116
        refine oj_iconst dX12_token_126 ci_3 ?_
        refine oj_goto 131 dX12_token_127 rfl ?_
        refine oj_puti fl_RX12_175 (Or.inl rfl) k_108 rfl rfl rfl dX12_token_131 ?_
        refine oj_toph (fun h121 eh121 => ?_)
        have y122 := Lt_at y118 h121 eh121
        refine oj_goto 232 dX12_token_134 rfl ?_
        refine oj_lv [0, 1] rfl ?_
        exact BKX12_token_232  y122
    · have y115 := y112.2 c113
      refine oj_iload_n 1 dX12_token_89 rfl rfl ?_
      refine oj_bipush dX12_token_90 cb_8 ?_
      refine oj_icmp_ge 113 dX12_token_92 rfl (fun c123 => ?_) (fun c123 => ?_)
      · have y124 := y115.1 c123
        obtain ⟨v126, ev126⟩ : ∃ z : Int32, z = x2 + (1) := ⟨_, rfl⟩
        have y127 := Lt_at y124 v126 ev126
        refine oj_iinc (v := v126) (lv' := [(2, .int v126), (0, .ref 108)]) 1 dX12_token_113 rfl (iinc_e ci_1 ev126) (by decide) rfl ?_
        refine oj_goto 78 dX12_token_116 rfl ?_
        refine oj_lv [1, 0] rfl ?_
        exact hk78 _ _ y127
      · have y125 := y115.2 c123
        refine oj_aload_n 0 dX12_token_95 rfl rfl ?_
        refine oj_aload_n 0 dX12_token_96 rfl rfl ?_
        refine oj_getl fl_RX12_168 k_108 rfl dX12_token_97 ?_
        refine oj_bipush dX12_token_100 cb_8 ?_
        refine oj_lshl dX12_token_102 ?_
        refine oj_aload_n 0 dX12_token_103 rfl rfl ?_
        refine oj_iload_n 1 dX12_token_104 rfl rfl ?_
        refine oc_Vpi [.int x2] mi_RX12_161 ow_1454 op_40 rfl k_108 (BX12_here  y125) ⟨by decide, by decide⟩ ⟨Nat.le_refl _, Nat.le_refl _⟩ rfl (Nat.le_of_ble_eq_true rfl) dX12_token_105 (fun r128 f130 y131 => ?_)
        refine oj_i2l dX12_token_108 ?_
        refine oj_lor dX12_token_109 ?_
        refine oj_putl fl_RX12_168 (Or.inl rfl) k_108 rfl rfl rfl dX12_token_110 ?_
        refine oj_toph (fun h132 eh132 => ?_)
        have y133 := Lt_at y131 h132 eh132
        obtain ⟨v134, ev134⟩ : ∃ z : Int32, z = x2 + (1) := ⟨_, rfl⟩
        have y135 := Lt_at y133 v134 ev134
        refine oj_iinc (v := v134) (lv' := [(2, .int v134), (0, .ref 108)]) 1 dX12_token_113 rfl (iinc_e ci_1 ev134) (by decide) rfl ?_
        refine oj_goto 78 dX12_token_116 rfl ?_
        refine oj_lv [1, 0] rfl ?_
        exact hk78 _ _ y135
set_option maxRecDepth 100000 in
set_option maxHeartbeats 4000000 in
theorem BLX12_token_0 {Q : ob_H → Prop} :
    ∀ (n : Nat) (h : ob_H), it1 (FX12_token_0 Q) n h → ob_J RX12 cX12_token 3 (ob_rm 2) false none 0 0 KS NN h 0 [(0, .ref 108)] [] (ob_g none (ob_qv Q)) := by
  intro n
  induction n with
  | zero => intro h y; exact False.elim y
  | succ n hk0 =>
    intro h y
    have y : FX12_token_0 Q (it1 (FX12_token_0 Q) n) h := y
    unfold FX12_token_0 at y
    refine oj_aload_n 0 dX12_token_0 rfl rfl ?_
    refine oj_iconst dX12_token_1 ci_0 ?_
    refine oc_Vpi [.int (0)] mi_RX12_161 ow_1454 op_40 rfl k_108 (BX12_here  y) ⟨by decide, by decide⟩ ⟨Nat.le_refl _, Nat.le_refl _⟩ rfl (Nat.le_of_ble_eq_true rfl) dX12_token_2 (fun r1 f3 y4 => ?_)
    refine oj_bipush dX12_token_5 cb_32 ?_
    refine oj_icmp_eq 20 dX12_token_7 rfl (fun c5 => ?_) (fun c5 => ?_)
    · have y6 := y4.1 c5
      refine oj_aload_n 0 dX12_token_20 rfl rfl ?_
      refine oj_dup dX12_token_21 rfl ?_
      refine oj_geti fl_RX12_155 k_108 rfl dX12_token_22 ?_
      refine oj_iconst dX12_token_25 ci_1 ?_
      refine oj_iadd dX12_token_26 ?_
      refine oj_puti fl_RX12_155 (Or.inl rfl) k_108 rfl rfl rfl dX12_token_27 ?_
      refine oj_toph (fun h8 eh8 => ?_)
      have y9 := Lt_at y6 h8 eh8
      refine oj_goto 0 dX12_token_30 rfl ?_
      refine oj_lv [0] rfl ?_
      exact hk0 _ y9
    · have y7 := y4.2 c5
      refine oj_aload_n 0 dX12_token_10 rfl rfl ?_
      refine oj_iconst dX12_token_11 ci_0 ?_
      refine oc_Vpi [.int (0)] mi_RX12_161 ow_1454 op_40 rfl k_108 (BX12_here  y7) ⟨by decide, by decide⟩ ⟨Nat.le_refl _, Nat.le_refl _⟩ rfl (Nat.le_of_ble_eq_true rfl) dX12_token_12 (fun r10 f12 y13 => ?_)
      refine oj_bipush dX12_token_15 cb_10 ?_
      refine oj_icmp_ne 33 dX12_token_17 rfl (fun c14 => ?_) (fun c14 => ?_)
      · have y15 := y13.2 c14
        refine oj_aload_n 0 dX12_token_33 rfl rfl ?_
        refine oj_aload_n 0 dX12_token_34 rfl rfl ?_
        refine oj_geti fl_RX12_155 k_108 rfl dX12_token_35 ?_
        refine oj_puti fl_RX12_165 (Or.inl rfl) k_108 rfl rfl rfl dX12_token_38 ?_
        refine oj_toph (fun h17 eh17 => ?_)
        have y18 := Lt_at y15 h17 eh17
        refine oj_aload_n 0 dX12_token_41 rfl rfl ?_
        refine oj_iconst dX12_token_42 ci_0 ?_
        refine oc_Vpi [.int (0)] mi_RX12_161 ow_1454 op_40 rfl k_108 (BX12_here  y18) ⟨by decide, by decide⟩ ⟨Nat.le_refl _, Nat.le_refl _⟩ rfl (Nat.le_of_ble_eq_true rfl) dX12_token_43 (fun r19 f21 y22 => ?_)
        refine oj_istore_n (lv' := [(1, .int r19), (0, .ref 108)]) dX12_token_46 rfl (by decide) rfl ?_
        refine oj_iconst dX12_token_47 ci_0 ?_
        refine oj_istore_n (lv' := [(2, .int (0)), (1, .int r19), (0, .ref 108)]) dX12_token_48 rfl (by decide) rfl ?_
        refine oj_aload_n 2 dX12_token_49 rfl rfl ?_
        refine oj_lconst dX12_token_50 lc_0 ?_
        refine oj_putl fl_RX12_168 (Or.inl rfl) k_108 rfl rfl rfl dX12_token_51 ?_
        refine oj_toph (fun h23 eh23 => ?_)
        have y24 := Lt_at y22 h23 eh23
        refine oj_aload_n 2 dX12_token_54 rfl rfl ?_
        refine oj_iconst dX12_token_55 ci_0 ?_
        refine oj_puti fl_RX12_172 (Or.inl rfl) k_108 rfl rfl rfl dX12_token_56 ?_
        refine oj_toph (fun h25 eh25 => ?_)
        have y26 := Lt_at y24 h25 eh25
        refine oj_iload_n 1 dX12_token_59 rfl rfl ?_
        refine oj_if_ge 71 dX12_token_60 rfl (fun c27 => ?_) (fun c27 => ?_)
        · have y28 := y26.1 c27
          refine oj_iload_n 1 dX12_token_71 rfl rfl ?_
          refine oc_Spi [.int r19] mi_RX12_178 ow_1457 (BX12_isLetter  y28) ⟨by decide, by decide⟩ ⟨Nat.le_refl _, Nat.le_refl _⟩ rfl (Nat.le_of_ble_eq_true rfl) dX12_token_72 (fun r30 f32 y33 => ?_)
          refine oj_if_eq 137 dX12_token_75 rfl (fun c34 => ?_) (fun c34 => ?_)
          · have y35 := y33.1 c34
            refine oj_iload_n 1 dX12_token_137 rfl rfl ?_
            refine oc_Spi [.int r19] mi_RX12_182 ow_1460 (BX12_isDigit  y35) ⟨by decide, by decide⟩ ⟨Nat.le_refl _, Nat.le_refl _⟩ rfl (Nat.le_of_ble_eq_true rfl) dX12_token_138 (fun r37 f39 y40 => ?_)
            refine oj_if_eq 214 dX12_token_141 rfl (fun c41 => ?_) (fun c41 => ?_)
            · have y42 := y40.1 c41
              refine oj_iconst dX12_token_214 ci_1 ?_
              refine oj_istore_n (lv' := [(2, .int (1)), (1, .int r19), (0, .ref 108)]) dX12_token_215 rfl (by decide) rfl ?_
              refine oj_aload_n 2 dX12_token_216 rfl rfl ?_
              refine oj_iload_n 1 dX12_token_217 rfl rfl ?_
              refine oc_Spi [.int r19] mi_RX12_185 ow_1463 (BX12_isSign  y42) ⟨by decide, by decide⟩ ⟨Nat.le_refl _, Nat.le_refl _⟩ rfl (Nat.le_of_ble_eq_true rfl) dX12_token_218 (fun r44 f46 y47 => ?_)
              refine oj_if_eq 228 dX12_token_221 rfl (fun c48 => ?_) (fun c48 => ?_)
              · have y49 := y47.1 c48
                refine oj_iconst dX12_token_228 ci_3 ?_
                refine oj_puti fl_RX12_175 (Or.inl rfl) k_108 rfl rfl rfl dX12_token_229 ?_
                refine oj_toph (fun h51 eh51 => ?_)
                have y52 := Lt_at y49 h51 eh51
                refine oj_lv [2, 0] rfl ?_
                exact BKX12_token_232  y52
              · have y50 := y47.2 c48
                refine oj_iload_n 1 dX12_token_224 rfl rfl ?_
                refine oj_goto 229 dX12_token_225 rfl ?_
                refine oj_puti fl_RX12_175 (Or.inl rfl) k_108 rfl rfl rfl dX12_token_229 ?_
                refine oj_toph (fun h58 eh58 => ?_)
                have y59 := Lt_at y50 h58 eh58
                refine oj_lv [2, 0] rfl ?_
                exact BKX12_token_232  y59
            · have y43 := y40.2 c41
              refine oj_lv [2, 0] rfl ?_
              obtain ⟨n, y104⟩ := y43
              exact BLX12_token_144  n _ _ y104
          · have y36 := y33.2 c34
            refine oj_lv [2, 0] rfl ?_
            obtain ⟨n, y136⟩ := y36
            exact BLX12_token_78  n _ _ y136
        · have y29 := y26.2 c27
          refine oj_aload_n 2 dX12_token_63 rfl rfl ?_
          refine oj_iconst dX12_token_64 ci_0 ?_
          refine oj_puti fl_RX12_175 (Or.inl rfl) k_108 rfl rfl rfl dX12_token_65 ?_
          refine oj_toph (fun h137 eh137 => ?_)
          have y138 := Lt_at y29 h137 eh137
          refine oj_goto 232 dX12_token_68 rfl ?_
          refine oj_lv [2, 0] rfl ?_
          exact BKX12_token_232  y138
      · have y16 := y13.1 c14
        refine oj_aload_n 0 dX12_token_20 rfl rfl ?_
        refine oj_dup dX12_token_21 rfl ?_
        refine oj_geti fl_RX12_155 k_108 rfl dX12_token_22 ?_
        refine oj_iconst dX12_token_25 ci_1 ?_
        refine oj_iadd dX12_token_26 ?_
        refine oj_puti fl_RX12_155 (Or.inl rfl) k_108 rfl rfl rfl dX12_token_27 ?_
        refine oj_toph (fun h139 eh139 => ?_)
        have y140 := Lt_at y16 h139 eh139
        refine oj_goto 0 dX12_token_30 rfl ?_
        refine oj_lv [0] rfl ?_
        exact hk0 _ y140
set_option maxRecDepth 100000 in
set_option maxHeartbeats 4000000 in
theorem BX12_token    {h : ob_H} {Q : ob_H → Prop} (y : MX12_token   h Q) : ob_T yX12_token cX12_token 3 none (ob_rm 2) KS NN h [.ref 108] (ob_g none (ob_qv Q)) := by
  unfold MX12_token at y
  refine ob_T_gf (by decide +kernel) (Nat.le_of_ble_eq_true rfl) ?_
  show ob_J RX12 cX12_token 3 (ob_rm 2) false none 0 0 KS NN h 0 [(0, .ref 108)] [] (ob_g none (ob_qv Q))
  refine oj_lv [0] rfl ?_
  obtain ⟨n, y141⟩ := y
  exact BLX12_token_0  n _ y141
-- X12_wrong
set_option maxRecDepth 100000 in
set_option maxHeartbeats 4000000 in
theorem BX12_wrong  {p1 : Int32}  {h : ob_H} {Q : ob_H → Prop} (y : MX12_wrong  p1 h Q) : ob_T yX12_wrong cX12_wrong 2 none (ob_rm 1) KS NN h [.ref 108, .int p1] (ob_g none (ob_qv Q)) := by
  unfold MX12_wrong at y
  refine ob_T_gf (by decide +kernel) (Nat.le_of_ble_eq_true rfl) ?_
  show ob_J RX12 cX12_wrong 2 (ob_rm 1) false none 0 0 KS NN h 0 [(0, .ref 108), (1, .int p1)] [] (ob_g none (ob_qv Q))
  refine oj_aload_n 0 dX12_wrong_0 rfl rfl ?_
  refine oj_geti fl_RX12_188 k_108 rfl dX12_wrong_1 ?_
  refine oj_if_le 8 dX12_wrong_4 rfl (fun c1 => ?_) (fun c1 => ?_)
  · have y2 := y.1 c1
    refine oj_aload_n 0 dX12_wrong_8 rfl rfl ?_
    refine oj_aload_n 0 dX12_wrong_9 rfl rfl ?_
    refine oj_geti fl_RX12_175 k_108 rfl dX12_wrong_10 ?_
    refine oj_iconst dX12_wrong_13 ci_3 ?_
    refine oj_icmp_ne 21 dX12_wrong_14 rfl (fun c4 => ?_) (fun c4 => ?_)
    · have y5 := y2.2 c4
      refine oj_iload_n 1 dX12_wrong_21 rfl rfl ?_
      refine oj_puti fl_RX12_188 (Or.inl rfl) k_108 rfl rfl rfl dX12_wrong_22 ?_
      refine oj_toph (fun h7 eh7 => ?_)
      have y8 := Lt_at y5 h7 eh7
      refine oj_aload_n 0 dX12_wrong_25 rfl rfl ?_
      refine oj_aload_n 0 dX12_wrong_26 rfl rfl ?_
      refine oj_geti fl_RX12_165 k_108 rfl dX12_wrong_27 ?_
      refine oj_puti fl_RX12_13 (Or.inl rfl) k_108 rfl rfl rfl dX12_wrong_30 ?_
      refine oj_toph (fun h9 eh9 => ?_)
      have y10 := Lt_at y8 h9 eh9
      exact oj_ret (r := none) ⟨trivial, rfl, rfl, rfl, y10⟩ dX12_wrong_33 (Nat.zero_le _) (Nat.zero_le _)
    · have y6 := y2.1 c4
      refine oj_iconst dX12_wrong_17 ci_1 ?_
      refine oj_goto 22 dX12_wrong_18 rfl ?_
      refine oj_puti fl_RX12_188 (Or.inl rfl) k_108 rfl rfl rfl dX12_wrong_22 ?_
      refine oj_toph (fun h11 eh11 => ?_)
      have y12 := Lt_at y6 h11 eh11
      refine oj_aload_n 0 dX12_wrong_25 rfl rfl ?_
      refine oj_aload_n 0 dX12_wrong_26 rfl rfl ?_
      refine oj_geti fl_RX12_165 k_108 rfl dX12_wrong_27 ?_
      refine oj_puti fl_RX12_13 (Or.inl rfl) k_108 rfl rfl rfl dX12_wrong_30 ?_
      refine oj_toph (fun h13 eh13 => ?_)
      have y14 := Lt_at y12 h13 eh13
      exact oj_ret (r := none) ⟨trivial, rfl, rfl, rfl, y14⟩ dX12_wrong_33 (Nat.zero_le _) (Nat.zero_le _)
  · have y3 := y.2 c1
    exact oj_ret (r := none) ⟨trivial, rfl, rfl, rfl, y3⟩ dX12_wrong_7 (Nat.zero_le _) (Nat.zero_le _)
-- X12_isWord
set_option maxRecDepth 100000 in
set_option maxHeartbeats 4000000 in
theorem BX12_isWord  {p1 : Int64}  {h : ob_H} {Q : Int32 → Prop} (y : MX12_isWord  p1 h Q) : ob_T yX12_isWord cX12_isWord 3 (some .boolean) (ob_rm 1) KS NN h [.ref 108, .long p1] (ob_g (some .boolean) (ob_pi h Q)) := by
  unfold MX12_isWord at y
  refine ob_T_gf (by decide +kernel) (Nat.le_of_ble_eq_true rfl) ?_
  show ob_J RX12 cX12_isWord 3 (ob_rm 1) false none 0 0 KS NN h 0 [(0, .ref 108), (1, .long p1)] [] (ob_g (some .boolean) (ob_pi h Q))
  refine oj_aload_n 0 dX12_isWord_0 rfl rfl ?_
  refine oj_geti fl_RX12_175 k_108 rfl dX12_isWord_1 ?_
  refine oj_iconst dX12_isWord_4 ci_1 ?_
  refine oj_icmp_ne 21 dX12_isWord_5 rfl (fun c1 => ?_) (fun c1 => ?_)
  · have y2 := y.2 c1
    refine oj_iconst dX12_isWord_21 ci_0 ?_
    exact oj_ret (r := some (.int (0))) ⟨rfl, rfl, rfl, rfl, (0), rfl, y2⟩ dX12_isWord_22 (Nat.zero_le _) (Nat.zero_le _)
  · have y3 := y.1 c1
    refine oj_aload_n 0 dX12_isWord_8 rfl rfl ?_
    refine oj_getl fl_RX12_168 k_108 rfl dX12_isWord_9 ?_
    refine oj_lload_n 1 dX12_isWord_12 rfl rfl ?_
    refine oj_lcmp dX12_isWord_13 ?_
    refine oj_if_ne 21 dX12_isWord_14 rfl (fun c4 => ?_) (fun c4 => ?_)
    · have y5 := y3.2 c4
      refine oj_iconst dX12_isWord_21 ci_0 ?_
      exact oj_ret (r := some (.int (0))) ⟨rfl, rfl, rfl, rfl, (0), rfl, y5⟩ dX12_isWord_22 (Nat.zero_le _) (Nat.zero_le _)
    · have y6 := y3.1 c4
      refine oj_iconst dX12_isWord_17 ci_1 ?_
      refine oj_goto 22 dX12_isWord_18 rfl ?_
      exact oj_ret (r := some (.int (1))) ⟨rfl, rfl, rfl, rfl, (1), rfl, y6⟩ dX12_isWord_22 (Nat.zero_le _) (Nat.zero_le _)
-- X12_isOwn
set_option maxRecDepth 100000 in
set_option maxHeartbeats 4000000 in
theorem BX12_isOwn    {h : ob_H} {Q : Int32 → Prop} (y : MX12_isOwn   h Q) : ob_T yX12_isOwn cX12_isOwn 1 (some .boolean) (ob_rm 1) KS NN h [.ref 108] (ob_g (some .boolean) (ob_pi h Q)) := by
  unfold MX12_isOwn at y
  refine ob_T_gf (by decide +kernel) (Nat.le_of_ble_eq_true rfl) ?_
  show ob_J RX12 cX12_isOwn 1 (ob_rm 1) false none 0 0 KS NN h 0 [(0, .ref 108)] [] (ob_g (some .boolean) (ob_pi h Q))
  refine oj_aload_n 0 dX12_isOwn_0 rfl rfl ?_
  refine oj_getl fl_RX12_168 k_108 rfl dX12_isOwn_1 ?_
  refine oj_ldc2 ow_1469 dX12_isOwn_4 ?_
  refine oj_lcmp dX12_isOwn_7 ?_
  refine oj_if_eq 220 dX12_isOwn_8 rfl (fun c1 => ?_) (fun c1 => ?_)
  · have y2 := y.1 c1
    refine oj_iconst dX12_isOwn_220 ci_1 ?_
    refine oj_goto 225 dX12_isOwn_221 rfl ?_
    exact oj_ret (r := some (.int (1))) ⟨rfl, rfl, rfl, rfl, (1), rfl, y2⟩ dX12_isOwn_225 (Nat.zero_le _) (Nat.zero_le _)
  · have y3 := y.2 c1
    refine oj_aload_n 0 dX12_isOwn_11 rfl rfl ?_
    refine oj_getl fl_RX12_168 k_108 rfl dX12_isOwn_12 ?_
    refine oj_ldc2 ow_1486 dX12_isOwn_15 ?_
    refine oj_lcmp dX12_isOwn_18 ?_
    refine oj_if_eq 220 dX12_isOwn_19 rfl (fun c4 => ?_) (fun c4 => ?_)
    · have y5 := y3.1 c4
      refine oj_iconst dX12_isOwn_220 ci_1 ?_
      refine oj_goto 225 dX12_isOwn_221 rfl ?_
      exact oj_ret (r := some (.int (1))) ⟨rfl, rfl, rfl, rfl, (1), rfl, y5⟩ dX12_isOwn_225 (Nat.zero_le _) (Nat.zero_le _)
    · have y6 := y3.2 c4
      refine oj_aload_n 0 dX12_isOwn_22 rfl rfl ?_
      refine oj_getl fl_RX12_168 k_108 rfl dX12_isOwn_23 ?_
      refine oj_ldc2 ow_1487 dX12_isOwn_26 ?_
      refine oj_lcmp dX12_isOwn_29 ?_
      refine oj_if_eq 220 dX12_isOwn_30 rfl (fun c7 => ?_) (fun c7 => ?_)
      · have y8 := y6.1 c7
        refine oj_iconst dX12_isOwn_220 ci_1 ?_
        refine oj_goto 225 dX12_isOwn_221 rfl ?_
        exact oj_ret (r := some (.int (1))) ⟨rfl, rfl, rfl, rfl, (1), rfl, y8⟩ dX12_isOwn_225 (Nat.zero_le _) (Nat.zero_le _)
      · have y9 := y6.2 c7
        refine oj_aload_n 0 dX12_isOwn_33 rfl rfl ?_
        refine oj_getl fl_RX12_168 k_108 rfl dX12_isOwn_34 ?_
        refine oj_ldc2 ow_1488 dX12_isOwn_37 ?_
        refine oj_lcmp dX12_isOwn_40 ?_
        refine oj_if_eq 220 dX12_isOwn_41 rfl (fun c10 => ?_) (fun c10 => ?_)
        · have y11 := y9.1 c10
          refine oj_iconst dX12_isOwn_220 ci_1 ?_
          refine oj_goto 225 dX12_isOwn_221 rfl ?_
          exact oj_ret (r := some (.int (1))) ⟨rfl, rfl, rfl, rfl, (1), rfl, y11⟩ dX12_isOwn_225 (Nat.zero_le _) (Nat.zero_le _)
        · have y12 := y9.2 c10
          refine oj_aload_n 0 dX12_isOwn_44 rfl rfl ?_
          refine oj_getl fl_RX12_168 k_108 rfl dX12_isOwn_45 ?_
          refine oj_ldc2 ow_1489 dX12_isOwn_48 ?_
          refine oj_lcmp dX12_isOwn_51 ?_
          refine oj_if_eq 220 dX12_isOwn_52 rfl (fun c13 => ?_) (fun c13 => ?_)
          · have y14 := y12.1 c13
            refine oj_iconst dX12_isOwn_220 ci_1 ?_
            refine oj_goto 225 dX12_isOwn_221 rfl ?_
            exact oj_ret (r := some (.int (1))) ⟨rfl, rfl, rfl, rfl, (1), rfl, y14⟩ dX12_isOwn_225 (Nat.zero_le _) (Nat.zero_le _)
          · have y15 := y12.2 c13
            refine oj_aload_n 0 dX12_isOwn_55 rfl rfl ?_
            refine oj_getl fl_RX12_168 k_108 rfl dX12_isOwn_56 ?_
            refine oj_ldc2 ow_1490 dX12_isOwn_59 ?_
            refine oj_lcmp dX12_isOwn_62 ?_
            refine oj_if_eq 220 dX12_isOwn_63 rfl (fun c16 => ?_) (fun c16 => ?_)
            · have y17 := y15.1 c16
              refine oj_iconst dX12_isOwn_220 ci_1 ?_
              refine oj_goto 225 dX12_isOwn_221 rfl ?_
              exact oj_ret (r := some (.int (1))) ⟨rfl, rfl, rfl, rfl, (1), rfl, y17⟩ dX12_isOwn_225 (Nat.zero_le _) (Nat.zero_le _)
            · have y18 := y15.2 c16
              refine oj_aload_n 0 dX12_isOwn_66 rfl rfl ?_
              refine oj_getl fl_RX12_168 k_108 rfl dX12_isOwn_67 ?_
              refine oj_ldc2 ow_1491 dX12_isOwn_70 ?_
              refine oj_lcmp dX12_isOwn_73 ?_
              refine oj_if_eq 220 dX12_isOwn_74 rfl (fun c19 => ?_) (fun c19 => ?_)
              · have y20 := y18.1 c19
                refine oj_iconst dX12_isOwn_220 ci_1 ?_
                refine oj_goto 225 dX12_isOwn_221 rfl ?_
                exact oj_ret (r := some (.int (1))) ⟨rfl, rfl, rfl, rfl, (1), rfl, y20⟩ dX12_isOwn_225 (Nat.zero_le _) (Nat.zero_le _)
              · have y21 := y18.2 c19
                refine oj_aload_n 0 dX12_isOwn_77 rfl rfl ?_
                refine oj_getl fl_RX12_168 k_108 rfl dX12_isOwn_78 ?_
                refine oj_ldc2 ow_1492 dX12_isOwn_81 ?_
                refine oj_lcmp dX12_isOwn_84 ?_
                refine oj_if_eq 220 dX12_isOwn_85 rfl (fun c22 => ?_) (fun c22 => ?_)
                · have y23 := y21.1 c22
                  refine oj_iconst dX12_isOwn_220 ci_1 ?_
                  refine oj_goto 225 dX12_isOwn_221 rfl ?_
                  exact oj_ret (r := some (.int (1))) ⟨rfl, rfl, rfl, rfl, (1), rfl, y23⟩ dX12_isOwn_225 (Nat.zero_le _) (Nat.zero_le _)
                · have y24 := y21.2 c22
                  refine oj_aload_n 0 dX12_isOwn_88 rfl rfl ?_
                  refine oj_getl fl_RX12_168 k_108 rfl dX12_isOwn_89 ?_
                  refine oj_ldc2 ow_1493 dX12_isOwn_92 ?_
                  refine oj_lcmp dX12_isOwn_95 ?_
                  refine oj_if_eq 220 dX12_isOwn_96 rfl (fun c25 => ?_) (fun c25 => ?_)
                  · have y26 := y24.1 c25
                    refine oj_iconst dX12_isOwn_220 ci_1 ?_
                    refine oj_goto 225 dX12_isOwn_221 rfl ?_
                    exact oj_ret (r := some (.int (1))) ⟨rfl, rfl, rfl, rfl, (1), rfl, y26⟩ dX12_isOwn_225 (Nat.zero_le _) (Nat.zero_le _)
                  · have y27 := y24.2 c25
                    refine oj_aload_n 0 dX12_isOwn_99 rfl rfl ?_
                    refine oj_getl fl_RX12_168 k_108 rfl dX12_isOwn_100 ?_
                    refine oj_ldc2 ow_1494 dX12_isOwn_103 ?_
                    refine oj_lcmp dX12_isOwn_106 ?_
                    refine oj_if_eq 220 dX12_isOwn_107 rfl (fun c28 => ?_) (fun c28 => ?_)
                    · have y29 := y27.1 c28
                      refine oj_iconst dX12_isOwn_220 ci_1 ?_
                      refine oj_goto 225 dX12_isOwn_221 rfl ?_
                      exact oj_ret (r := some (.int (1))) ⟨rfl, rfl, rfl, rfl, (1), rfl, y29⟩ dX12_isOwn_225 (Nat.zero_le _) (Nat.zero_le _)
                    · have y30 := y27.2 c28
                      refine oj_aload_n 0 dX12_isOwn_110 rfl rfl ?_
                      refine oj_getl fl_RX12_168 k_108 rfl dX12_isOwn_111 ?_
                      refine oj_ldc2 ow_1495 dX12_isOwn_114 ?_
                      refine oj_lcmp dX12_isOwn_117 ?_
                      refine oj_if_eq 220 dX12_isOwn_118 rfl (fun c31 => ?_) (fun c31 => ?_)
                      · have y32 := y30.1 c31
                        refine oj_iconst dX12_isOwn_220 ci_1 ?_
                        refine oj_goto 225 dX12_isOwn_221 rfl ?_
                        exact oj_ret (r := some (.int (1))) ⟨rfl, rfl, rfl, rfl, (1), rfl, y32⟩ dX12_isOwn_225 (Nat.zero_le _) (Nat.zero_le _)
                      · have y33 := y30.2 c31
                        refine oj_aload_n 0 dX12_isOwn_121 rfl rfl ?_
                        refine oj_getl fl_RX12_168 k_108 rfl dX12_isOwn_122 ?_
                        refine oj_ldc2 ow_1496 dX12_isOwn_125 ?_
                        refine oj_lcmp dX12_isOwn_128 ?_
                        refine oj_if_eq 220 dX12_isOwn_129 rfl (fun c34 => ?_) (fun c34 => ?_)
                        · have y35 := y33.1 c34
                          refine oj_iconst dX12_isOwn_220 ci_1 ?_
                          refine oj_goto 225 dX12_isOwn_221 rfl ?_
                          exact oj_ret (r := some (.int (1))) ⟨rfl, rfl, rfl, rfl, (1), rfl, y35⟩ dX12_isOwn_225 (Nat.zero_le _) (Nat.zero_le _)
                        · have y36 := y33.2 c34
                          refine oj_aload_n 0 dX12_isOwn_132 rfl rfl ?_
                          refine oj_getl fl_RX12_168 k_108 rfl dX12_isOwn_133 ?_
                          refine oj_ldc2 ow_1497 dX12_isOwn_136 ?_
                          refine oj_lcmp dX12_isOwn_139 ?_
                          refine oj_if_eq 220 dX12_isOwn_140 rfl (fun c37 => ?_) (fun c37 => ?_)
                          · have y38 := y36.1 c37
                            refine oj_iconst dX12_isOwn_220 ci_1 ?_
                            refine oj_goto 225 dX12_isOwn_221 rfl ?_
                            exact oj_ret (r := some (.int (1))) ⟨rfl, rfl, rfl, rfl, (1), rfl, y38⟩ dX12_isOwn_225 (Nat.zero_le _) (Nat.zero_le _)
                          · have y39 := y36.2 c37
                            refine oj_aload_n 0 dX12_isOwn_143 rfl rfl ?_
                            refine oj_getl fl_RX12_168 k_108 rfl dX12_isOwn_144 ?_
                            refine oj_ldc2 ow_1498 dX12_isOwn_147 ?_
                            refine oj_lcmp dX12_isOwn_150 ?_
                            refine oj_if_eq 220 dX12_isOwn_151 rfl (fun c40 => ?_) (fun c40 => ?_)
                            · have y41 := y39.1 c40
                              refine oj_iconst dX12_isOwn_220 ci_1 ?_
                              refine oj_goto 225 dX12_isOwn_221 rfl ?_
                              exact oj_ret (r := some (.int (1))) ⟨rfl, rfl, rfl, rfl, (1), rfl, y41⟩ dX12_isOwn_225 (Nat.zero_le _) (Nat.zero_le _)
                            · have y42 := y39.2 c40
                              refine oj_aload_n 0 dX12_isOwn_154 rfl rfl ?_
                              refine oj_getl fl_RX12_168 k_108 rfl dX12_isOwn_155 ?_
                              refine oj_ldc2 ow_1499 dX12_isOwn_158 ?_
                              refine oj_lcmp dX12_isOwn_161 ?_
                              refine oj_if_eq 220 dX12_isOwn_162 rfl (fun c43 => ?_) (fun c43 => ?_)
                              · have y44 := y42.1 c43
                                refine oj_iconst dX12_isOwn_220 ci_1 ?_
                                refine oj_goto 225 dX12_isOwn_221 rfl ?_
                                exact oj_ret (r := some (.int (1))) ⟨rfl, rfl, rfl, rfl, (1), rfl, y44⟩ dX12_isOwn_225 (Nat.zero_le _) (Nat.zero_le _)
                              · have y45 := y42.2 c43
                                refine oj_aload_n 0 dX12_isOwn_165 rfl rfl ?_
                                refine oj_getl fl_RX12_168 k_108 rfl dX12_isOwn_166 ?_
                                refine oj_ldc2 ow_1500 dX12_isOwn_169 ?_
                                refine oj_lcmp dX12_isOwn_172 ?_
                                refine oj_if_eq 220 dX12_isOwn_173 rfl (fun c46 => ?_) (fun c46 => ?_)
                                · have y47 := y45.1 c46
                                  refine oj_iconst dX12_isOwn_220 ci_1 ?_
                                  refine oj_goto 225 dX12_isOwn_221 rfl ?_
                                  exact oj_ret (r := some (.int (1))) ⟨rfl, rfl, rfl, rfl, (1), rfl, y47⟩ dX12_isOwn_225 (Nat.zero_le _) (Nat.zero_le _)
                                · have y48 := y45.2 c46
                                  refine oj_aload_n 0 dX12_isOwn_176 rfl rfl ?_
                                  refine oj_getl fl_RX12_168 k_108 rfl dX12_isOwn_177 ?_
                                  refine oj_ldc2 ow_1501 dX12_isOwn_180 ?_
                                  refine oj_lcmp dX12_isOwn_183 ?_
                                  refine oj_if_eq 220 dX12_isOwn_184 rfl (fun c49 => ?_) (fun c49 => ?_)
                                  · have y50 := y48.1 c49
                                    refine oj_iconst dX12_isOwn_220 ci_1 ?_
                                    refine oj_goto 225 dX12_isOwn_221 rfl ?_
                                    exact oj_ret (r := some (.int (1))) ⟨rfl, rfl, rfl, rfl, (1), rfl, y50⟩ dX12_isOwn_225 (Nat.zero_le _) (Nat.zero_le _)
                                  · have y51 := y48.2 c49
                                    refine oj_aload_n 0 dX12_isOwn_187 rfl rfl ?_
                                    refine oj_getl fl_RX12_168 k_108 rfl dX12_isOwn_188 ?_
                                    refine oj_ldc2 ow_1502 dX12_isOwn_191 ?_
                                    refine oj_lcmp dX12_isOwn_194 ?_
                                    refine oj_if_eq 220 dX12_isOwn_195 rfl (fun c52 => ?_) (fun c52 => ?_)
                                    · have y53 := y51.1 c52
                                      refine oj_iconst dX12_isOwn_220 ci_1 ?_
                                      refine oj_goto 225 dX12_isOwn_221 rfl ?_
                                      exact oj_ret (r := some (.int (1))) ⟨rfl, rfl, rfl, rfl, (1), rfl, y53⟩ dX12_isOwn_225 (Nat.zero_le _) (Nat.zero_le _)
                                    · have y54 := y51.2 c52
                                      refine oj_aload_n 0 dX12_isOwn_198 rfl rfl ?_
                                      refine oj_getl fl_RX12_168 k_108 rfl dX12_isOwn_199 ?_
                                      refine oj_ldc2 ow_1503 dX12_isOwn_202 ?_
                                      refine oj_lcmp dX12_isOwn_205 ?_
                                      refine oj_if_eq 220 dX12_isOwn_206 rfl (fun c55 => ?_) (fun c55 => ?_)
                                      · have y56 := y54.1 c55
                                        refine oj_iconst dX12_isOwn_220 ci_1 ?_
                                        refine oj_goto 225 dX12_isOwn_221 rfl ?_
                                        exact oj_ret (r := some (.int (1))) ⟨rfl, rfl, rfl, rfl, (1), rfl, y56⟩ dX12_isOwn_225 (Nat.zero_le _) (Nat.zero_le _)
                                      · have y57 := y54.2 c55
                                        refine oj_aload_n 0 dX12_isOwn_209 rfl rfl ?_
                                        refine oj_getl fl_RX12_168 k_108 rfl dX12_isOwn_210 ?_
                                        refine oj_ldc2 ow_1504 dX12_isOwn_213 ?_
                                        refine oj_lcmp dX12_isOwn_216 ?_
                                        refine oj_if_ne 224 dX12_isOwn_217 rfl (fun c58 => ?_) (fun c58 => ?_)
                                        · have y59 := y57.2 c58
                                          refine oj_iconst dX12_isOwn_224 ci_0 ?_
                                          exact oj_ret (r := some (.int (0))) ⟨rfl, rfl, rfl, rfl, (0), rfl, y59⟩ dX12_isOwn_225 (Nat.zero_le _) (Nat.zero_le _)
                                        · have y60 := y57.1 c58
                                          refine oj_iconst dX12_isOwn_220 ci_1 ?_
                                          refine oj_goto 225 dX12_isOwn_221 rfl ?_
                                          exact oj_ret (r := some (.int (1))) ⟨rfl, rfl, rfl, rfl, (1), rfl, y60⟩ dX12_isOwn_225 (Nat.zero_le _) (Nat.zero_le _)
-- X12_isName
set_option maxRecDepth 100000 in
set_option maxHeartbeats 4000000 in
theorem BX12_isName    {h : ob_H} {Q : Int32 → Prop} (y : MX12_isName   h Q) : ob_T yX12_isName cX12_isName 1 (some .boolean) (ob_rm 2) KS NN h [.ref 108] (ob_g (some .boolean) (ob_pi h Q)) := by
  unfold MX12_isName at y
  refine ob_T_gf (by decide +kernel) (Nat.le_of_ble_eq_true rfl) ?_
  show ob_J RX12 cX12_isName 1 (ob_rm 2) false none 0 0 KS NN h 0 [(0, .ref 108)] [] (ob_g (some .boolean) (ob_pi h Q))
  refine oj_aload_n 0 dX12_isName_0 rfl rfl ?_
  refine oj_geti fl_RX12_175 k_108 rfl dX12_isName_1 ?_
  refine oj_iconst dX12_isName_4 ci_1 ?_
  refine oj_icmp_ne 19 dX12_isName_5 rfl (fun c1 => ?_) (fun c1 => ?_)
  · have y2 := y.2 c1
    refine oj_iconst dX12_isName_19 ci_0 ?_
    exact oj_ret (r := some (.int (0))) ⟨rfl, rfl, rfl, rfl, (0), rfl, y2⟩ dX12_isName_20 (Nat.zero_le _) (Nat.zero_le _)
  · have y3 := y.1 c1
    refine oj_aload_n 0 dX12_isName_8 rfl rfl ?_
    refine oc_Vpi [] mi_RX12_231 ow_1484 op_45 rfl k_108 (BX12_isOwn  y3) ⟨by decide, by decide⟩ ⟨Nat.le_refl _, Nat.le_refl _⟩ rfl (Nat.le_of_ble_eq_true rfl) dX12_isName_9 (fun r4 f6 y7 => ?_)
    refine oj_if_ne 19 dX12_isName_12 rfl (fun c8 => ?_) (fun c8 => ?_)
    · have y9 := y7.2 c8
      refine oj_iconst dX12_isName_19 ci_0 ?_
      exact oj_ret (r := some (.int (0))) ⟨rfl, rfl, rfl, rfl, (0), rfl, y9⟩ dX12_isName_20 (Nat.zero_le _) (Nat.zero_le _)
    · have y10 := y7.1 c8
      refine oj_iconst dX12_isName_15 ci_1 ?_
      refine oj_goto 20 dX12_isName_16 rfl ?_
      exact oj_ret (r := some (.int (1))) ⟨rfl, rfl, rfl, rfl, (1), rfl, y10⟩ dX12_isName_20 (Nat.zero_le _) (Nat.zero_le _)
-- X12_want
set_option maxRecDepth 100000 in
set_option maxHeartbeats 4000000 in
theorem BX12_want  {p1 : Int64}  {h : ob_H} {Q : ob_H → Prop} (y : MX12_want  p1 h Q) : ob_T yX12_want cX12_want 3 none (ob_rm 3) KS NN h [.ref 108, .long p1] (ob_g none (ob_qv Q)) := by
  unfold MX12_want at y
  refine ob_T_gf (by decide +kernel) (Nat.le_of_ble_eq_true rfl) ?_
  show ob_J RX12 cX12_want 3 (ob_rm 3) false none 0 0 KS NN h 0 [(0, .ref 108), (1, .long p1)] [] (ob_g none (ob_qv Q))
  refine oj_aload_n 0 dX12_want_0 rfl rfl ?_
  refine oj_geti fl_RX12_188 k_108 rfl dX12_want_1 ?_
  refine oj_if_le 8 dX12_want_4 rfl (fun c1 => ?_) (fun c1 => ?_)
  · have y2 := y.1 c1
    refine oj_aload_n 0 dX12_want_8 rfl rfl ?_
    refine oj_lload_n 1 dX12_want_9 rfl rfl ?_
    refine oc_Vpi [.long p1] mi_RX12_235 ow_1472 op_42 rfl k_108 (BX12_isWord  y2) ⟨by decide, by decide⟩ ⟨Nat.le_refl _, Nat.le_refl _⟩ rfl (Nat.le_of_ble_eq_true rfl) dX12_want_10 (fun r4 f6 y7 => ?_)
    refine oj_if_ne 24 dX12_want_13 rfl (fun c8 => ?_) (fun c8 => ?_)
    · have y9 := y7.2 c8
      refine oj_aload_n 0 dX12_want_24 rfl rfl ?_
      refine oc_Vv [] mi_RX12_242 ow_1450 op_39 rfl k_108 (BX12_token  y9) ⟨by decide, by decide⟩ ⟨Nat.le_refl _, Nat.le_refl _⟩ rfl (Nat.le_of_ble_eq_true rfl) dX12_want_25 (fun h12 y14 => ?_)
      exact oj_ret (r := none) ⟨trivial, rfl, rfl, rfl, y14⟩ dX12_want_28 (Nat.zero_le _) (Nat.zero_le _)
    · have y10 := y7.1 c8
      refine oj_aload_n 0 dX12_want_16 rfl rfl ?_
      refine oj_iconst dX12_want_17 ci_2 ?_
      refine oc_Vv [.int (2)] mi_RX12_239 ow_1507 op_46 rfl k_108 (BX12_wrong  y10) ⟨by decide, by decide⟩ ⟨Nat.le_refl _, Nat.le_refl _⟩ rfl (Nat.le_of_ble_eq_true rfl) dX12_want_18 (fun h16 y18 => ?_)
      refine oj_goto 28 dX12_want_21 rfl ?_
      exact oj_ret (r := none) ⟨trivial, rfl, rfl, rfl, y18⟩ dX12_want_28 (Nat.zero_le _) (Nat.zero_le _)
  · have y3 := y.2 c1
    exact oj_ret (r := none) ⟨trivial, rfl, rfl, rfl, y3⟩ dX12_want_7 (Nat.zero_le _) (Nat.zero_le _)
