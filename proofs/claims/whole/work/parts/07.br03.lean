-- X6_hearDrawn
set_option maxRecDepth 100000 in
set_option maxHeartbeats 4000000 in
theorem BKX6_hearDrawn_43 {o : Nat} (hA : A6 o) {s0 : Int32} {s1 : Int32} {h : ob_H} {Q : ob_H → Prop}
    (y : KX6_hearDrawn_43 o s0 s1 h Q) : ob_J RX6 cX6_hearDrawn 3 (ob_rm 4) false none 0 0 KS NN h 43 [] [.int s0, .int s1, .ref o] (ob_g none (ob_qv Q)) := by
  unfold KX6_hearDrawn_43 at y
  refine oc_Vv [.int s1, .int s0] mi_RX6_94 ow_815 ow_816 rfl (A6_0 hA) (BX6_hearAs hA y) ⟨by decide, by decide⟩ ⟨Nat.le_refl _, Nat.le_refl _⟩ rfl (Nat.le_of_ble_eq_true rfl) dX6_hearDrawn_43 (fun h11 y13 => ?_)
  exact oj_ret (r := none) ⟨trivial, rfl, rfl, rfl, y13⟩ dX6_hearDrawn_46 (Nat.zero_le _) (Nat.zero_le _)
set_option maxRecDepth 100000 in
set_option maxHeartbeats 4000000 in
theorem BX6_hearDrawn  {o : Nat} {p1 : Int32} (hA : A6 o) {h : ob_H} {Q : ob_H → Prop} (y : MX6_hearDrawn  o p1 h Q) : ob_T yX6_hearDrawn cX6_hearDrawn 3 none (ob_rm 4) KS NN h [.ref o, .int p1] (ob_g none (ob_qv Q)) := by
  unfold MX6_hearDrawn at y
  refine ob_T_gf (by decide +kernel) (Nat.le_of_ble_eq_true rfl) ?_
  show ob_J RX6 cX6_hearDrawn 3 (ob_rm 4) false none 0 0 KS NN h 0 [(0, .ref o), (1, .int p1)] [] (ob_g none (ob_qv Q))
  refine oj_aload_n 0 dX6_hearDrawn_0 rfl rfl ?_
  refine oj_iload_n 1 dX6_hearDrawn_1 rfl rfl ?_
  refine oc_Vi [.int p1] mi_RX6_91 ow_811 ow_812 rfl (A6_0 hA) (BX6_answerOf hA y) ⟨by decide, by decide⟩ ⟨Nat.le_refl _, Nat.le_refl _⟩ rfl (Nat.le_of_ble_eq_true rfl) dX6_hearDrawn_2 (fun r1 f3 h2 y4 => ?_)
  refine oj_istore_n (lv' := [(2, .int r1), (0, .ref o), (1, .int p1)]) dX6_hearDrawn_5 rfl (by decide) rfl ?_
  refine oj_aload_n 1 dX6_hearDrawn_6 rfl rfl ?_
  refine oj_aload_n 1 dX6_hearDrawn_7 rfl rfl ?_
  refine oj_geti fl_RX6_30 (A6_0 hA) rfl dX6_hearDrawn_8 ?_
  refine oj_sipush dX6_hearDrawn_11 cs_137 ?_
  refine oj_imul dX6_hearDrawn_14 ?_
  refine oj_bipush dX6_hearDrawn_15 cb_71 ?_
  refine oj_iadd dX6_hearDrawn_17 ?_
  refine oj_sipush dX6_hearDrawn_18 cs_1000 ?_
  refine oj_irem dX6_hearDrawn_21 nz_1000 ?_
  refine oj_puti fl_RX6_30 (Or.inl rfl) (A6_0 hA) rfl rfl rfl dX6_hearDrawn_22 ?_
  refine oj_toph (fun h5 eh5 => ?_)
  have y6 := Lt_at y4 h5 eh5
  refine oj_aload_n 1 dX6_hearDrawn_25 rfl rfl ?_
  refine oj_iload_n 2 dX6_hearDrawn_26 rfl rfl ?_
  refine oj_aload_n 1 dX6_hearDrawn_27 rfl rfl ?_
  refine oj_geti fl_RX6_30 (A6_0 hA) rfl dX6_hearDrawn_28 ?_
  refine oj_bipush dX6_hearDrawn_31 cb_100 ?_
  refine oj_irem dX6_hearDrawn_33 nz_100 ?_
  refine oj_iload_n 0 dX6_hearDrawn_34 rfl rfl ?_
  refine oj_icmp_ge 42 dX6_hearDrawn_35 rfl (fun c7 => ?_) (fun c7 => ?_)
  · have y8 := y6.1 c7
    refine oj_iconst dX6_hearDrawn_42 ci_2 ?_
    refine oj_lv [] rfl ?_
    exact BKX6_hearDrawn_43 hA y8
  · have y9 := y6.2 c7
    refine oj_iconst dX6_hearDrawn_38 ci_1 ?_
    refine oj_goto 43 dX6_hearDrawn_39 rfl ?_
    refine oj_lv [] rfl ?_
    exact BKX6_hearDrawn_43 hA y9
-- X11_hear
set_option maxRecDepth 100000 in
set_option maxHeartbeats 4000000 in
theorem BX11_hear    {h : ob_H} {Q : Int32 → ob_H → Prop} (y : MX11_hear   h Q) : ob_T yX11_hear cX11_hear 2 (some .int) (ob_rm 5) KS NN h [.ref 0] (ob_g (some .int) (ob_qi Q)) := by
  unfold MX11_hear at y
  refine ob_T_gf (by decide +kernel) (Nat.le_of_ble_eq_true rfl) ?_
  show ob_J RX11 cX11_hear 2 (ob_rm 5) false none 0 0 KS NN h 0 [(0, .ref 0)] [] (ob_g (some .int) (ob_qi Q))
  refine oj_aload_n 0 dX11_hear_0 rfl rfl ?_
  refine oj_getr (q := 34) fl_RX11_37 k_0 rfl k_34 dX11_hear_1 ?_
  refine oc_Vi [] mi_RX11_177 ow_789 ow_790 rfl k_34 (BX6_turn AA6_34 y) ⟨by decide, by decide⟩ ⟨Nat.le_refl _, Nat.le_refl _⟩ rfl (Nat.le_of_ble_eq_true rfl) dX11_hear_4 (fun r1 f3 h2 y4 => ?_)
  refine oj_istore_n (lv' := [(1, .int r1), (0, .ref 0)]) dX11_hear_7 rfl (by decide) rfl ?_
  refine oj_iload_n 0 dX11_hear_8 rfl rfl ?_
  refine oj_if_ge 14 dX11_hear_9 rfl (fun c5 => ?_) (fun c5 => ?_)
  · have y6 := y4.1 c5
    refine oj_aload_n 1 dX11_hear_14 rfl rfl ?_
    refine oj_getr (q := 95) fl_RX11_78 k_0 rfl k_95 dX11_hear_15 ?_
    refine oc_Vv [] mi_RX11_181 ow_794 ow_795 rfl k_95 (BX1_keepAct  y6) ⟨by decide, by decide⟩ ⟨Nat.le_refl _, Nat.le_refl _⟩ rfl (Nat.le_of_ble_eq_true rfl) dX11_hear_18 (fun h9 y11 => ?_)
    refine oj_aload_n 1 dX11_hear_21 rfl rfl ?_
    refine oj_getr (q := 34) fl_RX11_37 k_0 rfl k_34 dX11_hear_22 ?_
    refine oj_iload_n 0 dX11_hear_25 rfl rfl ?_
    refine oc_Vv [.int r1] mi_RX11_184 ow_807 ow_808 rfl k_34 (BX6_hearDrawn AA6_34 y11) ⟨by decide, by decide⟩ ⟨Nat.le_refl _, Nat.le_refl _⟩ rfl (Nat.le_of_ble_eq_true rfl) dX11_hear_26 (fun h13 y15 => ?_)
    refine oj_iload_n 0 dX11_hear_29 rfl rfl ?_
    exact oj_ret (r := some (.int r1)) ⟨trivial, rfl, rfl, r1, rfl, y15⟩ dX11_hear_30 (Nat.zero_le _) (Nat.zero_le _)
  · have y7 := y4.2 c5
    refine oj_iconst dX11_hear_12 ci_m1 ?_
    exact oj_ret (r := some (.int (-1))) ⟨trivial, rfl, rfl, (-1), rfl, y7⟩ dX11_hear_13 (Nat.zero_le _) (Nat.zero_le _)
-- X11_buy
set_option maxRecDepth 100000 in
set_option maxHeartbeats 4000000 in
theorem BX11_buy  {p1 : Int32}  {h : ob_H} {Q : Int32 → ob_H → Prop} (y : MX11_buy  p1 h Q) : ob_T yX11_buy cX11_buy 2 (some .int) (ob_rm 3) KS NN h [.ref 0, .int p1] (ob_g (some .int) (ob_qi Q)) := by
  unfold MX11_buy at y
  refine ob_T_gf (by decide +kernel) (Nat.le_of_ble_eq_true rfl) ?_
  show ob_J RX11 cX11_buy 2 (ob_rm 3) false none 0 0 KS NN h 0 [(0, .ref 0), (1, .int p1)] [] (ob_g (some .int) (ob_qi Q))
  refine oj_aload_n 0 dX11_buy_0 rfl rfl ?_
  refine oj_iload_n 1 dX11_buy_1 rfl rfl ?_
  refine oc_Vpi [.int p1] mi_RX11_169 ow_763 op_20 rfl k_0 (BX11_isWaiting  y) ⟨by decide, by decide⟩ ⟨Nat.le_refl _, Nat.le_refl _⟩ rfl (Nat.le_of_ble_eq_true rfl) dX11_buy_2 (fun r1 f3 y4 => ?_)
  refine oj_if_ne 10 dX11_buy_5 rfl (fun c5 => ?_) (fun c5 => ?_)
  · have y6 := y4.2 c5
    refine oj_aload_n 0 dX11_buy_10 rfl rfl ?_
    refine oj_getr (q := 95) fl_RX11_78 k_0 rfl k_95 dX11_buy_11 ?_
    refine oc_Vv [] mi_RX11_181 ow_794 ow_795 rfl k_95 (BX1_keepAct  y6) ⟨by decide, by decide⟩ ⟨Nat.le_refl _, Nat.le_refl _⟩ rfl (Nat.le_of_ble_eq_true rfl) dX11_buy_14 (fun h9 y11 => ?_)
    refine oj_aload_n 0 dX11_buy_17 rfl rfl ?_
    refine oj_getr (q := 34) fl_RX11_37 k_0 rfl k_34 dX11_buy_18 ?_
    refine oj_dup dX11_buy_21 rfl ?_
    refine oj_geti fl_RX11_187 k_34 rfl dX11_buy_22 ?_
    refine oj_aload_n 0 dX11_buy_25 rfl rfl ?_
    refine oj_getr (q := 20) fl_RX11_28 k_0 rfl k_20 dX11_buy_26 ?_
    refine oj_getr (q := 24) fl_RX11_160 k_20 rfl k_24 dX11_buy_29 ?_
    refine oj_iload_n 1 dX11_buy_32 rfl rfl ?_
    obtain ⟨c12, y13⟩ := y11
    refine oj_iald k_24 c12 rfl dX11_buy_33 ?_
    refine oj_iadd dX11_buy_34 ?_
    refine oj_puti fl_RX11_187 (Or.inl rfl) k_34 rfl rfl rfl dX11_buy_35 ?_
    refine oj_toph (fun h14 eh14 => ?_)
    have y15 := Lt_at y13 h14 eh14
    refine oj_aload_n 0 dX11_buy_38 rfl rfl ?_
    refine oj_getr (q := 34) fl_RX11_37 k_0 rfl k_34 dX11_buy_39 ?_
    refine oj_iconst dX11_buy_42 ci_1 ?_
    refine oj_iload_n 1 dX11_buy_43 rfl rfl ?_
    refine oj_ishl dX11_buy_44 ?_
    refine oj_iconst dX11_buy_45 ci_0 ?_
    refine oj_iconst dX11_buy_46 ci_5 ?_
    refine oc_Vv [.int ((1) <<< (p1 &&& 31)), .int (0), .int (5)] mi_RX11_190 ow_819 ow_820 rfl k_34 (BX6_move AA6_34 y15) ⟨by decide, by decide⟩ ⟨Nat.le_refl _, Nat.le_refl _⟩ rfl (Nat.le_of_ble_eq_true rfl) dX11_buy_47 (fun h17 y19 => ?_)
    refine oj_aload_n 0 dX11_buy_50 rfl rfl ?_
    refine oj_getr (q := 34) fl_RX11_37 k_0 rfl k_34 dX11_buy_51 ?_
    refine oj_geti fl_RX11_187 k_34 rfl dX11_buy_54 ?_
    exact oj_ret (r := some (.int (h17.1 34 4))) ⟨trivial, rfl, rfl, (h17.1 34 4), rfl, y19⟩ dX11_buy_57 (Nat.zero_le _) (Nat.zero_le _)
  · have y7 := y4.1 c5
    refine oj_iconst dX11_buy_8 ci_m1 ?_
    exact oj_ret (r := some (.int (-1))) ⟨trivial, rfl, rfl, (-1), rfl, y7⟩ dX11_buy_9 (Nat.zero_le _) (Nat.zero_le _)
-- X6_letPass
set_option maxRecDepth 100000 in
set_option maxHeartbeats 4000000 in
theorem BX6_letPass  {o : Nat} {p1 : Int32} (hA : A6 o) {h : ob_H} {Q : Int32 → ob_H → Prop} (y : MX6_letPass  o p1 h Q) : ob_T yX6_letPass cX6_letPass 2 (some .int) (ob_rm 3) KS NN h [.ref o, .int p1] (ob_g (some .int) (ob_qi Q)) := by
  unfold MX6_letPass at y
  refine ob_T_gf (by decide +kernel) (Nat.le_of_ble_eq_true rfl) ?_
  show ob_J RX6 cX6_letPass 2 (ob_rm 3) false none 0 0 KS NN h 0 [(0, .ref o), (1, .int p1)] [] (ob_g (some .int) (ob_qi Q))
  refine oj_aload_n 0 dX6_letPass_0 rfl rfl ?_
  refine oj_dup dX6_letPass_1 rfl ?_
  refine oj_geti fl_RX6_23 (A6_0 hA) rfl dX6_letPass_2 ?_
  refine oj_iload_n 1 dX6_letPass_5 rfl rfl ?_
  refine oj_iadd dX6_letPass_6 ?_
  refine oj_puti fl_RX6_23 (Or.inl rfl) (A6_0 hA) rfl rfl rfl dX6_letPass_7 ?_
  refine oj_toph (fun h1 eh1 => ?_)
  have y2 := Lt_at y h1 eh1
  refine oj_aload_n 0 dX6_letPass_10 rfl rfl ?_
  refine oc_Vi [] mi_RX6_107 ow_824 op_23 rfl (A6_0 hA) (BX6_dismiss hA y2) ⟨by decide, by decide⟩ ⟨Nat.le_refl _, Nat.le_refl _⟩ rfl (Nat.le_of_ble_eq_true rfl) dX6_letPass_11 (fun r3 f5 h4 y6 => ?_)
  exact oj_ret (r := some (.int r3)) ⟨trivial, rfl, rfl, r3, rfl, y6⟩ dX6_letPass_14 (Nat.zero_le _) (Nat.zero_le _)
-- X11_pause
set_option maxRecDepth 100000 in
set_option maxHeartbeats 4000000 in
theorem BX11_pause  {p1 : Int32}  {h : ob_H} {Q : Int32 → ob_H → Prop} (y : MX11_pause  p1 h Q) : ob_T yX11_pause cX11_pause 2 (some .int) (ob_rm 4) KS NN h [.ref 0, .int p1] (ob_g (some .int) (ob_qi Q)) := by
  unfold MX11_pause at y
  refine ob_T_gf (by decide +kernel) (Nat.le_of_ble_eq_true rfl) ?_
  show ob_J RX11 cX11_pause 2 (ob_rm 4) false none 0 0 KS NN h 0 [(0, .ref 0), (1, .int p1)] [] (ob_g (some .int) (ob_qi Q))
  refine oj_iload_n 1 dX11_pause_0 rfl rfl ?_
  refine oj_iconst dX11_pause_1 ci_1 ?_
  refine oj_icmp_lt 11 dX11_pause_2 rfl (fun c1 => ?_) (fun c1 => ?_)
  · have y2 := y.1 c1
    refine oj_iconst dX11_pause_11 ci_m1 ?_
    exact oj_ret (r := some (.int (-1))) ⟨trivial, rfl, rfl, (-1), rfl, y2⟩ dX11_pause_12 (Nat.zero_le _) (Nat.zero_le _)
  · have y3 := y.2 c1
    refine oj_iload_n 1 dX11_pause_5 rfl rfl ?_
    refine oj_bipush dX11_pause_6 cb_60 ?_
    refine oj_icmp_le 13 dX11_pause_8 rfl (fun c4 => ?_) (fun c4 => ?_)
    · have y5 := y3.1 c4
      refine oj_aload_n 0 dX11_pause_13 rfl rfl ?_
      refine oj_getr (q := 95) fl_RX11_78 k_0 rfl k_95 dX11_pause_14 ?_
      refine oc_Vv [] mi_RX11_181 ow_794 ow_795 rfl k_95 (BX1_keepAct  y5) ⟨by decide, by decide⟩ ⟨Nat.le_refl _, Nat.le_refl _⟩ rfl (Nat.le_of_ble_eq_true rfl) dX11_pause_17 (fun h8 y10 => ?_)
      refine oj_aload_n 0 dX11_pause_20 rfl rfl ?_
      refine oj_getr (q := 34) fl_RX11_37 k_0 rfl k_34 dX11_pause_21 ?_
      refine oj_iload_n 1 dX11_pause_24 rfl rfl ?_
      refine oc_Vi [.int p1] mi_RX11_194 ow_836 ow_837 rfl k_34 (BX6_letPass AA6_34 y10) ⟨by decide, by decide⟩ ⟨Nat.le_refl _, Nat.le_refl _⟩ rfl (Nat.le_of_ble_eq_true rfl) dX11_pause_25 (fun r11 f13 h12 y14 => ?_)
      exact oj_ret (r := some (.int r11)) ⟨trivial, rfl, rfl, r11, rfl, y14⟩ dX11_pause_28 (Nat.zero_le _) (Nat.zero_le _)
    · have y6 := y3.2 c4
      refine oj_iconst dX11_pause_11 ci_m1 ?_
      exact oj_ret (r := some (.int (-1))) ⟨trivial, rfl, rfl, (-1), rfl, y6⟩ dX11_pause_12 (Nat.zero_le _) (Nat.zero_le _)
-- X6_exchange
set_option maxRecDepth 100000 in
set_option maxHeartbeats 4000000 in
theorem BX6_exchange  {o : Nat} {p1 : Int32} {p2 : Int32} (hA : A6 o) {h : ob_H} {Q : ob_H → Prop} (y : MX6_exchange  o p1 p2 h Q) : ob_T yX6_exchange cX6_exchange 4 none (ob_rm 1) KS NN h [.ref o, .int p1, .int p2] (ob_g none (ob_qv Q)) := by
  unfold MX6_exchange at y
  refine ob_T_gf (by decide +kernel) (Nat.le_of_ble_eq_true rfl) ?_
  show ob_J RX6 cX6_exchange 4 (ob_rm 1) false none 0 0 KS NN h 0 [(0, .ref o), (1, .int p1), (2, .int p2)] [] (ob_g none (ob_qv Q))
  refine oj_aload_n 0 dX6_exchange_0 rfl rfl ?_
  refine oj_getr (q := (o + 2)) fl_RX6_17 (A6_0 hA) rfl (A6_2 hA) dX6_exchange_1 ?_
  refine oj_iload_n 1 dX6_exchange_4 rfl rfl ?_
  obtain ⟨c1, y2⟩ := y
  refine oj_iald (A6_2 hA) c1 rfl dX6_exchange_5 ?_
  refine oj_topi (fun v3 ev3 => ?_)
  have y4 := Lt_at y2 v3 ev3
  refine oj_istore_n (lv' := [(3, .int v3), (0, .ref o), (1, .int p1), (2, .int p2)]) dX6_exchange_6 rfl (by decide) rfl ?_
  refine oj_aload_n 1 dX6_exchange_7 rfl rfl ?_
  refine oj_getr (q := (o + 2)) fl_RX6_17 (A6_0 hA) rfl (A6_2 hA) dX6_exchange_8 ?_
  refine oj_iload_n 2 dX6_exchange_11 rfl rfl ?_
  refine oj_aload_n 1 dX6_exchange_12 rfl rfl ?_
  refine oj_getr (q := (o + 2)) fl_RX6_17 (A6_0 hA) rfl (A6_2 hA) dX6_exchange_13 ?_
  refine oj_iload_n 3 dX6_exchange_16 rfl rfl ?_
  obtain ⟨c5, y6⟩ := y4
  refine oj_iald (A6_2 hA) c5 rfl dX6_exchange_17 ?_
  refine oj_iast (A6_2 hA) c1 rfl dX6_exchange_18 ?_
  refine oj_toph (fun h7 eh7 => ?_)
  have y8 := Lt_at y6 h7 eh7
  refine oj_aload_n 1 dX6_exchange_19 rfl rfl ?_
  refine oj_getr (q := (o + 2)) fl_RX6_17 (A6_0 hA) rfl (A6_2 hA) dX6_exchange_20 ?_
  refine oj_iload_n 3 dX6_exchange_23 rfl rfl ?_
  refine oj_iload_n 0 dX6_exchange_24 rfl rfl ?_
  refine oj_iast (A6_2 hA) c5 rfl dX6_exchange_25 ?_
  refine oj_toph (fun h9 eh9 => ?_)
  have y10 := Lt_at y8 h9 eh9
  exact oj_ret (r := none) ⟨trivial, rfl, rfl, rfl, y10⟩ dX6_exchange_26 (Nat.zero_le _) (Nat.zero_le _)
-- X11_trade
set_option maxRecDepth 100000 in
set_option maxHeartbeats 4000000 in
theorem BX11_trade  {p1 : Int32} {p2 : Int32}  {h : ob_H} {Q : Int32 → ob_H → Prop} (y : MX11_trade  p1 p2 h Q) : ob_T yX11_trade cX11_trade 3 (some .int) (ob_rm 3) KS NN h [.ref 0, .int p1, .int p2] (ob_g (some .int) (ob_qi Q)) := by
  unfold MX11_trade at y
  refine ob_T_gf (by decide +kernel) (Nat.le_of_ble_eq_true rfl) ?_
  show ob_J RX11 cX11_trade 3 (ob_rm 3) false none 0 0 KS NN h 0 [(0, .ref 0), (1, .int p1), (2, .int p2)] [] (ob_g (some .int) (ob_qi Q))
  refine oj_aload_n 0 dX11_trade_0 rfl rfl ?_
  refine oj_iload_n 1 dX11_trade_1 rfl rfl ?_
  refine oc_Vpi [.int p1] mi_RX11_169 ow_763 op_20 rfl k_0 (BX11_isWaiting  y) ⟨by decide, by decide⟩ ⟨Nat.le_refl _, Nat.le_refl _⟩ rfl (Nat.le_of_ble_eq_true rfl) dX11_trade_2 (fun r1 f3 y4 => ?_)
  refine oj_if_eq 21 dX11_trade_5 rfl (fun c5 => ?_) (fun c5 => ?_)
  · have y6 := y4.1 c5
    refine oj_iconst dX11_trade_21 ci_m1 ?_
    exact oj_ret (r := some (.int (-1))) ⟨trivial, rfl, rfl, (-1), rfl, y6⟩ dX11_trade_22 (Nat.zero_le _) (Nat.zero_le _)
  · have y7 := y4.2 c5
    refine oj_aload_n 0 dX11_trade_8 rfl rfl ?_
    refine oj_iload_n 2 dX11_trade_9 rfl rfl ?_
    refine oc_Vpi [.int p2] mi_RX11_169 ow_763 op_20 rfl k_0 (BX11_isWaiting  y7) ⟨by decide, by decide⟩ ⟨Nat.le_refl _, Nat.le_refl _⟩ rfl (Nat.le_of_ble_eq_true rfl) dX11_trade_10 (fun r8 f10 y11 => ?_)
    refine oj_if_eq 21 dX11_trade_13 rfl (fun c12 => ?_) (fun c12 => ?_)
    · have y13 := y11.1 c12
      refine oj_iconst dX11_trade_21 ci_m1 ?_
      exact oj_ret (r := some (.int (-1))) ⟨trivial, rfl, rfl, (-1), rfl, y13⟩ dX11_trade_22 (Nat.zero_le _) (Nat.zero_le _)
    · have y14 := y11.2 c12
      refine oj_iload_n 1 dX11_trade_16 rfl rfl ?_
      refine oj_iload_n 2 dX11_trade_17 rfl rfl ?_
      refine oj_icmp_ne 23 dX11_trade_18 rfl (fun c15 => ?_) (fun c15 => ?_)
      · have y16 := y14.2 c15
        refine oj_aload_n 0 dX11_trade_23 rfl rfl ?_
        refine oj_getr (q := 95) fl_RX11_78 k_0 rfl k_95 dX11_trade_24 ?_
        refine oc_Vv [] mi_RX11_181 ow_794 ow_795 rfl k_95 (BX1_keepAct  y16) ⟨by decide, by decide⟩ ⟨Nat.le_refl _, Nat.le_refl _⟩ rfl (Nat.le_of_ble_eq_true rfl) dX11_trade_27 (fun h19 y21 => ?_)
        refine oj_aload_n 0 dX11_trade_30 rfl rfl ?_
        refine oj_getr (q := 34) fl_RX11_37 k_0 rfl k_34 dX11_trade_31 ?_
        refine oj_iload_n 1 dX11_trade_34 rfl rfl ?_
        refine oj_iload_n 2 dX11_trade_35 rfl rfl ?_
        refine oc_Vv [.int p1, .int p2] mi_RX11_197 ow_844 ow_845 rfl k_34 (BX6_exchange AA6_34 y21) ⟨by decide, by decide⟩ ⟨Nat.le_refl _, Nat.le_refl _⟩ rfl (Nat.le_of_ble_eq_true rfl) dX11_trade_36 (fun h23 y25 => ?_)
        refine oj_aload_n 0 dX11_trade_39 rfl rfl ?_
        refine oj_getr (q := 34) fl_RX11_37 k_0 rfl k_34 dX11_trade_40 ?_
        refine oj_getr (q := 36) fl_RX11_151 k_34 rfl k_36 dX11_trade_43 ?_
        refine oj_iload_n 1 dX11_trade_46 rfl rfl ?_
        obtain ⟨c26, y27⟩ := y25
        refine oj_iald k_36 c26 rfl dX11_trade_47 ?_
        exact oj_ret (r := some (.int (h23.1 36 (ix p1)))) ⟨trivial, rfl, rfl, (h23.1 36 (ix p1)), rfl, y27⟩ dX11_trade_48 (Nat.zero_le _) (Nat.zero_le _)
      · have y17 := y14.1 c15
        refine oj_iconst dX11_trade_21 ci_m1 ?_
        exact oj_ret (r := some (.int (-1))) ⟨trivial, rfl, rfl, (-1), rfl, y17⟩ dX11_trade_22 (Nat.zero_le _) (Nat.zero_le _)
-- X6_restore
set_option maxRecDepth 100000 in
set_option maxHeartbeats 4000000 in
theorem BX6_restore  {o : Nat} {p1 p1N : Nat} {p2 : Int32} (hA : A6 o) (hp1 : ob_is KS NN p1 (0, [p1N])) {h : ob_H} {Q : ob_H → Prop} (y : MX6_restore  o p1 p1N p2 h Q) : ob_T yX6_restore cX6_restore 3 none (ob_rm 1) KS NN h [.ref o, .ref p1, .int p2] (ob_g none (ob_qv Q)) := by
  unfold MX6_restore at y
  refine ob_T_gf (by decide +kernel) (Nat.le_of_ble_eq_true rfl) ?_
  show ob_J RX6 cX6_restore 3 (ob_rm 1) false none 0 0 KS NN h 0 [(0, .ref o), (1, .ref p1), (2, .int p2)] [] (ob_g none (ob_qv Q))
  refine oj_iload_n 2 dX6_restore_0 rfl rfl ?_
  refine oj_if_lt 13 dX6_restore_1 rfl (fun c1 => ?_) (fun c1 => ?_)
  · have y2 := y.1 c1
    exact oj_ret (r := none) ⟨trivial, rfl, rfl, rfl, y2⟩ dX6_restore_13 (Nat.zero_le _) (Nat.zero_le _)
  · have y3 := y.2 c1
    refine oj_iload_n 2 dX6_restore_4 rfl rfl ?_
    refine oj_aload_n 1 dX6_restore_5 rfl rfl ?_
    refine oj_alen hp1 (by decide) rfl dX6_restore_6 ?_
    refine oj_bipush dX6_restore_7 cb_24 ?_
    refine oj_isub dX6_restore_9 ?_
    refine oj_icmp_le 14 dX6_restore_10 rfl (fun c4 => ?_) (fun c4 => ?_)
    · have y5 := y3.1 c4
      refine oj_aload_n 1 dX6_restore_14 rfl rfl ?_
      refine oj_iload_n 2 dX6_restore_15 rfl rfl ?_
      refine oj_aload_n 0 dX6_restore_16 rfl rfl ?_
      refine oj_getr (q := (o + 1)) fl_RX6_13 (A6_0 hA) rfl (A6_1 hA) dX6_restore_17 ?_
      refine oj_iconst dX6_restore_20 ci_0 ?_
      refine oj_bipush dX6_restore_21 cb_7 ?_
      obtain ⟨c7, y8⟩ := y5
      obtain ⟨c9, y10⟩ := y8
      refine oj_copy hp1 (A6_1 hA) ow_805 ow_715 ow_714 ow_19 c7 nn_0 nn_7 rfl ix_0 ix_7 c9 (by decide) (by decide) (by decide) (Nat.le_of_ble_eq_true rfl) dX6_restore_23 ?_
      refine oj_toph (fun h11 eh11 => ?_)
      have y12 := Lt_at y10 h11 eh11
      refine oj_aload_n 1 dX6_restore_26 rfl rfl ?_
      refine oj_iload_n 2 dX6_restore_27 rfl rfl ?_
      refine oj_bipush dX6_restore_28 cb_7 ?_
      refine oj_iadd dX6_restore_30 ?_
      refine oj_aload_n 0 dX6_restore_31 rfl rfl ?_
      refine oj_getr (q := (o + 2)) fl_RX6_17 (A6_0 hA) rfl (A6_2 hA) dX6_restore_32 ?_
      refine oj_iconst dX6_restore_35 ci_0 ?_
      refine oj_bipush dX6_restore_36 cb_7 ?_
      obtain ⟨c13, y14⟩ := y12
      obtain ⟨c15, y16⟩ := y14
      refine oj_copy hp1 (A6_2 hA) ow_805 ow_715 ow_714 ow_19 c13 nn_0 nn_7 rfl ix_0 ix_7 c15 (by decide) (by decide) (by decide) (Nat.le_of_ble_eq_true rfl) dX6_restore_38 ?_
      refine oj_toph (fun h17 eh17 => ?_)
      have y18 := Lt_at y16 h17 eh17
      refine oj_aload_n 1 dX6_restore_41 rfl rfl ?_
      refine oj_iload_n 2 dX6_restore_42 rfl rfl ?_
      refine oj_bipush dX6_restore_43 cb_7 ?_
      refine oj_iadd dX6_restore_45 ?_
      refine oj_bipush dX6_restore_46 cb_7 ?_
      refine oj_iadd dX6_restore_48 ?_
      refine oj_aload_n 0 dX6_restore_49 rfl rfl ?_
      refine oj_getr (q := (o + 3)) fl_RX6_20 (A6_0 hA) rfl (A6_3 hA) dX6_restore_50 ?_
      refine oj_iconst dX6_restore_53 ci_0 ?_
      refine oj_bipush dX6_restore_54 cb_7 ?_
      obtain ⟨c19, y20⟩ := y18
      obtain ⟨c21, y22⟩ := y20
      refine oj_copy hp1 (A6_3 hA) ow_805 ow_715 ow_714 ow_19 c19 nn_0 nn_7 rfl ix_0 ix_7 c21 (by decide) (by decide) (by decide) (Nat.le_of_ble_eq_true rfl) dX6_restore_56 ?_
      refine oj_toph (fun h23 eh23 => ?_)
      have y24 := Lt_at y22 h23 eh23
      refine oj_aload_n 0 dX6_restore_59 rfl rfl ?_
      refine oj_aload_n 1 dX6_restore_60 rfl rfl ?_
      refine oj_iload_n 2 dX6_restore_61 rfl rfl ?_
      refine oj_bipush dX6_restore_62 cb_24 ?_
      refine oj_iadd dX6_restore_64 ?_
      refine oj_iconst dX6_restore_65 ci_3 ?_
      refine oj_isub dX6_restore_66 ?_
      obtain ⟨c25, y26⟩ := y24
      refine oj_iald hp1 c25 rfl dX6_restore_67 ?_
      refine oj_puti fl_RX6_23 (Or.inl rfl) (A6_0 hA) rfl rfl rfl dX6_restore_68 ?_
      refine oj_toph (fun h27 eh27 => ?_)
      have y28 := Lt_at y26 h27 eh27
      refine oj_aload_n 0 dX6_restore_71 rfl rfl ?_
      refine oj_aload_n 1 dX6_restore_72 rfl rfl ?_
      refine oj_iload_n 2 dX6_restore_73 rfl rfl ?_
      refine oj_bipush dX6_restore_74 cb_24 ?_
      refine oj_iadd dX6_restore_76 ?_
      refine oj_iconst dX6_restore_77 ci_2 ?_
      refine oj_isub dX6_restore_78 ?_
      obtain ⟨c29, y30⟩ := y28
      refine oj_iald hp1 c29 rfl dX6_restore_79 ?_
      refine oj_puti fl_RX6_27 (Or.inl rfl) (A6_0 hA) rfl rfl rfl dX6_restore_80 ?_
      refine oj_toph (fun h31 eh31 => ?_)
      have y32 := Lt_at y30 h31 eh31
      refine oj_aload_n 0 dX6_restore_83 rfl rfl ?_
      refine oj_aload_n 1 dX6_restore_84 rfl rfl ?_
      refine oj_iload_n 2 dX6_restore_85 rfl rfl ?_
      refine oj_bipush dX6_restore_86 cb_24 ?_
      refine oj_iadd dX6_restore_88 ?_
      refine oj_iconst dX6_restore_89 ci_1 ?_
      refine oj_isub dX6_restore_90 ?_
      obtain ⟨c33, y34⟩ := y32
      refine oj_iald hp1 c33 rfl dX6_restore_91 ?_
      refine oj_puti fl_RX6_30 (Or.inl rfl) (A6_0 hA) rfl rfl rfl dX6_restore_92 ?_
      refine oj_toph (fun h35 eh35 => ?_)
      have y36 := Lt_at y34 h35 eh35
      exact oj_ret (r := none) ⟨trivial, rfl, rfl, rfl, y36⟩ dX6_restore_95 (Nat.zero_le _) (Nat.zero_le _)
    · have y6 := y3.2 c4
      exact oj_ret (r := none) ⟨trivial, rfl, rfl, rfl, y6⟩ dX6_restore_13 (Nat.zero_le _) (Nat.zero_le _)
-- X1_takeBack
set_option maxRecDepth 100000 in
set_option maxHeartbeats 4000000 in
theorem BX1_takeBack    {h : ob_H} {Q : Int32 → ob_H → Prop} (y : MX1_takeBack   h Q) : ob_T yX1_takeBack cX1_takeBack 1 (some .boolean) (ob_rm 2) KS NN h [.ref 95] (ob_g (some .boolean) (ob_qi Q)) := by
  unfold MX1_takeBack at y
  refine ob_T_gf (by decide +kernel) (Nat.le_of_ble_eq_true rfl) ?_
  show ob_J RX1 cX1_takeBack 1 (ob_rm 2) false none 0 0 KS NN h 0 [(0, .ref 95)] [] (ob_g (some .boolean) (ob_qi Q))
  refine oj_aload_n 0 dX1_takeBack_0 rfl rfl ?_
  refine oj_geti fl_RX1_11 k_95 rfl dX1_takeBack_1 ?_
  refine oj_if_ne 9 dX1_takeBack_4 rfl (fun c1 => ?_) (fun c1 => ?_)
  · have y2 := y.2 c1
    refine oj_aload_n 0 dX1_takeBack_9 rfl rfl ?_
    refine oj_getr (q := 34) fl_RX1_33 k_95 rfl k_34 dX1_takeBack_10 ?_
    refine oj_aload_n 0 dX1_takeBack_13 rfl rfl ?_
    refine oj_getr (q := 96) fl_RX1_20 k_95 rfl k_96 dX1_takeBack_14 ?_
    refine oj_aload_n 0 dX1_takeBack_17 rfl rfl ?_
    refine oj_aload_n 0 dX1_takeBack_18 rfl rfl ?_
    refine oj_geti fl_RX1_11 k_95 rfl dX1_takeBack_19 ?_
    refine oc_Vpi [.int (h.1 95 0)] mi_RX1_37 ow_799 op_22 rfl k_95 (BX1_rowOf  y2) ⟨by decide, by decide⟩ ⟨Nat.le_refl _, Nat.le_refl _⟩ rfl (Nat.le_of_ble_eq_true rfl) dX1_takeBack_22 (fun r4 f6 y7 => ?_)
    refine oc_Vv [.ref 96, .int r4] mi_RX1_41 ow_802 ow_803 rfl k_34 (BX6_write AA6_34 k_96 y7) ⟨by decide, by decide⟩ ⟨Nat.le_refl _, Nat.le_refl _⟩ rfl (Nat.le_of_ble_eq_true rfl) dX1_takeBack_25 (fun h9 y11 => ?_)
    refine oj_aload_n 0 dX1_takeBack_28 rfl rfl ?_
    refine oj_dup dX1_takeBack_29 rfl ?_
    refine oj_geti fl_RX1_11 k_95 rfl dX1_takeBack_30 ?_
    refine oj_iconst dX1_takeBack_33 ci_1 ?_
    refine oj_isub dX1_takeBack_34 ?_
    refine oj_puti fl_RX1_11 (Or.inl rfl) k_95 rfl rfl rfl dX1_takeBack_35 ?_
    refine oj_toph (fun h12 eh12 => ?_)
    have y13 := Lt_at y11 h12 eh12
    refine oj_aload_n 0 dX1_takeBack_38 rfl rfl ?_
    refine oj_dup dX1_takeBack_39 rfl ?_
    refine oj_geti fl_RX1_15 k_95 rfl dX1_takeBack_40 ?_
    refine oj_iconst dX1_takeBack_43 ci_1 ?_
    refine oj_iadd dX1_takeBack_44 ?_
    refine oj_puti fl_RX1_15 (Or.inl rfl) k_95 rfl rfl rfl dX1_takeBack_45 ?_
    refine oj_toph (fun h14 eh14 => ?_)
    have y15 := Lt_at y13 h14 eh14
    refine oj_aload_n 0 dX1_takeBack_48 rfl rfl ?_
    refine oj_getr (q := 34) fl_RX1_33 k_95 rfl k_34 dX1_takeBack_49 ?_
    refine oj_aload_n 0 dX1_takeBack_52 rfl rfl ?_
    refine oj_getr (q := 96) fl_RX1_20 k_95 rfl k_96 dX1_takeBack_53 ?_
    refine oj_aload_n 0 dX1_takeBack_56 rfl rfl ?_
    refine oj_aload_n 0 dX1_takeBack_57 rfl rfl ?_
    refine oj_geti fl_RX1_11 k_95 rfl dX1_takeBack_58 ?_
    refine oc_Vpi [.int (h14.1 95 0)] mi_RX1_37 ow_799 op_22 rfl k_95 (BX1_rowOf  y15) ⟨by decide, by decide⟩ ⟨Nat.le_refl _, Nat.le_refl _⟩ rfl (Nat.le_of_ble_eq_true rfl) dX1_takeBack_61 (fun r16 f18 y19 => ?_)
    refine oc_Vv [.ref 96, .int r16] mi_RX1_45 ow_856 ow_857 rfl k_34 (BX6_restore AA6_34 k_96 y19) ⟨by decide, by decide⟩ ⟨Nat.le_refl _, Nat.le_refl _⟩ rfl (Nat.le_of_ble_eq_true rfl) dX1_takeBack_64 (fun h21 y23 => ?_)
    refine oj_iconst dX1_takeBack_67 ci_1 ?_
    exact oj_ret (r := some (.int (1))) ⟨rfl, rfl, rfl, (1), rfl, y23⟩ dX1_takeBack_68 (Nat.zero_le _) (Nat.zero_le _)
  · have y3 := y.1 c1
    refine oj_iconst dX1_takeBack_7 ci_0 ?_
    exact oj_ret (r := some (.int (0))) ⟨rfl, rfl, rfl, (0), rfl, y3⟩ dX1_takeBack_8 (Nat.zero_le _) (Nat.zero_le _)
-- X11_undo
set_option maxRecDepth 100000 in
set_option maxHeartbeats 4000000 in
theorem BX11_undo    {h : ob_H} {Q : Int32 → ob_H → Prop} (y : MX11_undo   h Q) : ob_T yX11_undo cX11_undo 1 (some .boolean) (ob_rm 3) KS NN h [.ref 0] (ob_g (some .boolean) (ob_qi Q)) := by
  unfold MX11_undo at y
  refine ob_T_gf (by decide +kernel) (Nat.le_of_ble_eq_true rfl) ?_
  show ob_J RX11 cX11_undo 1 (ob_rm 3) false none 0 0 KS NN h 0 [(0, .ref 0)] [] (ob_g (some .boolean) (ob_qi Q))
  refine oj_aload_n 0 dX11_undo_0 rfl rfl ?_
  refine oj_getr (q := 95) fl_RX11_78 k_0 rfl k_95 dX11_undo_1 ?_
  refine oc_Vi [] mi_RX11_201 ow_852 ow_853 rfl k_95 (BX1_takeBack  y) ⟨by decide, by decide⟩ ⟨Nat.le_refl _, Nat.le_refl _⟩ rfl (Nat.le_of_ble_eq_true rfl) dX11_undo_4 (fun r1 f3 h2 y4 => ?_)
  exact oj_ret (r := some (.int r1)) ⟨f3, rfl, rfl, r1, rfl, y4⟩ dX11_undo_7 (Nat.zero_le _) (Nat.zero_le _)
-- X1_doAgain
set_option maxRecDepth 100000 in
set_option maxHeartbeats 4000000 in
theorem BX1_doAgain    {h : ob_H} {Q : Int32 → ob_H → Prop} (y : MX1_doAgain   h Q) : ob_T yX1_doAgain cX1_doAgain 1 (some .boolean) (ob_rm 2) KS NN h [.ref 95] (ob_g (some .boolean) (ob_qi Q)) := by
  unfold MX1_doAgain at y
  refine ob_T_gf (by decide +kernel) (Nat.le_of_ble_eq_true rfl) ?_
  show ob_J RX1 cX1_doAgain 1 (ob_rm 2) false none 0 0 KS NN h 0 [(0, .ref 95)] [] (ob_g (some .boolean) (ob_qi Q))
  refine oj_aload_n 0 dX1_doAgain_0 rfl rfl ?_
  refine oj_geti fl_RX1_15 k_95 rfl dX1_doAgain_1 ?_
  refine oj_if_ne 9 dX1_doAgain_4 rfl (fun c1 => ?_) (fun c1 => ?_)
  · have y2 := y.2 c1
    refine oj_aload_n 0 dX1_doAgain_9 rfl rfl ?_
    refine oj_dup dX1_doAgain_10 rfl ?_
    refine oj_geti fl_RX1_11 k_95 rfl dX1_doAgain_11 ?_
    refine oj_iconst dX1_doAgain_14 ci_1 ?_
    refine oj_iadd dX1_doAgain_15 ?_
    refine oj_puti fl_RX1_11 (Or.inl rfl) k_95 rfl rfl rfl dX1_doAgain_16 ?_
    refine oj_toph (fun h4 eh4 => ?_)
    have y5 := Lt_at y2 h4 eh4
    refine oj_aload_n 0 dX1_doAgain_19 rfl rfl ?_
    refine oj_dup dX1_doAgain_20 rfl ?_
    refine oj_geti fl_RX1_15 k_95 rfl dX1_doAgain_21 ?_
    refine oj_iconst dX1_doAgain_24 ci_1 ?_
    refine oj_isub dX1_doAgain_25 ?_
    refine oj_puti fl_RX1_15 (Or.inl rfl) k_95 rfl rfl rfl dX1_doAgain_26 ?_
    refine oj_toph (fun h6 eh6 => ?_)
    have y7 := Lt_at y5 h6 eh6
    refine oj_aload_n 0 dX1_doAgain_29 rfl rfl ?_
    refine oj_getr (q := 34) fl_RX1_33 k_95 rfl k_34 dX1_doAgain_30 ?_
    refine oj_aload_n 0 dX1_doAgain_33 rfl rfl ?_
    refine oj_getr (q := 96) fl_RX1_20 k_95 rfl k_96 dX1_doAgain_34 ?_
    refine oj_aload_n 0 dX1_doAgain_37 rfl rfl ?_
    refine oj_aload_n 0 dX1_doAgain_38 rfl rfl ?_
    refine oj_geti fl_RX1_11 k_95 rfl dX1_doAgain_39 ?_
    refine oc_Vpi [.int (h6.1 95 0)] mi_RX1_37 ow_799 op_22 rfl k_95 (BX1_rowOf  y7) ⟨by decide, by decide⟩ ⟨Nat.le_refl _, Nat.le_refl _⟩ rfl (Nat.le_of_ble_eq_true rfl) dX1_doAgain_42 (fun r8 f10 y11 => ?_)
    refine oc_Vv [.ref 96, .int r8] mi_RX1_45 ow_856 ow_857 rfl k_34 (BX6_restore AA6_34 k_96 y11) ⟨by decide, by decide⟩ ⟨Nat.le_refl _, Nat.le_refl _⟩ rfl (Nat.le_of_ble_eq_true rfl) dX1_doAgain_45 (fun h13 y15 => ?_)
    refine oj_iconst dX1_doAgain_48 ci_1 ?_
    exact oj_ret (r := some (.int (1))) ⟨rfl, rfl, rfl, (1), rfl, y15⟩ dX1_doAgain_49 (Nat.zero_le _) (Nat.zero_le _)
  · have y3 := y.1 c1
    refine oj_iconst dX1_doAgain_7 ci_0 ?_
    exact oj_ret (r := some (.int (0))) ⟨rfl, rfl, rfl, (0), rfl, y3⟩ dX1_doAgain_8 (Nat.zero_le _) (Nat.zero_le _)
-- X11_redo
set_option maxRecDepth 100000 in
set_option maxHeartbeats 4000000 in
theorem BX11_redo    {h : ob_H} {Q : Int32 → ob_H → Prop} (y : MX11_redo   h Q) : ob_T yX11_redo cX11_redo 1 (some .boolean) (ob_rm 3) KS NN h [.ref 0] (ob_g (some .boolean) (ob_qi Q)) := by
  unfold MX11_redo at y
  refine ob_T_gf (by decide +kernel) (Nat.le_of_ble_eq_true rfl) ?_
  show ob_J RX11 cX11_redo 1 (ob_rm 3) false none 0 0 KS NN h 0 [(0, .ref 0)] [] (ob_g (some .boolean) (ob_qi Q))
  refine oj_aload_n 0 dX11_redo_0 rfl rfl ?_
  refine oj_getr (q := 95) fl_RX11_78 k_0 rfl k_95 dX11_redo_1 ?_
  refine oc_Vi [] mi_RX11_204 ow_864 ow_865 rfl k_95 (BX1_doAgain  y) ⟨by decide, by decide⟩ ⟨Nat.le_refl _, Nat.le_refl _⟩ rfl (Nat.le_of_ble_eq_true rfl) dX11_redo_4 (fun r1 f3 h2 y4 => ?_)
  exact oj_ret (r := some (.int r1)) ⟨f3, rfl, rfl, r1, rfl, y4⟩ dX11_redo_7 (Nat.zero_le _) (Nat.zero_le _)
-- X11_next
set_option maxRecDepth 100000 in
set_option maxHeartbeats 4000000 in
theorem BX11_next    {h : ob_H} {Q : Int32 → ob_H → Prop} (y : MX11_next   h Q) : ob_T yX11_next cX11_next 1 (some .int) (ob_rm 4) KS NN h [.ref 0] (ob_g (some .int) (ob_qi Q)) := by
  unfold MX11_next at y
  refine ob_T_gf (by decide +kernel) (Nat.le_of_ble_eq_true rfl) ?_
  show ob_J RX11 cX11_next 1 (ob_rm 4) false none 0 0 KS NN h 0 [(0, .ref 0)] [] (ob_g (some .int) (ob_qi Q))
  refine oj_aload_n 0 dX11_next_0 rfl rfl ?_
  refine oj_getr (q := 34) fl_RX11_37 k_0 rfl k_34 dX11_next_1 ?_
  refine oc_Vi [] mi_RX11_177 ow_789 ow_790 rfl k_34 (BX6_turn AA6_34 y) ⟨by decide, by decide⟩ ⟨Nat.le_refl _, Nat.le_refl _⟩ rfl (Nat.le_of_ble_eq_true rfl) dX11_next_4 (fun r1 f3 h2 y4 => ?_)
  exact oj_ret (r := some (.int r1)) ⟨trivial, rfl, rfl, r1, rfl, y4⟩ dX11_next_7 (Nat.zero_le _) (Nat.zero_le _)
-- X6_copy
set_option maxRecDepth 100000 in
set_option maxHeartbeats 4000000 in
theorem BX6_copy  {o : Nat} {p1 : Nat} (hA : A6 o) (hp1 : A6 p1) {h : ob_H} {Q : ob_H → Prop} (y : MX6_copy  o p1 h Q) : ob_T yX6_copy cX6_copy 2 none (ob_rm 1) KS NN h [.ref o, .ref p1] (ob_g none (ob_qv Q)) := by
  unfold MX6_copy at y
  refine ob_T_gf (by decide +kernel) (Nat.le_of_ble_eq_true rfl) ?_
  show ob_J RX6 cX6_copy 2 (ob_rm 1) false none 0 0 KS NN h 0 [(0, .ref o), (1, .ref p1)] [] (ob_g none (ob_qv Q))
  refine oj_aload_n 1 dX6_copy_0 rfl rfl ?_
  refine oj_getr (q := (p1 + 1)) fl_RX6_13 (A6_0 hp1) rfl (A6_1 hp1) dX6_copy_1 ?_
  refine oj_iconst dX6_copy_4 ci_0 ?_
  refine oj_aload_n 0 dX6_copy_5 rfl rfl ?_
  refine oj_getr (q := (o + 1)) fl_RX6_13 (A6_0 hA) rfl (A6_1 hA) dX6_copy_6 ?_
  refine oj_iconst dX6_copy_9 ci_0 ?_
  refine oj_bipush dX6_copy_10 cb_7 ?_
  refine oj_copy (A6_1 hp1) (A6_1 hA) ow_805 ow_715 ow_714 ow_19 nn_0 nn_0 nn_7 ix_0 ix_0 ix_7 (by decide) (by decide) (by decide) (by decide) (Nat.le_of_ble_eq_true rfl) dX6_copy_12 ?_
  refine oj_toph (fun h1 eh1 => ?_)
  have y2 := Lt_at y h1 eh1
  refine oj_aload_n 1 dX6_copy_15 rfl rfl ?_
  refine oj_getr (q := (p1 + 2)) fl_RX6_17 (A6_0 hp1) rfl (A6_2 hp1) dX6_copy_16 ?_
  refine oj_iconst dX6_copy_19 ci_0 ?_
  refine oj_aload_n 0 dX6_copy_20 rfl rfl ?_
  refine oj_getr (q := (o + 2)) fl_RX6_17 (A6_0 hA) rfl (A6_2 hA) dX6_copy_21 ?_
  refine oj_iconst dX6_copy_24 ci_0 ?_
  refine oj_bipush dX6_copy_25 cb_7 ?_
  refine oj_copy (A6_2 hp1) (A6_2 hA) ow_805 ow_715 ow_714 ow_19 nn_0 nn_0 nn_7 ix_0 ix_0 ix_7 (by decide) (by decide) (by decide) (by decide) (Nat.le_of_ble_eq_true rfl) dX6_copy_27 ?_
  refine oj_toph (fun h3 eh3 => ?_)
  have y4 := Lt_at y2 h3 eh3
  refine oj_aload_n 1 dX6_copy_30 rfl rfl ?_
  refine oj_getr (q := (p1 + 3)) fl_RX6_20 (A6_0 hp1) rfl (A6_3 hp1) dX6_copy_31 ?_
  refine oj_iconst dX6_copy_34 ci_0 ?_
  refine oj_aload_n 0 dX6_copy_35 rfl rfl ?_
  refine oj_getr (q := (o + 3)) fl_RX6_20 (A6_0 hA) rfl (A6_3 hA) dX6_copy_36 ?_
  refine oj_iconst dX6_copy_39 ci_0 ?_
  refine oj_bipush dX6_copy_40 cb_7 ?_
  refine oj_copy (A6_3 hp1) (A6_3 hA) ow_805 ow_715 ow_714 ow_19 nn_0 nn_0 nn_7 ix_0 ix_0 ix_7 (by decide) (by decide) (by decide) (by decide) (Nat.le_of_ble_eq_true rfl) dX6_copy_42 ?_
  refine oj_toph (fun h5 eh5 => ?_)
  have y6 := Lt_at y4 h5 eh5
  refine oj_aload_n 0 dX6_copy_45 rfl rfl ?_
  refine oj_aload_n 1 dX6_copy_46 rfl rfl ?_
  refine oj_geti fl_RX6_23 (A6_0 hp1) rfl dX6_copy_47 ?_
  refine oj_puti fl_RX6_23 (Or.inl rfl) (A6_0 hA) rfl rfl rfl dX6_copy_50 ?_
  refine oj_toph (fun h7 eh7 => ?_)
  have y8 := Lt_at y6 h7 eh7
  refine oj_aload_n 0 dX6_copy_53 rfl rfl ?_
  refine oj_aload_n 1 dX6_copy_54 rfl rfl ?_
  refine oj_geti fl_RX6_27 (A6_0 hp1) rfl dX6_copy_55 ?_
  refine oj_puti fl_RX6_27 (Or.inl rfl) (A6_0 hA) rfl rfl rfl dX6_copy_58 ?_
  refine oj_toph (fun h9 eh9 => ?_)
  have y10 := Lt_at y8 h9 eh9
  refine oj_aload_n 0 dX6_copy_61 rfl rfl ?_
  refine oj_aload_n 1 dX6_copy_62 rfl rfl ?_
  refine oj_geti fl_RX6_30 (A6_0 hp1) rfl dX6_copy_63 ?_
  refine oj_puti fl_RX6_30 (Or.inl rfl) (A6_0 hA) rfl rfl rfl dX6_copy_66 ?_
  refine oj_toph (fun h11 eh11 => ?_)
  have y12 := Lt_at y10 h11 eh11
  exact oj_ret (r := none) ⟨trivial, rfl, rfl, rfl, y12⟩ dX6_copy_69 (Nat.zero_le _) (Nat.zero_le _)
-- X11_queue
set_option maxRecDepth 100000 in
set_option maxHeartbeats 4000000 in
theorem BLX11_queue_23 {Q : Int32 → ob_H → Prop} :
    ∀ (n : Nat) (x2 : Int32) (h : ob_H), it2 (FX11_queue_23 Q) n x2 h → ob_J RX11 cX11_queue 4 (ob_rm 4) false none 0 0 KS NN h 23 [(0, .ref 0), (1, .ref 42), (2, .int x2)] [] (ob_g (some .int) (ob_qi Q)) := by
  intro n
  induction n with
  | zero => intro x2 h y; exact False.elim y
  | succ n hk23 =>
    intro x2 h y
    have y : FX11_queue_23 Q (it2 (FX11_queue_23 Q) n) x2 h := y
    unfold FX11_queue_23 at y
    refine oj_iload_n 2 dX11_queue_23 rfl rfl ?_
    refine oj_bipush dX11_queue_24 cb_7 ?_
    refine oj_icmp_ge 72 dX11_queue_26 rfl (fun c7 => ?_) (fun c7 => ?_)
    · have y8 := y.1 c7
      refine oj_aload_n 0 dX11_queue_72 rfl rfl ?_
      refine oj_geti fl_RX11_95 k_0 rfl dX11_queue_73 ?_
      exact oj_ret (r := some (.int (h.1 0 11))) ⟨trivial, rfl, rfl, (h.1 0 11), rfl, y8⟩ dX11_queue_76 (Nat.zero_le _) (Nat.zero_le _)
    · have y9 := y.2 c7
      refine oj_aload_n 1 dX11_queue_29 rfl rfl ?_
      refine oc_Vi [] mi_RX11_177 ow_789 ow_790 rfl k_42 (BX6_turn AA6_42 y9) ⟨by decide, by decide⟩ ⟨Nat.le_refl _, Nat.le_refl _⟩ rfl (Nat.le_of_ble_eq_true rfl) dX11_queue_30 (fun r10 f12 h11 y13 => ?_)
      refine oj_istore_n (lv' := [(3, .int r10), (0, .ref 0), (1, .ref 42), (2, .int x2)]) dX11_queue_33 rfl (by decide) rfl ?_
      refine oj_iload_n 0 dX11_queue_34 rfl rfl ?_
      refine oj_if_ge 43 dX11_queue_35 rfl (fun c14 => ?_) (fun c14 => ?_)
      · have y15 := y13.1 c14
        refine oj_aload_n 1 dX11_queue_43 rfl rfl ?_
        refine oj_getr (q := 107) fl_RX11_91 k_0 rfl k_107 dX11_queue_44 ?_
        refine oj_iload_n 3 dX11_queue_47 rfl rfl ?_
        refine oj_iload_n 0 dX11_queue_48 rfl rfl ?_
        obtain ⟨c17, y18⟩ := y15
        refine oj_iast k_107 c17 rfl dX11_queue_49 ?_
        refine oj_toph (fun h19 eh19 => ?_)
        have y20 := Lt_at y18 h19 eh19
        refine oj_aload_n 1 dX11_queue_50 rfl rfl ?_
        refine oj_iload_n 3 dX11_queue_51 rfl rfl ?_
        refine oj_iconst dX11_queue_52 ci_1 ?_
        refine oj_iadd dX11_queue_53 ?_
        refine oj_puti fl_RX11_95 (Or.inl rfl) k_0 rfl rfl rfl dX11_queue_54 ?_
        refine oj_toph (fun h21 eh21 => ?_)
        have y22 := Lt_at y20 h21 eh21
        refine oj_aload_n 2 dX11_queue_57 rfl rfl ?_
        refine oj_iconst dX11_queue_58 ci_1 ?_
        refine oj_iload_n 0 dX11_queue_59 rfl rfl ?_
        refine oj_ishl dX11_queue_60 ?_
        refine oj_iconst dX11_queue_61 ci_0 ?_
        refine oj_iconst dX11_queue_62 ci_5 ?_
        refine oc_Vv [.int ((1) <<< (r10 &&& 31)), .int (0), .int (5)] mi_RX11_190 ow_819 ow_820 rfl k_42 (BX6_move AA6_42 y22) ⟨by decide, by decide⟩ ⟨Nat.le_refl _, Nat.le_refl _⟩ rfl (Nat.le_of_ble_eq_true rfl) dX11_queue_63 (fun h24 y26 => ?_)
        obtain ⟨v27, ev27⟩ : ∃ z : Int32, z = x2 + (1) := ⟨_, rfl⟩
        have y28 := Lt_at y26 v27 ev27
        refine oj_iinc (v := v27) (lv' := [(2, .int v27), (3, .int r10), (0, .ref 0), (1, .ref 42)]) 3 dX11_queue_66 rfl (iinc_e ci_1 ev27) (by decide) rfl ?_
        refine oj_goto 23 dX11_queue_69 rfl ?_
        refine oj_lv [2, 3, 0] rfl ?_
        exact hk23 _ _ y28
      · have y16 := y13.2 c14
        refine oj_aload_n 1 dX11_queue_38 rfl rfl ?_
        refine oj_geti fl_RX11_95 k_0 rfl dX11_queue_39 ?_
        exact oj_ret (r := some (.int (h11.1 0 11))) ⟨trivial, rfl, rfl, (h11.1 0 11), rfl, y16⟩ dX11_queue_42 (Nat.zero_le _) (Nat.zero_le _)
set_option maxRecDepth 100000 in
set_option maxHeartbeats 4000000 in
theorem BX11_queue    {h : ob_H} {Q : Int32 → ob_H → Prop} (y : MX11_queue   h Q) : ob_T yX11_queue cX11_queue 4 (some .int) (ob_rm 4) KS NN h [.ref 0] (ob_g (some .int) (ob_qi Q)) := by
  unfold MX11_queue at y
  refine ob_T_gf (by decide +kernel) (Nat.le_of_ble_eq_true rfl) ?_
  show ob_J RX11 cX11_queue 4 (ob_rm 4) false none 0 0 KS NN h 0 [(0, .ref 0)] [] (ob_g (some .int) (ob_qi Q))
  refine oj_aload_n 0 dX11_queue_0 rfl rfl ?_
  refine oj_getr (q := 39) fl_RX11_44 k_0 rfl k_39 dX11_queue_1 ?_
  refine oj_getr (q := 42) fl_RX11_207 k_39 rfl k_42 dX11_queue_4 ?_
  refine oj_astore_n (lv' := [(1, .ref 42), (0, .ref 0)]) dX11_queue_7 rfl (by decide) rfl ?_
  refine oj_aload_n 0 dX11_queue_8 rfl rfl ?_
  refine oj_aload_n 1 dX11_queue_9 rfl rfl ?_
  refine oj_getr (q := 34) fl_RX11_37 k_0 rfl k_34 dX11_queue_10 ?_
  refine oc_Vv [.ref 34] mi_RX11_210 ow_876 ow_877 rfl k_42 (BX6_copy AA6_42 AA6_34 y) ⟨by decide, by decide⟩ ⟨Nat.le_refl _, Nat.le_refl _⟩ rfl (Nat.le_of_ble_eq_true rfl) dX11_queue_13 (fun h2 y4 => ?_)
  refine oj_aload_n 1 dX11_queue_16 rfl rfl ?_
  refine oj_iconst dX11_queue_17 ci_0 ?_
  refine oj_puti fl_RX11_95 (Or.inl rfl) k_0 rfl rfl rfl dX11_queue_18 ?_
  refine oj_toph (fun h5 eh5 => ?_)
  have y6 := Lt_at y4 h5 eh5
  refine oj_iconst dX11_queue_21 ci_0 ?_
  refine oj_istore_n (lv' := [(2, .int (0)), (1, .ref 42), (0, .ref 0)]) dX11_queue_22 rfl (by decide) rfl ?_
  refine oj_lv [2, 1, 0] rfl ?_
  obtain ⟨n, y29⟩ := y6
  exact BLX11_queue_23  n _ _ y29
-- X3_follow
set_option maxRecDepth 100000 in
set_option maxHeartbeats 4000000 in
theorem BLX3_follow_7 {Q : Int32 → ob_H → Prop} :
    ∀ (n : Nat) (x1 : Int32) (h : ob_H), it2 (FX3_follow_7 Q) n x1 h → ob_J RX3 cX3_follow 3 (ob_rm 4) false none 0 0 KS NN h 7 [(0, .ref 39), (1, .int x1)] [] (ob_g (some .int) (ob_qi Q)) := by
  intro n
  induction n with
  | zero => intro x1 h y; exact False.elim y
  | succ n hk7 =>
    intro x1 h y
    have y : FX3_follow_7 Q (it2 (FX3_follow_7 Q) n) x1 h := y
    unfold FX3_follow_7 at y
    refine oj_iload_n 1 dX3_follow_7 rfl rfl ?_
    refine oj_bipush dX3_follow_8 cb_7 ?_
    refine oj_icmp_ge 75 dX3_follow_10 rfl (fun c3 => ?_) (fun c3 => ?_)
    · have y4 := y.1 c3
      refine oj_aload_n 0 dX3_follow_75 rfl rfl ?_
      refine oj_getr (q := 42) fl_RX3_27 k_39 rfl k_42 dX3_follow_76 ?_
      refine oj_geti fl_RX3_42 k_42 rfl dX3_follow_79 ?_
      exact oj_ret (r := some (.int (h.1 42 3))) ⟨trivial, rfl, rfl, (h.1 42 3), rfl, y4⟩ dX3_follow_82 (Nat.zero_le _) (Nat.zero_le _)
    · have y5 := y.2 c3
      refine oj_aload_n 0 dX3_follow_13 rfl rfl ?_
      refine oj_getr (q := 42) fl_RX3_27 k_39 rfl k_42 dX3_follow_14 ?_
      refine oc_Vi [] mi_RX3_39 ow_789 ow_790 rfl k_42 (BX6_turn AA6_42 y5) ⟨by decide, by decide⟩ ⟨Nat.le_refl _, Nat.le_refl _⟩ rfl (Nat.le_of_ble_eq_true rfl) dX3_follow_17 (fun r6 f8 h7 y9 => ?_)
      refine oj_istore_n (lv' := [(2, .int r6), (0, .ref 39), (1, .int x1)]) dX3_follow_20 rfl (by decide) rfl ?_
      refine oj_iload_n 0 dX3_follow_21 rfl rfl ?_
      refine oj_if_ge 33 dX3_follow_22 rfl (fun c10 => ?_) (fun c10 => ?_)
      · have y11 := y9.1 c10
        refine oj_aload_n 1 dX3_follow_33 rfl rfl ?_
        refine oj_getr (q := 40) fl_RX3_9 k_39 rfl k_40 dX3_follow_34 ?_
        refine oj_iload_n 2 dX3_follow_37 rfl rfl ?_
        refine oj_iload_n 0 dX3_follow_38 rfl rfl ?_
        obtain ⟨c13, y14⟩ := y11
        refine oj_iast k_40 c13 rfl dX3_follow_39 ?_
        refine oj_toph (fun h15 eh15 => ?_)
        have y16 := Lt_at y14 h15 eh15
        refine oj_aload_n 1 dX3_follow_40 rfl rfl ?_
        refine oj_getr (q := 41) fl_RX3_15 k_39 rfl k_41 dX3_follow_41 ?_
        refine oj_iload_n 2 dX3_follow_44 rfl rfl ?_
        refine oj_aload_n 1 dX3_follow_45 rfl rfl ?_
        refine oj_getr (q := 42) fl_RX3_27 k_39 rfl k_42 dX3_follow_46 ?_
        refine oj_geti fl_RX3_42 k_42 rfl dX3_follow_49 ?_
        refine oj_iast k_41 c13 rfl dX3_follow_52 ?_
        refine oj_toph (fun h17 eh17 => ?_)
        have y18 := Lt_at y16 h17 eh17
        refine oj_aload_n 1 dX3_follow_53 rfl rfl ?_
        refine oj_iload_n 2 dX3_follow_54 rfl rfl ?_
        refine oj_iconst dX3_follow_55 ci_1 ?_
        refine oj_iadd dX3_follow_56 ?_
        refine oj_puti fl_RX3_18 (Or.inl rfl) k_39 rfl rfl rfl dX3_follow_57 ?_
        refine oj_toph (fun h19 eh19 => ?_)
        have y20 := Lt_at y18 h19 eh19
        refine oj_aload_n 1 dX3_follow_60 rfl rfl ?_
        refine oj_getr (q := 42) fl_RX3_27 k_39 rfl k_42 dX3_follow_61 ?_
        refine oj_iload_n 0 dX3_follow_64 rfl rfl ?_
        refine oj_iconst dX3_follow_65 ci_1 ?_
        refine oc_Vv [.int r6, .int (1)] mi_RX3_45 ow_815 ow_816 rfl k_42 (BX6_hearAs AA6_42 y20) ⟨by decide, by decide⟩ ⟨Nat.le_refl _, Nat.le_refl _⟩ rfl (Nat.le_of_ble_eq_true rfl) dX3_follow_66 (fun h22 y24 => ?_)
        obtain ⟨v25, ev25⟩ : ∃ z : Int32, z = x1 + (1) := ⟨_, rfl⟩
        have y26 := Lt_at y24 v25 ev25
        refine oj_iinc (v := v25) (lv' := [(1, .int v25), (2, .int r6), (0, .ref 39)]) 2 dX3_follow_69 rfl (iinc_e ci_1 ev25) (by decide) rfl ?_
        refine oj_goto 7 dX3_follow_72 rfl ?_
        refine oj_lv [2, 0] rfl ?_
        exact hk7 _ _ y26
      · have y12 := y9.2 c10
        refine oj_aload_n 1 dX3_follow_25 rfl rfl ?_
        refine oj_getr (q := 42) fl_RX3_27 k_39 rfl k_42 dX3_follow_26 ?_
        refine oj_geti fl_RX3_42 k_42 rfl dX3_follow_29 ?_
        exact oj_ret (r := some (.int (h7.1 42 3))) ⟨trivial, rfl, rfl, (h7.1 42 3), rfl, y12⟩ dX3_follow_32 (Nat.zero_le _) (Nat.zero_le _)
set_option maxRecDepth 100000 in
set_option maxHeartbeats 4000000 in
theorem BX3_follow    {h : ob_H} {Q : Int32 → ob_H → Prop} (y : MX3_follow   h Q) : ob_T yX3_follow cX3_follow 3 (some .int) (ob_rm 4) KS NN h [.ref 39] (ob_g (some .int) (ob_qi Q)) := by
  unfold MX3_follow at y
  refine ob_T_gf (by decide +kernel) (Nat.le_of_ble_eq_true rfl) ?_
  show ob_J RX3 cX3_follow 3 (ob_rm 4) false none 0 0 KS NN h 0 [(0, .ref 39)] [] (ob_g (some .int) (ob_qi Q))
  refine oj_aload_n 0 dX3_follow_0 rfl rfl ?_
  refine oj_iconst dX3_follow_1 ci_0 ?_
  refine oj_puti fl_RX3_18 (Or.inl rfl) k_39 rfl rfl rfl dX3_follow_2 ?_
  refine oj_toph (fun h1 eh1 => ?_)
  have y2 := Lt_at y h1 eh1
  refine oj_iconst dX3_follow_5 ci_0 ?_
  refine oj_istore_n (lv' := [(1, .int (0)), (0, .ref 39)]) dX3_follow_6 rfl (by decide) rfl ?_
  refine oj_lv [1, 0] rfl ?_
  obtain ⟨n, y27⟩ := y2
  exact BLX3_follow_7  n _ _ y27
-- X3_goOn
set_option maxRecDepth 100000 in
set_option maxHeartbeats 4000000 in
theorem BX3_goOn  {p1 : Nat} (hp1 : A6 p1) {h : ob_H} {Q : Int32 → ob_H → Prop} (y : MX3_goOn  p1 h Q) : ob_T yX3_goOn cX3_goOn 2 (some .int) (ob_rm 5) KS NN h [.ref 39, .ref p1] (ob_g (some .int) (ob_qi Q)) := by
  unfold MX3_goOn at y
  refine ob_T_gf (by decide +kernel) (Nat.le_of_ble_eq_true rfl) ?_
  show ob_J RX3 cX3_goOn 2 (ob_rm 5) false none 0 0 KS NN h 0 [(0, .ref 39), (1, .ref p1)] [] (ob_g (some .int) (ob_qi Q))
  refine oj_aload_n 0 dX3_goOn_0 rfl rfl ?_
  refine oj_getr (q := 42) fl_RX3_27 k_39 rfl k_42 dX3_goOn_1 ?_
  refine oj_aload_n 1 dX3_goOn_4 rfl rfl ?_
  refine oc_Vv [.ref p1] mi_RX3_31 ow_876 ow_877 rfl k_42 (BX6_copy AA6_42 hp1 y) ⟨by decide, by decide⟩ ⟨Nat.le_refl _, Nat.le_refl _⟩ rfl (Nat.le_of_ble_eq_true rfl) dX3_goOn_5 (fun h2 y4 => ?_)
  refine oj_aload_n 0 dX3_goOn_8 rfl rfl ?_
  refine oc_Vi [] mi_RX3_35 ow_889 ow_890 rfl k_39 (BX3_follow  y4) ⟨by decide, by decide⟩ ⟨Nat.le_refl _, Nat.le_refl _⟩ rfl (Nat.le_of_ble_eq_true rfl) dX3_goOn_9 (fun r5 f7 h6 y8 => ?_)
  exact oj_ret (r := some (.int r5)) ⟨trivial, rfl, rfl, r5, rfl, y8⟩ dX3_goOn_12 (Nat.zero_le _) (Nat.zero_le _)
-- X11_dusk
set_option maxRecDepth 100000 in
set_option maxHeartbeats 4000000 in
theorem BX11_dusk    {h : ob_H} {Q : Int32 → ob_H → Prop} (y : MX11_dusk   h Q) : ob_T yX11_dusk cX11_dusk 1 (some .int) (ob_rm 6) KS NN h [.ref 0] (ob_g (some .int) (ob_qi Q)) := by
  unfold MX11_dusk at y
  refine ob_T_gf (by decide +kernel) (Nat.le_of_ble_eq_true rfl) ?_
  show ob_J RX11 cX11_dusk 1 (ob_rm 6) false none 0 0 KS NN h 0 [(0, .ref 0)] [] (ob_g (some .int) (ob_qi Q))
  refine oj_aload_n 0 dX11_dusk_0 rfl rfl ?_
  refine oj_getr (q := 39) fl_RX11_44 k_0 rfl k_39 dX11_dusk_1 ?_
  refine oj_aload_n 0 dX11_dusk_4 rfl rfl ?_
  refine oj_getr (q := 34) fl_RX11_37 k_0 rfl k_34 dX11_dusk_5 ?_
  refine oc_Vi [.ref 34] mi_RX11_212 ow_884 ow_885 rfl k_39 (BX3_goOn AA6_34 y) ⟨by decide, by decide⟩ ⟨Nat.le_refl _, Nat.le_refl _⟩ rfl (Nat.le_of_ble_eq_true rfl) dX11_dusk_8 (fun r1 f3 h2 y4 => ?_)
  exact oj_ret (r := some (.int r1)) ⟨trivial, rfl, rfl, r1, rfl, y4⟩ dX11_dusk_11 (Nat.zero_le _) (Nat.zero_le _)
-- X11_when
set_option maxRecDepth 100000 in
set_option maxHeartbeats 4000000 in
theorem BLX11_when_14 {x1 : Int32} {h : ob_H} {Q : Int32 → ob_H → Prop} :
    ∀ (n : Nat) (x2 : Int32), it1 (FX11_when_14 x1 h Q) n x2 → ob_J RX11 cX11_when 3 (ob_rm 6) false none 0 0 KS NN h 14 [(0, .ref 0), (1, .int x1), (2, .int x2)] [] (ob_g (some .int) (ob_qi Q)) := by
  intro n
  induction n with
  | zero => intro x2 y; exact False.elim y
  | succ n hk14 =>
    intro x2 y
    have y : FX11_when_14 x1 h Q (it1 (FX11_when_14 x1 h Q) n) x2 := y
    unfold FX11_when_14 at y
    refine oj_iload_n 2 dX11_when_14 rfl rfl ?_
    refine oj_aload_n 0 dX11_when_15 rfl rfl ?_
    refine oj_getr (q := 39) fl_RX11_44 k_0 rfl k_39 dX11_when_16 ?_
    refine oj_geti fl_RX11_216 k_39 rfl dX11_when_19 ?_
    refine oj_icmp_ge 54 dX11_when_22 rfl (fun c5 => ?_) (fun c5 => ?_)
    · have y6 := y.1 c5
      refine oj_iconst dX11_when_54 ci_m1 ?_
      exact oj_ret (r := some (.int (-1))) ⟨trivial, rfl, rfl, (-1), rfl, y6⟩ dX11_when_55 (Nat.zero_le _) (Nat.zero_le _)
    · have y7 := y.2 c5
      refine oj_aload_n 0 dX11_when_25 rfl rfl ?_
      refine oj_getr (q := 39) fl_RX11_44 k_0 rfl k_39 dX11_when_26 ?_
      refine oj_getr (q := 40) fl_RX11_217 k_39 rfl k_40 dX11_when_29 ?_
      refine oj_iload_n 2 dX11_when_32 rfl rfl ?_
      obtain ⟨c8, y9⟩ := y7
      refine oj_iald k_40 c8 rfl dX11_when_33 ?_
      refine oj_iload_n 1 dX11_when_34 rfl rfl ?_
      refine oj_icmp_ne 48 dX11_when_35 rfl (fun c10 => ?_) (fun c10 => ?_)
      · have y11 := y9.2 c10
        obtain ⟨v13, ev13⟩ : ∃ z : Int32, z = x2 + (1) := ⟨_, rfl⟩
        have y14 := Lt_at y11 v13 ev13
        refine oj_iinc (v := v13) (lv' := [(2, .int v13), (0, .ref 0), (1, .int x1)]) 2 dX11_when_48 rfl (iinc_e ci_1 ev13) (by decide) rfl ?_
        refine oj_goto 14 dX11_when_51 rfl ?_
        refine oj_lv [1, 2, 0] rfl ?_
        exact hk14 _ y14
      · have y12 := y9.1 c10
        refine oj_aload_n 0 dX11_when_38 rfl rfl ?_
        refine oj_getr (q := 39) fl_RX11_44 k_0 rfl k_39 dX11_when_39 ?_
        refine oj_getr (q := 41) fl_RX11_220 k_39 rfl k_41 dX11_when_42 ?_
        refine oj_iload_n 2 dX11_when_45 rfl rfl ?_
        refine oj_iald k_41 c8 rfl dX11_when_46 ?_
        exact oj_ret (r := some (.int (h.1 41 (ix x2)))) ⟨trivial, rfl, rfl, (h.1 41 (ix x2)), rfl, y12⟩ dX11_when_47 (Nat.zero_le _) (Nat.zero_le _)
set_option maxRecDepth 100000 in
set_option maxHeartbeats 4000000 in
theorem BX11_when  {p1 : Int32}  {h : ob_H} {Q : Int32 → ob_H → Prop} (y : MX11_when  p1 h Q) : ob_T yX11_when cX11_when 3 (some .int) (ob_rm 6) KS NN h [.ref 0, .int p1] (ob_g (some .int) (ob_qi Q)) := by
  unfold MX11_when at y
  refine ob_T_gf (by decide +kernel) (Nat.le_of_ble_eq_true rfl) ?_
  show ob_J RX11 cX11_when 3 (ob_rm 6) false none 0 0 KS NN h 0 [(0, .ref 0), (1, .int p1)] [] (ob_g (some .int) (ob_qi Q))
  refine oj_aload_n 0 dX11_when_0 rfl rfl ?_
  refine oj_getr (q := 39) fl_RX11_44 k_0 rfl k_39 dX11_when_1 ?_
  refine oj_aload_n 0 dX11_when_4 rfl rfl ?_
  refine oj_getr (q := 34) fl_RX11_37 k_0 rfl k_34 dX11_when_5 ?_
  refine oc_Vi [.ref 34] mi_RX11_212 ow_884 ow_885 rfl k_39 (BX3_goOn AA6_34 y) ⟨by decide, by decide⟩ ⟨Nat.le_refl _, Nat.le_refl _⟩ rfl (Nat.le_of_ble_eq_true rfl) dX11_when_8 (fun r1 f3 h2 y4 => ?_)
  refine oj_pop dX11_when_11 rfl ?_
  refine oj_iconst dX11_when_12 ci_0 ?_
  refine oj_istore_n (lv' := [(2, .int (0)), (0, .ref 0), (1, .int p1)]) dX11_when_13 rfl (by decide) rfl ?_
  refine oj_lv [1, 2, 0] rfl ?_
  obtain ⟨n, y15⟩ := y4
  exact BLX11_when_14  n _ y15
-- X11_lay
set_option maxRecDepth 100000 in
set_option maxHeartbeats 4000000 in
theorem BX11_lay  {p1 : Nat} {p2 : Int32} (hp1 : ob_is KS NN p1 (0, [7])) {h : ob_H} {Q : ob_H → Prop} (y : MX11_lay  p1 p2 h Q) : ob_T yX11_lay cX11_lay 3 none (ob_rm 1) KS NN h [.ref 0, .ref p1, .int p2] (ob_g none (ob_qv Q)) := by
  unfold MX11_lay at y
  refine ob_T_gf (by decide +kernel) (Nat.le_of_ble_eq_true rfl) ?_
  show ob_J RX11 cX11_lay 3 (ob_rm 1) false none 0 0 KS NN h 0 [(0, .ref 0), (1, .ref p1), (2, .int p2)] [] (ob_g none (ob_qv Q))
  refine oj_aload_n 0 dX11_lay_0 rfl rfl ?_
  refine oj_iload_n 2 dX11_lay_1 rfl rfl ?_
  refine oj_puti fl_RX11_95 (Or.inl rfl) k_0 rfl rfl rfl dX11_lay_2 ?_
  refine oj_toph (fun h1 eh1 => ?_)
  have y2 := Lt_at y h1 eh1
  refine oj_aload_n 1 dX11_lay_5 rfl rfl ?_
  refine oj_iconst dX11_lay_6 ci_0 ?_
  refine oj_aload_n 0 dX11_lay_7 rfl rfl ?_
  refine oj_getr (q := 107) fl_RX11_91 k_0 rfl k_107 dX11_lay_8 ?_
  refine oj_iconst dX11_lay_11 ci_0 ?_
  refine oj_iload_n 2 dX11_lay_12 rfl rfl ?_
  obtain ⟨c3, y4⟩ := y2
  obtain ⟨c5, y6⟩ := y4
  obtain ⟨c7, y8⟩ := y6
  refine oj_copy hp1 k_107 ow_906 ow_715 ow_714 ow_19 nn_0 nn_0 c3 ix_0 ix_0 rfl c5 c7 (by decide) (by decide) (Nat.le_of_ble_eq_true rfl) dX11_lay_13 ?_
  refine oj_toph (fun h9 eh9 => ?_)
  have y10 := Lt_at y8 h9 eh9
  exact oj_ret (r := none) ⟨trivial, rfl, rfl, rfl, y10⟩ dX11_lay_16 (Nat.zero_le _) (Nat.zero_le _)
-- X11_course
set_option maxRecDepth 100000 in
set_option maxHeartbeats 4000000 in
theorem BX11_course    {h : ob_H} {Q : Int32 → ob_H → Prop} (y : MX11_course   h Q) : ob_T yX11_course cX11_course 1 (some .int) (ob_rm 6) KS NN h [.ref 0] (ob_g (some .int) (ob_qi Q)) := by
  unfold MX11_course at y
  refine ob_T_gf (by decide +kernel) (Nat.le_of_ble_eq_true rfl) ?_
  show ob_J RX11 cX11_course 1 (ob_rm 6) false none 0 0 KS NN h 0 [(0, .ref 0)] [] (ob_g (some .int) (ob_qi Q))
  refine oj_aload_n 0 dX11_course_0 rfl rfl ?_
  refine oj_getr (q := 39) fl_RX11_44 k_0 rfl k_39 dX11_course_1 ?_
  refine oj_aload_n 0 dX11_course_4 rfl rfl ?_
  refine oj_getr (q := 34) fl_RX11_37 k_0 rfl k_34 dX11_course_5 ?_
  refine oc_Vi [.ref 34] mi_RX11_212 ow_884 ow_885 rfl k_39 (BX3_goOn AA6_34 y) ⟨by decide, by decide⟩ ⟨Nat.le_refl _, Nat.le_refl _⟩ rfl (Nat.le_of_ble_eq_true rfl) dX11_course_8 (fun r1 f3 h2 y4 => ?_)
  refine oj_pop dX11_course_11 rfl ?_
  refine oj_aload_n 0 dX11_course_12 rfl rfl ?_
  refine oj_aload_n 0 dX11_course_13 rfl rfl ?_
  refine oj_getr (q := 39) fl_RX11_44 k_0 rfl k_39 dX11_course_14 ?_
  refine oj_getr (q := 40) fl_RX11_217 k_39 rfl k_40 dX11_course_17 ?_
  refine oj_aload_n 0 dX11_course_20 rfl rfl ?_
  refine oj_getr (q := 39) fl_RX11_44 k_0 rfl k_39 dX11_course_21 ?_
  refine oj_geti fl_RX11_216 k_39 rfl dX11_course_24 ?_
  refine oc_Vv [.ref 40, .int (h2.1 39 3)] mi_RX11_223 ow_904 op_24 rfl k_0 (BX11_lay k_40 y4) ⟨by decide, by decide⟩ ⟨Nat.le_refl _, Nat.le_refl _⟩ rfl (Nat.le_of_ble_eq_true rfl) dX11_course_27 (fun h6 y8 => ?_)
  refine oj_aload_n 0 dX11_course_30 rfl rfl ?_
  refine oj_geti fl_RX11_95 k_0 rfl dX11_course_31 ?_
  exact oj_ret (r := some (.int (h6.1 0 11))) ⟨trivial, rfl, rfl, (h6.1 0 11), rfl, y8⟩ dX11_course_34 (Nat.zero_le _) (Nat.zero_le _)
-- X11_leavers
set_option maxRecDepth 100000 in
set_option maxHeartbeats 4000000 in
theorem BX11_leavers    {h : ob_H} {Q : Int32 → ob_H → Prop} (y : MX11_leavers   h Q) : ob_T yX11_leavers cX11_leavers 1 (some .int) (ob_rm 6) KS NN h [.ref 0] (ob_g (some .int) (ob_qi Q)) := by
  unfold MX11_leavers at y
  refine ob_T_gf (by decide +kernel) (Nat.le_of_ble_eq_true rfl) ?_
  show ob_J RX11 cX11_leavers 1 (ob_rm 6) false none 0 0 KS NN h 0 [(0, .ref 0)] [] (ob_g (some .int) (ob_qi Q))
  refine oj_aload_n 0 dX11_leavers_0 rfl rfl ?_
  refine oj_getr (q := 39) fl_RX11_44 k_0 rfl k_39 dX11_leavers_1 ?_
  refine oj_aload_n 0 dX11_leavers_4 rfl rfl ?_
  refine oj_getr (q := 34) fl_RX11_37 k_0 rfl k_34 dX11_leavers_5 ?_
  refine oc_Vi [.ref 34] mi_RX11_212 ow_884 ow_885 rfl k_39 (BX3_goOn AA6_34 y) ⟨by decide, by decide⟩ ⟨Nat.le_refl _, Nat.le_refl _⟩ rfl (Nat.le_of_ble_eq_true rfl) dX11_leavers_8 (fun r1 f3 h2 y4 => ?_)
  refine oj_pop dX11_leavers_11 rfl ?_
  refine oj_aload_n 0 dX11_leavers_12 rfl rfl ?_
  refine oj_getr (q := 34) fl_RX11_37 k_0 rfl k_34 dX11_leavers_13 ?_
  refine oj_getr (q := 35) fl_RX11_227 k_34 rfl k_35 dX11_leavers_16 ?_
  refine oj_iconst dX11_leavers_19 ci_0 ?_
  refine oj_iald k_35 in_0_7 ix_0 dX11_leavers_20 ?_
  refine oj_aload_n 0 dX11_leavers_21 rfl rfl ?_
  refine oj_getr (q := 39) fl_RX11_44 k_0 rfl k_39 dX11_leavers_22 ?_
  refine oj_getr (q := 42) fl_RX11_207 k_39 rfl k_42 dX11_leavers_25 ?_
  refine oj_getr (q := 43) fl_RX11_227 k_42 rfl k_43 dX11_leavers_28 ?_
  refine oj_iconst dX11_leavers_31 ci_4 ?_
  refine oj_iald k_43 in_4_7 ix_4 dX11_leavers_32 ?_
  refine oj_iand dX11_leavers_33 ?_
  exact oj_ret (r := some (.int ((h2.1 35 0) &&& (h2.1 43 4)))) ⟨trivial, rfl, rfl, ((h2.1 35 0) &&& (h2.1 43 4)), rfl, y4⟩ dX11_leavers_34 (Nat.zero_le _) (Nat.zero_le _)
-- X8_keep
set_option maxRecDepth 100000 in
set_option maxHeartbeats 4000000 in
theorem BX8_keep  {p1 : Int32} {p2 : Int32}  {h : ob_H} {Q : ob_H → Prop} (y : MX8_keep  p1 p2 h Q) : ob_T yX8_keep cX8_keep 3 none (ob_rm 1) KS NN h [.ref 47, .int p1, .int p2] (ob_g none (ob_qv Q)) := by
  unfold MX8_keep at y
  refine ob_T_gf (by decide +kernel) (Nat.le_of_ble_eq_true rfl) ?_
  show ob_J RX8 cX8_keep 3 (ob_rm 1) false none 0 0 KS NN h 0 [(0, .ref 47), (1, .int p1), (2, .int p2)] [] (ob_g none (ob_qv Q))
  refine oj_aload_n 0 dX8_keep_0 rfl rfl ?_
  refine oj_iload_n 1 dX8_keep_1 rfl rfl ?_
  refine oj_puti fl_RX8_21 (Or.inl rfl) k_47 rfl rfl rfl dX8_keep_2 ?_
  refine oj_toph (fun h1 eh1 => ?_)
  have y2 := Lt_at y h1 eh1
  refine oj_aload_n 0 dX8_keep_5 rfl rfl ?_
  refine oj_iload_n 2 dX8_keep_6 rfl rfl ?_
  refine oj_puti fl_RX8_17 (Or.inl rfl) k_47 rfl rfl rfl dX8_keep_7 ?_
  refine oj_toph (fun h3 eh3 => ?_)
  have y4 := Lt_at y2 h3 eh3
  refine oj_aload_n 0 dX8_keep_10 rfl rfl ?_
  refine oj_getr (q := 50) fl_RX8_30 k_47 rfl k_50 dX8_keep_11 ?_
  refine oj_iconst dX8_keep_14 ci_0 ?_
  refine oj_aload_n 0 dX8_keep_15 rfl rfl ?_
  refine oj_getr (q := 48) fl_RX8_11 k_47 rfl k_48 dX8_keep_16 ?_
  refine oj_iconst dX8_keep_19 ci_0 ?_
  refine oj_iload_n 2 dX8_keep_20 rfl rfl ?_
  obtain ⟨c5, y6⟩ := y4
  obtain ⟨c7, y8⟩ := y6
  obtain ⟨c9, y10⟩ := y8
  refine oj_copy k_50 k_48 ow_928 ow_715 ow_714 ow_19 nn_0 nn_0 c5 ix_0 ix_0 rfl c7 c9 (by decide) (by decide) (Nat.le_of_ble_eq_true rfl) dX8_keep_21 ?_
  refine oj_toph (fun h11 eh11 => ?_)
  have y12 := Lt_at y10 h11 eh11
  exact oj_ret (r := none) ⟨trivial, rfl, rfl, rfl, y12⟩ dX8_keep_24 (Nat.zero_le _) (Nat.zero_le _)
-- X8_wasHere
set_option maxRecDepth 100000 in
set_option maxHeartbeats 4000000 in
theorem BKX8_wasHere_94 {p1 : Nat} (hp1 : A6 p1) {x2 : Int32} {x3 : Int32} {x5 : Int32} {s0 : Int32} {h : ob_H} {Q : Int32 → ob_H → Prop} {k47 : Int32 → Int32 → ob_H → Prop} (hk47 : ∀ (x4' : Int32) (x5' : Int32) (h' : ob_H), k47 x4' x5' h' → ob_J RX8 cX8_wasHere 6 (ob_rm 1) false none 0 0 KS NN h' 47 [(0, .ref 47), (1, .ref p1), (2, .int x2), (3, .int x3), (4, .int x4'), (5, .int x5')] [] (ob_g (some .boolean) (ob_qi Q)))
    (y : KX8_wasHere_94 p1 x2 x3 x5 s0 h Q k47) : ob_J RX8 cX8_wasHere 6 (ob_rm 1) false none 0 0 KS NN h 94 [(0, .ref 47), (1, .ref p1), (2, .int x2), (3, .int x3), (5, .int x5)] [.int s0] (ob_g (some .boolean) (ob_qi Q)) := by
  unfold KX8_wasHere_94 at y
  refine oj_istore (lv' := [(4, .int s0), (0, .ref 47), (1, .ref p1), (2, .int x2), (3, .int x3), (5, .int x5)]) dX8_wasHere_94 (by decide) rfl ?_
  refine oj_aload_n 1 dX8_wasHere_96 rfl rfl ?_
  refine oj_getr (q := 51) fl_RX8_33 k_47 rfl k_51 dX8_wasHere_97 ?_
  refine oj_iload_n 3 dX8_wasHere_100 rfl rfl ?_
  refine oj_iconst dX8_wasHere_101 ci_1 ?_
  refine oj_iadd dX8_wasHere_102 ?_
  refine oj_iload 5 dX8_wasHere_103 rfl ?_
  refine oj_iadd dX8_wasHere_105 ?_
  refine oj_aload_n 2 dX8_wasHere_106 rfl rfl ?_
  refine oj_getr (q := (p1 + 3)) fl_RX8_82 (A6_0 hp1) rfl (A6_3 hp1) dX8_wasHere_107 ?_
  refine oj_iload 5 dX8_wasHere_110 rfl ?_
  obtain ⟨c27, y28⟩ := y
  refine oj_iald (A6_3 hp1) c27 rfl dX8_wasHere_112 ?_
  obtain ⟨c29, y30⟩ := y28
  refine oj_iast k_51 c29 rfl dX8_wasHere_113 ?_
  refine oj_toph (fun h31 eh31 => ?_)
  have y32 := Lt_at y30 h31 eh31
  obtain ⟨v33, ev33⟩ : ∃ z : Int32, z = x5 + (1) := ⟨_, rfl⟩
  have y34 := Lt_at y32 v33 ev33
  refine oj_iinc (v := v33) (lv' := [(5, .int v33), (4, .int s0), (0, .ref 47), (1, .ref p1), (2, .int x2), (3, .int x3)]) 5 dX8_wasHere_114 rfl (iinc_e ci_1 ev33) (by decide) rfl ?_
  refine oj_goto 47 dX8_wasHere_117 rfl ?_
  refine oj_lv [2, 3, 4, 5, 1, 0] rfl ?_
  exact hk47 _ _ _ y34
set_option maxRecDepth 100000 in
set_option maxHeartbeats 4000000 in
theorem BLX8_wasHere_47 {p1 : Nat} (hp1 : A6 p1) {x2 : Int32} {x3 : Int32} {Q : Int32 → ob_H → Prop} :
    ∀ (n : Nat) (x4 : Int32) (x5 : Int32) (h : ob_H), it3 (FX8_wasHere_47 p1 x2 x3 Q) n x4 x5 h → ob_J RX8 cX8_wasHere 6 (ob_rm 1) false none 0 0 KS NN h 47 [(0, .ref 47), (1, .ref p1), (2, .int x2), (3, .int x3), (4, .int x4), (5, .int x5)] [] (ob_g (some .boolean) (ob_qi Q)) := by
  intro n
  induction n with
  | zero => intro x4 x5 h y; exact False.elim y
  | succ n hk47 =>
    intro x4 x5 h y
    have y : FX8_wasHere_47 p1 x2 x3 Q (it3 (FX8_wasHere_47 p1 x2 x3 Q) n) x4 x5 h := y
    unfold FX8_wasHere_47 at y
    refine oj_iload 5 dX8_wasHere_47 rfl ?_
    refine oj_bipush dX8_wasHere_49 cb_7 ?_
    refine oj_icmp_ge 120 dX8_wasHere_51 rfl (fun c14 => ?_) (fun c14 => ?_)
    · have y15 := y.1 c14
      refine oj_iload 4 dX8_wasHere_120 rfl ?_
      obtain ⟨c17, y18⟩ := y15
      exact oj_ret (r := some (.int x4)) ⟨c17, rfl, rfl, x4, rfl, y18⟩ dX8_wasHere_122 (Nat.zero_le _) (Nat.zero_le _)
    · have y16 := y.2 c14
      refine oj_iload_n 3 dX8_wasHere_54 rfl rfl ?_
      refine oj_iload 5 dX8_wasHere_55 rfl ?_
      refine oj_ishr dX8_wasHere_57 ?_
      refine oj_iconst dX8_wasHere_58 ci_1 ?_
      refine oj_iand dX8_wasHere_59 ?_
      refine oj_if_eq 114 dX8_wasHere_60 rfl (fun c19 => ?_) (fun c19 => ?_)
      · have y20 := y16.1 c19
        obtain ⟨v22, ev22⟩ : ∃ z : Int32, z = x5 + (1) := ⟨_, rfl⟩
        have y23 := Lt_at y20 v22 ev22
        refine oj_iinc (v := v22) (lv' := [(5, .int v22), (0, .ref 47), (1, .ref p1), (2, .int x2), (3, .int x3), (4, .int x4)]) 5 dX8_wasHere_114 rfl (iinc_e ci_1 ev22) (by decide) rfl ?_
        refine oj_goto 47 dX8_wasHere_117 rfl ?_
        refine oj_lv [1, 2, 3, 4, 5, 0] rfl ?_
        exact hk47 _ _ _ y23
      · have y21 := y16.2 c19
        refine oj_iload 4 dX8_wasHere_63 rfl ?_
        refine oj_if_eq 93 dX8_wasHere_65 rfl (fun c24 => ?_) (fun c24 => ?_)
        · have y25 := y21.1 c24
          refine oj_iconst dX8_wasHere_93 ci_0 ?_
          refine oj_lv [0, 1, 2, 3, 5] rfl ?_
          exact BKX8_wasHere_94 hp1 hk47 y25
        · have y26 := y21.2 c24
          refine oj_aload_n 0 dX8_wasHere_68 rfl rfl ?_
          refine oj_getr (q := 51) fl_RX8_33 k_47 rfl k_51 dX8_wasHere_69 ?_
          refine oj_iload_n 2 dX8_wasHere_72 rfl rfl ?_
          refine oj_iconst dX8_wasHere_73 ci_1 ?_
          refine oj_iadd dX8_wasHere_74 ?_
          refine oj_iload 5 dX8_wasHere_75 rfl ?_
          refine oj_iadd dX8_wasHere_77 ?_
          obtain ⟨c35, y36⟩ := y26
          refine oj_iald k_51 c35 rfl dX8_wasHere_78 ?_
          refine oj_aload_n 1 dX8_wasHere_79 rfl rfl ?_
          refine oj_getr (q := (p1 + 3)) fl_RX8_82 (A6_0 hp1) rfl (A6_3 hp1) dX8_wasHere_80 ?_
          refine oj_iload 5 dX8_wasHere_83 rfl ?_
          obtain ⟨c37, y38⟩ := y36
          refine oj_iald (A6_3 hp1) c37 rfl dX8_wasHere_85 ?_
          refine oj_icmp_ne 93 dX8_wasHere_86 rfl (fun c39 => ?_) (fun c39 => ?_)
          · have y40 := y38.2 c39
            refine oj_iconst dX8_wasHere_93 ci_0 ?_
            refine oj_lv [0, 1, 2, 3, 5] rfl ?_
            exact BKX8_wasHere_94 hp1 hk47 y40
          · have y41 := y38.1 c39
            refine oj_iconst dX8_wasHere_89 ci_1 ?_
            refine oj_goto 94 dX8_wasHere_90 rfl ?_
            refine oj_lv [0, 1, 2, 3, 5] rfl ?_
            exact BKX8_wasHere_94 hp1 hk47 y41
set_option maxRecDepth 100000 in
set_option maxHeartbeats 4000000 in
theorem BKX8_wasHere_35 {p1 : Nat} (hp1 : A6 p1) {x2 : Int32} {x3 : Int32} {s0 : Int32} {h : ob_H} {Q : Int32 → ob_H → Prop}
    (y : KX8_wasHere_35 p1 x2 x3 s0 h Q) : ob_J RX8 cX8_wasHere 6 (ob_rm 1) false none 0 0 KS NN h 35 [(0, .ref 47), (1, .ref p1), (2, .int x2), (3, .int x3)] [.int s0] (ob_g (some .boolean) (ob_qi Q)) := by
  unfold KX8_wasHere_35 at y
  refine oj_istore (lv' := [(4, .int s0), (0, .ref 47), (1, .ref p1), (2, .int x2), (3, .int x3)]) dX8_wasHere_35 (by decide) rfl ?_
  refine oj_aload_n 1 dX8_wasHere_37 rfl rfl ?_
  refine oj_getr (q := 51) fl_RX8_33 k_47 rfl k_51 dX8_wasHere_38 ?_
  refine oj_iload_n 3 dX8_wasHere_41 rfl rfl ?_
  refine oj_iload_n 4 dX8_wasHere_42 rfl rfl ?_
  obtain ⟨c10, y11⟩ := y
  refine oj_iast k_51 c10 rfl dX8_wasHere_43 ?_
  refine oj_toph (fun h12 eh12 => ?_)
  have y13 := Lt_at y11 h12 eh12
  refine oj_iconst dX8_wasHere_44 ci_0 ?_
  refine oj_istore (lv' := [(5, .int (0)), (4, .int s0), (0, .ref 47), (1, .ref p1), (2, .int x2), (3, .int x3)]) dX8_wasHere_45 (by decide) rfl ?_
  refine oj_lv [2, 3, 4, 5, 1, 0] rfl ?_
  obtain ⟨n, y42⟩ := y13
  exact BLX8_wasHere_47 hp1 n _ _ _ y42
set_option maxRecDepth 100000 in
set_option maxHeartbeats 4000000 in
theorem BX8_wasHere  {p1 : Nat} (hp1 : A6 p1) {h : ob_H} {Q : Int32 → ob_H → Prop} (y : MX8_wasHere  p1 h Q) : ob_T yX8_wasHere cX8_wasHere 6 (some .boolean) (ob_rm 1) KS NN h [.ref 47, .ref p1] (ob_g (some .boolean) (ob_qi Q)) := by
  unfold MX8_wasHere at y
  refine ob_T_gf (by decide +kernel) (Nat.le_of_ble_eq_true rfl) ?_
  show ob_J RX8 cX8_wasHere 6 (ob_rm 1) false none 0 0 KS NN h 0 [(0, .ref 47), (1, .ref p1)] [] (ob_g (some .boolean) (ob_qi Q))
  refine oj_aload_n 1 dX8_wasHere_0 rfl rfl ?_
  refine oj_getr (q := (p1 + 1)) fl_RX8_55 (A6_0 hp1) rfl (A6_1 hp1) dX8_wasHere_1 ?_
  refine oj_iconst dX8_wasHere_4 ci_1 ?_
  refine oj_iald (A6_1 hp1) in_1_7 ix_1 dX8_wasHere_5 ?_
  refine oj_bipush dX8_wasHere_6 cb_127 ?_
  refine oj_iand dX8_wasHere_8 ?_
  refine oj_bipush dX8_wasHere_9 cb_8 ?_
  refine oj_imul dX8_wasHere_11 ?_
  refine oj_topi (fun v1 ev1 => ?_)
  have y2 := Lt_at y v1 ev1
  refine oj_istore_n (lv' := [(2, .int v1), (0, .ref 47), (1, .ref p1)]) dX8_wasHere_12 rfl (by decide) rfl ?_
  refine oj_aload_n 2 dX8_wasHere_13 rfl rfl ?_
  refine oj_getr (q := (p1 + 1)) fl_RX8_55 (A6_0 hp1) rfl (A6_1 hp1) dX8_wasHere_14 ?_
  refine oj_iconst dX8_wasHere_17 ci_0 ?_
  refine oj_iald (A6_1 hp1) in_0_7 ix_0 dX8_wasHere_18 ?_
  refine oj_topi (fun v3 ev3 => ?_)
  have y4 := Lt_at y2 v3 ev3
  refine oj_istore_n (lv' := [(3, .int v3), (2, .int v1), (0, .ref 47), (1, .ref p1)]) dX8_wasHere_19 rfl (by decide) rfl ?_
  refine oj_aload_n 2 dX8_wasHere_20 rfl rfl ?_
  refine oj_getr (q := 51) fl_RX8_33 k_47 rfl k_51 dX8_wasHere_21 ?_
  refine oj_iload_n 1 dX8_wasHere_24 rfl rfl ?_
  obtain ⟨c5, y6⟩ := y4
  refine oj_iald k_51 c5 rfl dX8_wasHere_25 ?_
  refine oj_iload_n 0 dX8_wasHere_26 rfl rfl ?_
  refine oj_icmp_ne 34 dX8_wasHere_27 rfl (fun c7 => ?_) (fun c7 => ?_)
  · have y8 := y6.2 c7
    refine oj_iconst dX8_wasHere_34 ci_0 ?_
    refine oj_lv [2, 3, 1, 0] rfl ?_
    exact BKX8_wasHere_35 hp1 y8
  · have y9 := y6.1 c7
    refine oj_iconst dX8_wasHere_30 ci_1 ?_
    refine oj_goto 35 dX8_wasHere_31 rfl ?_
    refine oj_lv [2, 3, 1, 0] rfl ?_
    exact BKX8_wasHere_35 hp1 y9
-- X8_explore
set_option maxRecDepth 100000 in
set_option maxHeartbeats 4000000 in
theorem BLX8_explore_76 {dq : Nat} (hdq : 5 ≤ dq) {RP : Int32 → ob_H → (ob_H → Prop) → Prop} (hRP : ∀ {a h} {Q : ob_H → Prop}, RP a h Q → ob_T yX8_explore cX8_explore 5 none (ob_rm dq) KS NN h [.ref 47, .int a] (ob_g none (ob_qv Q))) {q2 : Nat} {q3 : Nat} (hq2 : A6 q2) (hq3 : A6 q3) {x1 : Int32} {Q : ob_H → Prop} :
    ∀ (n : Nat) (x4 : Int32) (h : ob_H), it2 (FX8_explore_76 RP q2 q3 x1 Q) n x4 h → ob_J RX8 cX8_explore 5 (ob_rm (dq + 2)) false none 0 0 KS NN h 76 [(0, .ref 47), (1, .int x1), (2, .ref q2), (3, .ref q3), (4, .int x4)] [] (ob_g none (ob_qv Q)) := by
  intro n
  induction n with
  | zero => intro x4 h y; exact False.elim y
  | succ n hk76 =>
    intro x4 h y
    have y : FX8_explore_76 RP q2 q3 x1 Q (it2 (FX8_explore_76 RP q2 q3 x1 Q) n) x4 h := y
    unfold FX8_explore_76 at y
    refine oj_iload 4 dX8_explore_76 rfl ?_
    refine oj_aload_n 0 dX8_explore_78 rfl rfl ?_
    refine oj_getr (q := 20) fl_RX8_36 k_47 rfl k_20 dX8_explore_79 ?_
    refine oj_geti fl_RX8_66 k_20 rfl dX8_explore_82 ?_
    refine oj_icmp_ge 130 dX8_explore_85 rfl (fun c29 => ?_) (fun c29 => ?_)
    · have y30 := y.1 c29
      exact oj_ret (r := none) ⟨trivial, rfl, rfl, rfl, y30⟩ dX8_explore_130 (Nat.zero_le _) (Nat.zero_le _)
    · have y31 := y.2 c29
      refine oj_aload_n 2 dX8_explore_88 rfl rfl ?_
      refine oj_iload 4 dX8_explore_89 rfl ?_
      refine oc_Vpi [.int x4] mi_RX8_69 ow_750 ow_751 rfl (A6_0 hq2) (BX6_waits hq2 y31) ⟨by simp only [ob_rm]; omega, by simp only [ob_rm]; omega⟩ ⟨Nat.le_refl _, Nat.le_refl _⟩ rfl (Nat.le_of_ble_eq_true rfl) dX8_explore_91 (fun r32 f34 y35 => ?_)
      refine oj_if_eq 124 dX8_explore_94 rfl (fun c36 => ?_) (fun c36 => ?_)
      · have y37 := y35.1 c36
        obtain ⟨v39, ev39⟩ : ∃ z : Int32, z = x4 + (1) := ⟨_, rfl⟩
        have y40 := Lt_at y37 v39 ev39
        refine oj_iinc (v := v39) (lv' := [(4, .int v39), (0, .ref 47), (1, .int x1), (2, .ref q2), (3, .ref q3)]) 4 dX8_explore_124 rfl (iinc_e ci_1 ev39) (by decide) rfl ?_
        refine oj_goto 76 dX8_explore_127 rfl ?_
        refine oj_lv [1, 2, 3, 4, 0] rfl ?_
        exact hk76 _ _ y40
      · have y38 := y35.2 c36
        refine oj_aload_n 3 dX8_explore_97 rfl rfl ?_
        refine oj_aload_n 2 dX8_explore_98 rfl rfl ?_
        refine oc_Vv [.ref q2] mi_RX8_44 ow_876 ow_877 rfl (A6_0 hq3) (BX6_copy hq3 hq2 y38) ⟨by simp only [ob_rm]; omega, by simp only [ob_rm]; omega⟩ ⟨Nat.le_refl _, Nat.le_refl _⟩ rfl (Nat.le_of_ble_eq_true rfl) dX8_explore_99 (fun h42 y44 => ?_)
        refine oj_aload_n 3 dX8_explore_102 rfl rfl ?_
        refine oj_iload 4 dX8_explore_103 rfl ?_
        refine oj_iconst dX8_explore_105 ci_1 ?_
        refine oc_Vv [.int x4, .int (1)] mi_RX8_73 ow_815 ow_816 rfl (A6_0 hq3) (BX6_hearAs hq3 y44) ⟨by simp only [ob_rm]; omega, by simp only [ob_rm]; omega⟩ ⟨Nat.le_refl _, Nat.le_refl _⟩ rfl (Nat.le_of_ble_eq_true rfl) dX8_explore_106 (fun h46 y48 => ?_)
        refine oj_aload_n 0 dX8_explore_109 rfl rfl ?_
        refine oj_getr (q := 50) fl_RX8_30 k_47 rfl k_50 dX8_explore_110 ?_
        refine oj_iload_n 1 dX8_explore_113 rfl rfl ?_
        refine oj_iload 4 dX8_explore_114 rfl ?_
        obtain ⟨c49, y50⟩ := y48
        refine oj_iast k_50 c49 rfl dX8_explore_116 ?_
        refine oj_toph (fun h51 eh51 => ?_)
        have y52 := Lt_at y50 h51 eh51
        refine oj_aload_n 0 dX8_explore_117 rfl rfl ?_
        refine oj_iload_n 1 dX8_explore_118 rfl rfl ?_
        refine oj_iconst dX8_explore_119 ci_1 ?_
        refine oj_iadd dX8_explore_120 ?_
        refine oc_Sv [.ref 47, .int (x1 + (1))] mi_RX8_48 ow_922 (hRP  y52) ⟨by simp only [ob_rm]; omega, by simp only [ob_rm]; omega⟩ ⟨Nat.le_refl _, Nat.le_refl _⟩ rfl (Nat.le_of_ble_eq_true rfl) dX8_explore_121 (fun h54 y56 => ?_)
        obtain ⟨v57, ev57⟩ : ∃ z : Int32, z = x4 + (1) := ⟨_, rfl⟩
        have y58 := Lt_at y56 v57 ev57
        refine oj_iinc (v := v57) (lv' := [(4, .int v57), (0, .ref 47), (1, .int x1), (2, .ref q2), (3, .ref q3)]) 4 dX8_explore_124 rfl (iinc_e ci_1 ev57) (by decide) rfl ?_
        refine oj_goto 76 dX8_explore_127 rfl ?_
        refine oj_lv [1, 2, 3, 4, 0] rfl ?_
        exact hk76 _ _ y58
set_option maxRecDepth 100000 in
set_option maxHeartbeats 4000000 in
theorem BGX8_explore {dq : Nat} (hdq : 5 ≤ dq) {RP : Int32 → ob_H → (ob_H → Prop) → Prop} (hRP : ∀ {a h} {Q : ob_H → Prop}, RP a h Q → ob_T yX8_explore cX8_explore 5 none (ob_rm dq) KS NN h [.ref 47, .int a] (ob_g none (ob_qv Q))) {p1 : Int32}  {h : ob_H} {Q : ob_H → Prop} (y : GX8_explore RP p1 h Q) : ob_T yX8_explore cX8_explore 5 none (ob_rm (dq + 2)) KS NN h [.ref 47, .int p1] (ob_g none (ob_qv Q)) := by
  unfold GX8_explore at y
  refine ob_T_gf (by decide +kernel) (Nat.le_of_ble_eq_true rfl) ?_
  show ob_J RX8 cX8_explore 5 (ob_rm (dq + 2)) false none 0 0 KS NN h 0 [(0, .ref 47), (1, .int p1)] [] (ob_g none (ob_qv Q))
  refine oj_iload_n 1 dX8_explore_0 rfl rfl ?_
  refine oj_if_lt 10 dX8_explore_1 rfl (fun c1 => ?_) (fun c1 => ?_)
  · have y2 := y.1 c1
    exact oj_ret (r := none) ⟨trivial, rfl, rfl, rfl, y2⟩ dX8_explore_10 (Nat.zero_le _) (Nat.zero_le _)
  · have y3 := y.2 c1
    refine oj_iload_n 1 dX8_explore_4 rfl rfl ?_
    refine oj_bipush dX8_explore_5 cb_7 ?_
    refine oj_icmp_le 11 dX8_explore_7 rfl (fun c4 => ?_) (fun c4 => ?_)
    · have y5 := y3.1 c4
      refine oj_aload_n 0 dX8_explore_11 rfl rfl ?_
      refine oj_getr (q := 49) fl_RX8_26 k_47 rfl k_49 dX8_explore_12 ?_
      refine oj_iload_n 1 dX8_explore_15 rfl rfl ?_
      obtain ⟨c7, y8⟩ := y5
      have c9 := AA_rmI c7
      refine oj_aald (q := (rmI p1)) k_49 c7 rfl (rmI_c c7) (A6_0 c9) dX8_explore_16 ?_
      refine oj_astore_n (lv' := [(2, .ref (rmI p1)), (0, .ref 47), (1, .int p1)]) dX8_explore_17 rfl (by decide) rfl ?_
      refine oj_aload_n 0 dX8_explore_18 rfl rfl ?_
      refine oj_geti fl_RX8_52 (A6_0 c9) rfl dX8_explore_19 ?_
      refine oj_aload_n 1 dX8_explore_22 rfl rfl ?_
      refine oj_geti fl_RX8_21 k_47 rfl dX8_explore_23 ?_
      refine oj_icmp_lt 30 dX8_explore_26 rfl (fun c10 => ?_) (fun c10 => ?_)
      · have y11 := y8.1 c10
        refine oj_aload_n 0 dX8_explore_30 rfl rfl ?_
        refine oj_getr (q := ((rmI p1) + 1)) fl_RX8_55 (A6_0 c9) rfl (A6_1 c9) dX8_explore_31 ?_
        refine oj_iconst dX8_explore_34 ci_0 ?_
        refine oj_iald (A6_1 c9) in_0_7 ix_0 dX8_explore_35 ?_
        refine oj_if_ne 49 dX8_explore_36 rfl (fun c13 => ?_) (fun c13 => ?_)
        · have y14 := y11.2 c13
          refine oj_iload_n 2 dX8_explore_49 rfl rfl ?_
          refine oj_bipush dX8_explore_50 cb_7 ?_
          refine oj_icmp_eq 63 dX8_explore_52 rfl (fun c16 => ?_) (fun c16 => ?_)
          · have y17 := y14.1 c16
            exact oj_ret (r := none) ⟨trivial, rfl, rfl, rfl, y17⟩ dX8_explore_63 (Nat.zero_le _) (Nat.zero_le _)
          · have y18 := y14.2 c16
            refine oj_aload_n 1 dX8_explore_55 rfl rfl ?_
            refine oj_aload_n 0 dX8_explore_56 rfl rfl ?_
            refine oc_Vi [.ref (rmI p1)] mi_RX8_62 ow_931 op_26 rfl k_47 (BX8_wasHere c9 y18) ⟨by simp only [ob_rm]; omega, by simp only [ob_rm]; omega⟩ ⟨Nat.le_refl _, Nat.le_refl _⟩ rfl (Nat.le_of_ble_eq_true rfl) dX8_explore_57 (fun r19 f21 h20 y22 => ?_)
            refine oj_if_eq 64 dX8_explore_60 rfl (fun c23 => ?_) (fun c23 => ?_)
            · have y24 := y22.1 c23
              refine oj_aload_n 1 dX8_explore_64 rfl rfl ?_
              refine oj_getr (q := 49) fl_RX8_26 k_47 rfl k_49 dX8_explore_65 ?_
              refine oj_iload_n 2 dX8_explore_68 rfl rfl ?_
              refine oj_iconst dX8_explore_69 ci_1 ?_
              refine oj_iadd dX8_explore_70 ?_
              obtain ⟨c26, y27⟩ := y24
              have c28 := AA_rmI c26
              refine oj_aald (q := (rmI (p1 + (1)))) k_49 c26 rfl (rmI_c c26) (A6_0 c28) dX8_explore_71 ?_
              refine oj_astore_n (lv' := [(3, .ref (rmI (p1 + (1)))), (2, .ref (rmI p1)), (0, .ref 47), (1, .int p1)]) dX8_explore_72 rfl (by decide) rfl ?_
              refine oj_iconst dX8_explore_73 ci_0 ?_
              refine oj_istore (lv' := [(4, .int (0)), (3, .ref (rmI (p1 + (1)))), (2, .ref (rmI p1)), (0, .ref 47), (1, .int p1)]) dX8_explore_74 (by decide) rfl ?_
              refine oj_lv [3, 4, 2, 1, 0] rfl ?_
              obtain ⟨n, y59⟩ := y27
              exact BLX8_explore_76 hdq hRP c9 c28 n _ _ y59
            · have y25 := y22.2 c23
              exact oj_ret (r := none) ⟨trivial, rfl, rfl, rfl, y25⟩ dX8_explore_63 (Nat.zero_le _) (Nat.zero_le _)
        · have y15 := y11.1 c13
          refine oj_aload_n 1 dX8_explore_39 rfl rfl ?_
          refine oj_aload_n 0 dX8_explore_40 rfl rfl ?_
          refine oj_geti fl_RX8_52 (A6_0 c9) rfl dX8_explore_41 ?_
          refine oj_iload_n 2 dX8_explore_44 rfl rfl ?_
          refine oc_Vv [.int (h.1 (rmI p1) 3), .int p1] mi_RX8_58 ow_926 op_25 rfl k_47 (BX8_keep  y15) ⟨by simp only [ob_rm]; omega, by simp only [ob_rm]; omega⟩ ⟨Nat.le_refl _, Nat.le_refl _⟩ rfl (Nat.le_of_ble_eq_true rfl) dX8_explore_45 (fun h61 y63 => ?_)
          exact oj_ret (r := none) ⟨trivial, rfl, rfl, rfl, y63⟩ dX8_explore_48 (Nat.zero_le _) (Nat.zero_le _)
      · have y12 := y8.2 c10
        exact oj_ret (r := none) ⟨trivial, rfl, rfl, rfl, y12⟩ dX8_explore_29 (Nat.zero_le _) (Nat.zero_le _)
    · have y6 := y3.2 c4
      exact oj_ret (r := none) ⟨trivial, rfl, rfl, rfl, y6⟩ dX8_explore_10 (Nat.zero_le _) (Nat.zero_le _)
set_option maxRecDepth 100000 in
set_option maxHeartbeats 4000000 in
theorem BX8_explore : ∀ (d : Nat) {p1 : Int32} {h : ob_H} {Q : ob_H → Prop} (y : MX8_explore d p1 h Q), ob_T yX8_explore cX8_explore 5 none (ob_rm (5 + 2 * d)) KS NN h [.ref 47, .int p1] (ob_g none (ob_qv Q)) := by
  intro d
  induction d with
  | zero => intro p1 h Q y; exact False.elim y
  | succ d ih =>
    intro p1 h Q y
    have y : GX8_explore (MX8_explore d) p1 h Q := y
    exact BGX8_explore (dq := 5 + 2 * d) (by omega) (fun z => ih z) y
-- X8_run
set_option maxRecDepth 100000 in
set_option maxHeartbeats 4000000 in
theorem BLX8_run_13 {p1 : Nat} (hp1 : A6 p1) {Q : ob_H → Prop} :
    ∀ (n : Nat) (x2 : Int32) (h : ob_H), it2 (FX8_run_13 p1 Q) n x2 h → ob_J RX8 cX8_run 3 (ob_rm 30) false none 0 0 KS NN h 13 [(0, .ref 47), (1, .ref p1), (2, .int x2)] [] (ob_g none (ob_qv Q)) := by
  intro n
  induction n with
  | zero => intro x2 h y; exact False.elim y
  | succ n hk13 =>
    intro x2 h y
    have y : FX8_run_13 p1 Q (it2 (FX8_run_13 p1 Q) n) x2 h := y
    unfold FX8_run_13 at y
    refine oj_iload_n 2 dX8_run_13 rfl rfl ?_
    refine oj_sipush dX8_run_14 cs_128 ?_
    refine oj_icmp_ge 36 dX8_run_17 rfl (fun c5 => ?_) (fun c5 => ?_)
    · have y6 := y.1 c5
      refine oj_aload_n 0 dX8_run_36 rfl rfl ?_
      refine oj_getr (q := 49) fl_RX8_26 k_47 rfl k_49 dX8_run_37 ?_
      refine oj_iconst dX8_run_40 ci_0 ?_
      refine oj_aald (q := 52) k_49 in_0_8 ix_0 rfl k_52 dX8_run_41 ?_
      refine oj_aload_n 1 dX8_run_42 rfl rfl ?_
      refine oc_Vv [.ref p1] mi_RX8_44 ow_876 ow_877 rfl k_52 (BX6_copy AA6_52 hp1 y6) ⟨by decide, by decide⟩ ⟨Nat.le_refl _, Nat.le_refl _⟩ rfl (Nat.le_of_ble_eq_true rfl) dX8_run_43 (fun h9 y11 => ?_)
      refine oj_aload_n 0 dX8_run_46 rfl rfl ?_
      refine oj_iconst dX8_run_47 ci_0 ?_
      refine oc_Sv [.ref 47, .int (0)] mi_RX8_48 ow_922 (BX8_explore 12  y11) ⟨by decide, by decide⟩ ⟨Nat.le_refl _, Nat.le_refl _⟩ rfl (Nat.le_of_ble_eq_true rfl) dX8_run_48 (fun h13 y15 => ?_)
      exact oj_ret (r := none) ⟨trivial, rfl, rfl, rfl, y15⟩ dX8_run_51 (Nat.zero_le _) (Nat.zero_le _)
    · have y7 := y.2 c5
      refine oj_aload_n 0 dX8_run_20 rfl rfl ?_
      refine oj_getr (q := 51) fl_RX8_33 k_47 rfl k_51 dX8_run_21 ?_
      refine oj_iload_n 2 dX8_run_24 rfl rfl ?_
      refine oj_bipush dX8_run_25 cb_8 ?_
      refine oj_imul dX8_run_27 ?_
      refine oj_iconst dX8_run_28 ci_m1 ?_
      obtain ⟨c16, y17⟩ := y7
      refine oj_iast k_51 c16 rfl dX8_run_29 ?_
      refine oj_toph (fun h18 eh18 => ?_)
      have y19 := Lt_at y17 h18 eh18
      obtain ⟨v20, ev20⟩ : ∃ z : Int32, z = x2 + (1) := ⟨_, rfl⟩
      have y21 := Lt_at y19 v20 ev20
      refine oj_iinc (v := v20) (lv' := [(2, .int v20), (0, .ref 47), (1, .ref p1)]) 2 dX8_run_30 rfl (iinc_e ci_1 ev20) (by decide) rfl ?_
      refine oj_goto 13 dX8_run_33 rfl ?_
      refine oj_lv [1, 2, 0] rfl ?_
      exact hk13 _ _ y21
set_option maxRecDepth 100000 in
set_option maxHeartbeats 4000000 in
theorem BX8_run  {p1 : Nat} (hp1 : A6 p1) {h : ob_H} {Q : ob_H → Prop} (y : MX8_run  p1 h Q) : ob_T yX8_run cX8_run 3 none (ob_rm 30) KS NN h [.ref 47, .ref p1] (ob_g none (ob_qv Q)) := by
  unfold MX8_run at y
  refine ob_T_gf (by decide +kernel) (Nat.le_of_ble_eq_true rfl) ?_
  show ob_J RX8 cX8_run 3 (ob_rm 30) false none 0 0 KS NN h 0 [(0, .ref 47), (1, .ref p1)] [] (ob_g none (ob_qv Q))
  refine oj_aload_n 0 dX8_run_0 rfl rfl ?_
  refine oj_ldc ow_919 dX8_run_1 ?_
  refine oj_puti fl_RX8_21 (Or.inl rfl) k_47 rfl rfl rfl dX8_run_3 ?_
  refine oj_toph (fun h1 eh1 => ?_)
  have y2 := Lt_at y h1 eh1
  refine oj_aload_n 0 dX8_run_6 rfl rfl ?_
  refine oj_iconst dX8_run_7 ci_0 ?_
  refine oj_puti fl_RX8_17 (Or.inl rfl) k_47 rfl rfl rfl dX8_run_8 ?_
  refine oj_toph (fun h3 eh3 => ?_)
  have y4 := Lt_at y2 h3 eh3
  refine oj_iconst dX8_run_11 ci_0 ?_
  refine oj_istore_n (lv' := [(2, .int (0)), (0, .ref 47), (1, .ref p1)]) dX8_run_12 rfl (by decide) rfl ?_
  refine oj_lv [1, 2, 0] rfl ?_
  obtain ⟨n, y22⟩ := y4
  exact BLX8_run_13 hp1 n _ _ y22
-- X11_soonest
set_option maxRecDepth 100000 in
set_option maxHeartbeats 4000000 in
theorem BX11_soonest    {h : ob_H} {Q : Int32 → ob_H → Prop} (y : MX11_soonest   h Q) : ob_T yX11_soonest cX11_soonest 1 (some .int) (ob_rm 31) KS NN h [.ref 0] (ob_g (some .int) (ob_qi Q)) := by
  unfold MX11_soonest at y
  refine ob_T_gf (by decide +kernel) (Nat.le_of_ble_eq_true rfl) ?_
  show ob_J RX11 cX11_soonest 1 (ob_rm 31) false none 0 0 KS NN h 0 [(0, .ref 0)] [] (ob_g (some .int) (ob_qi Q))
  refine oj_aload_n 0 dX11_soonest_0 rfl rfl ?_
  refine oj_getr (q := 47) fl_RX11_51 k_0 rfl k_47 dX11_soonest_1 ?_
  refine oj_aload_n 0 dX11_soonest_4 rfl rfl ?_
  refine oj_getr (q := 34) fl_RX11_37 k_0 rfl k_34 dX11_soonest_5 ?_
  refine oc_Vv [.ref 34] mi_RX11_230 ow_916 ow_917 rfl k_47 (BX8_run AA6_34 y) ⟨by decide, by decide⟩ ⟨Nat.le_refl _, Nat.le_refl _⟩ rfl (Nat.le_of_ble_eq_true rfl) dX11_soonest_8 (fun h2 y4 => ?_)
  refine oj_aload_n 0 dX11_soonest_11 rfl rfl ?_
  refine oj_aload_n 0 dX11_soonest_12 rfl rfl ?_
  refine oj_getr (q := 47) fl_RX11_51 k_0 rfl k_47 dX11_soonest_13 ?_
  refine oj_getr (q := 48) fl_RX11_233 k_47 rfl k_48 dX11_soonest_16 ?_
  refine oj_aload_n 0 dX11_soonest_19 rfl rfl ?_
  refine oj_getr (q := 47) fl_RX11_51 k_0 rfl k_47 dX11_soonest_20 ?_
  refine oj_geti fl_RX11_236 k_47 rfl dX11_soonest_23 ?_
  refine oc_Vv [.ref 48, .int (h2.1 47 1)] mi_RX11_223 ow_904 op_24 rfl k_0 (BX11_lay k_48 y4) ⟨by decide, by decide⟩ ⟨Nat.le_refl _, Nat.le_refl _⟩ rfl (Nat.le_of_ble_eq_true rfl) dX11_soonest_26 (fun h6 y8 => ?_)
  refine oj_aload_n 0 dX11_soonest_29 rfl rfl ?_
  refine oj_getr (q := 47) fl_RX11_51 k_0 rfl k_47 dX11_soonest_30 ?_
  refine oj_geti fl_RX11_239 k_47 rfl dX11_soonest_33 ?_
  exact oj_ret (r := some (.int (h6.1 47 2))) ⟨trivial, rfl, rfl, (h6.1 47 2), rfl, y8⟩ dX11_soonest_36 (Nat.zero_le _) (Nat.zero_le _)
-- X0_findFirst
set_option maxRecDepth 100000 in
set_option maxHeartbeats 4000000 in
theorem BKX0_findFirst_72 {x2 : Int32} {x3 : Int32} {h : ob_H} {Q : Int32 → ob_H → Prop} {k4 : Int32 → Int32 → ob_H → Prop} (hk4 : ∀ (x1' : Int32) (x2' : Int32) (h' : ob_H), k4 x1' x2' h' → ob_J RX0 cX0_findFirst 4 (ob_rm 5) false none 0 0 KS NN h' 4 [(0, .ref 92), (1, .int x1'), (2, .int x2')] [] (ob_g (some .boolean) (ob_qi Q)))
    (y : KX0_findFirst_72 x2 x3 h Q k4) : ob_J RX0 cX0_findFirst 4 (ob_rm 5) false none 0 0 KS NN h 72 [(0, .ref 92), (2, .int x2), (3, .int x3)] [] (ob_g (some .boolean) (ob_qi Q)) := by
  unfold KX0_findFirst_72 at y
  refine oj_iconst dX0_findFirst_72 ci_1 ?_
  refine oj_istore_n (lv' := [(1, .int (1)), (0, .ref 92), (2, .int x2), (3, .int x3)]) dX0_findFirst_73 rfl (by decide) rfl ?_
  refine oj_aload_n 1 dX0_findFirst_74 rfl rfl ?_
  refine oj_iload_n 2 dX0_findFirst_75 rfl rfl ?_
  refine oj_puti fl_RX0_9 (Or.inl rfl) k_92 rfl rfl rfl dX0_findFirst_76 ?_
  refine oj_toph (fun h30 eh30 => ?_)
  have y31 := Lt_at y h30 eh30
  refine oj_aload_n 1 dX0_findFirst_79 rfl rfl ?_
  refine oj_iload_n 3 dX0_findFirst_80 rfl rfl ?_
  refine oj_puti fl_RX0_24 (Or.inl rfl) k_92 rfl rfl rfl dX0_findFirst_81 ?_
  refine oj_toph (fun h32 eh32 => ?_)
  have y33 := Lt_at y31 h32 eh32
  obtain ⟨v34, ev34⟩ : ∃ z : Int32, z = x2 + (1) := ⟨_, rfl⟩
  have y35 := Lt_at y33 v34 ev34
  refine oj_iinc (v := v34) (lv' := [(2, .int v34), (1, .int (1)), (0, .ref 92), (3, .int x3)]) 2 dX0_findFirst_84 rfl (iinc_e ci_1 ev34) (by decide) rfl ?_
  refine oj_goto 4 dX0_findFirst_87 rfl ?_
  refine oj_lv [2, 1, 0] rfl ?_
  exact hk4 _ _ _ y35
set_option maxRecDepth 100000 in
set_option maxHeartbeats 4000000 in
theorem BLX0_findFirst_4 {Q : Int32 → ob_H → Prop} :
    ∀ (n : Nat) (x1 : Int32) (x2 : Int32) (h : ob_H), it3 (FX0_findFirst_4 Q) n x1 x2 h → ob_J RX0 cX0_findFirst 4 (ob_rm 5) false none 0 0 KS NN h 4 [(0, .ref 92), (1, .int x1), (2, .int x2)] [] (ob_g (some .boolean) (ob_qi Q)) := by
  intro n
  induction n with
  | zero => intro x1 x2 h y; exact False.elim y
  | succ n hk4 =>
    intro x1 x2 h y
    have y : FX0_findFirst_4 Q (it3 (FX0_findFirst_4 Q) n) x1 x2 h := y
    unfold FX0_findFirst_4 at y
    refine oj_iload_n 2 dX0_findFirst_4 rfl rfl ?_
    refine oj_aload_n 0 dX0_findFirst_5 rfl rfl ?_
    refine oj_getr (q := 20) fl_RX0_27 k_92 rfl k_20 dX0_findFirst_6 ?_
    refine oj_geti fl_RX0_58 k_20 rfl dX0_findFirst_9 ?_
    refine oj_icmp_ge 90 dX0_findFirst_12 rfl (fun c1 => ?_) (fun c1 => ?_)
    · have y2 := y.1 c1
      refine oj_iload_n 1 dX0_findFirst_90 rfl rfl ?_
      obtain ⟨c4, y5⟩ := y2
      exact oj_ret (r := some (.int x1)) ⟨c4, rfl, rfl, x1, rfl, y5⟩ dX0_findFirst_91 (Nat.zero_le _) (Nat.zero_le _)
    · have y3 := y.2 c1
      refine oj_aload_n 0 dX0_findFirst_15 rfl rfl ?_
      refine oj_getr (q := 34) fl_RX0_31 k_92 rfl k_34 dX0_findFirst_16 ?_
      refine oj_iload_n 2 dX0_findFirst_19 rfl rfl ?_
      refine oc_Vpi [.int x2] mi_RX0_63 ow_750 ow_751 rfl k_34 (BX6_waits AA6_34 y3) ⟨by decide, by decide⟩ ⟨Nat.le_refl _, Nat.le_refl _⟩ rfl (Nat.le_of_ble_eq_true rfl) dX0_findFirst_20 (fun r6 f8 y9 => ?_)
      refine oj_if_eq 84 dX0_findFirst_23 rfl (fun c10 => ?_) (fun c10 => ?_)
      · have y11 := y9.1 c10
        obtain ⟨v13, ev13⟩ : ∃ z : Int32, z = x2 + (1) := ⟨_, rfl⟩
        have y14 := Lt_at y11 v13 ev13
        refine oj_iinc (v := v13) (lv' := [(2, .int v13), (0, .ref 92), (1, .int x1)]) 2 dX0_findFirst_84 rfl (iinc_e ci_1 ev13) (by decide) rfl ?_
        refine oj_goto 4 dX0_findFirst_87 rfl ?_
        refine oj_lv [1, 2, 0] rfl ?_
        exact hk4 _ _ _ y14
      · have y12 := y9.2 c10
        refine oj_aload_n 0 dX0_findFirst_26 rfl rfl ?_
        refine oj_getr (q := 39) fl_RX0_35 k_92 rfl k_39 dX0_findFirst_27 ?_
        refine oj_getr (q := 42) fl_RX0_39 k_39 rfl k_42 dX0_findFirst_30 ?_
        refine oj_aload_n 0 dX0_findFirst_33 rfl rfl ?_
        refine oj_getr (q := 34) fl_RX0_31 k_92 rfl k_34 dX0_findFirst_34 ?_
        refine oc_Vv [.ref 34] mi_RX0_44 ow_876 ow_877 rfl k_42 (BX6_copy AA6_42 AA6_34 y12) ⟨by decide, by decide⟩ ⟨Nat.le_refl _, Nat.le_refl _⟩ rfl (Nat.le_of_ble_eq_true rfl) dX0_findFirst_37 (fun h16 y18 => ?_)
        refine oj_aload_n 0 dX0_findFirst_40 rfl rfl ?_
        refine oj_getr (q := 39) fl_RX0_35 k_92 rfl k_39 dX0_findFirst_41 ?_
        refine oj_getr (q := 42) fl_RX0_39 k_39 rfl k_42 dX0_findFirst_44 ?_
        refine oj_iload_n 2 dX0_findFirst_47 rfl rfl ?_
        refine oj_iconst dX0_findFirst_48 ci_1 ?_
        refine oc_Vv [.int x2, .int (1)] mi_RX0_67 ow_815 ow_816 rfl k_42 (BX6_hearAs AA6_42 y18) ⟨by decide, by decide⟩ ⟨Nat.le_refl _, Nat.le_refl _⟩ rfl (Nat.le_of_ble_eq_true rfl) dX0_findFirst_49 (fun h20 y22 => ?_)
        refine oj_aload_n 0 dX0_findFirst_52 rfl rfl ?_
        refine oj_getr (q := 39) fl_RX0_35 k_92 rfl k_39 dX0_findFirst_53 ?_
        refine oc_Vi [] mi_RX0_54 ow_889 ow_890 rfl k_39 (BX3_follow  y22) ⟨by decide, by decide⟩ ⟨Nat.le_refl _, Nat.le_refl _⟩ rfl (Nat.le_of_ble_eq_true rfl) dX0_findFirst_56 (fun r23 f25 h24 y26 => ?_)
        refine oj_istore_n (lv' := [(3, .int r23), (0, .ref 92), (1, .int x1), (2, .int x2)]) dX0_findFirst_59 rfl (by decide) rfl ?_
        refine oj_iload_n 2 dX0_findFirst_60 rfl rfl ?_
        refine oj_if_eq 72 dX0_findFirst_61 rfl (fun c27 => ?_) (fun c27 => ?_)
        · have y28 := y26.1 c27
          refine oj_lv [1, 3, 0] rfl ?_
          exact BKX0_findFirst_72 hk4 y28
        · have y29 := y26.2 c27
          refine oj_iload_n 0 dX0_findFirst_64 rfl rfl ?_
          refine oj_aload_n 1 dX0_findFirst_65 rfl rfl ?_
          refine oj_geti fl_RX0_24 k_92 rfl dX0_findFirst_66 ?_
          refine oj_icmp_ge 84 dX0_findFirst_69 rfl (fun c36 => ?_) (fun c36 => ?_)
          · have y37 := y29.1 c36
            obtain ⟨v39, ev39⟩ : ∃ z : Int32, z = x2 + (1) := ⟨_, rfl⟩
            have y40 := Lt_at y37 v39 ev39
            refine oj_iinc (v := v39) (lv' := [(2, .int v39), (3, .int r23), (0, .ref 92), (1, .int x1)]) 3 dX0_findFirst_84 rfl (iinc_e ci_1 ev39) (by decide) rfl ?_
            refine oj_goto 4 dX0_findFirst_87 rfl ?_
            refine oj_lv [2, 3, 0] rfl ?_
            exact hk4 _ _ _ y40
          · have y38 := y29.2 c36
            refine oj_lv [1, 3, 0] rfl ?_
            exact BKX0_findFirst_72 hk4 y38
set_option maxRecDepth 100000 in
set_option maxHeartbeats 4000000 in
theorem BX0_findFirst    {h : ob_H} {Q : Int32 → ob_H → Prop} (y : MX0_findFirst   h Q) : ob_T yX0_findFirst cX0_findFirst 4 (some .boolean) (ob_rm 5) KS NN h [.ref 92] (ob_g (some .boolean) (ob_qi Q)) := by
  unfold MX0_findFirst at y
  refine ob_T_gf (by decide +kernel) (Nat.le_of_ble_eq_true rfl) ?_
  show ob_J RX0 cX0_findFirst 4 (ob_rm 5) false none 0 0 KS NN h 0 [(0, .ref 92)] [] (ob_g (some .boolean) (ob_qi Q))
  refine oj_iconst dX0_findFirst_0 ci_0 ?_
  refine oj_istore_n (lv' := [(1, .int (0)), (0, .ref 92)]) dX0_findFirst_1 rfl (by decide) rfl ?_
  refine oj_iconst dX0_findFirst_2 ci_0 ?_
  refine oj_istore_n (lv' := [(2, .int (0)), (1, .int (0)), (0, .ref 92)]) dX0_findFirst_3 rfl (by decide) rfl ?_
  refine oj_lv [2, 1, 0] rfl ?_
  obtain ⟨n, y41⟩ := y
  exact BLX0_findFirst_4  n _ _ _ y41
-- X11_first
set_option maxRecDepth 100000 in
set_option maxHeartbeats 4000000 in
theorem BX11_first  {p1 : Int32}  {h : ob_H} {Q : Int32 → ob_H → Prop} (y : MX11_first  p1 h Q) : ob_T yX11_first cX11_first 2 (some .int) (ob_rm 6) KS NN h [.ref 0, .int p1] (ob_g (some .int) (ob_qi Q)) := by
  unfold MX11_first at y
  refine ob_T_gf (by decide +kernel) (Nat.le_of_ble_eq_true rfl) ?_
  show ob_J RX11 cX11_first 2 (ob_rm 6) false none 0 0 KS NN h 0 [(0, .ref 0), (1, .int p1)] [] (ob_g (some .int) (ob_qi Q))
  refine oj_iload_n 1 dX11_first_0 rfl rfl ?_
  refine oj_if_lt 19 dX11_first_1 rfl (fun c1 => ?_) (fun c1 => ?_)
  · have y2 := y.1 c1
    refine oj_iconst dX11_first_19 ci_m1 ?_
    exact oj_ret (r := some (.int (-1))) ⟨trivial, rfl, rfl, (-1), rfl, y2⟩ dX11_first_20 (Nat.zero_le _) (Nat.zero_le _)
  · have y3 := y.2 c1
    refine oj_iload_n 1 dX11_first_4 rfl rfl ?_
    refine oj_iconst dX11_first_5 ci_1 ?_
    refine oj_icmp_gt 19 dX11_first_6 rfl (fun c4 => ?_) (fun c4 => ?_)
    · have y5 := y3.1 c4
      refine oj_iconst dX11_first_19 ci_m1 ?_
      exact oj_ret (r := some (.int (-1))) ⟨trivial, rfl, rfl, (-1), rfl, y5⟩ dX11_first_20 (Nat.zero_le _) (Nat.zero_le _)
    · have y6 := y3.2 c4
      refine oj_aload_n 0 dX11_first_9 rfl rfl ?_
      refine oj_getr (q := 92) fl_RX11_60 k_0 rfl k_92 dX11_first_10 ?_
      refine oc_Vi [] mi_RX11_242 ow_940 ow_941 rfl k_92 (BX0_findFirst  y6) ⟨by decide, by decide⟩ ⟨Nat.le_refl _, Nat.le_refl _⟩ rfl (Nat.le_of_ble_eq_true rfl) dX11_first_13 (fun r7 f9 h8 y10 => ?_)
      refine oj_if_ne 21 dX11_first_16 rfl (fun c11 => ?_) (fun c11 => ?_)
      · have y12 := y10.2 c11
        refine oj_iload_n 1 dX11_first_21 rfl rfl ?_
        refine oj_if_ne 35 dX11_first_22 rfl (fun c14 => ?_) (fun c14 => ?_)
        · have y15 := y12.2 c14
          refine oj_aload_n 0 dX11_first_35 rfl rfl ?_
          refine oj_getr (q := 92) fl_RX11_60 k_0 rfl k_92 dX11_first_36 ?_
          refine oj_geti fl_RX11_247 k_92 rfl dX11_first_39 ?_
          exact oj_ret (r := some (.int (h8.1 92 4))) ⟨trivial, rfl, rfl, (h8.1 92 4), rfl, y15⟩ dX11_first_42 (Nat.zero_le _) (Nat.zero_le _)
        · have y16 := y12.1 c14
          refine oj_aload_n 0 dX11_first_25 rfl rfl ?_
          refine oj_getr (q := 92) fl_RX11_60 k_0 rfl k_92 dX11_first_26 ?_
          refine oj_geti fl_RX11_245 k_92 rfl dX11_first_29 ?_
          refine oj_goto 42 dX11_first_32 rfl ?_
          exact oj_ret (r := some (.int (h8.1 92 0))) ⟨trivial, rfl, rfl, (h8.1 92 0), rfl, y16⟩ dX11_first_42 (Nat.zero_le _) (Nat.zero_le _)
      · have y13 := y10.1 c11
        refine oj_iconst dX11_first_19 ci_m1 ?_
        exact oj_ret (r := some (.int (-1))) ⟨trivial, rfl, rfl, (-1), rfl, y13⟩ dX11_first_20 (Nat.zero_le _) (Nat.zero_le _)
