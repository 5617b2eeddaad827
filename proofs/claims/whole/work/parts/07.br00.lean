-- X10_put
set_option maxRecDepth 100000 in
set_option maxHeartbeats 4000000 in
theorem BLX10_put_3 {x1 : Int32} {Q : ob_H → Prop} :
    ∀ (n : Nat) (x2 : Int32) (h : ob_H), it2 (FX10_put_3 x1 Q) n x2 h → ob_J RX10 cX10_put 3 (ob_rm 1) false none 0 0 KS NN h 3 [(0, .ref 1), (1, .int x1), (2, .int x2)] [] (ob_g none (ob_qv Q)) := by
  intro n
  induction n with
  | zero => intro x2 h y; exact False.elim y
  | succ n hk3 =>
    intro x2 h y
    have y : FX10_put_3 x1 Q (it2 (FX10_put_3 x1 Q) n) x2 h := y
    unfold FX10_put_3 at y
    refine oj_iload_n 2 dX10_put_3 rfl rfl ?_
    refine oj_if_lt 46 dX10_put_4 rfl (fun c1 => ?_) (fun c1 => ?_)
    · have y2 := y.1 c1
      exact oj_ret (r := none) ⟨trivial, rfl, rfl, rfl, y2⟩ dX10_put_46 (Nat.zero_le _) (Nat.zero_le _)
    · have y3 := y.2 c1
      refine oj_aload_n 0 dX10_put_7 rfl rfl ?_
      refine oj_geti fl_RX10_13 k_1 rfl dX10_put_8 ?_
      refine oj_sipush dX10_put_11 cs_1600 ?_
      refine oj_icmp_ge 46 dX10_put_14 rfl (fun c4 => ?_) (fun c4 => ?_)
      · have y5 := y3.1 c4
        exact oj_ret (r := none) ⟨trivial, rfl, rfl, rfl, y5⟩ dX10_put_46 (Nat.zero_le _) (Nat.zero_le _)
      · have y6 := y3.2 c4
        refine oj_aload_n 0 dX10_put_17 rfl rfl ?_
        refine oj_getr (q := 2) fl_RX10_9 k_1 rfl k_2 dX10_put_18 ?_
        refine oj_aload_n 0 dX10_put_21 rfl rfl ?_
        refine oj_geti fl_RX10_13 k_1 rfl dX10_put_22 ?_
        refine oj_iload_n 1 dX10_put_25 rfl rfl ?_
        refine oj_iload_n 2 dX10_put_26 rfl rfl ?_
        refine oj_iushr (v := ush x1 x2) dX10_put_27 rfl ?_
        refine oj_i2b dX10_put_28 ?_
        obtain ⟨c7, y8⟩ := y6
        refine oj_bast k_2 c7 rfl dX10_put_29 ?_
        refine oj_toph (fun h9 eh9 => ?_)
        have y10 := Lt_at y8 h9 eh9
        refine oj_aload_n 0 dX10_put_30 rfl rfl ?_
        refine oj_dup dX10_put_31 rfl ?_
        refine oj_geti fl_RX10_13 k_1 rfl dX10_put_32 ?_
        refine oj_iconst dX10_put_35 ci_1 ?_
        refine oj_iadd dX10_put_36 ?_
        refine oj_puti fl_RX10_13 (Or.inl rfl) k_1 rfl rfl rfl dX10_put_37 ?_
        refine oj_toph (fun h11 eh11 => ?_)
        have y12 := Lt_at y10 h11 eh11
        obtain ⟨v13, ev13⟩ : ∃ z : Int32, z = x2 + (-8) := ⟨_, rfl⟩
        have y14 := Lt_at y12 v13 ev13
        refine oj_iinc (v := v13) (lv' := [(2, .int v13), (0, .ref 1), (1, .int x1)]) 2 dX10_put_40 rfl (iinc_e ci_m8 ev13) (by decide) rfl ?_
        refine oj_goto 3 dX10_put_43 rfl ?_
        refine oj_lv [1, 2, 0] rfl ?_
        exact hk3 _ _ y14
set_option maxRecDepth 100000 in
set_option maxHeartbeats 4000000 in
theorem BX10_put  {p1 : Int32}  {h : ob_H} {Q : ob_H → Prop} (y : MX10_put  p1 h Q) : ob_T yX10_put cX10_put 3 none (ob_rm 1) KS NN h [.ref 1, .int p1] (ob_g none (ob_qv Q)) := by
  unfold MX10_put at y
  refine ob_T_gf (by decide +kernel) (Nat.le_of_ble_eq_true rfl) ?_
  show ob_J RX10 cX10_put 3 (ob_rm 1) false none 0 0 KS NN h 0 [(0, .ref 1), (1, .int p1)] [] (ob_g none (ob_qv Q))
  refine oj_bipush dX10_put_0 cb_24 ?_
  refine oj_istore_n (lv' := [(2, .int (24)), (0, .ref 1), (1, .int p1)]) dX10_put_2 rfl (by decide) rfl ?_
  refine oj_lv [1, 2, 0] rfl ?_
  obtain ⟨n, y15⟩ := y
  exact BLX10_put_3  n _ _ y15
-- X11_feed
set_option maxRecDepth 100000 in
set_option maxHeartbeats 4000000 in
theorem BX11_feed  {p1 : Int32} {p2 : Int32} {p3 : Int32} {p4 : Int32} {p5 : Int32}  {h : ob_H} {Q : Int32 → ob_H → Prop} (y : MX11_feed  p1 p2 p3 p4 p5 h Q) : ob_T yX11_feed cX11_feed 6 (some .int) (ob_rm 2) KS NN h [.ref 0, .int p1, .int p2, .int p3, .int p4, .int p5] (ob_g (some .int) (ob_qi Q)) := by
  unfold MX11_feed at y
  refine ob_T_gf (by decide +kernel) (Nat.le_of_ble_eq_true rfl) ?_
  show ob_J RX11 cX11_feed 6 (ob_rm 2) false none 0 0 KS NN h 0 [(0, .ref 0), (1, .int p1), (2, .int p2), (3, .int p3), (4, .int p4), (5, .int p5)] [] (ob_g (some .int) (ob_qi Q))
  refine oj_aload_n 0 dX11_feed_0 rfl rfl ?_
  refine oj_getr (q := 1) fl_RX11_10 k_0 rfl k_1 dX11_feed_1 ?_
  refine oj_geti fl_RX11_102 k_1 rfl dX11_feed_4 ?_
  refine oj_bipush dX11_feed_7 cb_20 ?_
  refine oj_iadd dX11_feed_9 ?_
  refine oj_sipush dX11_feed_10 cs_1600 ?_
  refine oj_icmp_le 18 dX11_feed_13 rfl (fun c1 => ?_) (fun c1 => ?_)
  · have y2 := y.1 c1
    refine oj_aload_n 0 dX11_feed_18 rfl rfl ?_
    refine oj_getr (q := 1) fl_RX11_10 k_0 rfl k_1 dX11_feed_19 ?_
    refine oj_iload_n 1 dX11_feed_22 rfl rfl ?_
    refine oc_Vv [.int p1] mi_RX11_105 ow_588 ow_589 rfl k_1 (BX10_put  y2) ⟨by decide, by decide⟩ ⟨Nat.le_refl _, Nat.le_refl _⟩ rfl (Nat.le_of_ble_eq_true rfl) dX11_feed_23 (fun h5 y7 => ?_)
    refine oj_aload_n 0 dX11_feed_26 rfl rfl ?_
    refine oj_getr (q := 1) fl_RX11_10 k_0 rfl k_1 dX11_feed_27 ?_
    refine oj_iload_n 2 dX11_feed_30 rfl rfl ?_
    refine oc_Vv [.int p2] mi_RX11_105 ow_588 ow_589 rfl k_1 (BX10_put  y7) ⟨by decide, by decide⟩ ⟨Nat.le_refl _, Nat.le_refl _⟩ rfl (Nat.le_of_ble_eq_true rfl) dX11_feed_31 (fun h9 y11 => ?_)
    refine oj_aload_n 0 dX11_feed_34 rfl rfl ?_
    refine oj_getr (q := 1) fl_RX11_10 k_0 rfl k_1 dX11_feed_35 ?_
    refine oj_iload_n 3 dX11_feed_38 rfl rfl ?_
    refine oc_Vv [.int p3] mi_RX11_105 ow_588 ow_589 rfl k_1 (BX10_put  y11) ⟨by decide, by decide⟩ ⟨Nat.le_refl _, Nat.le_refl _⟩ rfl (Nat.le_of_ble_eq_true rfl) dX11_feed_39 (fun h13 y15 => ?_)
    refine oj_aload_n 0 dX11_feed_42 rfl rfl ?_
    refine oj_getr (q := 1) fl_RX11_10 k_0 rfl k_1 dX11_feed_43 ?_
    refine oj_iload 4 dX11_feed_46 rfl ?_
    refine oc_Vv [.int p4] mi_RX11_105 ow_588 ow_589 rfl k_1 (BX10_put  y15) ⟨by decide, by decide⟩ ⟨Nat.le_refl _, Nat.le_refl _⟩ rfl (Nat.le_of_ble_eq_true rfl) dX11_feed_48 (fun h17 y19 => ?_)
    refine oj_aload_n 0 dX11_feed_51 rfl rfl ?_
    refine oj_getr (q := 1) fl_RX11_10 k_0 rfl k_1 dX11_feed_52 ?_
    refine oj_iload 5 dX11_feed_55 rfl ?_
    refine oc_Vv [.int p5] mi_RX11_105 ow_588 ow_589 rfl k_1 (BX10_put  y19) ⟨by decide, by decide⟩ ⟨Nat.le_refl _, Nat.le_refl _⟩ rfl (Nat.le_of_ble_eq_true rfl) dX11_feed_57 (fun h21 y23 => ?_)
    refine oj_aload_n 0 dX11_feed_60 rfl rfl ?_
    refine oj_getr (q := 1) fl_RX11_10 k_0 rfl k_1 dX11_feed_61 ?_
    refine oj_geti fl_RX11_102 k_1 rfl dX11_feed_64 ?_
    exact oj_ret (r := some (.int (h21.1 1 1))) ⟨trivial, rfl, rfl, (h21.1 1 1), rfl, y23⟩ dX11_feed_67 (Nat.zero_le _) (Nat.zero_le _)
  · have y3 := y.2 c1
    refine oj_iconst dX11_feed_16 ci_m1 ?_
    exact oj_ret (r := some (.int (-1))) ⟨trivial, rfl, rfl, (-1), rfl, y3⟩ dX11_feed_17 (Nat.zero_le _) (Nat.zero_le _)
-- X11_end
set_option maxRecDepth 100000 in
set_option maxHeartbeats 4000000 in
theorem BX11_end  {p1 : Int32}  {h : ob_H} {Q : Int32 → ob_H → Prop} (y : MX11_end  p1 h Q) : ob_T yX11_end cX11_end 2 (some .int) (ob_rm 1) KS NN h [.ref 0, .int p1] (ob_g (some .int) (ob_qi Q)) := by
  unfold MX11_end at y
  refine ob_T_gf (by decide +kernel) (Nat.le_of_ble_eq_true rfl) ?_
  show ob_J RX11 cX11_end 2 (ob_rm 1) false none 0 0 KS NN h 0 [(0, .ref 0), (1, .int p1)] [] (ob_g (some .int) (ob_qi Q))
  refine oj_iload_n 1 dX11_end_0 rfl rfl ?_
  refine oj_if_lt 15 dX11_end_1 rfl (fun c1 => ?_) (fun c1 => ?_)
  · have y2 := y.1 c1
    refine oj_iconst dX11_end_15 ci_m1 ?_
    exact oj_ret (r := some (.int (-1))) ⟨trivial, rfl, rfl, (-1), rfl, y2⟩ dX11_end_16 (Nat.zero_le _) (Nat.zero_le _)
  · have y3 := y.2 c1
    refine oj_iload_n 1 dX11_end_4 rfl rfl ?_
    refine oj_aload_n 0 dX11_end_5 rfl rfl ?_
    refine oj_getr (q := 1) fl_RX11_10 k_0 rfl k_1 dX11_end_6 ?_
    refine oj_geti fl_RX11_102 k_1 rfl dX11_end_9 ?_
    refine oj_icmp_le 17 dX11_end_12 rfl (fun c4 => ?_) (fun c4 => ?_)
    · have y5 := y3.1 c4
      refine oj_aload_n 0 dX11_end_17 rfl rfl ?_
      refine oj_getr (q := 1) fl_RX11_10 k_0 rfl k_1 dX11_end_18 ?_
      refine oj_iload_n 1 dX11_end_21 rfl rfl ?_
      refine oj_puti fl_RX11_102 (Or.inl rfl) k_1 rfl rfl rfl dX11_end_22 ?_
      refine oj_toph (fun h7 eh7 => ?_)
      have y8 := Lt_at y5 h7 eh7
      refine oj_iload_n 1 dX11_end_25 rfl rfl ?_
      exact oj_ret (r := some (.int p1)) ⟨trivial, rfl, rfl, p1, rfl, y8⟩ dX11_end_26 (Nat.zero_le _) (Nat.zero_le _)
    · have y6 := y3.2 c4
      refine oj_iconst dX11_end_15 ci_m1 ?_
      exact oj_ret (r := some (.int (-1))) ⟨trivial, rfl, rfl, (-1), rfl, y6⟩ dX11_end_16 (Nat.zero_le _) (Nat.zero_le _)
-- X4_clear
set_option maxRecDepth 100000 in
set_option maxHeartbeats 4000000 in
theorem BX4_clear  {o : Nat} (hA : A4 o) {h : ob_H} {Q : ob_H → Prop} (y : MX4_clear  o h Q) : ob_T yX4_clear cX4_clear 1 none (ob_rm 1) KS NN h [.ref o] (ob_g none (ob_qv Q)) := by
  unfold MX4_clear at y
  refine ob_T_gf (by decide +kernel) (Nat.le_of_ble_eq_true rfl) ?_
  show ob_J RX4 cX4_clear 1 (ob_rm 1) false none 0 0 KS NN h 0 [(0, .ref o)] [] (ob_g none (ob_qv Q))
  refine oj_aload_n 0 dX4_clear_0 rfl rfl ?_
  refine oj_iconst dX4_clear_1 ci_0 ?_
  refine oj_puti fl_RX4_13 (Or.inl rfl) (A4_0 hA) rfl rfl rfl dX4_clear_2 ?_
  refine oj_toph (fun h1 eh1 => ?_)
  have y2 := Lt_at y h1 eh1
  exact oj_ret (r := none) ⟨trivial, rfl, rfl, rfl, y2⟩ dX4_clear_5 (Nat.zero_le _) (Nat.zero_le _)
-- X4_add
set_option maxRecDepth 100000 in
set_option maxHeartbeats 4000000 in
theorem BX4_add  {o : Nat} {p1 : Int32} (hA : A4 o) {h : ob_H} {Q : ob_H → Prop} (y : MX4_add  o p1 h Q) : ob_T yX4_add cX4_add 2 none (ob_rm 1) KS NN h [.ref o, .int p1] (ob_g none (ob_qv Q)) := by
  unfold MX4_add at y
  refine ob_T_gf (by decide +kernel) (Nat.le_of_ble_eq_true rfl) ?_
  show ob_J RX4 cX4_add 2 (ob_rm 1) false none 0 0 KS NN h 0 [(0, .ref o), (1, .int p1)] [] (ob_g none (ob_qv Q))
  refine oj_aload_n 0 dX4_add_0 rfl rfl ?_
  refine oj_geti fl_RX4_13 (A4_0 hA) rfl dX4_add_1 ?_
  refine oj_sipush dX4_add_4 cs_300 ?_
  refine oj_icmp_ge 30 dX4_add_7 rfl (fun c1 => ?_) (fun c1 => ?_)
  · have y2 := y.1 c1
    exact oj_ret (r := none) ⟨trivial, rfl, rfl, rfl, y2⟩ dX4_add_30 (Nat.zero_le _) (Nat.zero_le _)
  · have y3 := y.2 c1
    refine oj_aload_n 0 dX4_add_10 rfl rfl ?_
    refine oj_getr (q := (o + 1)) fl_RX4_9 (A4_0 hA) rfl (A4_1 hA) dX4_add_11 ?_
    refine oj_aload_n 0 dX4_add_14 rfl rfl ?_
    refine oj_geti fl_RX4_13 (A4_0 hA) rfl dX4_add_15 ?_
    refine oj_iload_n 1 dX4_add_18 rfl rfl ?_
    obtain ⟨c4, y5⟩ := y3
    refine oj_iast (A4_1 hA) c4 rfl dX4_add_19 ?_
    refine oj_toph (fun h6 eh6 => ?_)
    have y7 := Lt_at y5 h6 eh6
    refine oj_aload_n 0 dX4_add_20 rfl rfl ?_
    refine oj_dup dX4_add_21 rfl ?_
    refine oj_geti fl_RX4_13 (A4_0 hA) rfl dX4_add_22 ?_
    refine oj_iconst dX4_add_25 ci_1 ?_
    refine oj_iadd dX4_add_26 ?_
    refine oj_puti fl_RX4_13 (Or.inl rfl) (A4_0 hA) rfl rfl rfl dX4_add_27 ?_
    refine oj_toph (fun h8 eh8 => ?_)
    have y9 := Lt_at y7 h8 eh8
    exact oj_ret (r := none) ⟨trivial, rfl, rfl, rfl, y9⟩ dX4_add_30 (Nat.zero_le _) (Nat.zero_le _)
-- X2_clear
set_option maxRecDepth 100000 in
set_option maxHeartbeats 4000000 in
theorem BLX2_clear_56 {o : Nat} (hA : A2 o) {Q : ob_H → Prop} :
    ∀ (n : Nat) (x1 : Int32) (h : ob_H), it2 (FX2_clear_56 o Q) n x1 h → ob_J RX2 cX2_clear 2 (ob_rm 2) false none 0 0 KS NN h 56 [(0, .ref o), (1, .int x1)] [] (ob_g none (ob_qv Q)) := by
  intro n
  induction n with
  | zero => intro x1 h y; exact False.elim y
  | succ n hk56 =>
    intro x1 h y
    have y : FX2_clear_56 o Q (it2 (FX2_clear_56 o Q) n) x1 h := y
    unfold FX2_clear_56 at y
    refine oj_iload_n 1 dX2_clear_56 rfl rfl ?_
    refine oj_bipush dX2_clear_57 cb_49 ?_
    refine oj_icmp_ge 75 dX2_clear_59 rfl (fun c14 => ?_) (fun c14 => ?_)
    · have y15 := y.1 c14
      refine oj_aload_n 0 dX2_clear_75 rfl rfl ?_
      refine oj_getr (q := (o + 8)) fl_RX2_50 (A2_0 hA) rfl (A2_8 hA) dX2_clear_76 ?_
      refine oc_Vv [] mi_RX2_60 ow_158 ow_159 rfl (A2_8 hA) (BX4_clear (AS2_8 hA) y15) ⟨by decide, by decide⟩ ⟨Nat.le_refl _, Nat.le_refl _⟩ rfl (Nat.le_of_ble_eq_true rfl) dX2_clear_79 (fun h18 y20 => ?_)
      refine oj_aload_n 0 dX2_clear_82 rfl rfl ?_
      refine oj_getr (q := (o + 8)) fl_RX2_50 (A2_0 hA) rfl (A2_8 hA) dX2_clear_83 ?_
      refine oj_bipush dX2_clear_86 cb_m100 ?_
      refine oc_Vv [.int (-100)] mi_RX2_63 ow_162 ow_163 rfl (A2_8 hA) (BX4_add (AS2_8 hA) y20) ⟨by decide, by decide⟩ ⟨Nat.le_refl _, Nat.le_refl _⟩ rfl (Nat.le_of_ble_eq_true rfl) dX2_clear_88 (fun h22 y24 => ?_)
      refine oj_aload_n 0 dX2_clear_91 rfl rfl ?_
      refine oj_getr (q := (o + 11)) fl_RX2_54 (A2_0 hA) rfl (A2_11 hA) dX2_clear_92 ?_
      refine oc_Vv [] mi_RX2_60 ow_158 ow_159 rfl (A2_11 hA) (BX4_clear (AS2_11 hA) y24) ⟨by decide, by decide⟩ ⟨Nat.le_refl _, Nat.le_refl _⟩ rfl (Nat.le_of_ble_eq_true rfl) dX2_clear_95 (fun h26 y28 => ?_)
      refine oj_aload_n 0 dX2_clear_98 rfl rfl ?_
      refine oj_getr (q := (o + 11)) fl_RX2_54 (A2_0 hA) rfl (A2_11 hA) dX2_clear_99 ?_
      refine oj_bipush dX2_clear_102 cb_100 ?_
      refine oc_Vv [.int (100)] mi_RX2_63 ow_162 ow_163 rfl (A2_11 hA) (BX4_add (AS2_11 hA) y28) ⟨by decide, by decide⟩ ⟨Nat.le_refl _, Nat.le_refl _⟩ rfl (Nat.le_of_ble_eq_true rfl) dX2_clear_104 (fun h30 y32 => ?_)
      exact oj_ret (r := none) ⟨trivial, rfl, rfl, rfl, y32⟩ dX2_clear_107 (Nat.zero_le _) (Nat.zero_le _)
    · have y16 := y.2 c14
      refine oj_aload_n 0 dX2_clear_62 rfl rfl ?_
      refine oj_getr (q := (o + 7)) fl_RX2_32 (A2_0 hA) rfl (A2_7 hA) dX2_clear_63 ?_
      refine oj_iload_n 1 dX2_clear_66 rfl rfl ?_
      refine oj_iconst dX2_clear_67 ci_0 ?_
      obtain ⟨c33, y34⟩ := y16
      refine oj_iast (A2_7 hA) c33 rfl dX2_clear_68 ?_
      refine oj_toph (fun h35 eh35 => ?_)
      have y36 := Lt_at y34 h35 eh35
      obtain ⟨v37, ev37⟩ : ∃ z : Int32, z = x1 + (1) := ⟨_, rfl⟩
      have y38 := Lt_at y36 v37 ev37
      refine oj_iinc (v := v37) (lv' := [(1, .int v37), (0, .ref o)]) 1 dX2_clear_69 rfl (iinc_e ci_1 ev37) (by decide) rfl ?_
      refine oj_goto 56 dX2_clear_72 rfl ?_
      refine oj_lv [1, 0] rfl ?_
      exact hk56 _ _ y38
set_option maxRecDepth 100000 in
set_option maxHeartbeats 4000000 in
theorem BLX2_clear_28 {o : Nat} (hA : A2 o) {Q : ob_H → Prop} :
    ∀ (n : Nat) (x1 : Int32) (h : ob_H), it2 (FX2_clear_28 o Q) n x1 h → ob_J RX2 cX2_clear 2 (ob_rm 2) false none 0 0 KS NN h 28 [(0, .ref o), (1, .int x1)] [] (ob_g none (ob_qv Q)) := by
  intro n
  induction n with
  | zero => intro x1 h y; exact False.elim y
  | succ n hk28 =>
    intro x1 h y
    have y : FX2_clear_28 o Q (it2 (FX2_clear_28 o Q) n) x1 h := y
    unfold FX2_clear_28 at y
    refine oj_iload_n 1 dX2_clear_28 rfl rfl ?_
    refine oj_bipush dX2_clear_29 cb_7 ?_
    refine oj_icmp_ge 54 dX2_clear_31 rfl (fun c11 => ?_) (fun c11 => ?_)
    · have y12 := y.1 c11
      refine oj_iconst dX2_clear_54 ci_0 ?_
      refine oj_istore_n (lv' := [(1, .int (0)), (0, .ref o)]) dX2_clear_55 rfl (by decide) rfl ?_
      refine oj_lv [1, 0] rfl ?_
      obtain ⟨n, y39⟩ := y12
      exact BLX2_clear_56 hA n _ _ y39
    · have y13 := y.2 c11
      refine oj_aload_n 0 dX2_clear_34 rfl rfl ?_
      refine oj_getr (q := (o + 5)) fl_RX2_26 (A2_0 hA) rfl (A2_5 hA) dX2_clear_35 ?_
      refine oj_iload_n 1 dX2_clear_38 rfl rfl ?_
      refine oj_iconst dX2_clear_39 ci_0 ?_
      obtain ⟨c40, y41⟩ := y13
      refine oj_iast (A2_5 hA) c40 rfl dX2_clear_40 ?_
      refine oj_toph (fun h42 eh42 => ?_)
      have y43 := Lt_at y41 h42 eh42
      refine oj_aload_n 0 dX2_clear_41 rfl rfl ?_
      refine oj_getr (q := (o + 6)) fl_RX2_29 (A2_0 hA) rfl (A2_6 hA) dX2_clear_42 ?_
      refine oj_iload_n 1 dX2_clear_45 rfl rfl ?_
      refine oj_iconst dX2_clear_46 ci_0 ?_
      refine oj_iast (A2_6 hA) c40 rfl dX2_clear_47 ?_
      refine oj_toph (fun h44 eh44 => ?_)
      have y45 := Lt_at y43 h44 eh44
      obtain ⟨v46, ev46⟩ : ∃ z : Int32, z = x1 + (1) := ⟨_, rfl⟩
      have y47 := Lt_at y45 v46 ev46
      refine oj_iinc (v := v46) (lv' := [(1, .int v46), (0, .ref o)]) 1 dX2_clear_48 rfl (iinc_e ci_1 ev46) (by decide) rfl ?_
      refine oj_goto 28 dX2_clear_51 rfl ?_
      refine oj_lv [1, 0] rfl ?_
      exact hk28 _ _ y47
set_option maxRecDepth 100000 in
set_option maxHeartbeats 4000000 in
theorem BX2_clear  {o : Nat} (hA : A2 o) {h : ob_H} {Q : ob_H → Prop} (y : MX2_clear  o h Q) : ob_T yX2_clear cX2_clear 2 none (ob_rm 2) KS NN h [.ref o] (ob_g none (ob_qv Q)) := by
  unfold MX2_clear at y
  refine ob_T_gf (by decide +kernel) (Nat.le_of_ble_eq_true rfl) ?_
  show ob_J RX2 cX2_clear 2 (ob_rm 2) false none 0 0 KS NN h 0 [(0, .ref o)] [] (ob_g none (ob_qv Q))
  refine oj_aload_n 0 dX2_clear_0 rfl rfl ?_
  refine oj_iconst dX2_clear_1 ci_0 ?_
  refine oj_puti fl_RX2_7 (Or.inl rfl) (A2_0 hA) rfl rfl rfl dX2_clear_2 ?_
  refine oj_toph (fun h1 eh1 => ?_)
  have y2 := Lt_at y h1 eh1
  refine oj_aload_n 0 dX2_clear_5 rfl rfl ?_
  refine oj_iconst dX2_clear_6 ci_0 ?_
  refine oj_puti fl_RX2_35 (Or.inl rfl) (A2_0 hA) rfl rfl rfl dX2_clear_7 ?_
  refine oj_toph (fun h3 eh3 => ?_)
  have y4 := Lt_at y2 h3 eh3
  refine oj_aload_n 0 dX2_clear_10 rfl rfl ?_
  refine oj_bipush dX2_clear_11 cb_100 ?_
  refine oj_puti fl_RX2_38 (Or.inl rfl) (A2_0 hA) rfl rfl rfl dX2_clear_13 ?_
  refine oj_toph (fun h5 eh5 => ?_)
  have y6 := Lt_at y4 h5 eh5
  refine oj_aload_n 0 dX2_clear_16 rfl rfl ?_
  refine oj_iconst dX2_clear_17 ci_0 ?_
  refine oj_puti fl_RX2_41 (Or.inl rfl) (A2_0 hA) rfl rfl rfl dX2_clear_18 ?_
  refine oj_toph (fun h7 eh7 => ?_)
  have y8 := Lt_at y6 h7 eh7
  refine oj_aload_n 0 dX2_clear_21 rfl rfl ?_
  refine oj_iconst dX2_clear_22 ci_0 ?_
  refine oj_puti fl_RX2_44 (Or.inl rfl) (A2_0 hA) rfl rfl rfl dX2_clear_23 ?_
  refine oj_toph (fun h9 eh9 => ?_)
  have y10 := Lt_at y8 h9 eh9
  refine oj_iconst dX2_clear_26 ci_0 ?_
  refine oj_istore_n (lv' := [(1, .int (0)), (0, .ref o)]) dX2_clear_27 rfl (by decide) rfl ?_
  refine oj_lv [1, 0] rfl ?_
  obtain ⟨n, y48⟩ := y10
  exact BLX2_clear_28 hA n _ _ y48
-- X10_isLetter
set_option maxRecDepth 100000 in
set_option maxHeartbeats 4000000 in
theorem BX10_isLetter  {p0 : Int32}  {h : ob_H} {Q : Int32 → Prop} (y : MX10_isLetter  p0 h Q) : ob_T yX10_isLetter cX10_isLetter 1 (some .boolean) (ob_rm 1) KS NN h [.int p0] (ob_g (some .boolean) (ob_pi h Q)) := by
  unfold MX10_isLetter at y
  refine ob_T_gf (by decide +kernel) (Nat.le_of_ble_eq_true rfl) ?_
  show ob_J RX10 cX10_isLetter 1 (ob_rm 1) false none 0 0 KS NN h 0 [(0, .int p0)] [] (ob_g (some .boolean) (ob_pi h Q))
  refine oj_iload_n 0 dX10_isLetter_0 rfl rfl ?_
  refine oj_bipush dX10_isLetter_1 cb_97 ?_
  refine oj_icmp_lt 16 dX10_isLetter_3 rfl (fun c1 => ?_) (fun c1 => ?_)
  · have y2 := y.1 c1
    refine oj_iconst dX10_isLetter_16 ci_0 ?_
    exact oj_ret (r := some (.int (0))) ⟨rfl, rfl, rfl, rfl, (0), rfl, y2⟩ dX10_isLetter_17 (Nat.zero_le _) (Nat.zero_le _)
  · have y3 := y.2 c1
    refine oj_iload_n 0 dX10_isLetter_6 rfl rfl ?_
    refine oj_bipush dX10_isLetter_7 cb_122 ?_
    refine oj_icmp_gt 16 dX10_isLetter_9 rfl (fun c4 => ?_) (fun c4 => ?_)
    · have y5 := y3.1 c4
      refine oj_iconst dX10_isLetter_16 ci_0 ?_
      exact oj_ret (r := some (.int (0))) ⟨rfl, rfl, rfl, rfl, (0), rfl, y5⟩ dX10_isLetter_17 (Nat.zero_le _) (Nat.zero_le _)
    · have y6 := y3.2 c4
      refine oj_iconst dX10_isLetter_12 ci_1 ?_
      refine oj_goto 17 dX10_isLetter_13 rfl ?_
      exact oj_ret (r := some (.int (1))) ⟨rfl, rfl, rfl, rfl, (1), rfl, y6⟩ dX10_isLetter_17 (Nat.zero_le _) (Nat.zero_le _)
-- X10_withLetter
set_option maxRecDepth 100000 in
set_option maxHeartbeats 4000000 in
theorem BX10_withLetter  {p0 : Int64} {p2 : Int32}  {h : ob_H} {Q : Int64 → Prop} (y : MX10_withLetter  p0 p2 h Q) : ob_T yX10_withLetter cX10_withLetter 3 (some .long) (ob_rm 1) KS NN h [.long p0, .int p2] (ob_g (some .long) (ob_pl h Q)) := by
  unfold MX10_withLetter at y
  refine ob_T_gf (by decide +kernel) (Nat.le_of_ble_eq_true rfl) ?_
  show ob_J RX10 cX10_withLetter 3 (ob_rm 1) false none 0 0 KS NN h 0 [(0, .long p0), (2, .int p2)] [] (ob_g (some .long) (ob_pl h Q))
  refine oj_lload_n 0 dX10_withLetter_0 rfl rfl ?_
  refine oj_ldc2 ow_90 dX10_withLetter_1 ?_
  refine oj_lmul dX10_withLetter_4 ?_
  refine oj_iload_n 1 dX10_withLetter_5 rfl rfl ?_
  refine oj_i2l dX10_withLetter_6 ?_
  refine oj_ladd dX10_withLetter_7 ?_
  refine oj_ldc2 ow_91 dX10_withLetter_8 ?_
  refine oj_lsub dX10_withLetter_11 ?_
  refine oj_lconst dX10_withLetter_12 lc_1 ?_
  refine oj_ladd dX10_withLetter_13 ?_
  exact oj_ret (r := some (.long ((((p0 * (32)) + (p2).toInt64) - (97)) + 1))) ⟨trivial, rfl, rfl, rfl, ((((p0 * (32)) + (p2).toInt64) - (97)) + 1), rfl, y⟩ dX10_withLetter_14 (Nat.zero_le _) (Nat.zero_le _)
-- X10_readWord
set_option maxRecDepth 100000 in
set_option maxHeartbeats 4000000 in
theorem BLX10_readWord_83 {x1 : Int64} {Q : ob_H → Prop} :
    ∀ (n : Nat) (x4 : Int32) (h : ob_H), it2 (FX10_readWord_83 x1 Q) n x4 h → ob_J RX10 cX10_readWord 5 (ob_rm 2) false none 0 0 KS NN h 83 [(0, .ref 1), (1, .long x1), (4, .int x4)] [] (ob_g none (ob_qv Q)) := by
  intro n
  induction n with
  | zero => intro x4 h y; exact False.elim y
  | succ n hk83 =>
    intro x4 h y
    have y : FX10_readWord_83 x1 Q (it2 (FX10_readWord_83 x1 Q) n) x4 h := y
    unfold FX10_readWord_83 at y
    refine oj_iload 2 dX10_readWord_83 rfl ?_
    refine oj_bipush dX10_readWord_85 cb_20 ?_
    refine oj_icmp_ge 125 dX10_readWord_87 rfl (fun c11 => ?_) (fun c11 => ?_)
    · have y12 := y.1 c11
      exact oj_ret (r := none) ⟨trivial, rfl, rfl, rfl, y12⟩ dX10_readWord_125 (Nat.zero_le _) (Nat.zero_le _)
    · have y13 := y.2 c11
      refine oj_aload_n 0 dX10_readWord_90 rfl rfl ?_
      refine oj_geti fl_RX10_17 k_1 rfl dX10_readWord_91 ?_
      refine oj_iconst dX10_readWord_94 ci_2 ?_
      refine oj_icmp_ne 125 dX10_readWord_95 rfl (fun c14 => ?_) (fun c14 => ?_)
      · have y15 := y13.2 c14
        exact oj_ret (r := none) ⟨trivial, rfl, rfl, rfl, y15⟩ dX10_readWord_125 (Nat.zero_le _) (Nat.zero_le _)
      · have y16 := y13.1 c14
        refine oj_aload_n 0 dX10_readWord_98 rfl rfl ?_
        refine oj_getr (q := 3) fl_RX10_33 k_1 rfl k_3 dX10_readWord_99 ?_
        refine oj_iload 2 dX10_readWord_102 rfl ?_
        obtain ⟨c17, y18⟩ := y16
        refine oj_lald k_3 c17 rfl dX10_readWord_104 ?_
        refine oj_lload_n 1 dX10_readWord_105 rfl rfl ?_
        refine oj_lcmp dX10_readWord_106 ?_
        refine oj_if_ne 119 dX10_readWord_107 rfl (fun c19 => ?_) (fun c19 => ?_)
        · have y20 := y18.2 c19
          obtain ⟨v22, ev22⟩ : ∃ z : Int32, z = x4 + (1) := ⟨_, rfl⟩
          have y23 := Lt_at y20 v22 ev22
          refine oj_iinc (v := v22) (lv' := [(4, .int v22), (0, .ref 1), (1, .long x1)]) 2 dX10_readWord_119 rfl (iinc_e ci_1 ev22) (by decide) rfl ?_
          refine oj_goto 83 dX10_readWord_122 rfl ?_
          refine oj_lv [1, 2, 0] rfl ?_
          exact hk83 _ _ y23
        · have y21 := y18.1 c19
          refine oj_aload_n 0 dX10_readWord_110 rfl rfl ?_
          refine oj_bipush dX10_readWord_111 cb_100 ?_
          refine oj_iload 2 dX10_readWord_113 rfl ?_
          refine oj_iadd dX10_readWord_115 ?_
          refine oj_puti fl_RX10_17 (Or.inl rfl) k_1 rfl rfl rfl dX10_readWord_116 ?_
          refine oj_toph (fun h24 eh24 => ?_)
          have y25 := Lt_at y21 h24 eh24
          obtain ⟨v26, ev26⟩ : ∃ z : Int32, z = x4 + (1) := ⟨_, rfl⟩
          have y27 := Lt_at y25 v26 ev26
          refine oj_iinc (v := v26) (lv' := [(4, .int v26), (0, .ref 1), (1, .long x1)]) 2 dX10_readWord_119 rfl (iinc_e ci_1 ev26) (by decide) rfl ?_
          refine oj_goto 83 dX10_readWord_122 rfl ?_
          refine oj_lv [1, 2, 0] rfl ?_
          exact hk83 _ _ y27
set_option maxRecDepth 100000 in
set_option maxHeartbeats 4000000 in
theorem BKX10_readWord_60 {x1 : Int64} {x3 : Int32} {h : ob_H} {Q : ob_H → Prop}
    (y : KX10_readWord_60 x1 x3 h Q) : ob_J RX10 cX10_readWord 5 (ob_rm 2) false none 0 0 KS NN h 60 [(0, .ref 1), (1, .long x1), (3, .int x3)] [] (ob_g none (ob_qv Q)) := by
  unfold KX10_readWord_60 at y
  refine oj_aload_n 0 dX10_readWord_60 rfl rfl ?_
  refine oj_lload_n 1 dX10_readWord_61 rfl rfl ?_
  refine oj_putl fl_RX10_26 (Or.inl rfl) k_1 rfl rfl rfl dX10_readWord_62 ?_
  refine oj_toph (fun h4 eh4 => ?_)
  have y5 := Lt_at y h4 eh4
  refine oj_aload_n 0 dX10_readWord_65 rfl rfl ?_
  refine oj_iload_n 2 dX10_readWord_66 rfl rfl ?_
  refine oj_bipush dX10_readWord_67 cb_8 ?_
  refine oj_icmp_gt 76 dX10_readWord_69 rfl (fun c6 => ?_) (fun c6 => ?_)
  · have y7 := y5.1 c6
    refine oj_iconst dX10_readWord_76 ci_1 ?_
    refine oj_puti fl_RX10_17 (Or.inl rfl) k_1 rfl rfl rfl dX10_readWord_77 ?_
    refine oj_toph (fun h9 eh9 => ?_)
    have y10 := Lt_at y7 h9 eh9
    refine oj_iconst dX10_readWord_80 ci_0 ?_
    refine oj_istore (lv' := [(4, .int (0)), (0, .ref 1), (1, .long x1), (3, .int x3)]) dX10_readWord_81 (by decide) rfl ?_
    refine oj_lv [1, 2, 0] rfl ?_
    obtain ⟨n, y28⟩ := y10
    exact BLX10_readWord_83  n _ _ y28
  · have y8 := y5.2 c6
    refine oj_iconst dX10_readWord_72 ci_2 ?_
    refine oj_goto 77 dX10_readWord_73 rfl ?_
    refine oj_puti fl_RX10_17 (Or.inl rfl) k_1 rfl rfl rfl dX10_readWord_77 ?_
    refine oj_toph (fun h29 eh29 => ?_)
    have y30 := Lt_at y8 h29 eh29
    refine oj_iconst dX10_readWord_80 ci_0 ?_
    refine oj_istore (lv' := [(4, .int (0)), (0, .ref 1), (1, .long x1), (3, .int x3)]) dX10_readWord_81 (by decide) rfl ?_
    refine oj_lv [1, 2, 0] rfl ?_
    obtain ⟨n, y31⟩ := y30
    exact BLX10_readWord_83  n _ _ y31
set_option maxRecDepth 100000 in
set_option maxHeartbeats 4000000 in
theorem BLX10_readWord_4 {Q : ob_H → Prop} :
    ∀ (n : Nat) (x1 : Int64) (x3 : Int32) (h : ob_H), it3 (FX10_readWord_4 Q) n x1 x3 h → ob_J RX10 cX10_readWord 5 (ob_rm 2) false none 0 0 KS NN h 4 [(0, .ref 1), (1, .long x1), (3, .int x3)] [] (ob_g none (ob_qv Q)) := by
  intro n
  induction n with
  | zero => intro x1 x3 h y; exact False.elim y
  | succ n hk4 =>
    intro x1 x3 h y
    have y : FX10_readWord_4 Q (it3 (FX10_readWord_4 Q) n) x1 x3 h := y
    unfold FX10_readWord_4 at y
    refine oj_aload_n 0 dX10_readWord_4 rfl rfl ?_
    refine oj_geti fl_RX10_30 k_1 rfl dX10_readWord_5 ?_
    refine oj_aload_n 0 dX10_readWord_8 rfl rfl ?_
    refine oj_geti fl_RX10_13 k_1 rfl dX10_readWord_9 ?_
    refine oj_icmp_ge 60 dX10_readWord_12 rfl (fun c1 => ?_) (fun c1 => ?_)
    · have y2 := y.1 c1
      refine oj_lv [0, 1, 2] rfl ?_
      exact BKX10_readWord_60  y2
    · have y3 := y.2 c1
      refine oj_aload_n 0 dX10_readWord_15 rfl rfl ?_
      refine oj_getr (q := 2) fl_RX10_9 k_1 rfl k_2 dX10_readWord_16 ?_
      refine oj_aload_n 0 dX10_readWord_19 rfl rfl ?_
      refine oj_geti fl_RX10_30 k_1 rfl dX10_readWord_20 ?_
      obtain ⟨c32, y33⟩ := y3
      refine oj_bald k_2 c32 rfl dX10_readWord_23 ?_
      refine oc_Spi [.int (h.1 2 (ix (h.1 1 6)))] mi_RX10_48 ow_85 (BX10_isLetter  y33) ⟨by decide, by decide⟩ ⟨Nat.le_refl _, Nat.le_refl _⟩ rfl (Nat.le_of_ble_eq_true rfl) dX10_readWord_24 (fun r34 f36 y37 => ?_)
      refine oj_if_eq 60 dX10_readWord_27 rfl (fun c38 => ?_) (fun c38 => ?_)
      · have y39 := y37.1 c38
        refine oj_lv [0, 1, 2] rfl ?_
        exact BKX10_readWord_60  y39
      · have y40 := y37.2 c38
        refine oj_lload_n 1 dX10_readWord_30 rfl rfl ?_
        refine oj_aload_n 0 dX10_readWord_31 rfl rfl ?_
        refine oj_getr (q := 2) fl_RX10_9 k_1 rfl k_2 dX10_readWord_32 ?_
        refine oj_aload_n 0 dX10_readWord_35 rfl rfl ?_
        refine oj_geti fl_RX10_30 k_1 rfl dX10_readWord_36 ?_
        refine oj_bald k_2 c32 rfl dX10_readWord_39 ?_
        refine oc_Spl [.long x1, .int (h.1 2 (ix (h.1 1 6)))] mi_RX10_52 ow_88 (BX10_withLetter  y40) ⟨by decide, by decide⟩ ⟨Nat.le_refl _, Nat.le_refl _⟩ rfl (Nat.le_of_ble_eq_true rfl) dX10_readWord_40 (fun r41 f43 y44 => ?_)
        refine oj_lstore_n (lv' := [(1, .long r41), (0, .ref 1), (3, .int x3)]) dX10_readWord_43 rfl (by decide) rfl ?_
        obtain ⟨v45, ev45⟩ : ∃ z : Int32, z = x3 + (1) := ⟨_, rfl⟩
        have y46 := Lt_at y44 v45 ev45
        refine oj_iinc (v := v45) (lv' := [(3, .int v45), (1, .long r41), (0, .ref 1)]) 2 dX10_readWord_44 rfl (iinc_e ci_1 ev45) (by decide) rfl ?_
        refine oj_aload_n 2 dX10_readWord_47 rfl rfl ?_
        refine oj_dup dX10_readWord_48 rfl ?_
        refine oj_geti fl_RX10_30 k_1 rfl dX10_readWord_49 ?_
        refine oj_iconst dX10_readWord_52 ci_1 ?_
        refine oj_iadd dX10_readWord_53 ?_
        refine oj_puti fl_RX10_30 (Or.inl rfl) k_1 rfl rfl rfl dX10_readWord_54 ?_
        refine oj_toph (fun h47 eh47 => ?_)
        have y48 := Lt_at y46 h47 eh47
        refine oj_goto 4 dX10_readWord_57 rfl ?_
        refine oj_lv [2, 1, 0] rfl ?_
        exact hk4 _ _ _ y48
set_option maxRecDepth 100000 in
set_option maxHeartbeats 4000000 in
theorem BX10_readWord    {h : ob_H} {Q : ob_H → Prop} (y : MX10_readWord   h Q) : ob_T yX10_readWord cX10_readWord 5 none (ob_rm 2) KS NN h [.ref 1] (ob_g none (ob_qv Q)) := by
  unfold MX10_readWord at y
  refine ob_T_gf (by decide +kernel) (Nat.le_of_ble_eq_true rfl) ?_
  show ob_J RX10 cX10_readWord 5 (ob_rm 2) false none 0 0 KS NN h 0 [(0, .ref 1)] [] (ob_g none (ob_qv Q))
  refine oj_lconst dX10_readWord_0 lc_0 ?_
  refine oj_lstore_n (lv' := [(1, .long 0), (0, .ref 1)]) dX10_readWord_1 rfl (by decide) rfl ?_
  refine oj_iconst dX10_readWord_2 ci_0 ?_
  refine oj_istore_n (lv' := [(3, .int (0)), (1, .long 0), (0, .ref 1)]) dX10_readWord_3 rfl (by decide) rfl ?_
  refine oj_lv [2, 1, 0] rfl ?_
  obtain ⟨n, y49⟩ := y
  exact BLX10_readWord_4  n _ _ _ y49
-- X10_isDigit
set_option maxRecDepth 100000 in
set_option maxHeartbeats 4000000 in
theorem BX10_isDigit  {p0 : Int32}  {h : ob_H} {Q : Int32 → Prop} (y : MX10_isDigit  p0 h Q) : ob_T yX10_isDigit cX10_isDigit 1 (some .boolean) (ob_rm 1) KS NN h [.int p0] (ob_g (some .boolean) (ob_pi h Q)) := by
  unfold MX10_isDigit at y
  refine ob_T_gf (by decide +kernel) (Nat.le_of_ble_eq_true rfl) ?_
  show ob_J RX10 cX10_isDigit 1 (ob_rm 1) false none 0 0 KS NN h 0 [(0, .int p0)] [] (ob_g (some .boolean) (ob_pi h Q))
  refine oj_iload_n 0 dX10_isDigit_0 rfl rfl ?_
  refine oj_bipush dX10_isDigit_1 cb_48 ?_
  refine oj_icmp_lt 16 dX10_isDigit_3 rfl (fun c1 => ?_) (fun c1 => ?_)
  · have y2 := y.1 c1
    refine oj_iconst dX10_isDigit_16 ci_0 ?_
    exact oj_ret (r := some (.int (0))) ⟨rfl, rfl, rfl, rfl, (0), rfl, y2⟩ dX10_isDigit_17 (Nat.zero_le _) (Nat.zero_le _)
  · have y3 := y.2 c1
    refine oj_iload_n 0 dX10_isDigit_6 rfl rfl ?_
    refine oj_bipush dX10_isDigit_7 cb_57 ?_
    refine oj_icmp_gt 16 dX10_isDigit_9 rfl (fun c4 => ?_) (fun c4 => ?_)
    · have y5 := y3.1 c4
      refine oj_iconst dX10_isDigit_16 ci_0 ?_
      exact oj_ret (r := some (.int (0))) ⟨rfl, rfl, rfl, rfl, (0), rfl, y5⟩ dX10_isDigit_17 (Nat.zero_le _) (Nat.zero_le _)
    · have y6 := y3.2 c4
      refine oj_iconst dX10_isDigit_12 ci_1 ?_
      refine oj_goto 17 dX10_isDigit_13 rfl ?_
      exact oj_ret (r := some (.int (1))) ⟨rfl, rfl, rfl, rfl, (1), rfl, y6⟩ dX10_isDigit_17 (Nat.zero_le _) (Nat.zero_le _)
-- X10_readNumber
set_option maxRecDepth 100000 in
set_option maxHeartbeats 4000000 in
theorem BKX10_readNumber_104 {x1 : Int32} {s0 : Int32} {h : ob_H} {Q : ob_H → Prop}
    (y : KX10_readNumber_104 x1 s0 h Q) : ob_J RX10 cX10_readNumber 3 (ob_rm 2) false none 0 0 KS NN h 104 [(0, .ref 1), (1, .int x1)] [.int s0] (ob_g none (ob_qv Q)) := by
  unfold KX10_readNumber_104 at y
  refine oj_istore_n (lv' := [(2, .int s0), (0, .ref 1), (1, .int x1)]) dX10_readNumber_104 rfl (by decide) rfl ?_
  refine oj_aload_n 1 dX10_readNumber_105 rfl rfl ?_
  refine oj_iload_n 2 dX10_readNumber_106 rfl rfl ?_
  refine oj_iconst dX10_readNumber_107 ci_4 ?_
  refine oj_icmp_gt 119 dX10_readNumber_108 rfl (fun c9 => ?_) (fun c9 => ?_)
  · have y10 := y.1 c9
    refine oj_iconst dX10_readNumber_119 ci_1 ?_
    refine oj_puti fl_RX10_17 (Or.inl rfl) k_1 rfl rfl rfl dX10_readNumber_120 ?_
    refine oj_toph (fun h12 eh12 => ?_)
    have y13 := Lt_at y10 h12 eh12
    exact oj_ret (r := none) ⟨trivial, rfl, rfl, rfl, y13⟩ dX10_readNumber_123 (Nat.zero_le _) (Nat.zero_le _)
  · have y11 := y.2 c9
    refine oj_iload_n 0 dX10_readNumber_111 rfl rfl ?_
    refine oj_if_ne 119 dX10_readNumber_112 rfl (fun c14 => ?_) (fun c14 => ?_)
    · have y15 := y11.2 c14
      refine oj_iconst dX10_readNumber_119 ci_1 ?_
      refine oj_puti fl_RX10_17 (Or.inl rfl) k_1 rfl rfl rfl dX10_readNumber_120 ?_
      refine oj_toph (fun h17 eh17 => ?_)
      have y18 := Lt_at y15 h17 eh17
      exact oj_ret (r := none) ⟨trivial, rfl, rfl, rfl, y18⟩ dX10_readNumber_123 (Nat.zero_le _) (Nat.zero_le _)
    · have y16 := y11.1 c14
      refine oj_iconst dX10_readNumber_115 ci_3 ?_
      refine oj_goto 120 dX10_readNumber_116 rfl ?_
      refine oj_puti fl_RX10_17 (Or.inl rfl) k_1 rfl rfl rfl dX10_readNumber_120 ?_
      refine oj_toph (fun h19 eh19 => ?_)
      have y20 := Lt_at y16 h19 eh19
      exact oj_ret (r := none) ⟨trivial, rfl, rfl, rfl, y20⟩ dX10_readNumber_123 (Nat.zero_le _) (Nat.zero_le _)
set_option maxRecDepth 100000 in
set_option maxHeartbeats 4000000 in
theorem BKX10_readNumber_73 {x1 : Int32} {h : ob_H} {Q : ob_H → Prop}
    (y : KX10_readNumber_73 x1 h Q) : ob_J RX10 cX10_readNumber 3 (ob_rm 2) false none 0 0 KS NN h 73 [(0, .ref 1), (1, .int x1)] [] (ob_g none (ob_qv Q)) := by
  unfold KX10_readNumber_73 at y
  refine oj_aload_n 0 dX10_readNumber_73 rfl rfl ?_
  refine oj_geti fl_RX10_30 k_1 rfl dX10_readNumber_74 ?_
  refine oj_aload_n 0 dX10_readNumber_77 rfl rfl ?_
  refine oj_geti fl_RX10_13 k_1 rfl dX10_readNumber_78 ?_
  refine oj_icmp_ge 103 dX10_readNumber_81 rfl (fun c6 => ?_) (fun c6 => ?_)
  · have y7 := y.1 c6
    refine oj_iconst dX10_readNumber_103 ci_0 ?_
    refine oj_lv [0, 1] rfl ?_
    exact BKX10_readNumber_104  y7
  · have y8 := y.2 c6
    refine oj_aload_n 0 dX10_readNumber_84 rfl rfl ?_
    refine oj_getr (q := 2) fl_RX10_9 k_1 rfl k_2 dX10_readNumber_85 ?_
    refine oj_aload_n 0 dX10_readNumber_88 rfl rfl ?_
    refine oj_geti fl_RX10_30 k_1 rfl dX10_readNumber_89 ?_
    obtain ⟨c21, y22⟩ := y8
    refine oj_bald k_2 c21 rfl dX10_readNumber_92 ?_
    refine oc_Spi [.int (h.1 2 (ix (h.1 1 6)))] mi_RX10_48 ow_85 (BX10_isLetter  y22) ⟨by decide, by decide⟩ ⟨Nat.le_refl _, Nat.le_refl _⟩ rfl (Nat.le_of_ble_eq_true rfl) dX10_readNumber_93 (fun r23 f25 y26 => ?_)
    refine oj_if_eq 103 dX10_readNumber_96 rfl (fun c27 => ?_) (fun c27 => ?_)
    · have y28 := y26.1 c27
      refine oj_iconst dX10_readNumber_103 ci_0 ?_
      refine oj_lv [0, 1] rfl ?_
      exact BKX10_readNumber_104  y28
    · have y29 := y26.2 c27
      refine oj_iconst dX10_readNumber_99 ci_1 ?_
      refine oj_goto 104 dX10_readNumber_100 rfl ?_
      refine oj_lv [0, 1] rfl ?_
      exact BKX10_readNumber_104  y29
set_option maxRecDepth 100000 in
set_option maxHeartbeats 4000000 in
theorem BLX10_readNumber_7 {Q : ob_H → Prop} :
    ∀ (n : Nat) (x1 : Int32) (h : ob_H), it2 (FX10_readNumber_7 Q) n x1 h → ob_J RX10 cX10_readNumber 3 (ob_rm 2) false none 0 0 KS NN h 7 [(0, .ref 1), (1, .int x1)] [] (ob_g none (ob_qv Q)) := by
  intro n
  induction n with
  | zero => intro x1 h y; exact False.elim y
  | succ n hk7 =>
    intro x1 h y
    have y : FX10_readNumber_7 Q (it2 (FX10_readNumber_7 Q) n) x1 h := y
    unfold FX10_readNumber_7 at y
    refine oj_aload_n 0 dX10_readNumber_7 rfl rfl ?_
    refine oj_geti fl_RX10_30 k_1 rfl dX10_readNumber_8 ?_
    refine oj_aload_n 0 dX10_readNumber_11 rfl rfl ?_
    refine oj_geti fl_RX10_13 k_1 rfl dX10_readNumber_12 ?_
    refine oj_icmp_ge 73 dX10_readNumber_15 rfl (fun c3 => ?_) (fun c3 => ?_)
    · have y4 := y.1 c3
      refine oj_lv [0, 1] rfl ?_
      exact BKX10_readNumber_73  y4
    · have y5 := y.2 c3
      refine oj_aload_n 0 dX10_readNumber_18 rfl rfl ?_
      refine oj_getr (q := 2) fl_RX10_9 k_1 rfl k_2 dX10_readNumber_19 ?_
      refine oj_aload_n 0 dX10_readNumber_22 rfl rfl ?_
      refine oj_geti fl_RX10_30 k_1 rfl dX10_readNumber_23 ?_
      obtain ⟨c30, y31⟩ := y5
      refine oj_bald k_2 c30 rfl dX10_readNumber_26 ?_
      refine oc_Spi [.int (h.1 2 (ix (h.1 1 6)))] mi_RX10_62 ow_617 (BX10_isDigit  y31) ⟨by decide, by decide⟩ ⟨Nat.le_refl _, Nat.le_refl _⟩ rfl (Nat.le_of_ble_eq_true rfl) dX10_readNumber_27 (fun r32 f34 y35 => ?_)
      refine oj_if_eq 73 dX10_readNumber_30 rfl (fun c36 => ?_) (fun c36 => ?_)
      · have y37 := y35.1 c36
        refine oj_lv [0, 1] rfl ?_
        exact BKX10_readNumber_73  y37
      · have y38 := y35.2 c36
        refine oj_aload_n 0 dX10_readNumber_33 rfl rfl ?_
        refine oj_aload_n 0 dX10_readNumber_34 rfl rfl ?_
        refine oj_geti fl_RX10_23 k_1 rfl dX10_readNumber_35 ?_
        refine oj_bipush dX10_readNumber_38 cb_10 ?_
        refine oj_imul dX10_readNumber_40 ?_
        refine oj_aload_n 0 dX10_readNumber_41 rfl rfl ?_
        refine oj_getr (q := 2) fl_RX10_9 k_1 rfl k_2 dX10_readNumber_42 ?_
        refine oj_aload_n 0 dX10_readNumber_45 rfl rfl ?_
        refine oj_geti fl_RX10_30 k_1 rfl dX10_readNumber_46 ?_
        refine oj_bald k_2 c30 rfl dX10_readNumber_49 ?_
        refine oj_iadd dX10_readNumber_50 ?_
        refine oj_bipush dX10_readNumber_51 cb_48 ?_
        refine oj_isub dX10_readNumber_53 ?_
        refine oj_puti fl_RX10_23 (Or.inl rfl) k_1 rfl rfl rfl dX10_readNumber_54 ?_
        refine oj_toph (fun h39 eh39 => ?_)
        have y40 := Lt_at y38 h39 eh39
        obtain ⟨v41, ev41⟩ : ∃ z : Int32, z = x1 + (1) := ⟨_, rfl⟩
        have y42 := Lt_at y40 v41 ev41
        refine oj_iinc (v := v41) (lv' := [(1, .int v41), (0, .ref 1)]) 1 dX10_readNumber_57 rfl (iinc_e ci_1 ev41) (by decide) rfl ?_
        refine oj_aload_n 1 dX10_readNumber_60 rfl rfl ?_
        refine oj_dup dX10_readNumber_61 rfl ?_
        refine oj_geti fl_RX10_30 k_1 rfl dX10_readNumber_62 ?_
        refine oj_iconst dX10_readNumber_65 ci_1 ?_
        refine oj_iadd dX10_readNumber_66 ?_
        refine oj_puti fl_RX10_30 (Or.inl rfl) k_1 rfl rfl rfl dX10_readNumber_67 ?_
        refine oj_toph (fun h43 eh43 => ?_)
        have y44 := Lt_at y42 h43 eh43
        refine oj_goto 7 dX10_readNumber_70 rfl ?_
        refine oj_lv [1, 0] rfl ?_
        exact hk7 _ _ y44
set_option maxRecDepth 100000 in
set_option maxHeartbeats 4000000 in
theorem BX10_readNumber    {h : ob_H} {Q : ob_H → Prop} (y : MX10_readNumber   h Q) : ob_T yX10_readNumber cX10_readNumber 3 none (ob_rm 2) KS NN h [.ref 1] (ob_g none (ob_qv Q)) := by
  unfold MX10_readNumber at y
  refine ob_T_gf (by decide +kernel) (Nat.le_of_ble_eq_true rfl) ?_
  show ob_J RX10 cX10_readNumber 3 (ob_rm 2) false none 0 0 KS NN h 0 [(0, .ref 1)] [] (ob_g none (ob_qv Q))
  refine oj_iconst dX10_readNumber_0 ci_0 ?_
  refine oj_istore_n (lv' := [(1, .int (0)), (0, .ref 1)]) dX10_readNumber_1 rfl (by decide) rfl ?_
  refine oj_aload_n 1 dX10_readNumber_2 rfl rfl ?_
  refine oj_iconst dX10_readNumber_3 ci_0 ?_
  refine oj_puti fl_RX10_23 (Or.inl rfl) k_1 rfl rfl rfl dX10_readNumber_4 ?_
  refine oj_toph (fun h1 eh1 => ?_)
  have y2 := Lt_at y h1 eh1
  refine oj_lv [1, 0] rfl ?_
  obtain ⟨n, y45⟩ := y2
  exact BLX10_readNumber_7  n _ _ y45
-- X10_isSign
set_option maxRecDepth 100000 in
set_option maxHeartbeats 4000000 in
theorem BX10_isSign  {p0 : Int32}  {h : ob_H} {Q : Int32 → Prop} (y : MX10_isSign  p0 h Q) : ob_T yX10_isSign cX10_isSign 1 (some .boolean) (ob_rm 1) KS NN h [.int p0] (ob_g (some .boolean) (ob_pi h Q)) := by
  unfold MX10_isSign at y
  refine ob_T_gf (by decide +kernel) (Nat.le_of_ble_eq_true rfl) ?_
  show ob_J RX10 cX10_isSign 1 (ob_rm 1) false none 0 0 KS NN h 0 [(0, .int p0)] [] (ob_g (some .boolean) (ob_pi h Q))
  refine oj_iload_n 0 dX10_isSign_0 rfl rfl ?_
  by_cases c1 : p0 = (37)
  · have y2 := y.1 c1
    refine oj_tableIn 120 dX10_isSign_1 (by rw [c1] <;> decide) (by rw [c1] <;> decide) (by rw [c1] <;> rfl) rfl ?_
    refine oj_iconst dX10_isSign_120 ci_1 ?_
    exact oj_ret (r := some (.int (1))) ⟨rfl, rfl, rfl, rfl, (1), rfl, y2⟩ dX10_isSign_121 (Nat.zero_le _) (Nat.zero_le _)
  have y3 := y.2 c1
  by_cases c4 : p0 = (40)
  · have y5 := y3.1 c4
    refine oj_tableIn 120 dX10_isSign_1 (by rw [c4] <;> decide) (by rw [c4] <;> decide) (by rw [c4] <;> rfl) rfl ?_
    refine oj_iconst dX10_isSign_120 ci_1 ?_
    exact oj_ret (r := some (.int (1))) ⟨rfl, rfl, rfl, rfl, (1), rfl, y5⟩ dX10_isSign_121 (Nat.zero_le _) (Nat.zero_le _)
  have y6 := y3.2 c4
  by_cases c7 : p0 = (41)
  · have y8 := y6.1 c7
    refine oj_tableIn 120 dX10_isSign_1 (by rw [c7] <;> decide) (by rw [c7] <;> decide) (by rw [c7] <;> rfl) rfl ?_
    refine oj_iconst dX10_isSign_120 ci_1 ?_
    exact oj_ret (r := some (.int (1))) ⟨rfl, rfl, rfl, rfl, (1), rfl, y8⟩ dX10_isSign_121 (Nat.zero_le _) (Nat.zero_le _)
  have y9 := y6.2 c7
  by_cases c10 : p0 = (42)
  · have y11 := y9.1 c10
    refine oj_tableIn 120 dX10_isSign_1 (by rw [c10] <;> decide) (by rw [c10] <;> decide) (by rw [c10] <;> rfl) rfl ?_
    refine oj_iconst dX10_isSign_120 ci_1 ?_
    exact oj_ret (r := some (.int (1))) ⟨rfl, rfl, rfl, rfl, (1), rfl, y11⟩ dX10_isSign_121 (Nat.zero_le _) (Nat.zero_le _)
  have y12 := y9.2 c10
  by_cases c13 : p0 = (43)
  · have y14 := y12.1 c13
    refine oj_tableIn 120 dX10_isSign_1 (by rw [c13] <;> decide) (by rw [c13] <;> decide) (by rw [c13] <;> rfl) rfl ?_
    refine oj_iconst dX10_isSign_120 ci_1 ?_
    exact oj_ret (r := some (.int (1))) ⟨rfl, rfl, rfl, rfl, (1), rfl, y14⟩ dX10_isSign_121 (Nat.zero_le _) (Nat.zero_le _)
  have y15 := y12.2 c13
  by_cases c16 : p0 = (45)
  · have y17 := y15.1 c16
    refine oj_tableIn 120 dX10_isSign_1 (by rw [c16] <;> decide) (by rw [c16] <;> decide) (by rw [c16] <;> rfl) rfl ?_
    refine oj_iconst dX10_isSign_120 ci_1 ?_
    exact oj_ret (r := some (.int (1))) ⟨rfl, rfl, rfl, rfl, (1), rfl, y17⟩ dX10_isSign_121 (Nat.zero_le _) (Nat.zero_le _)
  have y18 := y15.2 c16
  by_cases c19 : p0 = (47)
  · have y20 := y18.1 c19
    refine oj_tableIn 120 dX10_isSign_1 (by rw [c19] <;> decide) (by rw [c19] <;> decide) (by rw [c19] <;> rfl) rfl ?_
    refine oj_iconst dX10_isSign_120 ci_1 ?_
    exact oj_ret (r := some (.int (1))) ⟨rfl, rfl, rfl, rfl, (1), rfl, y20⟩ dX10_isSign_121 (Nat.zero_le _) (Nat.zero_le _)
  have y21 := y18.2 c19
  by_cases c22 : p0 = (59)
  · have y23 := y21.1 c22
    refine oj_tableIn 120 dX10_isSign_1 (by rw [c22] <;> decide) (by rw [c22] <;> decide) (by rw [c22] <;> rfl) rfl ?_
    refine oj_iconst dX10_isSign_120 ci_1 ?_
    exact oj_ret (r := some (.int (1))) ⟨rfl, rfl, rfl, rfl, (1), rfl, y23⟩ dX10_isSign_121 (Nat.zero_le _) (Nat.zero_le _)
  have y24 := y21.2 c22
  by_cases c25 : p0 = (60)
  · have y26 := y24.1 c25
    refine oj_tableIn 120 dX10_isSign_1 (by rw [c25] <;> decide) (by rw [c25] <;> decide) (by rw [c25] <;> rfl) rfl ?_
    refine oj_iconst dX10_isSign_120 ci_1 ?_
    exact oj_ret (r := some (.int (1))) ⟨rfl, rfl, rfl, rfl, (1), rfl, y26⟩ dX10_isSign_121 (Nat.zero_le _) (Nat.zero_le _)
  have y27 := y24.2 c25
  by_cases c28 : p0 = (61)
  · have y29 := y27.1 c28
    refine oj_tableIn 120 dX10_isSign_1 (by rw [c28] <;> decide) (by rw [c28] <;> decide) (by rw [c28] <;> rfl) rfl ?_
    refine oj_iconst dX10_isSign_120 ci_1 ?_
    exact oj_ret (r := some (.int (1))) ⟨rfl, rfl, rfl, rfl, (1), rfl, y29⟩ dX10_isSign_121 (Nat.zero_le _) (Nat.zero_le _)
  have y30 := y27.2 c28
  by_cases c31 : p0 = (62)
  · have y32 := y30.1 c31
    refine oj_tableIn 120 dX10_isSign_1 (by rw [c31] <;> decide) (by rw [c31] <;> decide) (by rw [c31] <;> rfl) rfl ?_
    refine oj_iconst dX10_isSign_120 ci_1 ?_
    exact oj_ret (r := some (.int (1))) ⟨rfl, rfl, rfl, rfl, (1), rfl, y32⟩ dX10_isSign_121 (Nat.zero_le _) (Nat.zero_le _)
  have y33 := y30.2 c31
  have hd34 : ob_J RX10 cX10_isSign 1 (ob_rm 1) false none 0 0 KS NN h 122 [(0, .int p0)] [] (ob_g (some .boolean) (ob_pi h Q)) := by
    refine oj_iconst dX10_isSign_122 ci_0 ?_
    exact oj_ret (r := some (.int (0))) ⟨rfl, rfl, rfl, rfl, (0), rfl, y33⟩ dX10_isSign_123 (Nat.zero_le _) (Nat.zero_le _)
  by_cases c35 : p0 = (38)
  · exact oj_tableIn 122 dX10_isSign_1 (by rw [c35] <;> decide) (by rw [c35] <;> decide) (by rw [c35] <;> rfl) rfl hd34
  by_cases c36 : p0 = (39)
  · exact oj_tableIn 122 dX10_isSign_1 (by rw [c36] <;> decide) (by rw [c36] <;> decide) (by rw [c36] <;> rfl) rfl hd34
  by_cases c37 : p0 = (44)
  · exact oj_tableIn 122 dX10_isSign_1 (by rw [c37] <;> decide) (by rw [c37] <;> decide) (by rw [c37] <;> rfl) rfl hd34
  by_cases c38 : p0 = (46)
  · exact oj_tableIn 122 dX10_isSign_1 (by rw [c38] <;> decide) (by rw [c38] <;> decide) (by rw [c38] <;> rfl) rfl hd34
  by_cases c39 : p0 = (48)
  · exact oj_tableIn 122 dX10_isSign_1 (by rw [c39] <;> decide) (by rw [c39] <;> decide) (by rw [c39] <;> rfl) rfl hd34
  by_cases c40 : p0 = (49)
  · exact oj_tableIn 122 dX10_isSign_1 (by rw [c40] <;> decide) (by rw [c40] <;> decide) (by rw [c40] <;> rfl) rfl hd34
  by_cases c41 : p0 = (50)
  · exact oj_tableIn 122 dX10_isSign_1 (by rw [c41] <;> decide) (by rw [c41] <;> decide) (by rw [c41] <;> rfl) rfl hd34
  by_cases c42 : p0 = (51)
  · exact oj_tableIn 122 dX10_isSign_1 (by rw [c42] <;> decide) (by rw [c42] <;> decide) (by rw [c42] <;> rfl) rfl hd34
  by_cases c43 : p0 = (52)
  · exact oj_tableIn 122 dX10_isSign_1 (by rw [c43] <;> decide) (by rw [c43] <;> decide) (by rw [c43] <;> rfl) rfl hd34
  by_cases c44 : p0 = (53)
  · exact oj_tableIn 122 dX10_isSign_1 (by rw [c44] <;> decide) (by rw [c44] <;> decide) (by rw [c44] <;> rfl) rfl hd34
  by_cases c45 : p0 = (54)
  · exact oj_tableIn 122 dX10_isSign_1 (by rw [c45] <;> decide) (by rw [c45] <;> decide) (by rw [c45] <;> rfl) rfl hd34
  by_cases c46 : p0 = (55)
  · exact oj_tableIn 122 dX10_isSign_1 (by rw [c46] <;> decide) (by rw [c46] <;> decide) (by rw [c46] <;> rfl) rfl hd34
  by_cases c47 : p0 = (56)
  · exact oj_tableIn 122 dX10_isSign_1 (by rw [c47] <;> decide) (by rw [c47] <;> decide) (by rw [c47] <;> rfl) rfl hd34
  by_cases c48 : p0 = (57)
  · exact oj_tableIn 122 dX10_isSign_1 (by rw [c48] <;> decide) (by rw [c48] <;> decide) (by rw [c48] <;> rfl) rfl hd34
  by_cases c49 : p0 = (58)
  · exact oj_tableIn 122 dX10_isSign_1 (by rw [c49] <;> decide) (by rw [c49] <;> decide) (by rw [c49] <;> rfl) rfl hd34
  exact oj_tableOut 122 dX10_isSign_1 (by have nc1 := lv_neT c1 (show (37 : Int32).toInt = 37 by decide); have nc4 := lv_neT c4 (show (40 : Int32).toInt = 40 by decide); have nc7 := lv_neT c7 (show (41 : Int32).toInt = 41 by decide); have nc10 := lv_neT c10 (show (42 : Int32).toInt = 42 by decide); have nc13 := lv_neT c13 (show (43 : Int32).toInt = 43 by decide); have nc16 := lv_neT c16 (show (45 : Int32).toInt = 45 by decide); have nc19 := lv_neT c19 (show (47 : Int32).toInt = 47 by decide); have nc22 := lv_neT c22 (show (59 : Int32).toInt = 59 by decide); have nc25 := lv_neT c25 (show (60 : Int32).toInt = 60 by decide); have nc28 := lv_neT c28 (show (61 : Int32).toInt = 61 by decide); have nc31 := lv_neT c31 (show (62 : Int32).toInt = 62 by decide); have nc35 := lv_neT c35 (show (38 : Int32).toInt = 38 by decide); have nc36 := lv_neT c36 (show (39 : Int32).toInt = 39 by decide); have nc37 := lv_neT c37 (show (44 : Int32).toInt = 44 by decide); have nc38 := lv_neT c38 (show (46 : Int32).toInt = 46 by decide); have nc39 := lv_neT c39 (show (48 : Int32).toInt = 48 by decide); have nc40 := lv_neT c40 (show (49 : Int32).toInt = 49 by decide); have nc41 := lv_neT c41 (show (50 : Int32).toInt = 50 by decide); have nc42 := lv_neT c42 (show (51 : Int32).toInt = 51 by decide); have nc43 := lv_neT c43 (show (52 : Int32).toInt = 52 by decide); have nc44 := lv_neT c44 (show (53 : Int32).toInt = 53 by decide); have nc45 := lv_neT c45 (show (54 : Int32).toInt = 54 by decide); have nc46 := lv_neT c46 (show (55 : Int32).toInt = 55 by decide); have nc47 := lv_neT c47 (show (56 : Int32).toInt = 56 by decide); have nc48 := lv_neT c48 (show (57 : Int32).toInt = 57 by decide); have nc49 := lv_neT c49 (show (58 : Int32).toInt = 58 by decide); omega) rfl hd34
-- X10_step
set_option maxRecDepth 100000 in
set_option maxHeartbeats 4000000 in
theorem BKX10_step_52 {h : ob_H} {Q : ob_H → Prop}
    (y : KX10_step_52 h Q) : ob_J RX10 cX10_step 2 (ob_rm 3) false none 0 0 KS NN h 52 [(0, .ref 1)] [] (ob_g none (ob_qv Q)) := by
  unfold KX10_step_52 at y
  refine oj_aload_n 0 dX10_step_52 rfl rfl ?_
  refine oj_aload_n 0 dX10_step_53 rfl rfl ?_
  refine oj_geti fl_RX10_30 k_1 rfl dX10_step_54 ?_
  refine oj_puti fl_RX10_20 (Or.inl rfl) k_1 rfl rfl rfl dX10_step_57 ?_
  refine oj_toph (fun h4 eh4 => ?_)
  have y5 := Lt_at y h4 eh4
  refine oj_aload_n 0 dX10_step_60 rfl rfl ?_
  refine oj_geti fl_RX10_30 k_1 rfl dX10_step_61 ?_
  refine oj_aload_n 0 dX10_step_64 rfl rfl ?_
  refine oj_geti fl_RX10_13 k_1 rfl dX10_step_65 ?_
  refine oj_icmp_lt 77 dX10_step_68 rfl (fun c6 => ?_) (fun c6 => ?_)
  · have y7 := y5.1 c6
    refine oj_aload_n 0 dX10_step_77 rfl rfl ?_
    refine oj_getr (q := 2) fl_RX10_9 k_1 rfl k_2 dX10_step_78 ?_
    refine oj_aload_n 0 dX10_step_81 rfl rfl ?_
    refine oj_geti fl_RX10_30 k_1 rfl dX10_step_82 ?_
    obtain ⟨c9, y10⟩ := y7
    refine oj_bald k_2 c9 rfl dX10_step_85 ?_
    refine oj_topi (fun v11 ev11 => ?_)
    have y12 := Lt_at y10 v11 ev11
    refine oj_istore_n (lv' := [(1, .int v11), (0, .ref 1)]) dX10_step_86 rfl (by decide) rfl ?_
    refine oj_iload_n 0 dX10_step_87 rfl rfl ?_
    refine oc_Spi [.int v11] mi_RX10_48 ow_85 (BX10_isLetter  y12) ⟨by decide, by decide⟩ ⟨Nat.le_refl _, Nat.le_refl _⟩ rfl (Nat.le_of_ble_eq_true rfl) dX10_step_88 (fun r13 f15 y16 => ?_)
    refine oj_if_eq 101 dX10_step_91 rfl (fun c17 => ?_) (fun c17 => ?_)
    · have y18 := y16.1 c17
      refine oj_iload_n 0 dX10_step_101 rfl rfl ?_
      refine oc_Spi [.int v11] mi_RX10_62 ow_617 (BX10_isDigit  y18) ⟨by decide, by decide⟩ ⟨Nat.le_refl _, Nat.le_refl _⟩ rfl (Nat.le_of_ble_eq_true rfl) dX10_step_102 (fun r20 f22 y23 => ?_)
      refine oj_if_eq 115 dX10_step_105 rfl (fun c24 => ?_) (fun c24 => ?_)
      · have y25 := y23.1 c24
        refine oj_aload_n 1 dX10_step_115 rfl rfl ?_
        refine oj_iload_n 0 dX10_step_116 rfl rfl ?_
        refine oc_Spi [.int v11] mi_RX10_68 ow_624 (BX10_isSign  y25) ⟨by decide, by decide⟩ ⟨Nat.le_refl _, Nat.le_refl _⟩ rfl (Nat.le_of_ble_eq_true rfl) dX10_step_117 (fun r27 f29 y30 => ?_)
        refine oj_if_eq 127 dX10_step_120 rfl (fun c31 => ?_) (fun c31 => ?_)
        · have y32 := y30.1 c31
          refine oj_iconst dX10_step_127 ci_1 ?_
          refine oj_puti fl_RX10_17 (Or.inl rfl) k_1 rfl rfl rfl dX10_step_128 ?_
          refine oj_toph (fun h34 eh34 => ?_)
          have y35 := Lt_at y32 h34 eh34
          refine oj_aload_n 1 dX10_step_131 rfl rfl ?_
          refine oj_dup dX10_step_132 rfl ?_
          refine oj_geti fl_RX10_30 k_1 rfl dX10_step_133 ?_
          refine oj_iconst dX10_step_136 ci_1 ?_
          refine oj_iadd dX10_step_137 ?_
          refine oj_puti fl_RX10_30 (Or.inl rfl) k_1 rfl rfl rfl dX10_step_138 ?_
          refine oj_toph (fun h36 eh36 => ?_)
          have y37 := Lt_at y35 h36 eh36
          exact oj_ret (r := none) ⟨trivial, rfl, rfl, rfl, y37⟩ dX10_step_141 (Nat.zero_le _) (Nat.zero_le _)
        · have y33 := y30.2 c31
          refine oj_iload_n 0 dX10_step_123 rfl rfl ?_
          refine oj_goto 128 dX10_step_124 rfl ?_
          refine oj_puti fl_RX10_17 (Or.inl rfl) k_1 rfl rfl rfl dX10_step_128 ?_
          refine oj_toph (fun h38 eh38 => ?_)
          have y39 := Lt_at y33 h38 eh38
          refine oj_aload_n 1 dX10_step_131 rfl rfl ?_
          refine oj_dup dX10_step_132 rfl ?_
          refine oj_geti fl_RX10_30 k_1 rfl dX10_step_133 ?_
          refine oj_iconst dX10_step_136 ci_1 ?_
          refine oj_iadd dX10_step_137 ?_
          refine oj_puti fl_RX10_30 (Or.inl rfl) k_1 rfl rfl rfl dX10_step_138 ?_
          refine oj_toph (fun h40 eh40 => ?_)
          have y41 := Lt_at y39 h40 eh40
          exact oj_ret (r := none) ⟨trivial, rfl, rfl, rfl, y41⟩ dX10_step_141 (Nat.zero_le _) (Nat.zero_le _)
      · have y26 := y23.2 c24
        refine oj_aload_n 1 dX10_step_108 rfl rfl ?_
        refine oc_Vv [] mi_RX10_65 ow_621 op_1 rfl k_1 (BX10_readNumber  y26) ⟨by decide, by decide⟩ ⟨Nat.le_refl _, Nat.le_refl _⟩ rfl (Nat.le_of_ble_eq_true rfl) dX10_step_109 (fun h43 y45 => ?_)
        refine oj_goto 141 dX10_step_112 rfl ?_
        exact oj_ret (r := none) ⟨trivial, rfl, rfl, rfl, y45⟩ dX10_step_141 (Nat.zero_le _) (Nat.zero_le _)
    · have y19 := y16.2 c17
      refine oj_aload_n 1 dX10_step_94 rfl rfl ?_
      refine oc_Vv [] mi_RX10_59 ow_614 op_0 rfl k_1 (BX10_readWord  y19) ⟨by decide, by decide⟩ ⟨Nat.le_refl _, Nat.le_refl _⟩ rfl (Nat.le_of_ble_eq_true rfl) dX10_step_95 (fun h47 y49 => ?_)
      refine oj_goto 141 dX10_step_98 rfl ?_
      exact oj_ret (r := none) ⟨trivial, rfl, rfl, rfl, y49⟩ dX10_step_141 (Nat.zero_le _) (Nat.zero_le _)
  · have y8 := y5.2 c6
    refine oj_aload_n 0 dX10_step_71 rfl rfl ?_
    refine oj_iconst dX10_step_72 ci_0 ?_
    refine oj_puti fl_RX10_17 (Or.inl rfl) k_1 rfl rfl rfl dX10_step_73 ?_
    refine oj_toph (fun h50 eh50 => ?_)
    have y51 := Lt_at y8 h50 eh50
    exact oj_ret (r := none) ⟨trivial, rfl, rfl, rfl, y51⟩ dX10_step_76 (Nat.zero_le _) (Nat.zero_le _)
set_option maxRecDepth 100000 in
set_option maxHeartbeats 4000000 in
theorem BLX10_step_0 {Q : ob_H → Prop} :
    ∀ (n : Nat) (h : ob_H), it1 (FX10_step_0 Q) n h → ob_J RX10 cX10_step 2 (ob_rm 3) false none 0 0 KS NN h 0 [(0, .ref 1)] [] (ob_g none (ob_qv Q)) := by
  intro n
  induction n with
  | zero => intro h y; exact False.elim y
  | succ n hk0 =>
    intro h y
    have y : FX10_step_0 Q (it1 (FX10_step_0 Q) n) h := y
    unfold FX10_step_0 at y
    refine oj_aload_n 0 dX10_step_0 rfl rfl ?_
    refine oj_geti fl_RX10_30 k_1 rfl dX10_step_1 ?_
    refine oj_aload_n 0 dX10_step_4 rfl rfl ?_
    refine oj_geti fl_RX10_13 k_1 rfl dX10_step_5 ?_
    refine oj_icmp_ge 52 dX10_step_8 rfl (fun c1 => ?_) (fun c1 => ?_)
    · have y2 := y.1 c1
      refine oj_lv [0] rfl ?_
      exact BKX10_step_52  y2
    · have y3 := y.2 c1
      refine oj_aload_n 0 dX10_step_11 rfl rfl ?_
      refine oj_getr (q := 2) fl_RX10_9 k_1 rfl k_2 dX10_step_12 ?_
      refine oj_aload_n 0 dX10_step_15 rfl rfl ?_
      refine oj_geti fl_RX10_30 k_1 rfl dX10_step_16 ?_
      obtain ⟨c52, y53⟩ := y3
      refine oj_bald k_2 c52 rfl dX10_step_19 ?_
      refine oj_bipush dX10_step_20 cb_32 ?_
      refine oj_icmp_eq 39 dX10_step_22 rfl (fun c54 => ?_) (fun c54 => ?_)
      · have y55 := y53.1 c54
        refine oj_aload_n 0 dX10_step_39 rfl rfl ?_
        refine oj_dup dX10_step_40 rfl ?_
        refine oj_geti fl_RX10_30 k_1 rfl dX10_step_41 ?_
        refine oj_iconst dX10_step_44 ci_1 ?_
        refine oj_iadd dX10_step_45 ?_
        refine oj_puti fl_RX10_30 (Or.inl rfl) k_1 rfl rfl rfl dX10_step_46 ?_
        refine oj_toph (fun h57 eh57 => ?_)
        have y58 := Lt_at y55 h57 eh57
        refine oj_goto 0 dX10_step_49 rfl ?_
        refine oj_lv [0] rfl ?_
        exact hk0 _ y58
      · have y56 := y53.2 c54
        refine oj_aload_n 0 dX10_step_25 rfl rfl ?_
        refine oj_getr (q := 2) fl_RX10_9 k_1 rfl k_2 dX10_step_26 ?_
        refine oj_aload_n 0 dX10_step_29 rfl rfl ?_
        refine oj_geti fl_RX10_30 k_1 rfl dX10_step_30 ?_
        refine oj_bald k_2 c52 rfl dX10_step_33 ?_
        refine oj_bipush dX10_step_34 cb_10 ?_
        refine oj_icmp_ne 52 dX10_step_36 rfl (fun c59 => ?_) (fun c59 => ?_)
        · have y60 := y56.2 c59
          refine oj_lv [0] rfl ?_
          exact BKX10_step_52  y60
        · have y61 := y56.1 c59
          refine oj_aload_n 0 dX10_step_39 rfl rfl ?_
          refine oj_dup dX10_step_40 rfl ?_
          refine oj_geti fl_RX10_30 k_1 rfl dX10_step_41 ?_
          refine oj_iconst dX10_step_44 ci_1 ?_
          refine oj_iadd dX10_step_45 ?_
          refine oj_puti fl_RX10_30 (Or.inl rfl) k_1 rfl rfl rfl dX10_step_46 ?_
          refine oj_toph (fun h62 eh62 => ?_)
          have y63 := Lt_at y61 h62 eh62
          refine oj_goto 0 dX10_step_49 rfl ?_
          refine oj_lv [0] rfl ?_
          exact hk0 _ y63
set_option maxRecDepth 100000 in
set_option maxHeartbeats 4000000 in
theorem BX10_step    {h : ob_H} {Q : ob_H → Prop} (y : MX10_step   h Q) : ob_T yX10_step cX10_step 2 none (ob_rm 3) KS NN h [.ref 1] (ob_g none (ob_qv Q)) := by
  unfold MX10_step at y
  refine ob_T_gf (by decide +kernel) (Nat.le_of_ble_eq_true rfl) ?_
  show ob_J RX10 cX10_step 2 (ob_rm 3) false none 0 0 KS NN h 0 [(0, .ref 1)] [] (ob_g none (ob_qv Q))
  refine oj_lv [0] rfl ?_
  obtain ⟨n, y64⟩ := y
  exact BLX10_step_0  n _ y64
-- X10_rewind
set_option maxRecDepth 100000 in
set_option maxHeartbeats 4000000 in
theorem BX10_rewind    {h : ob_H} {Q : ob_H → Prop} (y : MX10_rewind   h Q) : ob_T yX10_rewind cX10_rewind 1 none (ob_rm 4) KS NN h [.ref 1] (ob_g none (ob_qv Q)) := by
  unfold MX10_rewind at y
  refine ob_T_gf (by decide +kernel) (Nat.le_of_ble_eq_true rfl) ?_
  show ob_J RX10 cX10_rewind 1 (ob_rm 4) false none 0 0 KS NN h 0 [(0, .ref 1)] [] (ob_g none (ob_qv Q))
  refine oj_aload_n 0 dX10_rewind_0 rfl rfl ?_
  refine oj_iconst dX10_rewind_1 ci_0 ?_
  refine oj_puti fl_RX10_30 (Or.inl rfl) k_1 rfl rfl rfl dX10_rewind_2 ?_
  refine oj_toph (fun h1 eh1 => ?_)
  have y2 := Lt_at y h1 eh1
  refine oj_aload_n 0 dX10_rewind_5 rfl rfl ?_
  refine oc_Vv [] mi_RX10_56 ow_609 ow_610 rfl k_1 (BX10_step  y2) ⟨by decide, by decide⟩ ⟨Nat.le_refl _, Nat.le_refl _⟩ rfl (Nat.le_of_ble_eq_true rfl) dX10_rewind_6 (fun h4 y6 => ?_)
  exact oj_ret (r := none) ⟨trivial, rfl, rfl, rfl, y6⟩ dX10_rewind_9 (Nat.zero_le _) (Nat.zero_le _)
-- X5_refuse
set_option maxRecDepth 100000 in
set_option maxHeartbeats 4000000 in
theorem BX5_refuse  {p1 : Int32}  {h : ob_H} {Q : Int32 → ob_H → Prop} (y : MX5_refuse  p1 h Q) : ob_T yX5_refuse cX5_refuse 2 (some .boolean) (ob_rm 1) KS NN h [.ref 4, .int p1] (ob_g (some .boolean) (ob_qi Q)) := by
  unfold MX5_refuse at y
  refine ob_T_gf (by decide +kernel) (Nat.le_of_ble_eq_true rfl) ?_
  show ob_J RX5 cX5_refuse 2 (ob_rm 1) false none 0 0 KS NN h 0 [(0, .ref 4), (1, .int p1)] [] (ob_g (some .boolean) (ob_qi Q))
  refine oj_aload_n 0 dX5_refuse_0 rfl rfl ?_
  refine oj_iload_n 1 dX5_refuse_1 rfl rfl ?_
  refine oj_puti fl_RX5_18 (Or.inl rfl) k_4 rfl rfl rfl dX5_refuse_2 ?_
  refine oj_toph (fun h1 eh1 => ?_)
  have y2 := Lt_at y h1 eh1
  refine oj_aload_n 0 dX5_refuse_5 rfl rfl ?_
  refine oj_aload_n 0 dX5_refuse_6 rfl rfl ?_
  refine oj_getr (q := 1) fl_RX5_54 k_4 rfl k_1 dX5_refuse_7 ?_
  refine oj_geti fl_RX5_195 k_1 rfl dX5_refuse_10 ?_
  refine oj_puti fl_RX5_22 (Or.inl rfl) k_4 rfl rfl rfl dX5_refuse_13 ?_
  refine oj_toph (fun h3 eh3 => ?_)
  have y4 := Lt_at y2 h3 eh3
  refine oj_iconst dX5_refuse_16 ci_0 ?_
  exact oj_ret (r := some (.int (0))) ⟨rfl, rfl, rfl, (0), rfl, y4⟩ dX5_refuse_17 (Nat.zero_le _) (Nat.zero_le _)
-- X5_misplaced
set_option maxRecDepth 100000 in
set_option maxHeartbeats 4000000 in
theorem BKX5_misplaced_17 {s0 : Int32} {h : ob_H} {Q : Int32 → ob_H → Prop}
    (y : KX5_misplaced_17 s0 h Q) : ob_J RX5 cX5_misplaced 1 (ob_rm 2) false none 0 0 KS NN h 17 [] [.int s0, .ref 4] (ob_g (some .boolean) (ob_qi Q)) := by
  unfold KX5_misplaced_17 at y
  refine oc_Vi [.int s0] mi_RX5_144 ow_636 op_4 rfl k_4 (BX5_refuse  y) ⟨by decide, by decide⟩ ⟨Nat.le_refl _, Nat.le_refl _⟩ rfl (Nat.le_of_ble_eq_true rfl) dX5_misplaced_17 (fun r4 f6 h5 y7 => ?_)
  exact oj_ret (r := some (.int r4)) ⟨f6, rfl, rfl, r4, rfl, y7⟩ dX5_misplaced_20 (Nat.zero_le _) (Nat.zero_le _)
set_option maxRecDepth 100000 in
set_option maxHeartbeats 4000000 in
theorem BX5_misplaced    {h : ob_H} {Q : Int32 → ob_H → Prop} (y : MX5_misplaced   h Q) : ob_T yX5_misplaced cX5_misplaced 1 (some .boolean) (ob_rm 2) KS NN h [.ref 4] (ob_g (some .boolean) (ob_qi Q)) := by
  unfold MX5_misplaced at y
  refine ob_T_gf (by decide +kernel) (Nat.le_of_ble_eq_true rfl) ?_
  show ob_J RX5 cX5_misplaced 1 (ob_rm 2) false none 0 0 KS NN h 0 [(0, .ref 4)] [] (ob_g (some .boolean) (ob_qi Q))
  refine oj_aload_n 0 dX5_misplaced_0 rfl rfl ?_
  refine oj_aload_n 0 dX5_misplaced_1 rfl rfl ?_
  refine oj_getr (q := 1) fl_RX5_54 k_4 rfl k_1 dX5_misplaced_2 ?_
  refine oj_geti fl_RX5_66 k_1 rfl dX5_misplaced_5 ?_
  refine oj_iconst dX5_misplaced_8 ci_1 ?_
  refine oj_icmp_ne 16 dX5_misplaced_9 rfl (fun c1 => ?_) (fun c1 => ?_)
  · have y2 := y.2 c1
    refine oj_iconst dX5_misplaced_16 ci_2 ?_
    refine oj_lv [] rfl ?_
    exact BKX5_misplaced_17  y2
  · have y3 := y.1 c1
    refine oj_iconst dX5_misplaced_12 ci_1 ?_
    refine oj_goto 17 dX5_misplaced_13 rfl ?_
    refine oj_lv [] rfl ?_
    exact BKX5_misplaced_17  y3
-- X5_find
set_option maxRecDepth 100000 in
set_option maxHeartbeats 4000000 in
theorem BLX5_find_2 {h : ob_H} {Q : Int32 → Prop} :
    ∀ (n : Nat) (x1 : Int32), it1 (FX5_find_2 h Q) n x1 → ob_J RX5 cX5_find 2 (ob_rm 1) false none 0 0 KS NN h 2 [(0, .ref 4), (1, .int x1)] [] (ob_g (some .int) (ob_pi h Q)) := by
  intro n
  induction n with
  | zero => intro x1 y; exact False.elim y
  | succ n hk2 =>
    intro x1 y
    have y : FX5_find_2 h Q (it1 (FX5_find_2 h Q) n) x1 := y
    unfold FX5_find_2 at y
    refine oj_iload_n 1 dX5_find_2 rfl rfl ?_
    refine oj_aload_n 0 dX5_find_3 rfl rfl ?_
    refine oj_getr (q := 5) fl_RX5_12 k_4 rfl k_5 dX5_find_4 ?_
    refine oj_geti fl_RX5_103 k_5 rfl dX5_find_7 ?_
    refine oj_icmp_ge 49 dX5_find_10 rfl (fun c1 => ?_) (fun c1 => ?_)
    · have y2 := y.1 c1
      refine oj_iconst dX5_find_49 ci_m1 ?_
      exact oj_ret (r := some (.int (-1))) ⟨trivial, rfl, rfl, rfl, (-1), rfl, y2⟩ dX5_find_50 (Nat.zero_le _) (Nat.zero_le _)
    · have y3 := y.2 c1
      refine oj_aload_n 0 dX5_find_13 rfl rfl ?_
      refine oj_getr (q := 1) fl_RX5_54 k_4 rfl k_1 dX5_find_14 ?_
      refine oj_geti fl_RX5_66 k_1 rfl dX5_find_17 ?_
      refine oj_iconst dX5_find_20 ci_2 ?_
      refine oj_icmp_ne 43 dX5_find_21 rfl (fun c4 => ?_) (fun c4 => ?_)
      · have y5 := y3.2 c4
        obtain ⟨v7, ev7⟩ : ∃ z : Int32, z = x1 + (1) := ⟨_, rfl⟩
        have y8 := Lt_at y5 v7 ev7
        refine oj_iinc (v := v7) (lv' := [(1, .int v7), (0, .ref 4)]) 1 dX5_find_43 rfl (iinc_e ci_1 ev7) (by decide) rfl ?_
        refine oj_goto 2 dX5_find_46 rfl ?_
        refine oj_lv [1, 0] rfl ?_
        exact hk2 _ y8
      · have y6 := y3.1 c4
        refine oj_aload_n 0 dX5_find_24 rfl rfl ?_
        refine oj_getr (q := 19) fl_RX5_25 k_4 rfl k_19 dX5_find_25 ?_
        refine oj_iload_n 1 dX5_find_28 rfl rfl ?_
        obtain ⟨c9, y10⟩ := y6
        refine oj_lald k_19 c9 rfl dX5_find_29 ?_
        refine oj_aload_n 0 dX5_find_30 rfl rfl ?_
        refine oj_getr (q := 1) fl_RX5_54 k_4 rfl k_1 dX5_find_31 ?_
        refine oj_getl fl_RX5_191 k_1 rfl dX5_find_34 ?_
        refine oj_lcmp dX5_find_37 ?_
        refine oj_if_ne 43 dX5_find_38 rfl (fun c11 => ?_) (fun c11 => ?_)
        · have y12 := y10.2 c11
          obtain ⟨v14, ev14⟩ : ∃ z : Int32, z = x1 + (1) := ⟨_, rfl⟩
          have y15 := Lt_at y12 v14 ev14
          refine oj_iinc (v := v14) (lv' := [(1, .int v14), (0, .ref 4)]) 1 dX5_find_43 rfl (iinc_e ci_1 ev14) (by decide) rfl ?_
          refine oj_goto 2 dX5_find_46 rfl ?_
          refine oj_lv [1, 0] rfl ?_
          exact hk2 _ y15
        · have y13 := y10.1 c11
          refine oj_iload_n 1 dX5_find_41 rfl rfl ?_
          exact oj_ret (r := some (.int x1)) ⟨trivial, rfl, rfl, rfl, x1, rfl, y13⟩ dX5_find_42 (Nat.zero_le _) (Nat.zero_le _)
set_option maxRecDepth 100000 in
set_option maxHeartbeats 4000000 in
theorem BX5_find    {h : ob_H} {Q : Int32 → Prop} (y : MX5_find   h Q) : ob_T yX5_find cX5_find 2 (some .int) (ob_rm 1) KS NN h [.ref 4] (ob_g (some .int) (ob_pi h Q)) := by
  unfold MX5_find at y
  refine ob_T_gf (by decide +kernel) (Nat.le_of_ble_eq_true rfl) ?_
  show ob_J RX5 cX5_find 2 (ob_rm 1) false none 0 0 KS NN h 0 [(0, .ref 4)] [] (ob_g (some .int) (ob_pi h Q))
  refine oj_iconst dX5_find_0 ci_0 ?_
  refine oj_istore_n (lv' := [(1, .int (0)), (0, .ref 4)]) dX5_find_1 rfl (by decide) rfl ?_
  refine oj_lv [1, 0] rfl ?_
  obtain ⟨n, y16⟩ := y
  exact BLX5_find_2  n _ y16
-- X5_readNewName
set_option maxRecDepth 100000 in
set_option maxHeartbeats 4000000 in
theorem BX5_readNewName  {p1 : Int32}  {h : ob_H} {Q : Int32 → ob_H → Prop} (y : MX5_readNewName  p1 h Q) : ob_T yX5_readNewName cX5_readNewName 2 (some .boolean) (ob_rm 4) KS NN h [.ref 4, .int p1] (ob_g (some .boolean) (ob_qi Q)) := by
  unfold MX5_readNewName at y
  refine ob_T_gf (by decide +kernel) (Nat.le_of_ble_eq_true rfl) ?_
  show ob_J RX5 cX5_readNewName 2 (ob_rm 4) false none 0 0 KS NN h 0 [(0, .ref 4), (1, .int p1)] [] (ob_g (some .boolean) (ob_qi Q))
  refine oj_aload_n 0 dX5_readNewName_0 rfl rfl ?_
  refine oj_getr (q := 1) fl_RX5_54 k_4 rfl k_1 dX5_readNewName_1 ?_
  refine oj_geti fl_RX5_66 k_1 rfl dX5_readNewName_4 ?_
  refine oj_iconst dX5_readNewName_7 ci_2 ?_
  refine oj_icmp_eq 16 dX5_readNewName_8 rfl (fun c1 => ?_) (fun c1 => ?_)
  · have y2 := y.1 c1
    refine oj_aload_n 0 dX5_readNewName_16 rfl rfl ?_
    refine oc_Vpi [] mi_RX5_187 ow_645 op_6 rfl k_4 (BX5_find  y2) ⟨by decide, by decide⟩ ⟨Nat.le_refl _, Nat.le_refl _⟩ rfl (Nat.le_of_ble_eq_true rfl) dX5_readNewName_17 (fun r4 f6 y7 => ?_)
    refine oj_if_lt 29 dX5_readNewName_20 rfl (fun c8 => ?_) (fun c8 => ?_)
    · have y9 := y7.1 c8
      refine oj_aload_n 0 dX5_readNewName_29 rfl rfl ?_
      refine oj_getr (q := 19) fl_RX5_25 k_4 rfl k_19 dX5_readNewName_30 ?_
      refine oj_iload_n 1 dX5_readNewName_33 rfl rfl ?_
      refine oj_aload_n 0 dX5_readNewName_34 rfl rfl ?_
      refine oj_getr (q := 1) fl_RX5_54 k_4 rfl k_1 dX5_readNewName_35 ?_
      refine oj_getl fl_RX5_191 k_1 rfl dX5_readNewName_38 ?_
      obtain ⟨c11, y12⟩ := y9
      refine oj_last k_19 c11 rfl dX5_readNewName_41 ?_
      refine oj_toph (fun h13 eh13 => ?_)
      have y14 := Lt_at y12 h13 eh13
      refine oj_aload_n 0 dX5_readNewName_42 rfl rfl ?_
      refine oj_getr (q := 1) fl_RX5_54 k_4 rfl k_1 dX5_readNewName_43 ?_
      refine oc_Vv [] mi_RX5_106 ow_609 ow_610 rfl k_1 (BX10_step  y14) ⟨by decide, by decide⟩ ⟨Nat.le_refl _, Nat.le_refl _⟩ rfl (Nat.le_of_ble_eq_true rfl) dX5_readNewName_46 (fun h16 y18 => ?_)
      refine oj_iconst dX5_readNewName_49 ci_1 ?_
      exact oj_ret (r := some (.int (1))) ⟨rfl, rfl, rfl, (1), rfl, y18⟩ dX5_readNewName_50 (Nat.zero_le _) (Nat.zero_le _)
    · have y10 := y7.2 c8
      refine oj_aload_n 0 dX5_readNewName_23 rfl rfl ?_
      refine oj_iconst dX5_readNewName_24 ci_3 ?_
      refine oc_Vi [.int (3)] mi_RX5_144 ow_636 op_4 rfl k_4 (BX5_refuse  y10) ⟨by decide, by decide⟩ ⟨Nat.le_refl _, Nat.le_refl _⟩ rfl (Nat.le_of_ble_eq_true rfl) dX5_readNewName_25 (fun r19 f21 h20 y22 => ?_)
      exact oj_ret (r := some (.int r19)) ⟨f21, rfl, rfl, r19, rfl, y22⟩ dX5_readNewName_28 (Nat.zero_le _) (Nat.zero_le _)
  · have y3 := y.2 c1
    refine oj_aload_n 0 dX5_readNewName_11 rfl rfl ?_
    refine oc_Vi [] mi_RX5_100 ow_632 op_3 rfl k_4 (BX5_misplaced  y3) ⟨by decide, by decide⟩ ⟨Nat.le_refl _, Nat.le_refl _⟩ rfl (Nat.le_of_ble_eq_true rfl) dX5_readNewName_12 (fun r23 f25 h24 y26 => ?_)
    exact oj_ret (r := some (.int r23)) ⟨f25, rfl, rfl, r23, rfl, y26⟩ dX5_readNewName_15 (Nat.zero_le _) (Nat.zero_le _)
-- X5_take
set_option maxRecDepth 100000 in
set_option maxHeartbeats 4000000 in
theorem BX5_take  {p1 : Int32}  {h : ob_H} {Q : Int32 → ob_H → Prop} (y : MX5_take  p1 h Q) : ob_T yX5_take cX5_take 2 (some .boolean) (ob_rm 4) KS NN h [.ref 4, .int p1] (ob_g (some .boolean) (ob_qi Q)) := by
  unfold MX5_take at y
  refine ob_T_gf (by decide +kernel) (Nat.le_of_ble_eq_true rfl) ?_
  show ob_J RX5 cX5_take 2 (ob_rm 4) false none 0 0 KS NN h 0 [(0, .ref 4), (1, .int p1)] [] (ob_g (some .boolean) (ob_qi Q))
  refine oj_aload_n 0 dX5_take_0 rfl rfl ?_
  refine oj_getr (q := 1) fl_RX5_54 k_4 rfl k_1 dX5_take_1 ?_
  refine oj_geti fl_RX5_66 k_1 rfl dX5_take_4 ?_
  refine oj_iload_n 1 dX5_take_7 rfl rfl ?_
  refine oj_icmp_eq 16 dX5_take_8 rfl (fun c1 => ?_) (fun c1 => ?_)
  · have y2 := y.1 c1
    refine oj_aload_n 0 dX5_take_16 rfl rfl ?_
    refine oj_getr (q := 1) fl_RX5_54 k_4 rfl k_1 dX5_take_17 ?_
    refine oc_Vv [] mi_RX5_106 ow_609 ow_610 rfl k_1 (BX10_step  y2) ⟨by decide, by decide⟩ ⟨Nat.le_refl _, Nat.le_refl _⟩ rfl (Nat.le_of_ble_eq_true rfl) dX5_take_20 (fun h5 y7 => ?_)
    refine oj_iconst dX5_take_23 ci_1 ?_
    exact oj_ret (r := some (.int (1))) ⟨rfl, rfl, rfl, (1), rfl, y7⟩ dX5_take_24 (Nat.zero_le _) (Nat.zero_le _)
  · have y3 := y.2 c1
    refine oj_aload_n 0 dX5_take_11 rfl rfl ?_
    refine oc_Vi [] mi_RX5_100 ow_632 op_3 rfl k_4 (BX5_misplaced  y3) ⟨by decide, by decide⟩ ⟨Nat.le_refl _, Nat.le_refl _⟩ rfl (Nat.le_of_ble_eq_true rfl) dX5_take_12 (fun r8 f10 h9 y11 => ?_)
    exact oj_ret (r := some (.int r8)) ⟨f10, rfl, rfl, r8, rfl, y11⟩ dX5_take_15 (Nat.zero_le _) (Nat.zero_le _)
-- X5_readAmount
set_option maxRecDepth 100000 in
set_option maxHeartbeats 4000000 in
theorem BKX5_readAmount_38 {h : ob_H} {Q : Int32 → ob_H → Prop}
    (y : KX5_readAmount_38 h Q) : ob_J RX5 cX5_readAmount 3 (ob_rm 4) false none 0 0 KS NN h 38 [(0, .ref 4)] [] (ob_g (some .boolean) (ob_qi Q)) := by
  unfold KX5_readAmount_38 at y
  refine oj_aload_n 0 dX5_readAmount_38 rfl rfl ?_
  refine oj_iconst dX5_readAmount_39 ci_4 ?_
  refine oc_Vi [.int (4)] mi_RX5_144 ow_636 op_4 rfl k_4 (BX5_refuse  y) ⟨by decide, by decide⟩ ⟨Nat.le_refl _, Nat.le_refl _⟩ rfl (Nat.le_of_ble_eq_true rfl) dX5_readAmount_40 (fun r7 f9 h8 y10 => ?_)
  exact oj_ret (r := some (.int r7)) ⟨f9, rfl, rfl, r7, rfl, y10⟩ dX5_readAmount_43 (Nat.zero_le _) (Nat.zero_le _)
set_option maxRecDepth 100000 in
set_option maxHeartbeats 4000000 in
theorem BX5_readAmount  {p1 : Int32} {p2 : Int32}  {h : ob_H} {Q : Int32 → ob_H → Prop} (y : MX5_readAmount  p1 p2 h Q) : ob_T yX5_readAmount cX5_readAmount 3 (some .boolean) (ob_rm 4) KS NN h [.ref 4, .int p1, .int p2] (ob_g (some .boolean) (ob_qi Q)) := by
  unfold MX5_readAmount at y
  refine ob_T_gf (by decide +kernel) (Nat.le_of_ble_eq_true rfl) ?_
  show ob_J RX5 cX5_readAmount 3 (ob_rm 4) false none 0 0 KS NN h 0 [(0, .ref 4), (1, .int p1), (2, .int p2)] [] (ob_g (some .boolean) (ob_qi Q))
  refine oj_aload_n 0 dX5_readAmount_0 rfl rfl ?_
  refine oj_getr (q := 1) fl_RX5_54 k_4 rfl k_1 dX5_readAmount_1 ?_
  refine oj_geti fl_RX5_66 k_1 rfl dX5_readAmount_4 ?_
  refine oj_iconst dX5_readAmount_7 ci_3 ?_
  refine oj_icmp_eq 16 dX5_readAmount_8 rfl (fun c1 => ?_) (fun c1 => ?_)
  · have y2 := y.1 c1
    refine oj_aload_n 0 dX5_readAmount_16 rfl rfl ?_
    refine oj_getr (q := 1) fl_RX5_54 k_4 rfl k_1 dX5_readAmount_17 ?_
    refine oj_geti fl_RX5_184 k_1 rfl dX5_readAmount_20 ?_
    refine oj_iload_n 1 dX5_readAmount_23 rfl rfl ?_
    refine oj_icmp_lt 38 dX5_readAmount_24 rfl (fun c4 => ?_) (fun c4 => ?_)
    · have y5 := y2.1 c4
      refine oj_lv [0] rfl ?_
      exact BKX5_readAmount_38  y5
    · have y6 := y2.2 c4
      refine oj_aload_n 0 dX5_readAmount_27 rfl rfl ?_
      refine oj_getr (q := 1) fl_RX5_54 k_4 rfl k_1 dX5_readAmount_28 ?_
      refine oj_geti fl_RX5_184 k_1 rfl dX5_readAmount_31 ?_
      refine oj_iload_n 2 dX5_readAmount_34 rfl rfl ?_
      refine oj_icmp_le 44 dX5_readAmount_35 rfl (fun c11 => ?_) (fun c11 => ?_)
      · have y12 := y6.1 c11
        refine oj_aload_n 0 dX5_readAmount_44 rfl rfl ?_
        refine oj_aload_n 0 dX5_readAmount_45 rfl rfl ?_
        refine oj_getr (q := 1) fl_RX5_54 k_4 rfl k_1 dX5_readAmount_46 ?_
        refine oj_geti fl_RX5_184 k_1 rfl dX5_readAmount_49 ?_
        refine oj_puti fl_RX5_35 (Or.inl rfl) k_4 rfl rfl rfl dX5_readAmount_52 ?_
        refine oj_toph (fun h14 eh14 => ?_)
        have y15 := Lt_at y12 h14 eh14
        refine oj_aload_n 0 dX5_readAmount_55 rfl rfl ?_
        refine oj_getr (q := 1) fl_RX5_54 k_4 rfl k_1 dX5_readAmount_56 ?_
        refine oc_Vv [] mi_RX5_106 ow_609 ow_610 rfl k_1 (BX10_step  y15) ⟨by decide, by decide⟩ ⟨Nat.le_refl _, Nat.le_refl _⟩ rfl (Nat.le_of_ble_eq_true rfl) dX5_readAmount_59 (fun h17 y19 => ?_)
        refine oj_iconst dX5_readAmount_62 ci_1 ?_
        exact oj_ret (r := some (.int (1))) ⟨rfl, rfl, rfl, (1), rfl, y19⟩ dX5_readAmount_63 (Nat.zero_le _) (Nat.zero_le _)
      · have y13 := y6.2 c11
        refine oj_lv [0] rfl ?_
        exact BKX5_readAmount_38  y13
  · have y3 := y.2 c1
    refine oj_aload_n 0 dX5_readAmount_11 rfl rfl ?_
    refine oc_Vi [] mi_RX5_100 ow_632 op_3 rfl k_4 (BX5_misplaced  y3) ⟨by decide, by decide⟩ ⟨Nat.le_refl _, Nat.le_refl _⟩ rfl (Nat.le_of_ble_eq_true rfl) dX5_readAmount_12 (fun r20 f22 h21 y23 => ?_)
    exact oj_ret (r := some (.int r20)) ⟨f22, rfl, rfl, r20, rfl, y23⟩ dX5_readAmount_15 (Nat.zero_le _) (Nat.zero_le _)
-- X5_readObjector
set_option maxRecDepth 100000 in
set_option maxHeartbeats 4000000 in
theorem BKX5_readObjector_241 {x1 : Int32} {h : ob_H} {Q : Int32 → ob_H → Prop}
    (y : KX5_readObjector_241 x1 h Q) : ob_J RX5 cX5_readObjector 2 (ob_rm 5) false none 0 0 KS NN h 241 [(0, .ref 4), (1, .int x1)] [] (ob_g (some .boolean) (ob_qi Q)) := by
  unfold KX5_readObjector_241 at y
  refine oj_aload_n 0 dX5_readObjector_241 rfl rfl ?_
  refine oj_getr (q := 5) fl_RX5_12 k_4 rfl k_5 dX5_readObjector_242 ?_
  refine oj_iload_n 1 dX5_readObjector_245 rfl rfl ?_
  refine oj_iconst dX5_readObjector_246 ci_1 ?_
  refine oj_iadd dX5_readObjector_247 ?_
  refine oj_puti fl_RX5_103 (Or.inl rfl) k_5 rfl rfl rfl dX5_readObjector_248 ?_
  refine oj_toph (fun h72 eh72 => ?_)
  have y73 := Lt_at y h72 eh72
  refine oj_aload_n 0 dX5_readObjector_251 rfl rfl ?_
  refine oj_bipush dX5_readObjector_252 cb_59 ?_
  refine oc_Vi [.int (59)] mi_RX5_113 ow_649 op_7 rfl k_4 (BX5_take  y73) ⟨by decide, by decide⟩ ⟨Nat.le_refl _, Nat.le_refl _⟩ rfl (Nat.le_of_ble_eq_true rfl) dX5_readObjector_254 (fun r74 f76 h75 y77 => ?_)
  exact oj_ret (r := some (.int r74)) ⟨f76, rfl, rfl, r74, rfl, y77⟩ dX5_readObjector_257 (Nat.zero_le _) (Nat.zero_le _)
set_option maxRecDepth 100000 in
set_option maxHeartbeats 4000000 in
theorem BKX5_readObjector_194 {x1 : Int32} {h : ob_H} {Q : Int32 → ob_H → Prop}
    (y : KX5_readObjector_194 x1 h Q) : ob_J RX5 cX5_readObjector 2 (ob_rm 5) false none 0 0 KS NN h 194 [(0, .ref 4), (1, .int x1)] [] (ob_g (some .boolean) (ob_qi Q)) := by
  unfold KX5_readObjector_194 at y
  refine oj_aload_n 0 dX5_readObjector_194 rfl rfl ?_
  refine oj_getr (q := 5) fl_RX5_12 k_4 rfl k_5 dX5_readObjector_195 ?_
  refine oj_getr (q := 9) fl_RX5_129 k_5 rfl k_9 dX5_readObjector_198 ?_
  refine oj_iload_n 1 dX5_readObjector_201 rfl rfl ?_
  refine oj_aload_n 0 dX5_readObjector_202 rfl rfl ?_
  refine oj_geti fl_RX5_35 k_4 rfl dX5_readObjector_203 ?_
  obtain ⟨c65, y66⟩ := y
  refine oj_iast k_9 c65 rfl dX5_readObjector_206 ?_
  refine oj_toph (fun h67 eh67 => ?_)
  have y68 := Lt_at y66 h67 eh67
  refine oj_aload_n 0 dX5_readObjector_207 rfl rfl ?_
  refine oj_getr (q := 1) fl_RX5_54 k_4 rfl k_1 dX5_readObjector_208 ?_
  refine oj_geti fl_RX5_66 k_1 rfl dX5_readObjector_211 ?_
  refine oj_bipush dX5_readObjector_214 cb_109 ?_
  refine oj_icmp_ne 241 dX5_readObjector_216 rfl (fun c69 => ?_) (fun c69 => ?_)
  · have y70 := y68.2 c69
    refine oj_lv [0, 1] rfl ?_
    exact BKX5_readObjector_241  y70
  · have y71 := y68.1 c69
    refine oj_aload_n 0 dX5_readObjector_219 rfl rfl ?_
    refine oj_getr (q := 5) fl_RX5_12 k_4 rfl k_5 dX5_readObjector_220 ?_
    refine oj_dup dX5_readObjector_223 rfl ?_
    refine oj_geti fl_RX5_132 k_5 rfl dX5_readObjector_224 ?_
    refine oj_iconst dX5_readObjector_227 ci_1 ?_
    refine oj_iload_n 1 dX5_readObjector_228 rfl rfl ?_
    refine oj_ishl dX5_readObjector_229 ?_
    refine oj_ior dX5_readObjector_230 ?_
    refine oj_puti fl_RX5_132 (Or.inl rfl) k_5 rfl rfl rfl dX5_readObjector_231 ?_
    refine oj_toph (fun h78 eh78 => ?_)
    have y79 := Lt_at y71 h78 eh78
    refine oj_aload_n 0 dX5_readObjector_234 rfl rfl ?_
    refine oj_getr (q := 1) fl_RX5_54 k_4 rfl k_1 dX5_readObjector_235 ?_
    refine oc_Vv [] mi_RX5_106 ow_609 ow_610 rfl k_1 (BX10_step  y79) ⟨by decide, by decide⟩ ⟨Nat.le_refl _, Nat.le_refl _⟩ rfl (Nat.le_of_ble_eq_true rfl) dX5_readObjector_238 (fun h81 y83 => ?_)
    refine oj_lv [0, 1] rfl ?_
    exact BKX5_readObjector_241  y83
set_option maxRecDepth 100000 in
set_option maxHeartbeats 4000000 in
theorem BKX5_readObjector_143 {x1 : Int32} {h : ob_H} {Q : Int32 → ob_H → Prop}
    (y : KX5_readObjector_143 x1 h Q) : ob_J RX5 cX5_readObjector 2 (ob_rm 5) false none 0 0 KS NN h 143 [(0, .ref 4), (1, .int x1)] [] (ob_g (some .boolean) (ob_qi Q)) := by
  unfold KX5_readObjector_143 at y
  refine oj_aload_n 0 dX5_readObjector_143 rfl rfl ?_
  refine oj_getr (q := 5) fl_RX5_12 k_4 rfl k_5 dX5_readObjector_144 ?_
  refine oj_getr (q := 8) fl_RX5_126 k_5 rfl k_8 dX5_readObjector_147 ?_
  refine oj_iload_n 1 dX5_readObjector_150 rfl rfl ?_
  refine oj_aload_n 0 dX5_readObjector_151 rfl rfl ?_
  refine oj_geti fl_RX5_35 k_4 rfl dX5_readObjector_152 ?_
  obtain ⟨c56, y57⟩ := y
  refine oj_iast k_8 c56 rfl dX5_readObjector_155 ?_
  refine oj_toph (fun h58 eh58 => ?_)
  have y59 := Lt_at y57 h58 eh58
  refine oj_aload_n 0 dX5_readObjector_156 rfl rfl ?_
  refine oj_iconst dX5_readObjector_157 ci_0 ?_
  refine oj_puti fl_RX5_35 (Or.inl rfl) k_4 rfl rfl rfl dX5_readObjector_158 ?_
  refine oj_toph (fun h60 eh60 => ?_)
  have y61 := Lt_at y59 h60 eh60
  refine oj_aload_n 0 dX5_readObjector_161 rfl rfl ?_
  refine oj_getr (q := 1) fl_RX5_54 k_4 rfl k_1 dX5_readObjector_162 ?_
  refine oj_geti fl_RX5_66 k_1 rfl dX5_readObjector_165 ?_
  refine oj_bipush dX5_readObjector_168 cb_108 ?_
  refine oj_icmp_ne 194 dX5_readObjector_170 rfl (fun c62 => ?_) (fun c62 => ?_)
  · have y63 := y61.2 c62
    refine oj_lv [0, 1] rfl ?_
    exact BKX5_readObjector_194  y63
  · have y64 := y61.1 c62
    refine oj_aload_n 0 dX5_readObjector_173 rfl rfl ?_
    refine oj_bipush dX5_readObjector_174 cb_108 ?_
    refine oc_Vi [.int (108)] mi_RX5_113 ow_649 op_7 rfl k_4 (BX5_take  y64) ⟨by decide, by decide⟩ ⟨Nat.le_refl _, Nat.le_refl _⟩ rfl (Nat.le_of_ble_eq_true rfl) dX5_readObjector_176 (fun r84 f86 h85 y87 => ?_)
    refine oj_if_eq 192 dX5_readObjector_179 rfl (fun c88 => ?_) (fun c88 => ?_)
    · have y89 := y87.1 c88
      refine oj_iconst dX5_readObjector_192 ci_0 ?_
      exact oj_ret (r := some (.int (0))) ⟨rfl, rfl, rfl, (0), rfl, y89⟩ dX5_readObjector_193 (Nat.zero_le _) (Nat.zero_le _)
    · have y90 := y87.2 c88
      refine oj_aload_n 0 dX5_readObjector_182 rfl rfl ?_
      refine oj_iconst dX5_readObjector_183 ci_0 ?_
      refine oj_bipush dX5_readObjector_184 cb_99 ?_
      refine oc_Vi [.int (0), .int (99)] mi_RX5_116 ow_653 op_8 rfl k_4 (BX5_readAmount  y90) ⟨by decide, by decide⟩ ⟨Nat.le_refl _, Nat.le_refl _⟩ rfl (Nat.le_of_ble_eq_true rfl) dX5_readObjector_186 (fun r91 f93 h92 y94 => ?_)
      refine oj_if_ne 194 dX5_readObjector_189 rfl (fun c95 => ?_) (fun c95 => ?_)
      · have y96 := y94.2 c95
        refine oj_lv [0, 1] rfl ?_
        exact BKX5_readObjector_194  y96
      · have y97 := y94.1 c95
        refine oj_iconst dX5_readObjector_192 ci_0 ?_
        exact oj_ret (r := some (.int (0))) ⟨rfl, rfl, rfl, (0), rfl, y97⟩ dX5_readObjector_193 (Nat.zero_le _) (Nat.zero_le _)
set_option maxRecDepth 100000 in
set_option maxHeartbeats 4000000 in
theorem BX5_readObjector    {h : ob_H} {Q : Int32 → ob_H → Prop} (y : MX5_readObjector   h Q) : ob_T yX5_readObjector cX5_readObjector 2 (some .boolean) (ob_rm 5) KS NN h [.ref 4] (ob_g (some .boolean) (ob_qi Q)) := by
  unfold MX5_readObjector at y
  refine ob_T_gf (by decide +kernel) (Nat.le_of_ble_eq_true rfl) ?_
  show ob_J RX5 cX5_readObjector 2 (ob_rm 5) false none 0 0 KS NN h 0 [(0, .ref 4)] [] (ob_g (some .boolean) (ob_qi Q))
  refine oj_aload_n 0 dX5_readObjector_0 rfl rfl ?_
  refine oj_getr (q := 5) fl_RX5_12 k_4 rfl k_5 dX5_readObjector_1 ?_
  refine oj_geti fl_RX5_103 k_5 rfl dX5_readObjector_4 ?_
  refine oj_topi (fun v1 ev1 => ?_)
  have y2 := Lt_at y v1 ev1
  refine oj_istore_n (lv' := [(1, .int v1), (0, .ref 4)]) dX5_readObjector_7 rfl (by decide) rfl ?_
  refine oj_iload_n 0 dX5_readObjector_8 rfl rfl ?_
  refine oj_bipush dX5_readObjector_9 cb_7 ?_
  refine oj_icmp_lt 19 dX5_readObjector_11 rfl (fun c3 => ?_) (fun c3 => ?_)
  · have y4 := y2.1 c3
    refine oj_aload_n 1 dX5_readObjector_19 rfl rfl ?_
    refine oj_getr (q := 1) fl_RX5_54 k_4 rfl k_1 dX5_readObjector_20 ?_
    refine oc_Vv [] mi_RX5_106 ow_609 ow_610 rfl k_1 (BX10_step  y4) ⟨by decide, by decide⟩ ⟨Nat.le_refl _, Nat.le_refl _⟩ rfl (Nat.le_of_ble_eq_true rfl) dX5_readObjector_23 (fun h7 y9 => ?_)
    refine oj_aload_n 1 dX5_readObjector_26 rfl rfl ?_
    refine oj_iload_n 0 dX5_readObjector_27 rfl rfl ?_
    refine oc_Vi [.int v1] mi_RX5_109 ow_641 op_5 rfl k_4 (BX5_readNewName  y9) ⟨by decide, by decide⟩ ⟨Nat.le_refl _, Nat.le_refl _⟩ rfl (Nat.le_of_ble_eq_true rfl) dX5_readObjector_28 (fun r10 f12 h11 y13 => ?_)
    refine oj_if_eq 53 dX5_readObjector_31 rfl (fun c14 => ?_) (fun c14 => ?_)
    · have y15 := y13.1 c14
      refine oj_iconst dX5_readObjector_53 ci_0 ?_
      exact oj_ret (r := some (.int (0))) ⟨rfl, rfl, rfl, (0), rfl, y15⟩ dX5_readObjector_54 (Nat.zero_le _) (Nat.zero_le _)
    · have y16 := y13.2 c14
      refine oj_aload_n 1 dX5_readObjector_34 rfl rfl ?_
      refine oj_bipush dX5_readObjector_35 cb_100 ?_
      refine oc_Vi [.int (100)] mi_RX5_113 ow_649 op_7 rfl k_4 (BX5_take  y16) ⟨by decide, by decide⟩ ⟨Nat.le_refl _, Nat.le_refl _⟩ rfl (Nat.le_of_ble_eq_true rfl) dX5_readObjector_37 (fun r17 f19 h18 y20 => ?_)
      refine oj_if_eq 53 dX5_readObjector_40 rfl (fun c21 => ?_) (fun c21 => ?_)
      · have y22 := y20.1 c21
        refine oj_iconst dX5_readObjector_53 ci_0 ?_
        exact oj_ret (r := some (.int (0))) ⟨rfl, rfl, rfl, (0), rfl, y22⟩ dX5_readObjector_54 (Nat.zero_le _) (Nat.zero_le _)
      · have y23 := y20.2 c21
        refine oj_aload_n 1 dX5_readObjector_43 rfl rfl ?_
        refine oj_iconst dX5_readObjector_44 ci_0 ?_
        refine oj_bipush dX5_readObjector_45 cb_99 ?_
        refine oc_Vi [.int (0), .int (99)] mi_RX5_116 ow_653 op_8 rfl k_4 (BX5_readAmount  y23) ⟨by decide, by decide⟩ ⟨Nat.le_refl _, Nat.le_refl _⟩ rfl (Nat.le_of_ble_eq_true rfl) dX5_readObjector_47 (fun r24 f26 h25 y27 => ?_)
        refine oj_if_ne 55 dX5_readObjector_50 rfl (fun c28 => ?_) (fun c28 => ?_)
        · have y29 := y27.2 c28
          refine oj_aload_n 1 dX5_readObjector_55 rfl rfl ?_
          refine oj_getr (q := 5) fl_RX5_12 k_4 rfl k_5 dX5_readObjector_56 ?_
          refine oj_getr (q := 6) fl_RX5_120 k_5 rfl k_6 dX5_readObjector_59 ?_
          refine oj_iload_n 0 dX5_readObjector_62 rfl rfl ?_
          refine oj_aload_n 1 dX5_readObjector_63 rfl rfl ?_
          refine oj_geti fl_RX5_35 k_4 rfl dX5_readObjector_64 ?_
          obtain ⟨c31, y32⟩ := y29
          refine oj_iast k_6 c31 rfl dX5_readObjector_67 ?_
          refine oj_toph (fun h33 eh33 => ?_)
          have y34 := Lt_at y32 h33 eh33
          refine oj_aload_n 1 dX5_readObjector_68 rfl rfl ?_
          refine oj_bipush dX5_readObjector_69 cb_101 ?_
          refine oc_Vi [.int (101)] mi_RX5_113 ow_649 op_7 rfl k_4 (BX5_take  y34) ⟨by decide, by decide⟩ ⟨Nat.le_refl _, Nat.le_refl _⟩ rfl (Nat.le_of_ble_eq_true rfl) dX5_readObjector_71 (fun r35 f37 h36 y38 => ?_)
          refine oj_if_eq 87 dX5_readObjector_74 rfl (fun c39 => ?_) (fun c39 => ?_)
          · have y40 := y38.1 c39
            refine oj_iconst dX5_readObjector_87 ci_0 ?_
            exact oj_ret (r := some (.int (0))) ⟨rfl, rfl, rfl, (0), rfl, y40⟩ dX5_readObjector_88 (Nat.zero_le _) (Nat.zero_le _)
          · have y41 := y38.2 c39
            refine oj_aload_n 1 dX5_readObjector_77 rfl rfl ?_
            refine oj_iconst dX5_readObjector_78 ci_1 ?_
            refine oj_bipush dX5_readObjector_79 cb_60 ?_
            refine oc_Vi [.int (1), .int (60)] mi_RX5_116 ow_653 op_8 rfl k_4 (BX5_readAmount  y41) ⟨by decide, by decide⟩ ⟨Nat.le_refl _, Nat.le_refl _⟩ rfl (Nat.le_of_ble_eq_true rfl) dX5_readObjector_81 (fun r42 f44 h43 y45 => ?_)
            refine oj_if_ne 89 dX5_readObjector_84 rfl (fun c46 => ?_) (fun c46 => ?_)
            · have y47 := y45.2 c46
              refine oj_aload_n 1 dX5_readObjector_89 rfl rfl ?_
              refine oj_getr (q := 5) fl_RX5_12 k_4 rfl k_5 dX5_readObjector_90 ?_
              refine oj_getr (q := 7) fl_RX5_123 k_5 rfl k_7 dX5_readObjector_93 ?_
              refine oj_iload_n 0 dX5_readObjector_96 rfl rfl ?_
              refine oj_aload_n 1 dX5_readObjector_97 rfl rfl ?_
              refine oj_geti fl_RX5_35 k_4 rfl dX5_readObjector_98 ?_
              refine oj_iast k_7 c31 rfl dX5_readObjector_101 ?_
              refine oj_toph (fun h49 eh49 => ?_)
              have y50 := Lt_at y47 h49 eh49
              refine oj_aload_n 1 dX5_readObjector_102 rfl rfl ?_
              refine oj_sipush dX5_readObjector_103 cs_999 ?_
              refine oj_puti fl_RX5_35 (Or.inl rfl) k_4 rfl rfl rfl dX5_readObjector_106 ?_
              refine oj_toph (fun h51 eh51 => ?_)
              have y52 := Lt_at y50 h51 eh51
              refine oj_aload_n 1 dX5_readObjector_109 rfl rfl ?_
              refine oj_getr (q := 1) fl_RX5_54 k_4 rfl k_1 dX5_readObjector_110 ?_
              refine oj_geti fl_RX5_66 k_1 rfl dX5_readObjector_113 ?_
              refine oj_bipush dX5_readObjector_116 cb_107 ?_
              refine oj_icmp_ne 143 dX5_readObjector_118 rfl (fun c53 => ?_) (fun c53 => ?_)
              · have y54 := y52.2 c53
                refine oj_lv [1, 0] rfl ?_
                exact BKX5_readObjector_143  y54
              · have y55 := y52.1 c53
                refine oj_aload_n 1 dX5_readObjector_121 rfl rfl ?_
                refine oj_bipush dX5_readObjector_122 cb_107 ?_
                refine oc_Vi [.int (107)] mi_RX5_113 ow_649 op_7 rfl k_4 (BX5_take  y55) ⟨by decide, by decide⟩ ⟨Nat.le_refl _, Nat.le_refl _⟩ rfl (Nat.le_of_ble_eq_true rfl) dX5_readObjector_124 (fun r98 f100 h99 y101 => ?_)
                refine oj_if_eq 141 dX5_readObjector_127 rfl (fun c102 => ?_) (fun c102 => ?_)
                · have y103 := y101.1 c102
                  refine oj_iconst dX5_readObjector_141 ci_0 ?_
                  exact oj_ret (r := some (.int (0))) ⟨rfl, rfl, rfl, (0), rfl, y103⟩ dX5_readObjector_142 (Nat.zero_le _) (Nat.zero_le _)
                · have y104 := y101.2 c102
                  refine oj_aload_n 1 dX5_readObjector_130 rfl rfl ?_
                  refine oj_iconst dX5_readObjector_131 ci_0 ?_
                  refine oj_sipush dX5_readObjector_132 cs_999 ?_
                  refine oc_Vi [.int (0), .int (999)] mi_RX5_116 ow_653 op_8 rfl k_4 (BX5_readAmount  y104) ⟨by decide, by decide⟩ ⟨Nat.le_refl _, Nat.le_refl _⟩ rfl (Nat.le_of_ble_eq_true rfl) dX5_readObjector_135 (fun r105 f107 h106 y108 => ?_)
                  refine oj_if_ne 143 dX5_readObjector_138 rfl (fun c109 => ?_) (fun c109 => ?_)
                  · have y110 := y108.2 c109
                    refine oj_lv [1, 0] rfl ?_
                    exact BKX5_readObjector_143  y110
                  · have y111 := y108.1 c109
                    refine oj_iconst dX5_readObjector_141 ci_0 ?_
                    exact oj_ret (r := some (.int (0))) ⟨rfl, rfl, rfl, (0), rfl, y111⟩ dX5_readObjector_142 (Nat.zero_le _) (Nat.zero_le _)
            · have y48 := y45.1 c46
              refine oj_iconst dX5_readObjector_87 ci_0 ?_
              exact oj_ret (r := some (.int (0))) ⟨rfl, rfl, rfl, (0), rfl, y48⟩ dX5_readObjector_88 (Nat.zero_le _) (Nat.zero_le _)
        · have y30 := y27.1 c28
          refine oj_iconst dX5_readObjector_53 ci_0 ?_
          exact oj_ret (r := some (.int (0))) ⟨rfl, rfl, rfl, (0), rfl, y30⟩ dX5_readObjector_54 (Nat.zero_le _) (Nat.zero_le _)
  · have y5 := y2.2 c3
    refine oj_aload_n 1 dX5_readObjector_14 rfl rfl ?_
    refine oc_Vi [] mi_RX5_100 ow_632 op_3 rfl k_4 (BX5_misplaced  y5) ⟨by decide, by decide⟩ ⟨Nat.le_refl _, Nat.le_refl _⟩ rfl (Nat.le_of_ble_eq_true rfl) dX5_readObjector_15 (fun r112 f114 h113 y115 => ?_)
    exact oj_ret (r := some (.int r112)) ⟨f114, rfl, rfl, r112, rfl, y115⟩ dX5_readObjector_18 (Nat.zero_le _) (Nat.zero_le _)
-- J6_bitCount_0f7a4
set_option maxRecDepth 100000 in
set_option maxHeartbeats 4000000 in
theorem BJ6_bitCount_0f7a4  {p0 : Int32}  {h : ob_H} {Q : Int32 → Prop} (y : MJ6_bitCount_0f7a4  p0 h Q) : ob_T yJ6_bitCount_0f7a4 cJ6_bitCount_0f7a4 1 (some .int) (ob_rm 1) KS NN h [.int p0] (ob_g (some .int) (ob_pi h Q)) := by
  unfold MJ6_bitCount_0f7a4 at y
  refine ob_T_gf (by decide +kernel) (Nat.le_of_ble_eq_true rfl) ?_
  show ob_J RJ6 cJ6_bitCount_0f7a4 1 (ob_rm 1) false none 0 0 KS NN h 0 [(0, .int p0)] [] (ob_g (some .int) (ob_pi h Q))
  refine oj_iload_n 0 dJ6_bitCount_0f7a4_0 rfl rfl ?_
  refine oj_iload_n 0 dJ6_bitCount_0f7a4_1 rfl rfl ?_
  refine oj_iconst dJ6_bitCount_0f7a4_2 ci_1 ?_
  refine oj_iushr (v := ush p0 (1)) dJ6_bitCount_0f7a4_3 rfl ?_
  refine oj_ldcw ow_662 dJ6_bitCount_0f7a4_4 ?_
  refine oj_iand dJ6_bitCount_0f7a4_7 ?_
  refine oj_isub dJ6_bitCount_0f7a4_8 ?_
  refine oj_topi (fun v1 ev1 => ?_)
  have y2 := Lt_at y v1 ev1
  refine oj_istore_n (lv' := [(0, .int v1)]) dJ6_bitCount_0f7a4_9 rfl (by decide) rfl ?_
  refine oj_iload_n 0 dJ6_bitCount_0f7a4_10 rfl rfl ?_
  refine oj_ldcw ow_663 dJ6_bitCount_0f7a4_11 ?_
  refine oj_iand dJ6_bitCount_0f7a4_14 ?_
  refine oj_iload_n 0 dJ6_bitCount_0f7a4_15 rfl rfl ?_
  refine oj_iconst dJ6_bitCount_0f7a4_16 ci_2 ?_
  refine oj_iushr (v := ush v1 (2)) dJ6_bitCount_0f7a4_17 rfl ?_
  refine oj_ldcw ow_663 dJ6_bitCount_0f7a4_18 ?_
  refine oj_iand dJ6_bitCount_0f7a4_21 ?_
  refine oj_iadd dJ6_bitCount_0f7a4_22 ?_
  refine oj_topi (fun v3 ev3 => ?_)
  have y4 := Lt_at y2 v3 ev3
  refine oj_istore_n (lv' := [(0, .int v3)]) dJ6_bitCount_0f7a4_23 rfl (by decide) rfl ?_
  refine oj_iload_n 0 dJ6_bitCount_0f7a4_24 rfl rfl ?_
  refine oj_iload_n 0 dJ6_bitCount_0f7a4_25 rfl rfl ?_
  refine oj_iconst dJ6_bitCount_0f7a4_26 ci_4 ?_
  refine oj_iushr (v := ush v3 (4)) dJ6_bitCount_0f7a4_27 rfl ?_
  refine oj_iadd dJ6_bitCount_0f7a4_28 ?_
  refine oj_ldcw ow_664 dJ6_bitCount_0f7a4_29 ?_
  refine oj_iand dJ6_bitCount_0f7a4_32 ?_
  refine oj_topi (fun v5 ev5 => ?_)
  have y6 := Lt_at y4 v5 ev5
  refine oj_istore_n (lv' := [(0, .int v5)]) dJ6_bitCount_0f7a4_33 rfl (by decide) rfl ?_
  refine oj_iload_n 0 dJ6_bitCount_0f7a4_34 rfl rfl ?_
  refine oj_iload_n 0 dJ6_bitCount_0f7a4_35 rfl rfl ?_
  refine oj_bipush dJ6_bitCount_0f7a4_36 cb_8 ?_
  refine oj_iushr (v := ush v5 (8)) dJ6_bitCount_0f7a4_38 rfl ?_
  refine oj_iadd dJ6_bitCount_0f7a4_39 ?_
  refine oj_topi (fun v7 ev7 => ?_)
  have y8 := Lt_at y6 v7 ev7
  refine oj_istore_n (lv' := [(0, .int v7)]) dJ6_bitCount_0f7a4_40 rfl (by decide) rfl ?_
  refine oj_iload_n 0 dJ6_bitCount_0f7a4_41 rfl rfl ?_
  refine oj_iload_n 0 dJ6_bitCount_0f7a4_42 rfl rfl ?_
  refine oj_bipush dJ6_bitCount_0f7a4_43 cb_16 ?_
  refine oj_iushr (v := ush v7 (16)) dJ6_bitCount_0f7a4_45 rfl ?_
  refine oj_iadd dJ6_bitCount_0f7a4_46 ?_
  refine oj_topi (fun v9 ev9 => ?_)
  have y10 := Lt_at y8 v9 ev9
  refine oj_istore_n (lv' := [(0, .int v9)]) dJ6_bitCount_0f7a4_47 rfl (by decide) rfl ?_
  refine oj_iload_n 0 dJ6_bitCount_0f7a4_48 rfl rfl ?_
  refine oj_bipush dJ6_bitCount_0f7a4_49 cb_63 ?_
  refine oj_iand dJ6_bitCount_0f7a4_51 ?_
  exact oj_ret (r := some (.int (v9 &&& (63)))) ⟨trivial, rfl, rfl, rfl, (v9 &&& (63)), rfl, y10⟩ dJ6_bitCount_0f7a4_52 (Nat.zero_le _) (Nat.zero_le _)
