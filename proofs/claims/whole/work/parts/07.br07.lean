-- X12_toldNumber
set_option maxRecDepth 100000 in
set_option maxHeartbeats 4000000 in
theorem BKX12_toldNumber_46 {h : ob_H} {Q : Int32 → ob_H → Prop}
    (y : KX12_toldNumber_46 h Q) : ob_J RX12 cX12_toldNumber 4 (ob_rm 3) false none 0 0 KS NN h 46 [(0, .ref 108)] [] (ob_g (some .int) (ob_qi Q)) := by
  unfold KX12_toldNumber_46 at y
  refine oj_aload_n 0 dX12_toldNumber_46 rfl rfl ?_
  refine oj_geti fl_RX12_172 k_108 rfl dX12_toldNumber_47 ?_
  refine oj_topi (fun v14 ev14 => ?_)
  have y15 := Lt_at y v14 ev14
  refine oj_istore_n (lv' := [(3, .int v14), (0, .ref 108)]) dX12_toldNumber_50 rfl (by decide) rfl ?_
  refine oj_aload_n 1 dX12_toldNumber_51 rfl rfl ?_
  refine oj_geti fl_RX12_188 k_108 rfl dX12_toldNumber_52 ?_
  refine oj_if_ne 62 dX12_toldNumber_55 rfl (fun c16 => ?_) (fun c16 => ?_)
  · have y17 := y15.2 c16
    refine oj_iload_n 0 dX12_toldNumber_62 rfl rfl ?_
    exact oj_ret (r := some (.int v14)) ⟨trivial, rfl, rfl, v14, rfl, y17⟩ dX12_toldNumber_63 (Nat.zero_le _) (Nat.zero_le _)
  · have y18 := y15.1 c16
    refine oj_aload_n 1 dX12_toldNumber_58 rfl rfl ?_
    refine oc_Vv [] mi_RX12_242 ow_1450 op_39 rfl k_108 (BX12_token  y18) ⟨by decide, by decide⟩ ⟨Nat.le_refl _, Nat.le_refl _⟩ rfl (Nat.le_of_ble_eq_true rfl) dX12_toldNumber_59 (fun h20 y22 => ?_)
    refine oj_iload_n 0 dX12_toldNumber_62 rfl rfl ?_
    exact oj_ret (r := some (.int v14)) ⟨trivial, rfl, rfl, v14, rfl, y22⟩ dX12_toldNumber_63 (Nat.zero_le _) (Nat.zero_le _)
set_option maxRecDepth 100000 in
set_option maxHeartbeats 4000000 in
theorem BKX12_toldNumber_41 {h : ob_H} {Q : Int32 → ob_H → Prop}
    (y : KX12_toldNumber_41 h Q) : ob_J RX12 cX12_toldNumber 4 (ob_rm 3) false none 0 0 KS NN h 41 [(0, .ref 108)] [] (ob_g (some .int) (ob_qi Q)) := by
  unfold KX12_toldNumber_41 at y
  refine oj_aload_n 0 dX12_toldNumber_41 rfl rfl ?_
  refine oj_iconst dX12_toldNumber_42 ci_4 ?_
  refine oc_Vv [.int (4)] mi_RX12_239 ow_1507 op_46 rfl k_108 (BX12_wrong  y) ⟨by decide, by decide⟩ ⟨Nat.le_refl _, Nat.le_refl _⟩ rfl (Nat.le_of_ble_eq_true rfl) dX12_toldNumber_43 (fun h11 y13 => ?_)
  refine oj_lv [0] rfl ?_
  exact BKX12_toldNumber_46  y13
set_option maxRecDepth 100000 in
set_option maxHeartbeats 4000000 in
theorem BX12_toldNumber  {p1 : Int32} {p2 : Int32}  {h : ob_H} {Q : Int32 → ob_H → Prop} (y : MX12_toldNumber  p1 p2 h Q) : ob_T yX12_toldNumber cX12_toldNumber 4 (some .int) (ob_rm 3) KS NN h [.ref 108, .int p1, .int p2] (ob_g (some .int) (ob_qi Q)) := by
  unfold MX12_toldNumber at y
  refine ob_T_gf (by decide +kernel) (Nat.le_of_ble_eq_true rfl) ?_
  show ob_J RX12 cX12_toldNumber 4 (ob_rm 3) false none 0 0 KS NN h 0 [(0, .ref 108), (1, .int p1), (2, .int p2)] [] (ob_g (some .int) (ob_qi Q))
  refine oj_aload_n 0 dX12_toldNumber_0 rfl rfl ?_
  refine oj_geti fl_RX12_188 k_108 rfl dX12_toldNumber_1 ?_
  refine oj_if_le 9 dX12_toldNumber_4 rfl (fun c1 => ?_) (fun c1 => ?_)
  · have y2 := y.1 c1
    refine oj_aload_n 0 dX12_toldNumber_9 rfl rfl ?_
    refine oj_geti fl_RX12_175 k_108 rfl dX12_toldNumber_10 ?_
    refine oj_iconst dX12_toldNumber_13 ci_2 ?_
    refine oj_icmp_eq 25 dX12_toldNumber_14 rfl (fun c4 => ?_) (fun c4 => ?_)
    · have y5 := y2.1 c4
      refine oj_aload_n 0 dX12_toldNumber_25 rfl rfl ?_
      refine oj_geti fl_RX12_172 k_108 rfl dX12_toldNumber_26 ?_
      refine oj_iload_n 1 dX12_toldNumber_29 rfl rfl ?_
      refine oj_icmp_lt 41 dX12_toldNumber_30 rfl (fun c7 => ?_) (fun c7 => ?_)
      · have y8 := y5.1 c7
        refine oj_lv [0] rfl ?_
        exact BKX12_toldNumber_41  y8
      · have y9 := y5.2 c7
        refine oj_aload_n 0 dX12_toldNumber_33 rfl rfl ?_
        refine oj_geti fl_RX12_172 k_108 rfl dX12_toldNumber_34 ?_
        refine oj_iload_n 2 dX12_toldNumber_37 rfl rfl ?_
        refine oj_icmp_le 46 dX12_toldNumber_38 rfl (fun c23 => ?_) (fun c23 => ?_)
        · have y24 := y9.1 c23
          refine oj_lv [0] rfl ?_
          exact BKX12_toldNumber_46  y24
        · have y25 := y9.2 c23
          refine oj_lv [0] rfl ?_
          exact BKX12_toldNumber_41  y25
    · have y6 := y2.2 c4
      refine oj_aload_n 0 dX12_toldNumber_17 rfl rfl ?_
      refine oj_iconst dX12_toldNumber_18 ci_2 ?_
      refine oc_Vv [.int (2)] mi_RX12_239 ow_1507 op_46 rfl k_108 (BX12_wrong  y6) ⟨by decide, by decide⟩ ⟨Nat.le_refl _, Nat.le_refl _⟩ rfl (Nat.le_of_ble_eq_true rfl) dX12_toldNumber_19 (fun h27 y29 => ?_)
      refine oj_goto 46 dX12_toldNumber_22 rfl ?_
      refine oj_lv [0] rfl ?_
      exact BKX12_toldNumber_46  y29
  · have y3 := y.2 c1
    refine oj_iconst dX12_toldNumber_7 ci_0 ?_
    exact oj_ret (r := some (.int (0))) ⟨trivial, rfl, rfl, (0), rfl, y3⟩ dX12_toldNumber_8 (Nat.zero_le _) (Nat.zero_le _)
-- X12_told
set_option maxRecDepth 100000 in
set_option maxHeartbeats 4000000 in
theorem BX12_told  {p1 : Int64} {p3 : Int32} {p4 : Int32}  {h : ob_H} {Q : Int32 → ob_H → Prop} (y : MX12_told  p1 p3 p4 h Q) : ob_T yX12_told cX12_told 5 (some .int) (ob_rm 4) KS NN h [.ref 108, .long p1, .int p3, .int p4] (ob_g (some .int) (ob_qi Q)) := by
  unfold MX12_told at y
  refine ob_T_gf (by decide +kernel) (Nat.le_of_ble_eq_true rfl) ?_
  show ob_J RX12 cX12_told 5 (ob_rm 4) false none 0 0 KS NN h 0 [(0, .ref 108), (1, .long p1), (3, .int p3), (4, .int p4)] [] (ob_g (some .int) (ob_qi Q))
  refine oj_aload_n 0 dX12_told_0 rfl rfl ?_
  refine oj_lload_n 1 dX12_told_1 rfl rfl ?_
  refine oc_Vv [.long p1] mi_RX12_245 ow_1519 op_49 rfl k_108 (BX12_want  y) ⟨by decide, by decide⟩ ⟨Nat.le_refl _, Nat.le_refl _⟩ rfl (Nat.le_of_ble_eq_true rfl) dX12_told_2 (fun h2 y4 => ?_)
  refine oj_aload_n 0 dX12_told_5 rfl rfl ?_
  refine oj_iload_n 2 dX12_told_6 rfl rfl ?_
  refine oj_iload 3 dX12_told_7 rfl ?_
  refine oc_Vi [.int p3, .int p4] mi_RX12_249 ow_1523 op_50 rfl k_108 (BX12_toldNumber  y4) ⟨by decide, by decide⟩ ⟨Nat.le_refl _, Nat.le_refl _⟩ rfl (Nat.le_of_ble_eq_true rfl) dX12_told_9 (fun r5 f7 h6 y8 => ?_)
  exact oj_ret (r := some (.int r5)) ⟨trivial, rfl, rfl, r5, rfl, y8⟩ dX12_told_12 (Nat.zero_le _) (Nat.zero_le _)
-- X12_option
set_option maxRecDepth 100000 in
set_option maxHeartbeats 4000000 in
theorem BX12_option  {p1 : Int64} {p3 : Int32} {p4 : Int32}  {h : ob_H} {Q : Int32 → ob_H → Prop} (y : MX12_option  p1 p3 p4 h Q) : ob_T yX12_option cX12_option 5 (some .int) (ob_rm 5) KS NN h [.ref 108, .long p1, .int p3, .int p4] (ob_g (some .int) (ob_qi Q)) := by
  unfold MX12_option at y
  refine ob_T_gf (by decide +kernel) (Nat.le_of_ble_eq_true rfl) ?_
  show ob_J RX12 cX12_option 5 (ob_rm 5) false none 0 0 KS NN h 0 [(0, .ref 108), (1, .long p1), (3, .int p3), (4, .int p4)] [] (ob_g (some .int) (ob_qi Q))
  refine oj_aload_n 0 dX12_option_0 rfl rfl ?_
  refine oj_geti fl_RX12_188 k_108 rfl dX12_option_1 ?_
  refine oj_if_ne 25 dX12_option_4 rfl (fun c1 => ?_) (fun c1 => ?_)
  · have y2 := y.2 c1
    refine oj_iload 3 dX12_option_25 rfl ?_
    exact oj_ret (r := some (.int p4)) ⟨trivial, rfl, rfl, p4, rfl, y2⟩ dX12_option_27 (Nat.zero_le _) (Nat.zero_le _)
  · have y3 := y.1 c1
    refine oj_aload_n 0 dX12_option_7 rfl rfl ?_
    refine oj_lload_n 1 dX12_option_8 rfl rfl ?_
    refine oc_Vpi [.long p1] mi_RX12_235 ow_1472 op_42 rfl k_108 (BX12_isWord  y3) ⟨by decide, by decide⟩ ⟨Nat.le_refl _, Nat.le_refl _⟩ rfl (Nat.le_of_ble_eq_true rfl) dX12_option_9 (fun r4 f6 y7 => ?_)
    refine oj_if_eq 25 dX12_option_12 rfl (fun c8 => ?_) (fun c8 => ?_)
    · have y9 := y7.1 c8
      refine oj_iload 3 dX12_option_25 rfl ?_
      exact oj_ret (r := some (.int p4)) ⟨trivial, rfl, rfl, p4, rfl, y9⟩ dX12_option_27 (Nat.zero_le _) (Nat.zero_le _)
    · have y10 := y7.2 c8
      refine oj_aload_n 0 dX12_option_15 rfl rfl ?_
      refine oj_lload_n 1 dX12_option_16 rfl rfl ?_
      refine oj_iconst dX12_option_17 ci_0 ?_
      refine oj_iload_n 2 dX12_option_18 rfl rfl ?_
      refine oc_Vi [.long p1, .int (0), .int p3] mi_RX12_253 ow_1515 op_48 rfl k_108 (BX12_told  y10) ⟨by decide, by decide⟩ ⟨Nat.le_refl _, Nat.le_refl _⟩ rfl (Nat.le_of_ble_eq_true rfl) dX12_option_19 (fun r11 f13 h12 y14 => ?_)
      refine oj_goto 27 dX12_option_22 rfl ?_
      exact oj_ret (r := some (.int r11)) ⟨trivial, rfl, rfl, r11, rfl, y14⟩ dX12_option_27 (Nat.zero_le _) (Nat.zero_le _)
-- X12_takes
set_option maxRecDepth 100000 in
set_option maxHeartbeats 4000000 in
theorem BKX12_takes_20 {s0 : Int32} {h : ob_H} {Q : Int32 → ob_H → Prop}
    (y : KX12_takes_20 s0 h Q) : ob_J RX12 cX12_takes 4 (ob_rm 3) false none 0 0 KS NN h 20 [(0, .ref 108)] [.int s0] (ob_g (some .boolean) (ob_qi Q)) := by
  unfold KX12_takes_20 at y
  refine oj_istore_n (lv' := [(3, .int s0), (0, .ref 108)]) dX12_takes_20 rfl (by decide) rfl ?_
  refine oj_iload_n 0 dX12_takes_21 rfl rfl ?_
  refine oj_if_eq 29 dX12_takes_22 rfl (fun c4 => ?_) (fun c4 => ?_)
  · have y5 := y.1 c4
    refine oj_iload_n 0 dX12_takes_29 rfl rfl ?_
    obtain ⟨c7, y8⟩ := y5
    exact oj_ret (r := some (.int s0)) ⟨c7, rfl, rfl, s0, rfl, y8⟩ dX12_takes_30 (Nat.zero_le _) (Nat.zero_le _)
  · have y6 := y.2 c4
    refine oj_aload_n 1 dX12_takes_25 rfl rfl ?_
    refine oc_Vv [] mi_RX12_242 ow_1450 op_39 rfl k_108 (BX12_token  y6) ⟨by decide, by decide⟩ ⟨Nat.le_refl _, Nat.le_refl _⟩ rfl (Nat.le_of_ble_eq_true rfl) dX12_takes_26 (fun h10 y12 => ?_)
    refine oj_iload_n 0 dX12_takes_29 rfl rfl ?_
    obtain ⟨c13, y14⟩ := y12
    exact oj_ret (r := some (.int s0)) ⟨c13, rfl, rfl, s0, rfl, y14⟩ dX12_takes_30 (Nat.zero_le _) (Nat.zero_le _)
set_option maxRecDepth 100000 in
set_option maxHeartbeats 4000000 in
theorem BX12_takes  {p1 : Int64}  {h : ob_H} {Q : Int32 → ob_H → Prop} (y : MX12_takes  p1 h Q) : ob_T yX12_takes cX12_takes 4 (some .boolean) (ob_rm 3) KS NN h [.ref 108, .long p1] (ob_g (some .boolean) (ob_qi Q)) := by
  unfold MX12_takes at y
  refine ob_T_gf (by decide +kernel) (Nat.le_of_ble_eq_true rfl) ?_
  show ob_J RX12 cX12_takes 4 (ob_rm 3) false none 0 0 KS NN h 0 [(0, .ref 108), (1, .long p1)] [] (ob_g (some .boolean) (ob_qi Q))
  refine oj_aload_n 0 dX12_takes_0 rfl rfl ?_
  refine oj_geti fl_RX12_188 k_108 rfl dX12_takes_1 ?_
  refine oj_if_ne 19 dX12_takes_4 rfl (fun c1 => ?_) (fun c1 => ?_)
  · have y2 := y.2 c1
    refine oj_iconst dX12_takes_19 ci_0 ?_
    refine oj_lv [0] rfl ?_
    exact BKX12_takes_20  y2
  · have y3 := y.1 c1
    refine oj_aload_n 0 dX12_takes_7 rfl rfl ?_
    refine oj_lload_n 1 dX12_takes_8 rfl rfl ?_
    refine oc_Vpi [.long p1] mi_RX12_235 ow_1472 op_42 rfl k_108 (BX12_isWord  y3) ⟨by decide, by decide⟩ ⟨Nat.le_refl _, Nat.le_refl _⟩ rfl (Nat.le_of_ble_eq_true rfl) dX12_takes_9 (fun r15 f17 y18 => ?_)
    refine oj_if_eq 19 dX12_takes_12 rfl (fun c19 => ?_) (fun c19 => ?_)
    · have y20 := y18.1 c19
      refine oj_iconst dX12_takes_19 ci_0 ?_
      refine oj_lv [0] rfl ?_
      exact BKX12_takes_20  y20
    · have y21 := y18.2 c19
      refine oj_iconst dX12_takes_15 ci_1 ?_
      refine oj_goto 20 dX12_takes_16 rfl ?_
      refine oj_lv [0] rfl ?_
      exact BKX12_takes_20  y21
-- X12_find
set_option maxRecDepth 100000 in
set_option maxHeartbeats 4000000 in
theorem BLX12_find_4 {h : ob_H} {Q : Int32 → Prop} :
    ∀ (n : Nat) (x1 : Int32) (x2 : Int32), it2 (FX12_find_4 h Q) n x1 x2 → ob_J RX12 cX12_find 3 (ob_rm 1) false none 0 0 KS NN h 4 [(0, .ref 108), (1, .int x1), (2, .int x2)] [] (ob_g (some .int) (ob_pi h Q)) := by
  intro n
  induction n with
  | zero => intro x1 x2 y; exact False.elim y
  | succ n hk4 =>
    intro x1 x2 y
    have y : FX12_find_4 h Q (it2 (FX12_find_4 h Q) n) x1 x2 := y
    unfold FX12_find_4 at y
    refine oj_iload_n 2 dX12_find_4 rfl rfl ?_
    refine oj_aload_n 0 dX12_find_5 rfl rfl ?_
    refine oj_geti fl_RX12_257 k_108 rfl dX12_find_6 ?_
    refine oj_icmp_ge 38 dX12_find_9 rfl (fun c1 => ?_) (fun c1 => ?_)
    · have y2 := y.1 c1
      refine oj_iload_n 1 dX12_find_38 rfl rfl ?_
      exact oj_ret (r := some (.int x1)) ⟨trivial, rfl, rfl, rfl, x1, rfl, y2⟩ dX12_find_39 (Nat.zero_le _) (Nat.zero_le _)
    · have y3 := y.2 c1
      refine oj_aload_n 0 dX12_find_12 rfl rfl ?_
      refine oj_getr (q := 110) fl_RX12_17 k_108 rfl k_110 dX12_find_13 ?_
      refine oj_iload_n 2 dX12_find_16 rfl rfl ?_
      obtain ⟨c4, y5⟩ := y3
      refine oj_lald k_110 c4 rfl dX12_find_17 ?_
      refine oj_aload_n 0 dX12_find_18 rfl rfl ?_
      refine oj_getl fl_RX12_168 k_108 rfl dX12_find_19 ?_
      refine oj_lcmp dX12_find_22 ?_
      refine oj_if_ne 30 dX12_find_23 rfl (fun c6 => ?_) (fun c6 => ?_)
      · have y7 := y5.2 c6
        refine oj_iload_n 1 dX12_find_30 rfl rfl ?_
        refine oj_istore_n (lv' := [(1, .int x1), (0, .ref 108), (2, .int x2)]) dX12_find_31 rfl (by decide) rfl ?_
        obtain ⟨v9, ev9⟩ : ∃ z : Int32, z = x2 + (1) := ⟨_, rfl⟩
        have y10 := Lt_at y7 v9 ev9
        refine oj_iinc (v := v9) (lv' := [(2, .int v9), (1, .int x1), (0, .ref 108)]) 2 dX12_find_32 rfl (iinc_e ci_1 ev9) (by decide) rfl ?_
        refine oj_goto 4 dX12_find_35 rfl ?_
        refine oj_lv [2, 1, 0] rfl ?_
        exact hk4 _ _ y10
      · have y8 := y5.1 c6
        refine oj_iload_n 2 dX12_find_26 rfl rfl ?_
        refine oj_goto 31 dX12_find_27 rfl ?_
        refine oj_istore_n (lv' := [(1, .int x2), (0, .ref 108), (2, .int x2)]) dX12_find_31 rfl (by decide) rfl ?_
        obtain ⟨v11, ev11⟩ : ∃ z : Int32, z = x2 + (1) := ⟨_, rfl⟩
        have y12 := Lt_at y8 v11 ev11
        refine oj_iinc (v := v11) (lv' := [(2, .int v11), (1, .int x2), (0, .ref 108)]) 2 dX12_find_32 rfl (iinc_e ci_1 ev11) (by decide) rfl ?_
        refine oj_goto 4 dX12_find_35 rfl ?_
        refine oj_lv [2, 1, 0] rfl ?_
        exact hk4 _ _ y12
set_option maxRecDepth 100000 in
set_option maxHeartbeats 4000000 in
theorem BX12_find    {h : ob_H} {Q : Int32 → Prop} (y : MX12_find   h Q) : ob_T yX12_find cX12_find 3 (some .int) (ob_rm 1) KS NN h [.ref 108] (ob_g (some .int) (ob_pi h Q)) := by
  unfold MX12_find at y
  refine ob_T_gf (by decide +kernel) (Nat.le_of_ble_eq_true rfl) ?_
  show ob_J RX12 cX12_find 3 (ob_rm 1) false none 0 0 KS NN h 0 [(0, .ref 108)] [] (ob_g (some .int) (ob_pi h Q))
  refine oj_iconst dX12_find_0 ci_m1 ?_
  refine oj_istore_n (lv' := [(1, .int (-1)), (0, .ref 108)]) dX12_find_1 rfl (by decide) rfl ?_
  refine oj_iconst dX12_find_2 ci_0 ?_
  refine oj_istore_n (lv' := [(2, .int (0)), (1, .int (-1)), (0, .ref 108)]) dX12_find_3 rfl (by decide) rfl ?_
  refine oj_lv [2, 1, 0] rfl ?_
  obtain ⟨n, y13⟩ := y
  exact BLX12_find_4  n _ _ y13
-- X12_oldOne
set_option maxRecDepth 100000 in
set_option maxHeartbeats 4000000 in
theorem BKX12_oldOne_36 {h : ob_H} {Q : Int32 → ob_H → Prop}
    (y : KX12_oldOne_36 h Q) : ob_J RX12 cX12_oldOne 1 (ob_rm 3) false none 0 0 KS NN h 36 [(0, .ref 108)] [] (ob_g (some .int) (ob_qi Q)) := by
  unfold KX12_oldOne_36 at y
  refine oj_aload_n 0 dX12_oldOne_36 rfl rfl ?_
  refine oj_geti fl_RX12_188 k_108 rfl dX12_oldOne_37 ?_
  refine oj_if_le 47 dX12_oldOne_40 rfl (fun c18 => ?_) (fun c18 => ?_)
  · have y19 := y.1 c18
    refine oj_aload_n 0 dX12_oldOne_47 rfl rfl ?_
    refine oc_Vpi [] mi_RX12_263 ow_1511 op_47 rfl k_108 (BX12_find  y19) ⟨by decide, by decide⟩ ⟨Nat.le_refl _, Nat.le_refl _⟩ rfl (Nat.le_of_ble_eq_true rfl) dX12_oldOne_48 (fun r21 f23 y24 => ?_)
    exact oj_ret (r := some (.int r21)) ⟨trivial, rfl, rfl, r21, rfl, y24⟩ dX12_oldOne_51 (Nat.zero_le _) (Nat.zero_le _)
  · have y20 := y.2 c18
    refine oj_iconst dX12_oldOne_43 ci_0 ?_
    refine oj_goto 51 dX12_oldOne_44 rfl ?_
    exact oj_ret (r := some (.int (0))) ⟨trivial, rfl, rfl, (0), rfl, y20⟩ dX12_oldOne_51 (Nat.zero_le _) (Nat.zero_le _)
set_option maxRecDepth 100000 in
set_option maxHeartbeats 4000000 in
theorem BX12_oldOne    {h : ob_H} {Q : Int32 → ob_H → Prop} (y : MX12_oldOne   h Q) : ob_T yX12_oldOne cX12_oldOne 1 (some .int) (ob_rm 3) KS NN h [.ref 108] (ob_g (some .int) (ob_qi Q)) := by
  unfold MX12_oldOne at y
  refine ob_T_gf (by decide +kernel) (Nat.le_of_ble_eq_true rfl) ?_
  show ob_J RX12 cX12_oldOne 1 (ob_rm 3) false none 0 0 KS NN h 0 [(0, .ref 108)] [] (ob_g (some .int) (ob_qi Q))
  refine oj_aload_n 0 dX12_oldOne_0 rfl rfl ?_
  refine oj_geti fl_RX12_188 k_108 rfl dX12_oldOne_1 ?_
  refine oj_if_le 9 dX12_oldOne_4 rfl (fun c1 => ?_) (fun c1 => ?_)
  · have y2 := y.1 c1
    refine oj_aload_n 0 dX12_oldOne_9 rfl rfl ?_
    refine oc_Vpi [] mi_RX12_260 ow_1480 op_44 rfl k_108 (BX12_isName  y2) ⟨by decide, by decide⟩ ⟨Nat.le_refl _, Nat.le_refl _⟩ rfl (Nat.le_of_ble_eq_true rfl) dX12_oldOne_10 (fun r4 f6 y7 => ?_)
    refine oj_if_ne 24 dX12_oldOne_13 rfl (fun c8 => ?_) (fun c8 => ?_)
    · have y9 := y7.2 c8
      refine oj_aload_n 0 dX12_oldOne_24 rfl rfl ?_
      refine oc_Vpi [] mi_RX12_263 ow_1511 op_47 rfl k_108 (BX12_find  y9) ⟨by decide, by decide⟩ ⟨Nat.le_refl _, Nat.le_refl _⟩ rfl (Nat.le_of_ble_eq_true rfl) dX12_oldOne_25 (fun r11 f13 y14 => ?_)
      refine oj_if_ge 36 dX12_oldOne_28 rfl (fun c15 => ?_) (fun c15 => ?_)
      · have y16 := y14.1 c15
        refine oj_lv [0] rfl ?_
        exact BKX12_oldOne_36  y16
      · have y17 := y14.2 c15
        refine oj_aload_n 0 dX12_oldOne_31 rfl rfl ?_
        refine oj_iconst dX12_oldOne_32 ci_5 ?_
        refine oc_Vv [.int (5)] mi_RX12_239 ow_1507 op_46 rfl k_108 (BX12_wrong  y17) ⟨by decide, by decide⟩ ⟨Nat.le_refl _, Nat.le_refl _⟩ rfl (Nat.le_of_ble_eq_true rfl) dX12_oldOne_33 (fun h26 y28 => ?_)
        refine oj_lv [0] rfl ?_
        exact BKX12_oldOne_36  y28
    · have y10 := y7.1 c8
      refine oj_aload_n 0 dX12_oldOne_16 rfl rfl ?_
      refine oj_iconst dX12_oldOne_17 ci_2 ?_
      refine oc_Vv [.int (2)] mi_RX12_239 ow_1507 op_46 rfl k_108 (BX12_wrong  y10) ⟨by decide, by decide⟩ ⟨Nat.le_refl _, Nat.le_refl _⟩ rfl (Nat.le_of_ble_eq_true rfl) dX12_oldOne_18 (fun h30 y32 => ?_)
      refine oj_goto 36 dX12_oldOne_21 rfl ?_
      refine oj_lv [0] rfl ?_
      exact BKX12_oldOne_36  y32
  · have y3 := y.2 c1
    refine oj_iconst dX12_oldOne_7 ci_0 ?_
    exact oj_ret (r := some (.int (0))) ⟨trivial, rfl, rfl, (0), rfl, y3⟩ dX12_oldOne_8 (Nat.zero_le _) (Nat.zero_le _)
-- X12_add
set_option maxRecDepth 100000 in
set_option maxHeartbeats 4000000 in
theorem BX12_add  {p1 : Int32} {p2 : Int32}  {h : ob_H} {Q : ob_H → Prop} (y : MX12_add  p1 p2 h Q) : ob_T yX12_add cX12_add 3 none (ob_rm 1) KS NN h [.ref 108, .int p1, .int p2] (ob_g none (ob_qv Q)) := by
  unfold MX12_add at y
  refine ob_T_gf (by decide +kernel) (Nat.le_of_ble_eq_true rfl) ?_
  show ob_J RX12 cX12_add 3 (ob_rm 1) false none 0 0 KS NN h 0 [(0, .ref 108), (1, .int p1), (2, .int p2)] [] (ob_g none (ob_qv Q))
  refine oj_aload_n 0 dX12_add_0 rfl rfl ?_
  refine oj_getr (q := 111) fl_RX12_21 k_108 rfl k_111 dX12_add_1 ?_
  refine oj_sipush dX12_add_4 cs_320 ?_
  refine oj_aload_n 0 dX12_add_7 rfl rfl ?_
  refine oj_geti fl_RX12_267 k_108 rfl dX12_add_8 ?_
  refine oj_imul dX12_add_11 ?_
  refine oj_aload_n 0 dX12_add_12 rfl rfl ?_
  refine oj_getr (q := 113) fl_RX12_27 k_108 rfl k_113 dX12_add_13 ?_
  refine oj_aload_n 0 dX12_add_16 rfl rfl ?_
  refine oj_geti fl_RX12_267 k_108 rfl dX12_add_17 ?_
  obtain ⟨c1, y2⟩ := y
  refine oj_iald k_113 c1 rfl dX12_add_20 ?_
  refine oj_iadd dX12_add_21 ?_
  refine oj_iload_n 1 dX12_add_22 rfl rfl ?_
  obtain ⟨c3, y4⟩ := y2
  refine oj_iast k_111 c3 rfl dX12_add_23 ?_
  refine oj_toph (fun h5 eh5 => ?_)
  have y6 := Lt_at y4 h5 eh5
  refine oj_aload_n 0 dX12_add_24 rfl rfl ?_
  refine oj_getr (q := 112) fl_RX12_24 k_108 rfl k_112 dX12_add_25 ?_
  refine oj_sipush dX12_add_28 cs_320 ?_
  refine oj_aload_n 0 dX12_add_31 rfl rfl ?_
  refine oj_geti fl_RX12_267 k_108 rfl dX12_add_32 ?_
  refine oj_imul dX12_add_35 ?_
  refine oj_aload_n 0 dX12_add_36 rfl rfl ?_
  refine oj_getr (q := 113) fl_RX12_27 k_108 rfl k_113 dX12_add_37 ?_
  refine oj_aload_n 0 dX12_add_40 rfl rfl ?_
  refine oj_geti fl_RX12_267 k_108 rfl dX12_add_41 ?_
  obtain ⟨c7, y8⟩ := y6
  refine oj_iald k_113 c7 rfl dX12_add_44 ?_
  refine oj_iadd dX12_add_45 ?_
  refine oj_iload_n 2 dX12_add_46 rfl rfl ?_
  obtain ⟨c9, y10⟩ := y8
  refine oj_iast k_112 c9 rfl dX12_add_47 ?_
  refine oj_toph (fun h11 eh11 => ?_)
  have y12 := Lt_at y10 h11 eh11
  refine oj_aload_n 0 dX12_add_48 rfl rfl ?_
  refine oj_getr (q := 113) fl_RX12_27 k_108 rfl k_113 dX12_add_49 ?_
  refine oj_aload_n 0 dX12_add_52 rfl rfl ?_
  refine oj_geti fl_RX12_267 k_108 rfl dX12_add_53 ?_
  refine oj_dup2 dX12_add_56 rfl rfl ?_
  obtain ⟨c13, y14⟩ := y12
  refine oj_iald k_113 c13 rfl dX12_add_57 ?_
  refine oj_iconst dX12_add_58 ci_1 ?_
  refine oj_iadd dX12_add_59 ?_
  refine oj_iast k_113 c13 rfl dX12_add_60 ?_
  refine oj_toph (fun h15 eh15 => ?_)
  have y16 := Lt_at y14 h15 eh15
  exact oj_ret (r := none) ⟨trivial, rfl, rfl, rfl, y16⟩ dX12_add_61 (Nat.zero_le _) (Nat.zero_le _)
-- X12_tight
set_option maxRecDepth 100000 in
set_option maxHeartbeats 4000000 in
theorem BX12_tight  {p0 : Int32}  {h : ob_H} {Q : Int32 → Prop} (y : MX12_tight  p0 h Q) : ob_T yX12_tight cX12_tight 1 (some .int) (ob_rm 1) KS NN h [.int p0] (ob_g (some .int) (ob_pi h Q)) := by
  unfold MX12_tight at y
  refine ob_T_gf (by decide +kernel) (Nat.le_of_ble_eq_true rfl) ?_
  show ob_J RX12 cX12_tight 1 (ob_rm 1) false none 0 0 KS NN h 0 [(0, .int p0)] [] (ob_g (some .int) (ob_pi h Q))
  refine oj_iload_n 0 dX12_tight_0 rfl rfl ?_
  by_cases c1 : p0 = (21)
  · have y2 := y.1 c1
    refine oj_lookup 80 dX12_tight_1 (by decide) (by rw [c1] <;> rfl) rfl ?_
    refine oj_iconst dX12_tight_80 ci_3 ?_
    exact oj_ret (r := some (.int (3))) ⟨trivial, rfl, rfl, rfl, (3), rfl, y2⟩ dX12_tight_81 (Nat.zero_le _) (Nat.zero_le _)
  have y3 := y.2 c1
  by_cases c4 : p0 = (38)
  · have y5 := y3.1 c4
    refine oj_lookup 78 dX12_tight_1 (by decide) (by rw [c4] <;> rfl) rfl ?_
    refine oj_iconst dX12_tight_78 ci_2 ?_
    exact oj_ret (r := some (.int (2))) ⟨trivial, rfl, rfl, rfl, (2), rfl, y5⟩ dX12_tight_79 (Nat.zero_le _) (Nat.zero_le _)
  have y6 := y3.2 c4
  by_cases c7 : p0 = (43)
  · have y8 := y6.1 c7
    refine oj_lookup 84 dX12_tight_1 (by decide) (by rw [c7] <;> rfl) rfl ?_
    refine oj_iconst dX12_tight_84 ci_5 ?_
    exact oj_ret (r := some (.int (5))) ⟨trivial, rfl, rfl, rfl, (5), rfl, y8⟩ dX12_tight_85 (Nat.zero_le _) (Nat.zero_le _)
  have y9 := y6.2 c7
  by_cases c10 : p0 = (45)
  · have y11 := y9.1 c10
    refine oj_lookup 84 dX12_tight_1 (by decide) (by rw [c10] <;> rfl) rfl ?_
    refine oj_iconst dX12_tight_84 ci_5 ?_
    exact oj_ret (r := some (.int (5))) ⟨trivial, rfl, rfl, rfl, (5), rfl, y11⟩ dX12_tight_85 (Nat.zero_le _) (Nat.zero_le _)
  have y12 := y9.2 c10
  by_cases c13 : p0 = (60)
  · have y14 := y12.1 c13
    refine oj_lookup 82 dX12_tight_1 (by decide) (by rw [c13] <;> rfl) rfl ?_
    refine oj_iconst dX12_tight_82 ci_4 ?_
    exact oj_ret (r := some (.int (4))) ⟨trivial, rfl, rfl, rfl, (4), rfl, y14⟩ dX12_tight_83 (Nat.zero_le _) (Nat.zero_le _)
  have y15 := y12.2 c13
  by_cases c16 : p0 = (61)
  · have y17 := y15.1 c16
    refine oj_lookup 82 dX12_tight_1 (by decide) (by rw [c16] <;> rfl) rfl ?_
    refine oj_iconst dX12_tight_82 ci_4 ?_
    exact oj_ret (r := some (.int (4))) ⟨trivial, rfl, rfl, rfl, (4), rfl, y17⟩ dX12_tight_83 (Nat.zero_le _) (Nat.zero_le _)
  have y18 := y15.2 c16
  by_cases c19 : p0 = (62)
  · have y20 := y18.1 c19
    refine oj_lookup 82 dX12_tight_1 (by decide) (by rw [c19] <;> rfl) rfl ?_
    refine oj_iconst dX12_tight_82 ci_4 ?_
    exact oj_ret (r := some (.int (4))) ⟨trivial, rfl, rfl, rfl, (4), rfl, y20⟩ dX12_tight_83 (Nat.zero_le _) (Nat.zero_le _)
  have y21 := y18.2 c19
  by_cases c22 : p0 = (124)
  · have y23 := y21.1 c22
    refine oj_lookup 76 dX12_tight_1 (by decide) (by rw [c22] <;> rfl) rfl ?_
    refine oj_iconst dX12_tight_76 ci_1 ?_
    exact oj_ret (r := some (.int (1))) ⟨trivial, rfl, rfl, rfl, (1), rfl, y23⟩ dX12_tight_77 (Nat.zero_le _) (Nat.zero_le _)
  have y24 := y21.2 c22
  refine oj_lookup 86 dX12_tight_1 (by decide) (by show Op.lookupswitch.offset [(21, 79), (38, 77), (43, 83), (45, 83), (60, 81), (61, 81), (62, 81), (124, 75)] 85 p0.toInt = _; rw [lv_osw c1 (show (21 : Int32).toInt = 21 by decide), lv_osw c4 (show (38 : Int32).toInt = 38 by decide), lv_osw c7 (show (43 : Int32).toInt = 43 by decide), lv_osw c10 (show (45 : Int32).toInt = 45 by decide), lv_osw c13 (show (60 : Int32).toInt = 60 by decide), lv_osw c16 (show (61 : Int32).toInt = 61 by decide), lv_osw c19 (show (62 : Int32).toInt = 62 by decide), lv_osw c22 (show (124 : Int32).toInt = 124 by decide)] <;> rfl) rfl ?_
  refine oj_bipush dX12_tight_86 cb_6 ?_
  exact oj_ret (r := some (.int (6))) ⟨trivial, rfl, rfl, rfl, (6), rfl, y24⟩ dX12_tight_88 (Nat.zero_le _) (Nat.zero_le _)
-- X12_close
set_option maxRecDepth 100000 in
set_option maxHeartbeats 4000000 in
theorem BLX12_close_0 {x1 : Int32} {Q : ob_H → Prop} :
    ∀ (n : Nat) (h : ob_H), it1 (FX12_close_0 x1 Q) n h → ob_J RX12 cX12_close 2 (ob_rm 2) false none 0 0 KS NN h 0 [(0, .ref 108), (1, .int x1)] [] (ob_g none (ob_qv Q)) := by
  intro n
  induction n with
  | zero => intro h y; exact False.elim y
  | succ n hk0 =>
    intro h y
    have y : FX12_close_0 x1 Q (it1 (FX12_close_0 x1 Q) n) h := y
    unfold FX12_close_0 at y
    refine oj_aload_n 0 dX12_close_0 rfl rfl ?_
    refine oj_geti fl_RX12_270 k_108 rfl dX12_close_1 ?_
    refine oj_if_le 101 dX12_close_4 rfl (fun c1 => ?_) (fun c1 => ?_)
    · have y2 := y.1 c1
      exact oj_ret (r := none) ⟨trivial, rfl, rfl, rfl, y2⟩ dX12_close_101 (Nat.zero_le _) (Nat.zero_le _)
    · have y3 := y.2 c1
      refine oj_aload_n 0 dX12_close_7 rfl rfl ?_
      refine oj_getr (q := 117) fl_RX12_39 k_108 rfl k_117 dX12_close_8 ?_
      refine oj_aload_n 0 dX12_close_11 rfl rfl ?_
      refine oj_geti fl_RX12_270 k_108 rfl dX12_close_12 ?_
      refine oj_iconst dX12_close_15 ci_1 ?_
      refine oj_isub dX12_close_16 ?_
      obtain ⟨c4, y5⟩ := y3
      refine oj_iald k_117 c4 rfl dX12_close_17 ?_
      refine oj_bipush dX12_close_18 cb_20 ?_
      refine oj_icmp_eq 101 dX12_close_20 rfl (fun c6 => ?_) (fun c6 => ?_)
      · have y7 := y5.1 c6
        exact oj_ret (r := none) ⟨trivial, rfl, rfl, rfl, y7⟩ dX12_close_101 (Nat.zero_le _) (Nat.zero_le _)
      · have y8 := y5.2 c6
        refine oj_aload_n 0 dX12_close_23 rfl rfl ?_
        refine oj_getr (q := 117) fl_RX12_39 k_108 rfl k_117 dX12_close_24 ?_
        refine oj_aload_n 0 dX12_close_27 rfl rfl ?_
        refine oj_geti fl_RX12_270 k_108 rfl dX12_close_28 ?_
        refine oj_iconst dX12_close_31 ci_1 ?_
        refine oj_isub dX12_close_32 ?_
        refine oj_iald k_117 c4 rfl dX12_close_33 ?_
        refine oc_Spi [.int (h.1 117 (ix ((h.1 108 21) - (1))))] mi_RX12_273 ow_1573 (BX12_tight  y8) ⟨by decide, by decide⟩ ⟨Nat.le_refl _, Nat.le_refl _⟩ rfl (Nat.le_of_ble_eq_true rfl) dX12_close_34 (fun r9 f11 y12 => ?_)
        refine oj_iload_n 1 dX12_close_37 rfl rfl ?_
        refine oj_icmp_lt 101 dX12_close_38 rfl (fun c13 => ?_) (fun c13 => ?_)
        · have y14 := y12.1 c13
          exact oj_ret (r := none) ⟨trivial, rfl, rfl, rfl, y14⟩ dX12_close_101 (Nat.zero_le _) (Nat.zero_le _)
        · have y15 := y12.2 c13
          refine oj_aload_n 0 dX12_close_41 rfl rfl ?_
          refine oj_dup dX12_close_42 rfl ?_
          refine oj_geti fl_RX12_270 k_108 rfl dX12_close_43 ?_
          refine oj_iconst dX12_close_46 ci_1 ?_
          refine oj_isub dX12_close_47 ?_
          refine oj_puti fl_RX12_270 (Or.inl rfl) k_108 rfl rfl rfl dX12_close_48 ?_
          refine oj_toph (fun h16 eh16 => ?_)
          have y17 := Lt_at y15 h16 eh16
          refine oj_aload_n 0 dX12_close_51 rfl rfl ?_
          refine oj_getr (q := 117) fl_RX12_39 k_108 rfl k_117 dX12_close_52 ?_
          refine oj_aload_n 0 dX12_close_55 rfl rfl ?_
          refine oj_geti fl_RX12_270 k_108 rfl dX12_close_56 ?_
          obtain ⟨c18, y19⟩ := y17
          refine oj_iald k_117 c18 rfl dX12_close_59 ?_
          refine oj_bipush dX12_close_60 cb_21 ?_
          refine oj_icmp_ne 84 dX12_close_62 rfl (fun c20 => ?_) (fun c20 => ?_)
          · have y21 := y19.2 c20
            refine oj_aload_n 0 dX12_close_84 rfl rfl ?_
            refine oj_iconst dX12_close_85 ci_3 ?_
            refine oj_aload_n 0 dX12_close_86 rfl rfl ?_
            refine oj_getr (q := 117) fl_RX12_39 k_108 rfl k_117 dX12_close_87 ?_
            refine oj_aload_n 0 dX12_close_90 rfl rfl ?_
            refine oj_geti fl_RX12_270 k_108 rfl dX12_close_91 ?_
            refine oj_iald k_117 c18 rfl dX12_close_94 ?_
            refine oc_Vv [.int (3), .int (h16.1 117 (ix (h16.1 108 21)))] mi_RX12_276 ow_1593 op_66 rfl k_108 (BX12_add  y21) ⟨by decide, by decide⟩ ⟨Nat.le_refl _, Nat.le_refl _⟩ rfl (Nat.le_of_ble_eq_true rfl) dX12_close_95 (fun h24 y26 => ?_)
            refine oj_goto 0 dX12_close_98 rfl ?_
            refine oj_lv [0, 1] rfl ?_
            exact hk0 _ y26
          · have y22 := y19.1 c20
            refine oj_aload_n 0 dX12_close_65 rfl rfl ?_
            refine oj_iconst dX12_close_66 ci_2 ?_
            refine oj_iconst dX12_close_67 ci_0 ?_
            refine oc_Vv [.int (2), .int (0)] mi_RX12_276 ow_1593 op_66 rfl k_108 (BX12_add  y22) ⟨by decide, by decide⟩ ⟨Nat.le_refl _, Nat.le_refl _⟩ rfl (Nat.le_of_ble_eq_true rfl) dX12_close_68 (fun h28 y30 => ?_)
            refine oj_aload_n 0 dX12_close_71 rfl rfl ?_
            refine oj_dup dX12_close_72 rfl ?_
            refine oj_geti fl_RX12_280 k_108 rfl dX12_close_73 ?_
            refine oj_iconst dX12_close_76 ci_1 ?_
            refine oj_isub dX12_close_77 ?_
            refine oj_puti fl_RX12_280 (Or.inl rfl) k_108 rfl rfl rfl dX12_close_78 ?_
            refine oj_toph (fun h31 eh31 => ?_)
            have y32 := Lt_at y30 h31 eh31
            refine oj_goto 0 dX12_close_81 rfl ?_
            refine oj_lv [0, 1] rfl ?_
            exact hk0 _ y32
set_option maxRecDepth 100000 in
set_option maxHeartbeats 4000000 in
theorem BX12_close  {p1 : Int32}  {h : ob_H} {Q : ob_H → Prop} (y : MX12_close  p1 h Q) : ob_T yX12_close cX12_close 2 none (ob_rm 2) KS NN h [.ref 108, .int p1] (ob_g none (ob_qv Q)) := by
  unfold MX12_close at y
  refine ob_T_gf (by decide +kernel) (Nat.le_of_ble_eq_true rfl) ?_
  show ob_J RX12 cX12_close 2 (ob_rm 2) false none 0 0 KS NN h 0 [(0, .ref 108), (1, .int p1)] [] (ob_g none (ob_qv Q))
  refine oj_lv [0, 1] rfl ?_
  obtain ⟨n, y33⟩ := y
  exact BLX12_close_0  n _ y33
-- X12_hasRelation
set_option maxRecDepth 100000 in
set_option maxHeartbeats 4000000 in
theorem BKX12_hasRelation_41 {x1 : Int32} {h : ob_H} {Q : Int32 → Prop}
    (y : KX12_hasRelation_41 x1 h Q) : ob_J RX12 cX12_hasRelation 2 (ob_rm 2) false none 0 0 KS NN h 41 [(0, .ref 108), (1, .int x1)] [] (ob_g (some .boolean) (ob_pi h Q)) := by
  unfold KX12_hasRelation_41 at y
  refine oj_iload_n 1 dX12_hasRelation_41 rfl rfl ?_
  refine oj_if_lt 73 dX12_hasRelation_42 rfl (fun c6 => ?_) (fun c6 => ?_)
  · have y7 := y.1 c6
    refine oj_iconst dX12_hasRelation_73 ci_0 ?_
    exact oj_ret (r := some (.int (0))) ⟨rfl, rfl, rfl, rfl, (0), rfl, y7⟩ dX12_hasRelation_74 (Nat.zero_le _) (Nat.zero_le _)
  · have y8 := y.2 c6
    refine oj_aload_n 0 dX12_hasRelation_45 rfl rfl ?_
    refine oj_getr (q := 117) fl_RX12_39 k_108 rfl k_117 dX12_hasRelation_46 ?_
    refine oj_iload_n 1 dX12_hasRelation_49 rfl rfl ?_
    obtain ⟨c9, y10⟩ := y8
    refine oj_iald k_117 c9 rfl dX12_hasRelation_50 ?_
    refine oj_bipush dX12_hasRelation_51 cb_20 ?_
    refine oj_icmp_eq 73 dX12_hasRelation_53 rfl (fun c11 => ?_) (fun c11 => ?_)
    · have y12 := y10.1 c11
      refine oj_iconst dX12_hasRelation_73 ci_0 ?_
      exact oj_ret (r := some (.int (0))) ⟨rfl, rfl, rfl, rfl, (0), rfl, y12⟩ dX12_hasRelation_74 (Nat.zero_le _) (Nat.zero_le _)
    · have y13 := y10.2 c11
      refine oj_aload_n 0 dX12_hasRelation_56 rfl rfl ?_
      refine oj_getr (q := 117) fl_RX12_39 k_108 rfl k_117 dX12_hasRelation_57 ?_
      refine oj_iload_n 1 dX12_hasRelation_60 rfl rfl ?_
      refine oj_iald k_117 c9 rfl dX12_hasRelation_61 ?_
      refine oc_Spi [.int (h.1 117 (ix x1))] mi_RX12_273 ow_1573 (BX12_tight  y13) ⟨by decide, by decide⟩ ⟨Nat.le_refl _, Nat.le_refl _⟩ rfl (Nat.le_of_ble_eq_true rfl) dX12_hasRelation_62 (fun r14 f16 y17 => ?_)
      refine oj_iconst dX12_hasRelation_65 ci_4 ?_
      refine oj_icmp_ne 73 dX12_hasRelation_66 rfl (fun c18 => ?_) (fun c18 => ?_)
      · have y19 := y17.2 c18
        refine oj_iconst dX12_hasRelation_73 ci_0 ?_
        exact oj_ret (r := some (.int (0))) ⟨rfl, rfl, rfl, rfl, (0), rfl, y19⟩ dX12_hasRelation_74 (Nat.zero_le _) (Nat.zero_le _)
      · have y20 := y17.1 c18
        refine oj_iconst dX12_hasRelation_69 ci_1 ?_
        refine oj_goto 74 dX12_hasRelation_70 rfl ?_
        exact oj_ret (r := some (.int (1))) ⟨rfl, rfl, rfl, rfl, (1), rfl, y20⟩ dX12_hasRelation_74 (Nat.zero_le _) (Nat.zero_le _)
set_option maxRecDepth 100000 in
set_option maxHeartbeats 4000000 in
theorem BLX12_hasRelation_7 {h : ob_H} {Q : Int32 → Prop} :
    ∀ (n : Nat) (x1 : Int32), it1 (FX12_hasRelation_7 h Q) n x1 → ob_J RX12 cX12_hasRelation 2 (ob_rm 2) false none 0 0 KS NN h 7 [(0, .ref 108), (1, .int x1)] [] (ob_g (some .boolean) (ob_pi h Q)) := by
  intro n
  induction n with
  | zero => intro x1 y; exact False.elim y
  | succ n hk7 =>
    intro x1 y
    have y : FX12_hasRelation_7 h Q (it1 (FX12_hasRelation_7 h Q) n) x1 := y
    unfold FX12_hasRelation_7 at y
    refine oj_iload_n 1 dX12_hasRelation_7 rfl rfl ?_
    refine oj_if_lt 41 dX12_hasRelation_8 rfl (fun c3 => ?_) (fun c3 => ?_)
    · have y4 := y.1 c3
      refine oj_lv [0, 1] rfl ?_
      exact BKX12_hasRelation_41  y4
    · have y5 := y.2 c3
      refine oj_aload_n 0 dX12_hasRelation_11 rfl rfl ?_
      refine oj_getr (q := 117) fl_RX12_39 k_108 rfl k_117 dX12_hasRelation_12 ?_
      refine oj_iload_n 1 dX12_hasRelation_15 rfl rfl ?_
      obtain ⟨c21, y22⟩ := y5
      refine oj_iald k_117 c21 rfl dX12_hasRelation_16 ?_
      refine oj_bipush dX12_hasRelation_17 cb_20 ?_
      refine oj_icmp_eq 41 dX12_hasRelation_19 rfl (fun c23 => ?_) (fun c23 => ?_)
      · have y24 := y22.1 c23
        refine oj_lv [0, 1] rfl ?_
        exact BKX12_hasRelation_41  y24
      · have y25 := y22.2 c23
        refine oj_aload_n 0 dX12_hasRelation_22 rfl rfl ?_
        refine oj_getr (q := 117) fl_RX12_39 k_108 rfl k_117 dX12_hasRelation_23 ?_
        refine oj_iload_n 1 dX12_hasRelation_26 rfl rfl ?_
        refine oj_iald k_117 c21 rfl dX12_hasRelation_27 ?_
        refine oc_Spi [.int (h.1 117 (ix x1))] mi_RX12_273 ow_1573 (BX12_tight  y25) ⟨by decide, by decide⟩ ⟨Nat.le_refl _, Nat.le_refl _⟩ rfl (Nat.le_of_ble_eq_true rfl) dX12_hasRelation_28 (fun r26 f28 y29 => ?_)
        refine oj_iconst dX12_hasRelation_31 ci_4 ?_
        refine oj_icmp_le 41 dX12_hasRelation_32 rfl (fun c30 => ?_) (fun c30 => ?_)
        · have y31 := y29.1 c30
          refine oj_lv [0, 1] rfl ?_
          exact BKX12_hasRelation_41  y31
        · have y32 := y29.2 c30
          obtain ⟨v33, ev33⟩ : ∃ z : Int32, z = x1 + (-1) := ⟨_, rfl⟩
          have y34 := Lt_at y32 v33 ev33
          refine oj_iinc (v := v33) (lv' := [(1, .int v33), (0, .ref 108)]) 1 dX12_hasRelation_35 rfl (iinc_e ci_m1 ev33) (by decide) rfl ?_
          refine oj_goto 7 dX12_hasRelation_38 rfl ?_
          refine oj_lv [1, 0] rfl ?_
          exact hk7 _ y34
set_option maxRecDepth 100000 in
set_option maxHeartbeats 4000000 in
theorem BX12_hasRelation    {h : ob_H} {Q : Int32 → Prop} (y : MX12_hasRelation   h Q) : ob_T yX12_hasRelation cX12_hasRelation 2 (some .boolean) (ob_rm 2) KS NN h [.ref 108] (ob_g (some .boolean) (ob_pi h Q)) := by
  unfold MX12_hasRelation at y
  refine ob_T_gf (by decide +kernel) (Nat.le_of_ble_eq_true rfl) ?_
  show ob_J RX12 cX12_hasRelation 2 (ob_rm 2) false none 0 0 KS NN h 0 [(0, .ref 108)] [] (ob_g (some .boolean) (ob_pi h Q))
  refine oj_aload_n 0 dX12_hasRelation_0 rfl rfl ?_
  refine oj_geti fl_RX12_270 k_108 rfl dX12_hasRelation_1 ?_
  refine oj_iconst dX12_hasRelation_4 ci_1 ?_
  refine oj_isub dX12_hasRelation_5 ?_
  refine oj_topi (fun v1 ev1 => ?_)
  have y2 := Lt_at y v1 ev1
  refine oj_istore_n (lv' := [(1, .int v1), (0, .ref 108)]) dX12_hasRelation_6 rfl (by decide) rfl ?_
  refine oj_lv [1, 0] rfl ?_
  obtain ⟨n, y35⟩ := y2
  exact BLX12_hasRelation_7  n _ y35
-- X12_mayNot
set_option maxRecDepth 100000 in
set_option maxHeartbeats 4000000 in
theorem BX12_mayNot    {h : ob_H} {Q : Int32 → Prop} (y : MX12_mayNot   h Q) : ob_T yX12_mayNot cX12_mayNot 1 (some .boolean) (ob_rm 2) KS NN h [.ref 108] (ob_g (some .boolean) (ob_pi h Q)) := by
  unfold MX12_mayNot at y
  refine ob_T_gf (by decide +kernel) (Nat.le_of_ble_eq_true rfl) ?_
  show ob_J RX12 cX12_mayNot 1 (ob_rm 2) false none 0 0 KS NN h 0 [(0, .ref 108)] [] (ob_g (some .boolean) (ob_pi h Q))
  refine oj_aload_n 0 dX12_mayNot_0 rfl rfl ?_
  refine oj_geti fl_RX12_270 k_108 rfl dX12_mayNot_1 ?_
  refine oj_if_eq 41 dX12_mayNot_4 rfl (fun c1 => ?_) (fun c1 => ?_)
  · have y2 := y.1 c1
    refine oj_iconst dX12_mayNot_41 ci_1 ?_
    refine oj_goto 46 dX12_mayNot_42 rfl ?_
    exact oj_ret (r := some (.int (1))) ⟨rfl, rfl, rfl, rfl, (1), rfl, y2⟩ dX12_mayNot_46 (Nat.zero_le _) (Nat.zero_le _)
  · have y3 := y.2 c1
    refine oj_aload_n 0 dX12_mayNot_7 rfl rfl ?_
    refine oj_getr (q := 117) fl_RX12_39 k_108 rfl k_117 dX12_mayNot_8 ?_
    refine oj_aload_n 0 dX12_mayNot_11 rfl rfl ?_
    refine oj_geti fl_RX12_270 k_108 rfl dX12_mayNot_12 ?_
    refine oj_iconst dX12_mayNot_15 ci_1 ?_
    refine oj_isub dX12_mayNot_16 ?_
    obtain ⟨c4, y5⟩ := y3
    refine oj_iald k_117 c4 rfl dX12_mayNot_17 ?_
    refine oj_bipush dX12_mayNot_18 cb_20 ?_
    refine oj_icmp_eq 41 dX12_mayNot_20 rfl (fun c6 => ?_) (fun c6 => ?_)
    · have y7 := y5.1 c6
      refine oj_iconst dX12_mayNot_41 ci_1 ?_
      refine oj_goto 46 dX12_mayNot_42 rfl ?_
      exact oj_ret (r := some (.int (1))) ⟨rfl, rfl, rfl, rfl, (1), rfl, y7⟩ dX12_mayNot_46 (Nat.zero_le _) (Nat.zero_le _)
    · have y8 := y5.2 c6
      refine oj_aload_n 0 dX12_mayNot_23 rfl rfl ?_
      refine oj_getr (q := 117) fl_RX12_39 k_108 rfl k_117 dX12_mayNot_24 ?_
      refine oj_aload_n 0 dX12_mayNot_27 rfl rfl ?_
      refine oj_geti fl_RX12_270 k_108 rfl dX12_mayNot_28 ?_
      refine oj_iconst dX12_mayNot_31 ci_1 ?_
      refine oj_isub dX12_mayNot_32 ?_
      refine oj_iald k_117 c4 rfl dX12_mayNot_33 ?_
      refine oc_Spi [.int (h.1 117 (ix ((h.1 108 21) - (1))))] mi_RX12_273 ow_1573 (BX12_tight  y8) ⟨by decide, by decide⟩ ⟨Nat.le_refl _, Nat.le_refl _⟩ rfl (Nat.le_of_ble_eq_true rfl) dX12_mayNot_34 (fun r9 f11 y12 => ?_)
      refine oj_iconst dX12_mayNot_37 ci_4 ?_
      refine oj_icmp_ge 45 dX12_mayNot_38 rfl (fun c13 => ?_) (fun c13 => ?_)
      · have y14 := y12.1 c13
        refine oj_iconst dX12_mayNot_45 ci_0 ?_
        exact oj_ret (r := some (.int (0))) ⟨rfl, rfl, rfl, rfl, (0), rfl, y14⟩ dX12_mayNot_46 (Nat.zero_le _) (Nat.zero_le _)
      · have y15 := y12.2 c13
        refine oj_iconst dX12_mayNot_41 ci_1 ?_
        refine oj_goto 46 dX12_mayNot_42 rfl ?_
        exact oj_ret (r := some (.int (1))) ⟨rfl, rfl, rfl, rfl, (1), rfl, y15⟩ dX12_mayNot_46 (Nat.zero_le _) (Nat.zero_le _)
-- X12_asked
set_option maxRecDepth 100000 in
set_option maxHeartbeats 4000000 in
theorem BX12_asked    {h : ob_H} {Q : Int32 → Prop} (y : MX12_asked   h Q) : ob_T yX12_asked cX12_asked 1 (some .int) (ob_rm 1) KS NN h [.ref 108] (ob_g (some .int) (ob_pi h Q)) := by
  unfold MX12_asked at y
  refine ob_T_gf (by decide +kernel) (Nat.le_of_ble_eq_true rfl) ?_
  show ob_J RX12 cX12_asked 1 (ob_rm 1) false none 0 0 KS NN h 0 [(0, .ref 108)] [] (ob_g (some .int) (ob_pi h Q))
  refine oj_aload_n 0 dX12_asked_0 rfl rfl ?_
  refine oj_geti fl_RX12_175 k_108 rfl dX12_asked_1 ?_
  refine oj_iconst dX12_asked_4 ci_1 ?_
  refine oj_icmp_eq 10 dX12_asked_5 rfl (fun c1 => ?_) (fun c1 => ?_)
  · have y2 := y.1 c1
    refine oj_aload_n 0 dX12_asked_10 rfl rfl ?_
    refine oj_getl fl_RX12_168 k_108 rfl dX12_asked_11 ?_
    refine oj_ldc2 ow_1486 dX12_asked_14 ?_
    refine oj_lcmp dX12_asked_17 ?_
    refine oj_if_ne 23 dX12_asked_18 rfl (fun c4 => ?_) (fun c4 => ?_)
    · have y5 := y2.2 c4
      refine oj_aload_n 0 dX12_asked_23 rfl rfl ?_
      refine oj_getl fl_RX12_168 k_108 rfl dX12_asked_24 ?_
      refine oj_ldc2 ow_1487 dX12_asked_27 ?_
      refine oj_lcmp dX12_asked_30 ?_
      refine oj_if_ne 36 dX12_asked_31 rfl (fun c7 => ?_) (fun c7 => ?_)
      · have y8 := y5.2 c7
        refine oj_aload_n 0 dX12_asked_36 rfl rfl ?_
        refine oj_getl fl_RX12_168 k_108 rfl dX12_asked_37 ?_
        refine oj_ldc2 ow_1498 dX12_asked_40 ?_
        refine oj_lcmp dX12_asked_43 ?_
        refine oj_if_ne 49 dX12_asked_44 rfl (fun c10 => ?_) (fun c10 => ?_)
        · have y11 := y8.2 c10
          refine oj_aload_n 0 dX12_asked_49 rfl rfl ?_
          refine oj_getl fl_RX12_168 k_108 rfl dX12_asked_50 ?_
          refine oj_ldc2 ow_1499 dX12_asked_53 ?_
          refine oj_lcmp dX12_asked_56 ?_
          refine oj_if_ne 62 dX12_asked_57 rfl (fun c13 => ?_) (fun c13 => ?_)
          · have y14 := y11.2 c13
            refine oj_aload_n 0 dX12_asked_62 rfl rfl ?_
            refine oj_getl fl_RX12_168 k_108 rfl dX12_asked_63 ?_
            refine oj_ldc2 ow_1500 dX12_asked_66 ?_
            refine oj_lcmp dX12_asked_69 ?_
            refine oj_if_ne 75 dX12_asked_70 rfl (fun c16 => ?_) (fun c16 => ?_)
            · have y17 := y14.2 c16
              refine oj_aload_n 0 dX12_asked_75 rfl rfl ?_
              refine oj_getl fl_RX12_168 k_108 rfl dX12_asked_76 ?_
              refine oj_ldc2 ow_1501 dX12_asked_79 ?_
              refine oj_lcmp dX12_asked_82 ?_
              refine oj_if_ne 90 dX12_asked_83 rfl (fun c19 => ?_) (fun c19 => ?_)
              · have y20 := y17.2 c19
                refine oj_iconst dX12_asked_90 ci_m1 ?_
                exact oj_ret (r := some (.int (-1))) ⟨trivial, rfl, rfl, rfl, (-1), rfl, y20⟩ dX12_asked_91 (Nat.zero_le _) (Nat.zero_le _)
              · have y21 := y17.1 c19
                refine oj_iconst dX12_asked_86 ci_5 ?_
                refine oj_goto 91 dX12_asked_87 rfl ?_
                exact oj_ret (r := some (.int (5))) ⟨trivial, rfl, rfl, rfl, (5), rfl, y21⟩ dX12_asked_91 (Nat.zero_le _) (Nat.zero_le _)
            · have y18 := y14.1 c16
              refine oj_iconst dX12_asked_73 ci_4 ?_
              exact oj_ret (r := some (.int (4))) ⟨trivial, rfl, rfl, rfl, (4), rfl, y18⟩ dX12_asked_74 (Nat.zero_le _) (Nat.zero_le _)
          · have y15 := y11.1 c13
            refine oj_iconst dX12_asked_60 ci_3 ?_
            exact oj_ret (r := some (.int (3))) ⟨trivial, rfl, rfl, rfl, (3), rfl, y15⟩ dX12_asked_61 (Nat.zero_le _) (Nat.zero_le _)
        · have y12 := y8.1 c10
          refine oj_iconst dX12_asked_47 ci_2 ?_
          exact oj_ret (r := some (.int (2))) ⟨trivial, rfl, rfl, rfl, (2), rfl, y12⟩ dX12_asked_48 (Nat.zero_le _) (Nat.zero_le _)
      · have y9 := y5.1 c7
        refine oj_iconst dX12_asked_34 ci_1 ?_
        exact oj_ret (r := some (.int (1))) ⟨trivial, rfl, rfl, rfl, (1), rfl, y9⟩ dX12_asked_35 (Nat.zero_le _) (Nat.zero_le _)
    · have y6 := y2.1 c4
      refine oj_iconst dX12_asked_21 ci_0 ?_
      exact oj_ret (r := some (.int (0))) ⟨trivial, rfl, rfl, rfl, (0), rfl, y6⟩ dX12_asked_22 (Nat.zero_le _) (Nat.zero_le _)
  · have y3 := y.2 c1
    refine oj_iconst dX12_asked_8 ci_m1 ?_
    exact oj_ret (r := some (.int (-1))) ⟨trivial, rfl, rfl, rfl, (-1), rfl, y3⟩ dX12_asked_9 (Nat.zero_le _) (Nat.zero_le _)
-- X12_isFull
set_option maxRecDepth 100000 in
set_option maxHeartbeats 4000000 in
theorem BX12_isFull    {h : ob_H} {Q : Int32 → Prop} (y : MX12_isFull   h Q) : ob_T yX12_isFull cX12_isFull 1 (some .boolean) (ob_rm 1) KS NN h [.ref 108] (ob_g (some .boolean) (ob_pi h Q)) := by
  unfold MX12_isFull at y
  refine ob_T_gf (by decide +kernel) (Nat.le_of_ble_eq_true rfl) ?_
  show ob_J RX12 cX12_isFull 1 (ob_rm 1) false none 0 0 KS NN h 0 [(0, .ref 108)] [] (ob_g (some .boolean) (ob_pi h Q))
  refine oj_aload_n 0 dX12_isFull_0 rfl rfl ?_
  refine oj_geti fl_RX12_283 k_108 rfl dX12_isFull_1 ?_
  refine oj_bipush dX12_isFull_4 cb_60 ?_
  refine oj_icmp_eq 18 dX12_isFull_6 rfl (fun c1 => ?_) (fun c1 => ?_)
  · have y2 := y.1 c1
    refine oj_iconst dX12_isFull_18 ci_1 ?_
    refine oj_goto 23 dX12_isFull_19 rfl ?_
    exact oj_ret (r := some (.int (1))) ⟨rfl, rfl, rfl, rfl, (1), rfl, y2⟩ dX12_isFull_23 (Nat.zero_le _) (Nat.zero_le _)
  · have y3 := y.2 c1
    refine oj_aload_n 0 dX12_isFull_9 rfl rfl ?_
    refine oj_geti fl_RX12_286 k_108 rfl dX12_isFull_10 ?_
    refine oj_bipush dX12_isFull_13 cb_30 ?_
    refine oj_icmp_ne 22 dX12_isFull_15 rfl (fun c4 => ?_) (fun c4 => ?_)
    · have y5 := y3.2 c4
      refine oj_iconst dX12_isFull_22 ci_0 ?_
      exact oj_ret (r := some (.int (0))) ⟨rfl, rfl, rfl, rfl, (0), rfl, y5⟩ dX12_isFull_23 (Nat.zero_le _) (Nat.zero_le _)
    · have y6 := y3.1 c4
      refine oj_iconst dX12_isFull_18 ci_1 ?_
      refine oj_goto 23 dX12_isFull_19 rfl ?_
      exact oj_ret (r := some (.int (1))) ⟨rfl, rfl, rfl, rfl, (1), rfl, y6⟩ dX12_isFull_23 (Nat.zero_le _) (Nat.zero_le _)
-- X12_countUnit
set_option maxRecDepth 100000 in
set_option maxHeartbeats 4000000 in
theorem BX12_countUnit    {h : ob_H} {Q : ob_H → Prop} (y : MX12_countUnit   h Q) : ob_T yX12_countUnit cX12_countUnit 1 none (ob_rm 1) KS NN h [.ref 108] (ob_g none (ob_qv Q)) := by
  unfold MX12_countUnit at y
  refine ob_T_gf (by decide +kernel) (Nat.le_of_ble_eq_true rfl) ?_
  show ob_J RX12 cX12_countUnit 1 (ob_rm 1) false none 0 0 KS NN h 0 [(0, .ref 108)] [] (ob_g none (ob_qv Q))
  refine oj_aload_n 0 dX12_countUnit_0 rfl rfl ?_
  refine oj_dup dX12_countUnit_1 rfl ?_
  refine oj_geti fl_RX12_283 k_108 rfl dX12_countUnit_2 ?_
  refine oj_iconst dX12_countUnit_5 ci_1 ?_
  refine oj_iadd dX12_countUnit_6 ?_
  refine oj_puti fl_RX12_283 (Or.inl rfl) k_108 rfl rfl rfl dX12_countUnit_7 ?_
  refine oj_toph (fun h1 eh1 => ?_)
  have y2 := Lt_at y h1 eh1
  refine oj_aload_n 0 dX12_countUnit_10 rfl rfl ?_
  refine oj_dup dX12_countUnit_11 rfl ?_
  refine oj_geti fl_RX12_286 k_108 rfl dX12_countUnit_12 ?_
  refine oj_iconst dX12_countUnit_15 ci_1 ?_
  refine oj_iadd dX12_countUnit_16 ?_
  refine oj_puti fl_RX12_286 (Or.inl rfl) k_108 rfl rfl rfl dX12_countUnit_17 ?_
  refine oj_toph (fun h3 eh3 => ?_)
  have y4 := Lt_at y2 h3 eh3
  exact oj_ret (r := none) ⟨trivial, rfl, rfl, rfl, y4⟩ dX12_countUnit_20 (Nat.zero_le _) (Nat.zero_le _)
-- X12_openUp
set_option maxRecDepth 100000 in
set_option maxHeartbeats 4000000 in
theorem BX12_openUp  {p1 : Int32}  {h : ob_H} {Q : ob_H → Prop} (y : MX12_openUp  p1 h Q) : ob_T yX12_openUp cX12_openUp 2 none (ob_rm 3) KS NN h [.ref 108, .int p1] (ob_g none (ob_qv Q)) := by
  unfold MX12_openUp at y
  refine ob_T_gf (by decide +kernel) (Nat.le_of_ble_eq_true rfl) ?_
  show ob_J RX12 cX12_openUp 2 (ob_rm 3) false none 0 0 KS NN h 0 [(0, .ref 108), (1, .int p1)] [] (ob_g none (ob_qv Q))
  refine oj_aload_n 0 dX12_openUp_0 rfl rfl ?_
  refine oj_getr (q := 117) fl_RX12_39 k_108 rfl k_117 dX12_openUp_1 ?_
  refine oj_aload_n 0 dX12_openUp_4 rfl rfl ?_
  refine oj_geti fl_RX12_270 k_108 rfl dX12_openUp_5 ?_
  refine oj_iload_n 1 dX12_openUp_8 rfl rfl ?_
  obtain ⟨c1, y2⟩ := y
  refine oj_iast k_117 c1 rfl dX12_openUp_9 ?_
  refine oj_toph (fun h3 eh3 => ?_)
  have y4 := Lt_at y2 h3 eh3
  refine oj_aload_n 0 dX12_openUp_10 rfl rfl ?_
  refine oj_dup dX12_openUp_11 rfl ?_
  refine oj_geti fl_RX12_270 k_108 rfl dX12_openUp_12 ?_
  refine oj_iconst dX12_openUp_15 ci_1 ?_
  refine oj_iadd dX12_openUp_16 ?_
  refine oj_puti fl_RX12_270 (Or.inl rfl) k_108 rfl rfl rfl dX12_openUp_17 ?_
  refine oj_toph (fun h5 eh5 => ?_)
  have y6 := Lt_at y4 h5 eh5
  refine oj_aload_n 0 dX12_openUp_20 rfl rfl ?_
  refine oj_dup dX12_openUp_21 rfl ?_
  refine oj_geti fl_RX12_280 k_108 rfl dX12_openUp_22 ?_
  refine oj_iconst dX12_openUp_25 ci_1 ?_
  refine oj_iadd dX12_openUp_26 ?_
  refine oj_puti fl_RX12_280 (Or.inl rfl) k_108 rfl rfl rfl dX12_openUp_27 ?_
  refine oj_toph (fun h7 eh7 => ?_)
  have y8 := Lt_at y6 h7 eh7
  refine oj_aload_n 0 dX12_openUp_30 rfl rfl ?_
  refine oj_geti fl_RX12_188 k_108 rfl dX12_openUp_31 ?_
  refine oj_if_ne 41 dX12_openUp_34 rfl (fun c9 => ?_) (fun c9 => ?_)
  · have y10 := y8.2 c9
    exact oj_ret (r := none) ⟨trivial, rfl, rfl, rfl, y10⟩ dX12_openUp_41 (Nat.zero_le _) (Nat.zero_le _)
  · have y11 := y8.1 c9
    refine oj_aload_n 0 dX12_openUp_37 rfl rfl ?_
    refine oc_Vv [] mi_RX12_242 ow_1450 op_39 rfl k_108 (BX12_token  y11) ⟨by decide, by decide⟩ ⟨Nat.le_refl _, Nat.le_refl _⟩ rfl (Nat.le_of_ble_eq_true rfl) dX12_openUp_38 (fun h13 y15 => ?_)
    exact oj_ret (r := none) ⟨trivial, rfl, rfl, rfl, y15⟩ dX12_openUp_41 (Nat.zero_le _) (Nat.zero_le _)
-- X12_unit
set_option maxRecDepth 100000 in
set_option maxHeartbeats 4000000 in
theorem BKX12_unit_172 {s0 : Int32} {s1 : Int32} {h : ob_H} {Q : ob_H → Prop}
    (y : KX12_unit_172 s0 s1 h Q) : ob_J RX12 cX12_unit 3 (ob_rm 4) false none 0 0 KS NN h 172 [(0, .ref 108)] [.int s0, .int s1, .ref 108] (ob_g none (ob_qv Q)) := by
  unfold KX12_unit_172 at y
  refine oc_Vv [.int s1, .int s0] mi_RX12_276 ow_1593 op_66 rfl k_108 (BX12_add  y) ⟨by decide, by decide⟩ ⟨Nat.le_refl _, Nat.le_refl _⟩ rfl (Nat.le_of_ble_eq_true rfl) dX12_unit_172 (fun h35 y37 => ?_)
  refine oj_aload_n 0 dX12_unit_175 rfl rfl ?_
  refine oc_Vv [] mi_RX12_242 ow_1450 op_39 rfl k_108 (BX12_token  y37) ⟨by decide, by decide⟩ ⟨Nat.le_refl _, Nat.le_refl _⟩ rfl (Nat.le_of_ble_eq_true rfl) dX12_unit_176 (fun h39 y41 => ?_)
  exact oj_ret (r := none) ⟨trivial, rfl, rfl, rfl, y41⟩ dX12_unit_179 (Nat.zero_le _) (Nat.zero_le _)
set_option maxRecDepth 100000 in
set_option maxHeartbeats 4000000 in
theorem BKX12_unit_160 {x2 : Int32} {s0 : Int32} {h : ob_H} {Q : ob_H → Prop}
    (y : KX12_unit_160 x2 s0 h Q) : ob_J RX12 cX12_unit 3 (ob_rm 4) false none 0 0 KS NN h 160 [(0, .ref 108), (2, .int x2)] [.int s0, .ref 108] (ob_g none (ob_qv Q)) := by
  unfold KX12_unit_160 at y
  refine oj_iload_n 1 dX12_unit_160 rfl rfl ?_
  refine oj_if_ge 171 dX12_unit_161 rfl (fun c31 => ?_) (fun c31 => ?_)
  · have y32 := y.1 c31
    refine oj_iload_n 1 dX12_unit_171 rfl rfl ?_
    refine oj_lv [0] rfl ?_
    exact BKX12_unit_172  y32
  · have y33 := y.2 c31
    refine oj_aload_n 0 dX12_unit_164 rfl rfl ?_
    refine oj_geti fl_RX12_172 k_108 rfl dX12_unit_165 ?_
    refine oj_goto 172 dX12_unit_168 rfl ?_
    refine oj_lv [0] rfl ?_
    exact BKX12_unit_172  y33
set_option maxRecDepth 100000 in
set_option maxHeartbeats 4000000 in
theorem BKX12_unit_138 {x2 : Int32} {h : ob_H} {Q : ob_H → Prop}
    (y : KX12_unit_138 x2 h Q) : ob_J RX12 cX12_unit 3 (ob_rm 4) false none 0 0 KS NN h 138 [(0, .ref 108), (2, .int x2)] [] (ob_g none (ob_qv Q)) := by
  unfold KX12_unit_138 at y
  refine oj_aload_n 0 dX12_unit_138 rfl rfl ?_
  refine oj_geti fl_RX12_188 k_108 rfl dX12_unit_139 ?_
  refine oj_if_le 146 dX12_unit_142 rfl (fun c21 => ?_) (fun c21 => ?_)
  · have y22 := y.1 c21
    refine oj_aload_n 0 dX12_unit_146 rfl rfl ?_
    refine oc_Vv [] mi_RX12_298 ow_1585 op_64 rfl k_108 (BX12_countUnit  y22) ⟨by decide, by decide⟩ ⟨Nat.le_refl _, Nat.le_refl _⟩ rfl (Nat.le_of_ble_eq_true rfl) dX12_unit_147 (fun h25 y27 => ?_)
    refine oj_aload_n 0 dX12_unit_150 rfl rfl ?_
    refine oj_iload_n 1 dX12_unit_151 rfl rfl ?_
    refine oj_if_ge 159 dX12_unit_152 rfl (fun c28 => ?_) (fun c28 => ?_)
    · have y29 := y27.1 c28
      refine oj_iconst dX12_unit_159 ci_1 ?_
      refine oj_lv [0, 1] rfl ?_
      exact BKX12_unit_160  y29
    · have y30 := y27.2 c28
      refine oj_iconst dX12_unit_155 ci_0 ?_
      refine oj_goto 160 dX12_unit_156 rfl ?_
      refine oj_lv [0, 1] rfl ?_
      exact BKX12_unit_160  y30
  · have y23 := y.2 c21
    exact oj_ret (r := none) ⟨trivial, rfl, rfl, rfl, y23⟩ dX12_unit_145 (Nat.zero_le _) (Nat.zero_le _)
set_option maxRecDepth 100000 in
set_option maxHeartbeats 4000000 in
theorem BKX12_unit_133 {x2 : Int32} {h : ob_H} {Q : ob_H → Prop}
    (y : KX12_unit_133 x2 h Q) : ob_J RX12 cX12_unit 3 (ob_rm 4) false none 0 0 KS NN h 133 [(0, .ref 108), (2, .int x2)] [] (ob_g none (ob_qv Q)) := by
  unfold KX12_unit_133 at y
  refine oj_aload_n 0 dX12_unit_133 rfl rfl ?_
  refine oj_iconst dX12_unit_134 ci_2 ?_
  refine oc_Vv [.int (2)] mi_RX12_239 ow_1507 op_46 rfl k_108 (BX12_wrong  y) ⟨by decide, by decide⟩ ⟨Nat.le_refl _, Nat.le_refl _⟩ rfl (Nat.le_of_ble_eq_true rfl) dX12_unit_135 (fun h43 y45 => ?_)
  refine oj_lv [0, 1] rfl ?_
  exact BKX12_unit_138  y45
set_option maxRecDepth 100000 in
set_option maxHeartbeats 4000000 in
theorem BKX12_unit_126 {x2 : Int32} {h : ob_H} {Q : ob_H → Prop}
    (y : KX12_unit_126 x2 h Q) : ob_J RX12 cX12_unit 3 (ob_rm 4) false none 0 0 KS NN h 126 [(0, .ref 108), (2, .int x2)] [] (ob_g none (ob_qv Q)) := by
  unfold KX12_unit_126 at y
  refine oj_aload_n 0 dX12_unit_126 rfl rfl ?_
  refine oc_Vpi [] mi_RX12_295 ow_1581 op_63 rfl k_108 (BX12_isFull  y) ⟨by decide, by decide⟩ ⟨Nat.le_refl _, Nat.le_refl _⟩ rfl (Nat.le_of_ble_eq_true rfl) dX12_unit_127 (fun r14 f16 y17 => ?_)
  refine oj_if_eq 138 dX12_unit_130 rfl (fun c18 => ?_) (fun c18 => ?_)
  · have y19 := y17.1 c18
    refine oj_lv [0, 1] rfl ?_
    exact BKX12_unit_138  y19
  · have y20 := y17.2 c18
    refine oj_lv [0, 1] rfl ?_
    exact BKX12_unit_133  y20
set_option maxRecDepth 100000 in
set_option maxHeartbeats 4000000 in
theorem BKX12_unit_101 {h : ob_H} {Q : ob_H → Prop}
    (y : KX12_unit_101 h Q) : ob_J RX12 cX12_unit 3 (ob_rm 4) false none 0 0 KS NN h 101 [(0, .ref 108)] [] (ob_g none (ob_qv Q)) := by
  unfold KX12_unit_101 at y
  refine oj_aload_n 0 dX12_unit_101 rfl rfl ?_
  refine oj_geti fl_RX12_188 k_108 rfl dX12_unit_102 ?_
  refine oj_if_le 109 dX12_unit_105 rfl (fun c4 => ?_) (fun c4 => ?_)
  · have y5 := y.1 c4
    refine oj_aload_n 0 dX12_unit_109 rfl rfl ?_
    refine oc_Vpi [] mi_RX12_301 ow_1589 op_65 rfl k_108 (BX12_asked  y5) ⟨by decide, by decide⟩ ⟨Nat.le_refl _, Nat.le_refl _⟩ rfl (Nat.le_of_ble_eq_true rfl) dX12_unit_110 (fun r7 f9 y10 => ?_)
    refine oj_istore_n (lv' := [(2, .int r7), (0, .ref 108)]) dX12_unit_113 rfl (by decide) rfl ?_
    refine oj_aload_n 1 dX12_unit_114 rfl rfl ?_
    refine oj_geti fl_RX12_175 k_108 rfl dX12_unit_115 ?_
    refine oj_iconst dX12_unit_118 ci_2 ?_
    refine oj_icmp_eq 126 dX12_unit_119 rfl (fun c11 => ?_) (fun c11 => ?_)
    · have y12 := y10.1 c11
      refine oj_lv [1, 0] rfl ?_
      exact BKX12_unit_126  y12
    · have y13 := y10.2 c11
      refine oj_iload_n 0 dX12_unit_122 rfl rfl ?_
      refine oj_if_lt 133 dX12_unit_123 rfl (fun c46 => ?_) (fun c46 => ?_)
      · have y47 := y13.1 c46
        refine oj_lv [1, 0] rfl ?_
        exact BKX12_unit_133  y47
      · have y48 := y13.2 c46
        refine oj_lv [1, 0] rfl ?_
        exact BKX12_unit_126  y48
  · have y6 := y.2 c4
    exact oj_ret (r := none) ⟨trivial, rfl, rfl, rfl, y6⟩ dX12_unit_108 (Nat.zero_le _) (Nat.zero_le _)
set_option maxRecDepth 100000 in
set_option maxHeartbeats 4000000 in
theorem BKX12_unit_83 {x1 : Int32} {h : ob_H} {Q : ob_H → Prop} {k2 : Int32 → ob_H → Prop} (hk2 : ∀ (x1' : Int32) (h' : ob_H), k2 x1' h' → ob_J RX12 cX12_unit 3 (ob_rm 4) false none 0 0 KS NN h' 2 [(0, .ref 108), (1, .int x1')] [] (ob_g none (ob_qv Q)))
    (y : KX12_unit_83 x1 h Q k2) : ob_J RX12 cX12_unit 3 (ob_rm 4) false none 0 0 KS NN h 83 [(0, .ref 108), (1, .int x1)] [] (ob_g none (ob_qv Q)) := by
  unfold KX12_unit_83 at y
  refine oj_aload_n 0 dX12_unit_83 rfl rfl ?_
  refine oc_Vv [] mi_RX12_298 ow_1585 op_64 rfl k_108 (BX12_countUnit  y) ⟨by decide, by decide⟩ ⟨Nat.le_refl _, Nat.le_refl _⟩ rfl (Nat.le_of_ble_eq_true rfl) dX12_unit_84 (fun h74 y76 => ?_)
  refine oj_aload_n 0 dX12_unit_87 rfl rfl ?_
  refine oj_bipush dX12_unit_88 cb_20 ?_
  refine oc_Vv [.int (20)] mi_RX12_292 ow_1577 op_62 rfl k_108 (BX12_openUp  y76) ⟨by decide, by decide⟩ ⟨Nat.le_refl _, Nat.le_refl _⟩ rfl (Nat.le_of_ble_eq_true rfl) dX12_unit_90 (fun h78 y80 => ?_)
  refine oj_goto 2 dX12_unit_93 rfl ?_
  refine oj_lv [0, 1] rfl ?_
  exact hk2 _ _ y80
set_option maxRecDepth 100000 in
set_option maxHeartbeats 4000000 in
theorem BKX12_unit_78 {x1 : Int32} {h : ob_H} {Q : ob_H → Prop} {k2 : Int32 → ob_H → Prop} (hk2 : ∀ (x1' : Int32) (h' : ob_H), k2 x1' h' → ob_J RX12 cX12_unit 3 (ob_rm 4) false none 0 0 KS NN h' 2 [(0, .ref 108), (1, .int x1')] [] (ob_g none (ob_qv Q)))
    (y : KX12_unit_78 x1 h Q k2) : ob_J RX12 cX12_unit 3 (ob_rm 4) false none 0 0 KS NN h 78 [(0, .ref 108), (1, .int x1)] [] (ob_g none (ob_qv Q)) := by
  unfold KX12_unit_78 at y
  refine oj_aload_n 0 dX12_unit_78 rfl rfl ?_
  refine oj_iconst dX12_unit_79 ci_2 ?_
  refine oc_Vv [.int (2)] mi_RX12_239 ow_1507 op_46 rfl k_108 (BX12_wrong  y) ⟨by decide, by decide⟩ ⟨Nat.le_refl _, Nat.le_refl _⟩ rfl (Nat.le_of_ble_eq_true rfl) dX12_unit_80 (fun h70 y72 => ?_)
  refine oj_lv [0, 1] rfl ?_
  exact BKX12_unit_83 hk2 y72
set_option maxRecDepth 100000 in
set_option maxHeartbeats 4000000 in
theorem BKX12_unit_53 {x1 : Int32} {h : ob_H} {Q : ob_H → Prop} {k2 : Int32 → ob_H → Prop} (hk2 : ∀ (x1' : Int32) (h' : ob_H), k2 x1' h' → ob_J RX12 cX12_unit 3 (ob_rm 4) false none 0 0 KS NN h' 2 [(0, .ref 108), (1, .int x1')] [] (ob_g none (ob_qv Q)))
    (y : KX12_unit_53 x1 h Q k2) : ob_J RX12 cX12_unit 3 (ob_rm 4) false none 0 0 KS NN h 53 [(0, .ref 108), (1, .int x1)] [] (ob_g none (ob_qv Q)) := by
  unfold KX12_unit_53 at y
  refine oj_aload_n 0 dX12_unit_53 rfl rfl ?_
  refine oj_geti fl_RX12_175 k_108 rfl dX12_unit_54 ?_
  refine oj_bipush dX12_unit_57 cb_40 ?_
  refine oj_icmp_ne 96 dX12_unit_59 rfl (fun c59 => ?_) (fun c59 => ?_)
  · have y60 := y.2 c59
    refine oj_iconst dX12_unit_96 ci_0 ?_
    refine oj_istore_n (lv' := [(1, .int (0)), (0, .ref 108)]) dX12_unit_97 rfl (by decide) rfl ?_
    refine oj_goto 2 dX12_unit_98 rfl ?_
    refine oj_lv [1, 0] rfl ?_
    exact hk2 _ _ y60
  · have y61 := y.1 c59
    refine oj_aload_n 0 dX12_unit_62 rfl rfl ?_
    refine oc_Vpi [] mi_RX12_295 ow_1581 op_63 rfl k_108 (BX12_isFull  y61) ⟨by decide, by decide⟩ ⟨Nat.le_refl _, Nat.le_refl _⟩ rfl (Nat.le_of_ble_eq_true rfl) dX12_unit_63 (fun r62 f64 y65 => ?_)
    refine oj_if_ne 78 dX12_unit_66 rfl (fun c66 => ?_) (fun c66 => ?_)
    · have y67 := y65.2 c66
      refine oj_lv [0, 1] rfl ?_
      exact BKX12_unit_78 hk2 y67
    · have y68 := y65.1 c66
      refine oj_aload_n 0 dX12_unit_69 rfl rfl ?_
      refine oj_geti fl_RX12_280 k_108 rfl dX12_unit_70 ?_
      refine oj_bipush dX12_unit_73 cb_6 ?_
      refine oj_icmp_le 83 dX12_unit_75 rfl (fun c81 => ?_) (fun c81 => ?_)
      · have y82 := y68.1 c81
        refine oj_lv [0, 1] rfl ?_
        exact BKX12_unit_83 hk2 y82
      · have y83 := y68.2 c81
        refine oj_lv [0, 1] rfl ?_
        exact BKX12_unit_78 hk2 y83
set_option maxRecDepth 100000 in
set_option maxHeartbeats 4000000 in
theorem BKX12_unit_44 {x1 : Int32} {h : ob_H} {Q : ob_H → Prop} {k2 : Int32 → ob_H → Prop} (hk2 : ∀ (x1' : Int32) (h' : ob_H), k2 x1' h' → ob_J RX12 cX12_unit 3 (ob_rm 4) false none 0 0 KS NN h' 2 [(0, .ref 108), (1, .int x1')] [] (ob_g none (ob_qv Q)))
    (y : KX12_unit_44 x1 h Q k2) : ob_J RX12 cX12_unit 3 (ob_rm 4) false none 0 0 KS NN h 44 [(0, .ref 108), (1, .int x1)] [] (ob_g none (ob_qv Q)) := by
  unfold KX12_unit_44 at y
  refine oj_aload_n 0 dX12_unit_44 rfl rfl ?_
  refine oj_bipush dX12_unit_45 cb_21 ?_
  refine oc_Vv [.int (21)] mi_RX12_292 ow_1577 op_62 rfl k_108 (BX12_openUp  y) ⟨by decide, by decide⟩ ⟨Nat.le_refl _, Nat.le_refl _⟩ rfl (Nat.le_of_ble_eq_true rfl) dX12_unit_47 (fun h95 y97 => ?_)
  refine oj_goto 2 dX12_unit_50 rfl ?_
  refine oj_lv [0, 1] rfl ?_
  exact hk2 _ _ y97
set_option maxRecDepth 100000 in
set_option maxHeartbeats 4000000 in
theorem BLX12_unit_2 {Q : ob_H → Prop} :
    ∀ (n : Nat) (x1 : Int32) (h : ob_H), it2 (FX12_unit_2 Q) n x1 h → ob_J RX12 cX12_unit 3 (ob_rm 4) false none 0 0 KS NN h 2 [(0, .ref 108), (1, .int x1)] [] (ob_g none (ob_qv Q)) := by
  intro n
  induction n with
  | zero => intro x1 h y; exact False.elim y
  | succ n hk2 =>
    intro x1 h y
    have y : FX12_unit_2 Q (it2 (FX12_unit_2 Q) n) x1 h := y
    unfold FX12_unit_2 at y
    refine oj_iload_n 1 dX12_unit_2 rfl rfl ?_
    refine oj_if_eq 101 dX12_unit_3 rfl (fun c1 => ?_) (fun c1 => ?_)
    · have y2 := y.1 c1
      refine oj_lv [0] rfl ?_
      exact BKX12_unit_101  y2
    · have y3 := y.2 c1
      refine oj_aload_n 0 dX12_unit_6 rfl rfl ?_
      refine oj_geti fl_RX12_188 k_108 rfl dX12_unit_7 ?_
      refine oj_if_ne 101 dX12_unit_10 rfl (fun c49 => ?_) (fun c49 => ?_)
      · have y50 := y3.2 c49
        refine oj_lv [0] rfl ?_
        exact BKX12_unit_101  y50
      · have y51 := y3.1 c49
        refine oj_aload_n 0 dX12_unit_13 rfl rfl ?_
        refine oj_ldc2 ow_1504 dX12_unit_14 ?_
        refine oc_Vpi [.long (7237492)] mi_RX12_235 ow_1472 op_42 rfl k_108 (BX12_isWord  y51) ⟨by decide, by decide⟩ ⟨Nat.le_refl _, Nat.le_refl _⟩ rfl (Nat.le_of_ble_eq_true rfl) dX12_unit_17 (fun r52 f54 y55 => ?_)
        refine oj_if_eq 53 dX12_unit_20 rfl (fun c56 => ?_) (fun c56 => ?_)
        · have y57 := y55.1 c56
          refine oj_lv [0, 1] rfl ?_
          exact BKX12_unit_53 hk2 y57
        · have y58 := y55.2 c56
          refine oj_aload_n 0 dX12_unit_23 rfl rfl ?_
          refine oc_Vpi [] mi_RX12_289 ow_1570 op_61 rfl k_108 (BX12_mayNot  y58) ⟨by decide, by decide⟩ ⟨Nat.le_refl _, Nat.le_refl _⟩ rfl (Nat.le_of_ble_eq_true rfl) dX12_unit_24 (fun r84 f86 y87 => ?_)
          refine oj_if_eq 53 dX12_unit_27 rfl (fun c88 => ?_) (fun c88 => ?_)
          · have y89 := y87.1 c88
            refine oj_lv [0, 1] rfl ?_
            exact BKX12_unit_53 hk2 y89
          · have y90 := y87.2 c88
            refine oj_aload_n 0 dX12_unit_30 rfl rfl ?_
            refine oj_geti fl_RX12_280 k_108 rfl dX12_unit_31 ?_
            refine oj_bipush dX12_unit_34 cb_6 ?_
            refine oj_icmp_le 44 dX12_unit_36 rfl (fun c91 => ?_) (fun c91 => ?_)
            · have y92 := y90.1 c91
              refine oj_lv [0, 1] rfl ?_
              exact BKX12_unit_44 hk2 y92
            · have y93 := y90.2 c91
              refine oj_aload_n 0 dX12_unit_39 rfl rfl ?_
              refine oj_iconst dX12_unit_40 ci_2 ?_
              refine oc_Vv [.int (2)] mi_RX12_239 ow_1507 op_46 rfl k_108 (BX12_wrong  y93) ⟨by decide, by decide⟩ ⟨Nat.le_refl _, Nat.le_refl _⟩ rfl (Nat.le_of_ble_eq_true rfl) dX12_unit_41 (fun h99 y101 => ?_)
              refine oj_lv [0, 1] rfl ?_
              exact BKX12_unit_44 hk2 y101
set_option maxRecDepth 100000 in
set_option maxHeartbeats 4000000 in
theorem BX12_unit    {h : ob_H} {Q : ob_H → Prop} (y : MX12_unit   h Q) : ob_T yX12_unit cX12_unit 3 none (ob_rm 4) KS NN h [.ref 108] (ob_g none (ob_qv Q)) := by
  unfold MX12_unit at y
  refine ob_T_gf (by decide +kernel) (Nat.le_of_ble_eq_true rfl) ?_
  show ob_J RX12 cX12_unit 3 (ob_rm 4) false none 0 0 KS NN h 0 [(0, .ref 108)] [] (ob_g none (ob_qv Q))
  refine oj_iconst dX12_unit_0 ci_1 ?_
  refine oj_istore_n (lv' := [(1, .int (1)), (0, .ref 108)]) dX12_unit_1 rfl (by decide) rfl ?_
  refine oj_lv [1, 0] rfl ?_
  obtain ⟨n, y102⟩ := y
  exact BLX12_unit_2  n _ _ y102
-- X12_sign
set_option maxRecDepth 100000 in
set_option maxHeartbeats 4000000 in
theorem BX12_sign    {h : ob_H} {Q : Int32 → Prop} (y : MX12_sign   h Q) : ob_T yX12_sign cX12_sign 1 (some .int) (ob_rm 2) KS NN h [.ref 108] (ob_g (some .int) (ob_pi h Q)) := by
  unfold MX12_sign at y
  refine ob_T_gf (by decide +kernel) (Nat.le_of_ble_eq_true rfl) ?_
  show ob_J RX12 cX12_sign 1 (ob_rm 2) false none 0 0 KS NN h 0 [(0, .ref 108)] [] (ob_g (some .int) (ob_pi h Q))
  refine oj_aload_n 0 dX12_sign_0 rfl rfl ?_
  refine oj_ldc2 ow_1502 dX12_sign_1 ?_
  refine oc_Vpi [.long (6385252)] mi_RX12_235 ow_1472 op_42 rfl k_108 (BX12_isWord  y) ⟨by decide, by decide⟩ ⟨Nat.le_refl _, Nat.le_refl _⟩ rfl (Nat.le_of_ble_eq_true rfl) dX12_sign_4 (fun r1 f3 y4 => ?_)
  refine oj_if_eq 13 dX12_sign_7 rfl (fun c5 => ?_) (fun c5 => ?_)
  · have y6 := y4.1 c5
    refine oj_aload_n 0 dX12_sign_13 rfl rfl ?_
    refine oj_ldc2 ow_1503 dX12_sign_14 ?_
    refine oc_Vpi [.long (28530)] mi_RX12_235 ow_1472 op_42 rfl k_108 (BX12_isWord  y6) ⟨by decide, by decide⟩ ⟨Nat.le_refl _, Nat.le_refl _⟩ rfl (Nat.le_of_ble_eq_true rfl) dX12_sign_17 (fun r8 f10 y11 => ?_)
    refine oj_if_eq 26 dX12_sign_20 rfl (fun c12 => ?_) (fun c12 => ?_)
    · have y13 := y11.1 c12
      refine oj_aload_n 0 dX12_sign_26 rfl rfl ?_
      refine oj_geti fl_RX12_175 k_108 rfl dX12_sign_27 ?_
      refine oj_bipush dX12_sign_30 cb_60 ?_
      refine oj_icmp_eq 98 dX12_sign_32 rfl (fun c15 => ?_) (fun c15 => ?_)
      · have y16 := y13.1 c15
        refine oj_aload_n 0 dX12_sign_98 rfl rfl ?_
        refine oj_geti fl_RX12_175 k_108 rfl dX12_sign_99 ?_
        refine oj_goto 106 dX12_sign_102 rfl ?_
        exact oj_ret (r := some (.int (h.1 108 6))) ⟨trivial, rfl, rfl, rfl, (h.1 108 6), rfl, y16⟩ dX12_sign_106 (Nat.zero_le _) (Nat.zero_le _)
      · have y17 := y13.2 c15
        refine oj_aload_n 0 dX12_sign_35 rfl rfl ?_
        refine oj_geti fl_RX12_175 k_108 rfl dX12_sign_36 ?_
        refine oj_bipush dX12_sign_39 cb_62 ?_
        refine oj_icmp_eq 98 dX12_sign_41 rfl (fun c18 => ?_) (fun c18 => ?_)
        · have y19 := y17.1 c18
          refine oj_aload_n 0 dX12_sign_98 rfl rfl ?_
          refine oj_geti fl_RX12_175 k_108 rfl dX12_sign_99 ?_
          refine oj_goto 106 dX12_sign_102 rfl ?_
          exact oj_ret (r := some (.int (h.1 108 6))) ⟨trivial, rfl, rfl, rfl, (h.1 108 6), rfl, y19⟩ dX12_sign_106 (Nat.zero_le _) (Nat.zero_le _)
        · have y20 := y17.2 c18
          refine oj_aload_n 0 dX12_sign_44 rfl rfl ?_
          refine oj_geti fl_RX12_175 k_108 rfl dX12_sign_45 ?_
          refine oj_bipush dX12_sign_48 cb_61 ?_
          refine oj_icmp_eq 98 dX12_sign_50 rfl (fun c21 => ?_) (fun c21 => ?_)
          · have y22 := y20.1 c21
            refine oj_aload_n 0 dX12_sign_98 rfl rfl ?_
            refine oj_geti fl_RX12_175 k_108 rfl dX12_sign_99 ?_
            refine oj_goto 106 dX12_sign_102 rfl ?_
            exact oj_ret (r := some (.int (h.1 108 6))) ⟨trivial, rfl, rfl, rfl, (h.1 108 6), rfl, y22⟩ dX12_sign_106 (Nat.zero_le _) (Nat.zero_le _)
          · have y23 := y20.2 c21
            refine oj_aload_n 0 dX12_sign_53 rfl rfl ?_
            refine oj_geti fl_RX12_175 k_108 rfl dX12_sign_54 ?_
            refine oj_bipush dX12_sign_57 cb_43 ?_
            refine oj_icmp_eq 98 dX12_sign_59 rfl (fun c24 => ?_) (fun c24 => ?_)
            · have y25 := y23.1 c24
              refine oj_aload_n 0 dX12_sign_98 rfl rfl ?_
              refine oj_geti fl_RX12_175 k_108 rfl dX12_sign_99 ?_
              refine oj_goto 106 dX12_sign_102 rfl ?_
              exact oj_ret (r := some (.int (h.1 108 6))) ⟨trivial, rfl, rfl, rfl, (h.1 108 6), rfl, y25⟩ dX12_sign_106 (Nat.zero_le _) (Nat.zero_le _)
            · have y26 := y23.2 c24
              refine oj_aload_n 0 dX12_sign_62 rfl rfl ?_
              refine oj_geti fl_RX12_175 k_108 rfl dX12_sign_63 ?_
              refine oj_bipush dX12_sign_66 cb_45 ?_
              refine oj_icmp_eq 98 dX12_sign_68 rfl (fun c27 => ?_) (fun c27 => ?_)
              · have y28 := y26.1 c27
                refine oj_aload_n 0 dX12_sign_98 rfl rfl ?_
                refine oj_geti fl_RX12_175 k_108 rfl dX12_sign_99 ?_
                refine oj_goto 106 dX12_sign_102 rfl ?_
                exact oj_ret (r := some (.int (h.1 108 6))) ⟨trivial, rfl, rfl, rfl, (h.1 108 6), rfl, y28⟩ dX12_sign_106 (Nat.zero_le _) (Nat.zero_le _)
              · have y29 := y26.2 c27
                refine oj_aload_n 0 dX12_sign_71 rfl rfl ?_
                refine oj_geti fl_RX12_175 k_108 rfl dX12_sign_72 ?_
                refine oj_bipush dX12_sign_75 cb_42 ?_
                refine oj_icmp_eq 98 dX12_sign_77 rfl (fun c30 => ?_) (fun c30 => ?_)
                · have y31 := y29.1 c30
                  refine oj_aload_n 0 dX12_sign_98 rfl rfl ?_
                  refine oj_geti fl_RX12_175 k_108 rfl dX12_sign_99 ?_
                  refine oj_goto 106 dX12_sign_102 rfl ?_
                  exact oj_ret (r := some (.int (h.1 108 6))) ⟨trivial, rfl, rfl, rfl, (h.1 108 6), rfl, y31⟩ dX12_sign_106 (Nat.zero_le _) (Nat.zero_le _)
                · have y32 := y29.2 c30
                  refine oj_aload_n 0 dX12_sign_80 rfl rfl ?_
                  refine oj_geti fl_RX12_175 k_108 rfl dX12_sign_81 ?_
                  refine oj_bipush dX12_sign_84 cb_47 ?_
                  refine oj_icmp_eq 98 dX12_sign_86 rfl (fun c33 => ?_) (fun c33 => ?_)
                  · have y34 := y32.1 c33
                    refine oj_aload_n 0 dX12_sign_98 rfl rfl ?_
                    refine oj_geti fl_RX12_175 k_108 rfl dX12_sign_99 ?_
                    refine oj_goto 106 dX12_sign_102 rfl ?_
                    exact oj_ret (r := some (.int (h.1 108 6))) ⟨trivial, rfl, rfl, rfl, (h.1 108 6), rfl, y34⟩ dX12_sign_106 (Nat.zero_le _) (Nat.zero_le _)
                  · have y35 := y32.2 c33
                    refine oj_aload_n 0 dX12_sign_89 rfl rfl ?_
                    refine oj_geti fl_RX12_175 k_108 rfl dX12_sign_90 ?_
                    refine oj_bipush dX12_sign_93 cb_37 ?_
                    refine oj_icmp_ne 105 dX12_sign_95 rfl (fun c36 => ?_) (fun c36 => ?_)
                    · have y37 := y35.2 c36
                      refine oj_iconst dX12_sign_105 ci_0 ?_
                      exact oj_ret (r := some (.int (0))) ⟨trivial, rfl, rfl, rfl, (0), rfl, y37⟩ dX12_sign_106 (Nat.zero_le _) (Nat.zero_le _)
                    · have y38 := y35.1 c36
                      refine oj_aload_n 0 dX12_sign_98 rfl rfl ?_
                      refine oj_geti fl_RX12_175 k_108 rfl dX12_sign_99 ?_
                      refine oj_goto 106 dX12_sign_102 rfl ?_
                      exact oj_ret (r := some (.int (h.1 108 6))) ⟨trivial, rfl, rfl, rfl, (h.1 108 6), rfl, y38⟩ dX12_sign_106 (Nat.zero_le _) (Nat.zero_le _)
    · have y14 := y11.2 c12
      refine oj_bipush dX12_sign_23 cb_124 ?_
      exact oj_ret (r := some (.int (124))) ⟨trivial, rfl, rfl, rfl, (124), rfl, y14⟩ dX12_sign_25 (Nat.zero_le _) (Nat.zero_le _)
  · have y7 := y4.2 c5
    refine oj_bipush dX12_sign_10 cb_38 ?_
    exact oj_ret (r := some (.int (38))) ⟨trivial, rfl, rfl, rfl, (38), rfl, y7⟩ dX12_sign_12 (Nat.zero_le _) (Nat.zero_le _)
-- X12_hasBracket
set_option maxRecDepth 100000 in
set_option maxHeartbeats 4000000 in
theorem BLX12_hasBracket_4 {h : ob_H} {Q : Int32 → Prop} :
    ∀ (n : Nat) (x1 : Int32) (x2 : Int32), it2 (FX12_hasBracket_4 h Q) n x1 x2 → ob_J RX12 cX12_hasBracket 3 (ob_rm 1) false none 0 0 KS NN h 4 [(0, .ref 108), (1, .int x1), (2, .int x2)] [] (ob_g (some .boolean) (ob_pi h Q)) := by
  intro n
  induction n with
  | zero => intro x1 x2 y; exact False.elim y
  | succ n hk4 =>
    intro x1 x2 y
    have y : FX12_hasBracket_4 h Q (it2 (FX12_hasBracket_4 h Q) n) x1 x2 := y
    unfold FX12_hasBracket_4 at y
    refine oj_iload_n 2 dX12_hasBracket_4 rfl rfl ?_
    refine oj_aload_n 0 dX12_hasBracket_5 rfl rfl ?_
    refine oj_geti fl_RX12_270 k_108 rfl dX12_hasBracket_6 ?_
    refine oj_icmp_ge 39 dX12_hasBracket_9 rfl (fun c1 => ?_) (fun c1 => ?_)
    · have y2 := y.1 c1
      refine oj_iload_n 1 dX12_hasBracket_39 rfl rfl ?_
      obtain ⟨c4, y5⟩ := y2
      exact oj_ret (r := some (.int x1)) ⟨c4, rfl, rfl, rfl, x1, rfl, y5⟩ dX12_hasBracket_40 (Nat.zero_le _) (Nat.zero_le _)
    · have y3 := y.2 c1
      refine oj_iload_n 1 dX12_hasBracket_12 rfl rfl ?_
      refine oj_if_ne 27 dX12_hasBracket_13 rfl (fun c6 => ?_) (fun c6 => ?_)
      · have y7 := y3.2 c6
        refine oj_iconst dX12_hasBracket_27 ci_1 ?_
        refine oj_goto 32 dX12_hasBracket_28 rfl ?_
        refine oj_istore_n (lv' := [(1, .int (1)), (0, .ref 108), (2, .int x2)]) dX12_hasBracket_32 rfl (by decide) rfl ?_
        obtain ⟨v9, ev9⟩ : ∃ z : Int32, z = x2 + (1) := ⟨_, rfl⟩
        have y10 := Lt_at y7 v9 ev9
        refine oj_iinc (v := v9) (lv' := [(2, .int v9), (1, .int (1)), (0, .ref 108)]) 2 dX12_hasBracket_33 rfl (iinc_e ci_1 ev9) (by decide) rfl ?_
        refine oj_goto 4 dX12_hasBracket_36 rfl ?_
        refine oj_lv [2, 1, 0] rfl ?_
        exact hk4 _ _ y10
      · have y8 := y3.1 c6
        refine oj_aload_n 0 dX12_hasBracket_16 rfl rfl ?_
        refine oj_getr (q := 117) fl_RX12_39 k_108 rfl k_117 dX12_hasBracket_17 ?_
        refine oj_iload_n 2 dX12_hasBracket_20 rfl rfl ?_
        obtain ⟨c11, y12⟩ := y8
        refine oj_iald k_117 c11 rfl dX12_hasBracket_21 ?_
        refine oj_bipush dX12_hasBracket_22 cb_20 ?_
        refine oj_icmp_ne 31 dX12_hasBracket_24 rfl (fun c13 => ?_) (fun c13 => ?_)
        · have y14 := y12.2 c13
          refine oj_iconst dX12_hasBracket_31 ci_0 ?_
          refine oj_istore_n (lv' := [(1, .int (0)), (0, .ref 108), (2, .int x2)]) dX12_hasBracket_32 rfl (by decide) rfl ?_
          obtain ⟨v16, ev16⟩ : ∃ z : Int32, z = x2 + (1) := ⟨_, rfl⟩
          have y17 := Lt_at y14 v16 ev16
          refine oj_iinc (v := v16) (lv' := [(2, .int v16), (1, .int (0)), (0, .ref 108)]) 2 dX12_hasBracket_33 rfl (iinc_e ci_1 ev16) (by decide) rfl ?_
          refine oj_goto 4 dX12_hasBracket_36 rfl ?_
          refine oj_lv [2, 1, 0] rfl ?_
          exact hk4 _ _ y17
        · have y15 := y12.1 c13
          refine oj_iconst dX12_hasBracket_27 ci_1 ?_
          refine oj_goto 32 dX12_hasBracket_28 rfl ?_
          refine oj_istore_n (lv' := [(1, .int (1)), (0, .ref 108), (2, .int x2)]) dX12_hasBracket_32 rfl (by decide) rfl ?_
          obtain ⟨v18, ev18⟩ : ∃ z : Int32, z = x2 + (1) := ⟨_, rfl⟩
          have y19 := Lt_at y15 v18 ev18
          refine oj_iinc (v := v18) (lv' := [(2, .int v18), (1, .int (1)), (0, .ref 108)]) 2 dX12_hasBracket_33 rfl (iinc_e ci_1 ev18) (by decide) rfl ?_
          refine oj_goto 4 dX12_hasBracket_36 rfl ?_
          refine oj_lv [2, 1, 0] rfl ?_
          exact hk4 _ _ y19
set_option maxRecDepth 100000 in
set_option maxHeartbeats 4000000 in
theorem BX12_hasBracket    {h : ob_H} {Q : Int32 → Prop} (y : MX12_hasBracket   h Q) : ob_T yX12_hasBracket cX12_hasBracket 3 (some .boolean) (ob_rm 1) KS NN h [.ref 108] (ob_g (some .boolean) (ob_pi h Q)) := by
  unfold MX12_hasBracket at y
  refine ob_T_gf (by decide +kernel) (Nat.le_of_ble_eq_true rfl) ?_
  show ob_J RX12 cX12_hasBracket 3 (ob_rm 1) false none 0 0 KS NN h 0 [(0, .ref 108)] [] (ob_g (some .boolean) (ob_pi h Q))
  refine oj_iconst dX12_hasBracket_0 ci_0 ?_
  refine oj_istore_n (lv' := [(1, .int (0)), (0, .ref 108)]) dX12_hasBracket_1 rfl (by decide) rfl ?_
  refine oj_iconst dX12_hasBracket_2 ci_0 ?_
  refine oj_istore_n (lv' := [(2, .int (0)), (1, .int (0)), (0, .ref 108)]) dX12_hasBracket_3 rfl (by decide) rfl ?_
  refine oj_lv [2, 1, 0] rfl ?_
  obtain ⟨n, y20⟩ := y
  exact BLX12_hasBracket_4  n _ _ y20
-- X12_formula
set_option maxRecDepth 100000 in
set_option maxHeartbeats 4000000 in
theorem BKX12_formula_196 {h : ob_H} {Q : ob_H → Prop}
    (y : KX12_formula_196 h Q) : ob_J RX12 cX12_formula 4 (ob_rm 5) false none 0 0 KS NN h 196 [(0, .ref 108)] [] (ob_g none (ob_qv Q)) := by
  unfold KX12_formula_196 at y
  refine oj_aload_n 0 dX12_formula_196 rfl rfl ?_
  refine oj_geti fl_RX12_188 k_108 rfl dX12_formula_197 ?_
  refine oj_if_ne 208 dX12_formula_200 rfl (fun c31 => ?_) (fun c31 => ?_)
  · have y32 := y.2 c31
    exact oj_ret (r := none) ⟨trivial, rfl, rfl, rfl, y32⟩ dX12_formula_208 (Nat.zero_le _) (Nat.zero_le _)
  · have y33 := y.1 c31
    refine oj_aload_n 0 dX12_formula_203 rfl rfl ?_
    refine oj_iconst dX12_formula_204 ci_0 ?_
    refine oc_Vv [.int (0)] mi_RX12_313 ow_1605 op_69 rfl k_108 (BX12_close  y33) ⟨by decide, by decide⟩ ⟨Nat.le_refl _, Nat.le_refl _⟩ rfl (Nat.le_of_ble_eq_true rfl) dX12_formula_205 (fun h35 y37 => ?_)
    exact oj_ret (r := none) ⟨trivial, rfl, rfl, rfl, y37⟩ dX12_formula_208 (Nat.zero_le _) (Nat.zero_le _)
set_option maxRecDepth 100000 in
set_option maxHeartbeats 4000000 in
theorem BKX12_formula_177 {h : ob_H} {Q : ob_H → Prop}
    (y : KX12_formula_177 h Q) : ob_J RX12 cX12_formula 4 (ob_rm 5) false none 0 0 KS NN h 177 [(0, .ref 108)] [] (ob_g none (ob_qv Q)) := by
  unfold KX12_formula_177 at y
  refine oj_aload_n 0 dX12_formula_177 rfl rfl ?_
  refine oj_geti fl_RX12_188 k_108 rfl dX12_formula_178 ?_
  refine oj_if_ne 196 dX12_formula_181 rfl (fun c28 => ?_) (fun c28 => ?_)
  · have y29 := y.2 c28
    refine oj_lv [0] rfl ?_
    exact BKX12_formula_196  y29
  · have y30 := y.1 c28
    refine oj_aload_n 0 dX12_formula_184 rfl rfl ?_
    refine oc_Vpi [] mi_RX12_310 ow_1601 op_68 rfl k_108 (BX12_hasBracket  y30) ⟨by decide, by decide⟩ ⟨Nat.le_refl _, Nat.le_refl _⟩ rfl (Nat.le_of_ble_eq_true rfl) dX12_formula_185 (fun r38 f40 y41 => ?_)
    refine oj_if_eq 196 dX12_formula_188 rfl (fun c42 => ?_) (fun c42 => ?_)
    · have y43 := y41.1 c42
      refine oj_lv [0] rfl ?_
      exact BKX12_formula_196  y43
    · have y44 := y41.2 c42
      refine oj_aload_n 0 dX12_formula_191 rfl rfl ?_
      refine oj_iconst dX12_formula_192 ci_2 ?_
      refine oc_Vv [.int (2)] mi_RX12_239 ow_1507 op_46 rfl k_108 (BX12_wrong  y44) ⟨by decide, by decide⟩ ⟨Nat.le_refl _, Nat.le_refl _⟩ rfl (Nat.le_of_ble_eq_true rfl) dX12_formula_193 (fun h46 y48 => ?_)
      refine oj_lv [0] rfl ?_
      exact BKX12_formula_196  y48
set_option maxRecDepth 100000 in
set_option maxHeartbeats 4000000 in
theorem BKX12_formula_133 {x2 : Int32} {x3 : Int32} {h : ob_H} {Q : ob_H → Prop} {k50 : Int32 → ob_H → Prop} (hk50 : ∀ (x2' : Int32) (h' : ob_H), k50 x2' h' → ob_J RX12 cX12_formula 4 (ob_rm 5) false none 0 0 KS NN h' 50 [(0, .ref 108), (2, .int x2')] [] (ob_g none (ob_qv Q)))
    (y : KX12_formula_133 x2 x3 h Q k50) : ob_J RX12 cX12_formula 4 (ob_rm 5) false none 0 0 KS NN h 133 [(0, .ref 108), (2, .int x2), (3, .int x3)] [] (ob_g none (ob_qv Q)) := by
  unfold KX12_formula_133 at y
  refine oj_aload_n 0 dX12_formula_133 rfl rfl ?_
  refine oj_iload_n 2 dX12_formula_134 rfl rfl ?_
  refine oc_Spi [.int x3] mi_RX12_273 ow_1573 (BX12_tight  y) ⟨by decide, by decide⟩ ⟨Nat.le_refl _, Nat.le_refl _⟩ rfl (Nat.le_of_ble_eq_true rfl) dX12_formula_135 (fun r69 f71 y72 => ?_)
  refine oc_Vv [.int r69] mi_RX12_313 ow_1605 op_69 rfl k_108 (BX12_close  y72) ⟨by decide, by decide⟩ ⟨Nat.le_refl _, Nat.le_refl _⟩ rfl (Nat.le_of_ble_eq_true rfl) dX12_formula_138 (fun h74 y76 => ?_)
  refine oj_aload_n 0 dX12_formula_141 rfl rfl ?_
  refine oj_getr (q := 117) fl_RX12_39 k_108 rfl k_117 dX12_formula_142 ?_
  refine oj_aload_n 0 dX12_formula_145 rfl rfl ?_
  refine oj_geti fl_RX12_270 k_108 rfl dX12_formula_146 ?_
  refine oj_iload_n 2 dX12_formula_149 rfl rfl ?_
  obtain ⟨c77, y78⟩ := y76
  refine oj_iast k_117 c77 rfl dX12_formula_150 ?_
  refine oj_toph (fun h79 eh79 => ?_)
  have y80 := Lt_at y78 h79 eh79
  refine oj_aload_n 0 dX12_formula_151 rfl rfl ?_
  refine oj_dup dX12_formula_152 rfl ?_
  refine oj_geti fl_RX12_270 k_108 rfl dX12_formula_153 ?_
  refine oj_iconst dX12_formula_156 ci_1 ?_
  refine oj_iadd dX12_formula_157 ?_
  refine oj_puti fl_RX12_270 (Or.inl rfl) k_108 rfl rfl rfl dX12_formula_158 ?_
  refine oj_toph (fun h81 eh81 => ?_)
  have y82 := Lt_at y80 h81 eh81
  refine oj_aload_n 0 dX12_formula_161 rfl rfl ?_
  refine oc_Vv [] mi_RX12_242 ow_1450 op_39 rfl k_108 (BX12_token  y82) ⟨by decide, by decide⟩ ⟨Nat.le_refl _, Nat.le_refl _⟩ rfl (Nat.le_of_ble_eq_true rfl) dX12_formula_162 (fun h84 y86 => ?_)
  refine oj_aload_n 0 dX12_formula_165 rfl rfl ?_
  refine oc_Vv [] mi_RX12_304 ow_1566 op_60 rfl k_108 (BX12_unit  y86) ⟨by decide, by decide⟩ ⟨Nat.le_refl _, Nat.le_refl _⟩ rfl (Nat.le_of_ble_eq_true rfl) dX12_formula_166 (fun h88 y90 => ?_)
  refine oj_goto 174 dX12_formula_169 rfl ?_
  refine oj_goto 50 dX12_formula_174 rfl ?_
  refine oj_lv [0, 1] rfl ?_
  exact hk50 _ _ y90
set_option maxRecDepth 100000 in
set_option maxHeartbeats 4000000 in
theorem BKX12_formula_114 {x2 : Int32} {x3 : Int32} {h : ob_H} {Q : ob_H → Prop} {k50 : Int32 → ob_H → Prop} (hk50 : ∀ (x2' : Int32) (h' : ob_H), k50 x2' h' → ob_J RX12 cX12_formula 4 (ob_rm 5) false none 0 0 KS NN h' 50 [(0, .ref 108), (2, .int x2')] [] (ob_g none (ob_qv Q)))
    (y : KX12_formula_114 x2 x3 h Q k50) : ob_J RX12 cX12_formula 4 (ob_rm 5) false none 0 0 KS NN h 114 [(0, .ref 108), (2, .int x2), (3, .int x3)] [] (ob_g none (ob_qv Q)) := by
  unfold KX12_formula_114 at y
  refine oj_iload_n 2 dX12_formula_114 rfl rfl ?_
  refine oj_if_eq 172 dX12_formula_115 rfl (fun c59 => ?_) (fun c59 => ?_)
  · have y60 := y.1 c59
    refine oj_iconst dX12_formula_172 ci_0 ?_
    refine oj_istore_n (lv' := [(2, .int (0)), (0, .ref 108), (3, .int x3)]) dX12_formula_173 rfl (by decide) rfl ?_
    refine oj_goto 50 dX12_formula_174 rfl ?_
    refine oj_lv [1, 0] rfl ?_
    exact hk50 _ _ y60
  · have y61 := y.2 c59
    refine oj_iload_n 2 dX12_formula_118 rfl rfl ?_
    refine oc_Spi [.int x3] mi_RX12_273 ow_1573 (BX12_tight  y61) ⟨by decide, by decide⟩ ⟨Nat.le_refl _, Nat.le_refl _⟩ rfl (Nat.le_of_ble_eq_true rfl) dX12_formula_119 (fun r62 f64 y65 => ?_)
    refine oj_iconst dX12_formula_122 ci_4 ?_
    refine oj_icmp_ne 133 dX12_formula_123 rfl (fun c66 => ?_) (fun c66 => ?_)
    · have y67 := y65.2 c66
      refine oj_lv [0, 1, 2] rfl ?_
      exact BKX12_formula_133 hk50 y67
    · have y68 := y65.1 c66
      refine oj_aload_n 0 dX12_formula_126 rfl rfl ?_
      refine oc_Vpi [] mi_RX12_316 ow_1609 op_70 rfl k_108 (BX12_hasRelation  y68) ⟨by decide, by decide⟩ ⟨Nat.le_refl _, Nat.le_refl _⟩ rfl (Nat.le_of_ble_eq_true rfl) dX12_formula_127 (fun r91 f93 y94 => ?_)
      refine oj_if_ne 172 dX12_formula_130 rfl (fun c95 => ?_) (fun c95 => ?_)
      · have y96 := y94.2 c95
        refine oj_iconst dX12_formula_172 ci_0 ?_
        refine oj_istore_n (lv' := [(2, .int (0)), (0, .ref 108), (3, .int x3)]) dX12_formula_173 rfl (by decide) rfl ?_
        refine oj_goto 50 dX12_formula_174 rfl ?_
        refine oj_lv [1, 0] rfl ?_
        exact hk50 _ _ y96
      · have y97 := y94.1 c95
        refine oj_lv [0, 1, 2] rfl ?_
        exact BKX12_formula_133 hk50 y97
set_option maxRecDepth 100000 in
set_option maxHeartbeats 4000000 in
theorem BLX12_formula_50 {Q : ob_H → Prop} :
    ∀ (n : Nat) (x2 : Int32) (h : ob_H), it2 (FX12_formula_50 Q) n x2 h → ob_J RX12 cX12_formula 4 (ob_rm 5) false none 0 0 KS NN h 50 [(0, .ref 108), (2, .int x2)] [] (ob_g none (ob_qv Q)) := by
  intro n
  induction n with
  | zero => intro x2 h y; exact False.elim y
  | succ n hk50 =>
    intro x2 h y
    have y : FX12_formula_50 Q (it2 (FX12_formula_50 Q) n) x2 h := y
    unfold FX12_formula_50 at y
    refine oj_iload_n 1 dX12_formula_50 rfl rfl ?_
    refine oj_if_eq 177 dX12_formula_51 rfl (fun c25 => ?_) (fun c25 => ?_)
    · have y26 := y.1 c25
      refine oj_lv [0] rfl ?_
      exact BKX12_formula_177  y26
    · have y27 := y.2 c25
      refine oj_aload_n 0 dX12_formula_54 rfl rfl ?_
      refine oj_geti fl_RX12_188 k_108 rfl dX12_formula_55 ?_
      refine oj_if_ne 177 dX12_formula_58 rfl (fun c49 => ?_) (fun c49 => ?_)
      · have y50 := y27.2 c49
        refine oj_lv [0] rfl ?_
        exact BKX12_formula_177  y50
      · have y51 := y27.1 c49
        refine oj_aload_n 0 dX12_formula_61 rfl rfl ?_
        refine oc_Vpi [] mi_RX12_307 ow_1597 op_67 rfl k_108 (BX12_sign  y51) ⟨by decide, by decide⟩ ⟨Nat.le_refl _, Nat.le_refl _⟩ rfl (Nat.le_of_ble_eq_true rfl) dX12_formula_62 (fun r52 f54 y55 => ?_)
        refine oj_istore_n (lv' := [(3, .int r52), (0, .ref 108), (2, .int x2)]) dX12_formula_65 rfl (by decide) rfl ?_
        refine oj_aload_n 1 dX12_formula_66 rfl rfl ?_
        refine oj_geti fl_RX12_175 k_108 rfl dX12_formula_67 ?_
        refine oj_bipush dX12_formula_70 cb_41 ?_
        refine oj_icmp_ne 114 dX12_formula_72 rfl (fun c56 => ?_) (fun c56 => ?_)
        · have y57 := y55.2 c56
          refine oj_lv [1, 2, 0] rfl ?_
          exact BKX12_formula_114 hk50 y57
        · have y58 := y55.1 c56
          refine oj_aload_n 1 dX12_formula_75 rfl rfl ?_
          refine oc_Vpi [] mi_RX12_310 ow_1601 op_68 rfl k_108 (BX12_hasBracket  y58) ⟨by decide, by decide⟩ ⟨Nat.le_refl _, Nat.le_refl _⟩ rfl (Nat.le_of_ble_eq_true rfl) dX12_formula_76 (fun r98 f100 y101 => ?_)
          refine oj_if_eq 114 dX12_formula_79 rfl (fun c102 => ?_) (fun c102 => ?_)
          · have y103 := y101.1 c102
            refine oj_lv [1, 2, 0] rfl ?_
            exact BKX12_formula_114 hk50 y103
          · have y104 := y101.2 c102
            refine oj_aload_n 1 dX12_formula_82 rfl rfl ?_
            refine oj_iconst dX12_formula_83 ci_0 ?_
            refine oc_Vv [.int (0)] mi_RX12_313 ow_1605 op_69 rfl k_108 (BX12_close  y104) ⟨by decide, by decide⟩ ⟨Nat.le_refl _, Nat.le_refl _⟩ rfl (Nat.le_of_ble_eq_true rfl) dX12_formula_84 (fun h106 y108 => ?_)
            refine oj_aload_n 1 dX12_formula_87 rfl rfl ?_
            refine oj_dup dX12_formula_88 rfl ?_
            refine oj_geti fl_RX12_270 k_108 rfl dX12_formula_89 ?_
            refine oj_iconst dX12_formula_92 ci_1 ?_
            refine oj_isub dX12_formula_93 ?_
            refine oj_puti fl_RX12_270 (Or.inl rfl) k_108 rfl rfl rfl dX12_formula_94 ?_
            refine oj_toph (fun h109 eh109 => ?_)
            have y110 := Lt_at y108 h109 eh109
            refine oj_aload_n 1 dX12_formula_97 rfl rfl ?_
            refine oj_dup dX12_formula_98 rfl ?_
            refine oj_geti fl_RX12_280 k_108 rfl dX12_formula_99 ?_
            refine oj_iconst dX12_formula_102 ci_1 ?_
            refine oj_isub dX12_formula_103 ?_
            refine oj_puti fl_RX12_280 (Or.inl rfl) k_108 rfl rfl rfl dX12_formula_104 ?_
            refine oj_toph (fun h111 eh111 => ?_)
            have y112 := Lt_at y110 h111 eh111
            refine oj_aload_n 1 dX12_formula_107 rfl rfl ?_
            refine oc_Vv [] mi_RX12_242 ow_1450 op_39 rfl k_108 (BX12_token  y112) ⟨by decide, by decide⟩ ⟨Nat.le_refl _, Nat.le_refl _⟩ rfl (Nat.le_of_ble_eq_true rfl) dX12_formula_108 (fun h114 y116 => ?_)
            refine oj_goto 174 dX12_formula_111 rfl ?_
            refine oj_goto 50 dX12_formula_174 rfl ?_
            refine oj_lv [1, 2] rfl ?_
            exact hk50 _ _ y116
set_option maxRecDepth 100000 in
set_option maxHeartbeats 4000000 in
theorem BX12_formula  {p1 : Int32}  {h : ob_H} {Q : ob_H → Prop} (y : MX12_formula  p1 h Q) : ob_T yX12_formula cX12_formula 4 none (ob_rm 5) KS NN h [.ref 108, .int p1] (ob_g none (ob_qv Q)) := by
  unfold MX12_formula at y
  refine ob_T_gf (by decide +kernel) (Nat.le_of_ble_eq_true rfl) ?_
  show ob_J RX12 cX12_formula 4 (ob_rm 5) false none 0 0 KS NN h 0 [(0, .ref 108), (1, .int p1)] [] (ob_g none (ob_qv Q))
  refine oj_aload_n 0 dX12_formula_0 rfl rfl ?_
  refine oc_Vv [] mi_RX12_242 ow_1450 op_39 rfl k_108 (BX12_token  y) ⟨by decide, by decide⟩ ⟨Nat.le_refl _, Nat.le_refl _⟩ rfl (Nat.le_of_ble_eq_true rfl) dX12_formula_1 (fun h2 y4 => ?_)
  refine oj_aload_n 0 dX12_formula_4 rfl rfl ?_
  refine oj_iload_n 1 dX12_formula_5 rfl rfl ?_
  refine oj_puti fl_RX12_267 (Or.inl rfl) k_108 rfl rfl rfl dX12_formula_6 ?_
  refine oj_toph (fun h5 eh5 => ?_)
  have y6 := Lt_at y4 h5 eh5
  refine oj_aload_n 0 dX12_formula_9 rfl rfl ?_
  refine oj_getr (q := 119) fl_RX12_45 k_108 rfl k_119 dX12_formula_10 ?_
  refine oj_aload_n 0 dX12_formula_13 rfl rfl ?_
  refine oj_geti fl_RX12_267 k_108 rfl dX12_formula_14 ?_
  refine oj_iconst dX12_formula_17 ci_1 ?_
  obtain ⟨c7, y8⟩ := y6
  refine oj_zast k_119 c7 rfl dX12_formula_18 ?_
  refine oj_toph (fun h9 eh9 => ?_)
  have y10 := Lt_at y8 h9 eh9
  refine oj_aload_n 0 dX12_formula_19 rfl rfl ?_
  refine oj_getr (q := 113) fl_RX12_27 k_108 rfl k_113 dX12_formula_20 ?_
  refine oj_aload_n 0 dX12_formula_23 rfl rfl ?_
  refine oj_geti fl_RX12_267 k_108 rfl dX12_formula_24 ?_
  refine oj_iconst dX12_formula_27 ci_0 ?_
  obtain ⟨c11, y12⟩ := y10
  refine oj_iast k_113 c11 rfl dX12_formula_28 ?_
  refine oj_toph (fun h13 eh13 => ?_)
  have y14 := Lt_at y12 h13 eh13
  refine oj_aload_n 0 dX12_formula_29 rfl rfl ?_
  refine oj_iconst dX12_formula_30 ci_0 ?_
  refine oj_puti fl_RX12_270 (Or.inl rfl) k_108 rfl rfl rfl dX12_formula_31 ?_
  refine oj_toph (fun h15 eh15 => ?_)
  have y16 := Lt_at y14 h15 eh15
  refine oj_aload_n 0 dX12_formula_34 rfl rfl ?_
  refine oj_iconst dX12_formula_35 ci_0 ?_
  refine oj_puti fl_RX12_280 (Or.inl rfl) k_108 rfl rfl rfl dX12_formula_36 ?_
  refine oj_toph (fun h17 eh17 => ?_)
  have y18 := Lt_at y16 h17 eh17
  refine oj_aload_n 0 dX12_formula_39 rfl rfl ?_
  refine oj_iconst dX12_formula_40 ci_0 ?_
  refine oj_puti fl_RX12_286 (Or.inl rfl) k_108 rfl rfl rfl dX12_formula_41 ?_
  refine oj_toph (fun h19 eh19 => ?_)
  have y20 := Lt_at y18 h19 eh19
  refine oj_aload_n 0 dX12_formula_44 rfl rfl ?_
  refine oc_Vv [] mi_RX12_304 ow_1566 op_60 rfl k_108 (BX12_unit  y20) ⟨by decide, by decide⟩ ⟨Nat.le_refl _, Nat.le_refl _⟩ rfl (Nat.le_of_ble_eq_true rfl) dX12_formula_45 (fun h22 y24 => ?_)
  refine oj_iconst dX12_formula_48 ci_1 ?_
  refine oj_istore_n (lv' := [(2, .int (1)), (0, .ref 108), (1, .int p1)]) dX12_formula_49 rfl (by decide) rfl ?_
  refine oj_lv [1, 0] rfl ?_
  obtain ⟨n, y117⟩ := y24
  exact BLX12_formula_50  n _ _ y117
-- X12_truth
set_option maxRecDepth 100000 in
set_option maxHeartbeats 4000000 in
theorem BX12_truth  {p0 : Int32}  {h : ob_H} {Q : Int32 → Prop} (y : MX12_truth  p0 h Q) : ob_T yX12_truth cX12_truth 1 (some .int) (ob_rm 1) KS NN h [.int p0] (ob_g (some .int) (ob_pi h Q)) := by
  unfold MX12_truth at y
  refine ob_T_gf (by decide +kernel) (Nat.le_of_ble_eq_true rfl) ?_
  show ob_J RX12 cX12_truth 1 (ob_rm 1) false none 0 0 KS NN h 0 [(0, .int p0)] [] (ob_g (some .int) (ob_pi h Q))
  refine oj_iload_n 0 dX12_truth_0 rfl rfl ?_
  refine oj_if_eq 8 dX12_truth_1 rfl (fun c1 => ?_) (fun c1 => ?_)
  · have y2 := y.1 c1
    refine oj_iconst dX12_truth_8 ci_0 ?_
    exact oj_ret (r := some (.int (0))) ⟨trivial, rfl, rfl, rfl, (0), rfl, y2⟩ dX12_truth_9 (Nat.zero_le _) (Nat.zero_le _)
  · have y3 := y.2 c1
    refine oj_iconst dX12_truth_4 ci_1 ?_
    refine oj_goto 9 dX12_truth_5 rfl ?_
    exact oj_ret (r := some (.int (1))) ⟨trivial, rfl, rfl, rfl, (1), rfl, y3⟩ dX12_truth_9 (Nat.zero_le _) (Nat.zero_le _)
-- X12_done
set_option maxRecDepth 100000 in
set_option maxHeartbeats 4000000 in
theorem BKX12_done_211 {s0 : Int32} {h : ob_H} {Q : Int32 → Prop}
    (y : KX12_done_211 s0 h Q) : ob_J RX12 cX12_done 3 (ob_rm 2) false none 0 0 KS NN h 211 [] [.int s0] (ob_g (some .int) (ob_pi h Q)) := by
  unfold KX12_done_211 at y
  refine oc_Spi [.int s0] mi_RX12_319 ow_1534 (BX12_truth  y) ⟨by decide, by decide⟩ ⟨Nat.le_refl _, Nat.le_refl _⟩ rfl (Nat.le_of_ble_eq_true rfl) dX12_done_211 (fun r14 f16 y17 => ?_)
  exact oj_ret (r := some (.int r14)) ⟨trivial, rfl, rfl, rfl, r14, rfl, y17⟩ dX12_done_214 (Nat.zero_le _) (Nat.zero_le _)
set_option maxRecDepth 100000 in
set_option maxHeartbeats 4000000 in
theorem BKX12_done_166 {s0 : Int32} {h : ob_H} {Q : Int32 → Prop}
    (y : KX12_done_166 s0 h Q) : ob_J RX12 cX12_done 3 (ob_rm 2) false none 0 0 KS NN h 166 [] [.int s0] (ob_g (some .int) (ob_pi h Q)) := by
  unfold KX12_done_166 at y
  refine oc_Spi [.int s0] mi_RX12_319 ow_1534 (BX12_truth  y) ⟨by decide, by decide⟩ ⟨Nat.le_refl _, Nat.le_refl _⟩ rfl (Nat.le_of_ble_eq_true rfl) dX12_done_166 (fun r44 f46 y47 => ?_)
  exact oj_ret (r := some (.int r44)) ⟨trivial, rfl, rfl, rfl, r44, rfl, y47⟩ dX12_done_169 (Nat.zero_le _) (Nat.zero_le _)
set_option maxRecDepth 100000 in
set_option maxHeartbeats 4000000 in
theorem BKX12_done_194 {s0 : Int32} {h : ob_H} {Q : Int32 → Prop}
    (y : KX12_done_194 s0 h Q) : ob_J RX12 cX12_done 3 (ob_rm 2) false none 0 0 KS NN h 194 [] [.int s0] (ob_g (some .int) (ob_pi h Q)) := by
  unfold KX12_done_194 at y
  refine oc_Spi [.int s0] mi_RX12_319 ow_1534 (BX12_truth  y) ⟨by decide, by decide⟩ ⟨Nat.le_refl _, Nat.le_refl _⟩ rfl (Nat.le_of_ble_eq_true rfl) dX12_done_194 (fun r54 f56 y57 => ?_)
  exact oj_ret (r := some (.int r54)) ⟨trivial, rfl, rfl, rfl, r54, rfl, y57⟩ dX12_done_197 (Nat.zero_le _) (Nat.zero_le _)
set_option maxRecDepth 100000 in
set_option maxHeartbeats 4000000 in
theorem BKX12_done_180 {s0 : Int32} {h : ob_H} {Q : Int32 → Prop}
    (y : KX12_done_180 s0 h Q) : ob_J RX12 cX12_done 3 (ob_rm 2) false none 0 0 KS NN h 180 [] [.int s0] (ob_g (some .int) (ob_pi h Q)) := by
  unfold KX12_done_180 at y
  refine oc_Spi [.int s0] mi_RX12_319 ow_1534 (BX12_truth  y) ⟨by decide, by decide⟩ ⟨Nat.le_refl _, Nat.le_refl _⟩ rfl (Nat.le_of_ble_eq_true rfl) dX12_done_180 (fun r64 f66 y67 => ?_)
  exact oj_ret (r := some (.int r64)) ⟨trivial, rfl, rfl, rfl, r64, rfl, y67⟩ dX12_done_183 (Nat.zero_le _) (Nat.zero_le _)
set_option maxRecDepth 100000 in
set_option maxHeartbeats 4000000 in
theorem BKX12_done_228 {s0 : Int32} {h : ob_H} {Q : Int32 → Prop}
    (y : KX12_done_228 s0 h Q) : ob_J RX12 cX12_done 3 (ob_rm 2) false none 0 0 KS NN h 228 [] [.int s0] (ob_g (some .int) (ob_pi h Q)) := by
  unfold KX12_done_228 at y
  refine oc_Spi [.int s0] mi_RX12_319 ow_1534 (BX12_truth  y) ⟨by decide, by decide⟩ ⟨Nat.le_refl _, Nat.le_refl _⟩ rfl (Nat.le_of_ble_eq_true rfl) dX12_done_228 (fun r72 f74 y75 => ?_)
  exact oj_ret (r := some (.int r72)) ⟨trivial, rfl, rfl, rfl, r72, rfl, y75⟩ dX12_done_231 (Nat.zero_le _) (Nat.zero_le _)
set_option maxRecDepth 100000 in
set_option maxHeartbeats 4000000 in
theorem BX12_done  {p0 : Int32} {p1 : Int32} {p2 : Int32}  {h : ob_H} {Q : Int32 → Prop} (y : MX12_done  p0 p1 p2 h Q) : ob_T yX12_done cX12_done 3 (some .int) (ob_rm 2) KS NN h [.int p0, .int p1, .int p2] (ob_g (some .int) (ob_pi h Q)) := by
  unfold MX12_done at y
  refine ob_T_gf (by decide +kernel) (Nat.le_of_ble_eq_true rfl) ?_
  show ob_J RX12 cX12_done 3 (ob_rm 2) false none 0 0 KS NN h 0 [(0, .int p0), (1, .int p1), (2, .int p2)] [] (ob_g (some .int) (ob_pi h Q))
  refine oj_iload_n 0 dX12_done_0 rfl rfl ?_
  by_cases c1 : p0 = (37)
  · have y2 := y.1 c1
    refine oj_tableIn 144 dX12_done_1 (by rw [c1] <;> decide) (by rw [c1] <;> decide) (by rw [c1] <;> rfl) rfl ?_
    refine oj_iload_n 2 dX12_done_144 rfl rfl ?_
    refine oj_if_ne 152 dX12_done_145 rfl (fun c3 => ?_) (fun c3 => ?_)
    · have y4 := y2.2 c3
      refine oj_iload_n 1 dX12_done_152 rfl rfl ?_
      refine oj_iload_n 2 dX12_done_153 rfl rfl ?_
      obtain ⟨c6, y7⟩ := y4
      refine oj_irem dX12_done_154 c6 ?_
      exact oj_ret (r := some (.int (irm p1 p2))) ⟨trivial, rfl, rfl, rfl, (irm p1 p2), rfl, y7⟩ dX12_done_155 (Nat.zero_le _) (Nat.zero_le _)
    · have y5 := y2.1 c3
      refine oj_iconst dX12_done_148 ci_0 ?_
      refine oj_goto 155 dX12_done_149 rfl ?_
      exact oj_ret (r := some (.int (0))) ⟨trivial, rfl, rfl, rfl, (0), rfl, y5⟩ dX12_done_155 (Nat.zero_le _) (Nat.zero_le _)
  have y8 := y.2 c1
  by_cases c9 : p0 = (38)
  · have y10 := y8.1 c9
    refine oj_tableIn 198 dX12_done_1 (by rw [c9] <;> decide) (by rw [c9] <;> decide) (by rw [c9] <;> rfl) rfl ?_
    refine oj_iload_n 1 dX12_done_198 rfl rfl ?_
    refine oj_if_eq 210 dX12_done_199 rfl (fun c11 => ?_) (fun c11 => ?_)
    · have y12 := y10.1 c11
      refine oj_iconst dX12_done_210 ci_0 ?_
      refine oj_lv [] rfl ?_
      exact BKX12_done_211  y12
    · have y13 := y10.2 c11
      refine oj_iload_n 2 dX12_done_202 rfl rfl ?_
      refine oj_if_eq 210 dX12_done_203 rfl (fun c18 => ?_) (fun c18 => ?_)
      · have y19 := y13.1 c18
        refine oj_iconst dX12_done_210 ci_0 ?_
        refine oj_lv [] rfl ?_
        exact BKX12_done_211  y19
      · have y20 := y13.2 c18
        refine oj_iconst dX12_done_206 ci_1 ?_
        refine oj_goto 211 dX12_done_207 rfl ?_
        refine oj_lv [] rfl ?_
        exact BKX12_done_211  y20
  have y21 := y8.2 c9
  by_cases c22 : p0 = (42)
  · have y23 := y21.1 c22
    refine oj_tableIn 128 dX12_done_1 (by rw [c22] <;> decide) (by rw [c22] <;> decide) (by rw [c22] <;> rfl) rfl ?_
    refine oj_iload_n 1 dX12_done_128 rfl rfl ?_
    refine oj_iload_n 2 dX12_done_129 rfl rfl ?_
    refine oj_imul dX12_done_130 ?_
    exact oj_ret (r := some (.int (p1 * p2))) ⟨trivial, rfl, rfl, rfl, (p1 * p2), rfl, y23⟩ dX12_done_131 (Nat.zero_le _) (Nat.zero_le _)
  have y24 := y21.2 c22
  by_cases c25 : p0 = (43)
  · have y26 := y24.1 c25
    refine oj_tableIn 120 dX12_done_1 (by rw [c25] <;> decide) (by rw [c25] <;> decide) (by rw [c25] <;> rfl) rfl ?_
    refine oj_iload_n 1 dX12_done_120 rfl rfl ?_
    refine oj_iload_n 2 dX12_done_121 rfl rfl ?_
    refine oj_iadd dX12_done_122 ?_
    exact oj_ret (r := some (.int (p1 + p2))) ⟨trivial, rfl, rfl, rfl, (p1 + p2), rfl, y26⟩ dX12_done_123 (Nat.zero_le _) (Nat.zero_le _)
  have y27 := y24.2 c25
  by_cases c28 : p0 = (45)
  · have y29 := y27.1 c28
    refine oj_tableIn 124 dX12_done_1 (by rw [c28] <;> decide) (by rw [c28] <;> decide) (by rw [c28] <;> rfl) rfl ?_
    refine oj_iload_n 1 dX12_done_124 rfl rfl ?_
    refine oj_iload_n 2 dX12_done_125 rfl rfl ?_
    refine oj_isub dX12_done_126 ?_
    exact oj_ret (r := some (.int (p1 - p2))) ⟨trivial, rfl, rfl, rfl, (p1 - p2), rfl, y29⟩ dX12_done_127 (Nat.zero_le _) (Nat.zero_le _)
  have y30 := y27.2 c28
  by_cases c31 : p0 = (47)
  · have y32 := y30.1 c31
    refine oj_tableIn 132 dX12_done_1 (by rw [c31] <;> decide) (by rw [c31] <;> decide) (by rw [c31] <;> rfl) rfl ?_
    refine oj_iload_n 2 dX12_done_132 rfl rfl ?_
    refine oj_if_ne 140 dX12_done_133 rfl (fun c33 => ?_) (fun c33 => ?_)
    · have y34 := y32.2 c33
      refine oj_iload_n 1 dX12_done_140 rfl rfl ?_
      refine oj_iload_n 2 dX12_done_141 rfl rfl ?_
      obtain ⟨c36, y37⟩ := y34
      refine oj_idiv dX12_done_142 c36 ?_
      exact oj_ret (r := some (.int (p1 / p2))) ⟨trivial, rfl, rfl, rfl, (p1 / p2), rfl, y37⟩ dX12_done_143 (Nat.zero_le _) (Nat.zero_le _)
    · have y35 := y32.1 c33
      refine oj_iconst dX12_done_136 ci_0 ?_
      refine oj_goto 143 dX12_done_137 rfl ?_
      exact oj_ret (r := some (.int (0))) ⟨trivial, rfl, rfl, rfl, (0), rfl, y35⟩ dX12_done_143 (Nat.zero_le _) (Nat.zero_le _)
  have y38 := y30.2 c31
  by_cases c39 : p0 = (60)
  · have y40 := y38.1 c39
    refine oj_tableIn 156 dX12_done_1 (by rw [c39] <;> decide) (by rw [c39] <;> decide) (by rw [c39] <;> rfl) rfl ?_
    refine oj_iload_n 1 dX12_done_156 rfl rfl ?_
    refine oj_iload_n 2 dX12_done_157 rfl rfl ?_
    refine oj_icmp_ge 165 dX12_done_158 rfl (fun c41 => ?_) (fun c41 => ?_)
    · have y42 := y40.1 c41
      refine oj_iconst dX12_done_165 ci_0 ?_
      refine oj_lv [] rfl ?_
      exact BKX12_done_166  y42
    · have y43 := y40.2 c41
      refine oj_iconst dX12_done_161 ci_1 ?_
      refine oj_goto 166 dX12_done_162 rfl ?_
      refine oj_lv [] rfl ?_
      exact BKX12_done_166  y43
  have y48 := y38.2 c39
  by_cases c49 : p0 = (61)
  · have y50 := y48.1 c49
    refine oj_tableIn 184 dX12_done_1 (by rw [c49] <;> decide) (by rw [c49] <;> decide) (by rw [c49] <;> rfl) rfl ?_
    refine oj_iload_n 1 dX12_done_184 rfl rfl ?_
    refine oj_iload_n 2 dX12_done_185 rfl rfl ?_
    refine oj_icmp_ne 193 dX12_done_186 rfl (fun c51 => ?_) (fun c51 => ?_)
    · have y52 := y50.2 c51
      refine oj_iconst dX12_done_193 ci_0 ?_
      refine oj_lv [] rfl ?_
      exact BKX12_done_194  y52
    · have y53 := y50.1 c51
      refine oj_iconst dX12_done_189 ci_1 ?_
      refine oj_goto 194 dX12_done_190 rfl ?_
      refine oj_lv [] rfl ?_
      exact BKX12_done_194  y53
  have y58 := y48.2 c49
  by_cases c59 : p0 = (62)
  · have y60 := y58.1 c59
    refine oj_tableIn 170 dX12_done_1 (by rw [c59] <;> decide) (by rw [c59] <;> decide) (by rw [c59] <;> rfl) rfl ?_
    refine oj_iload_n 1 dX12_done_170 rfl rfl ?_
    refine oj_iload_n 2 dX12_done_171 rfl rfl ?_
    refine oj_icmp_le 179 dX12_done_172 rfl (fun c61 => ?_) (fun c61 => ?_)
    · have y62 := y60.1 c61
      refine oj_iconst dX12_done_179 ci_0 ?_
      refine oj_lv [] rfl ?_
      exact BKX12_done_180  y62
    · have y63 := y60.2 c61
      refine oj_iconst dX12_done_175 ci_1 ?_
      refine oj_goto 180 dX12_done_176 rfl ?_
      refine oj_lv [] rfl ?_
      exact BKX12_done_180  y63
  have y68 := y58.2 c59
  have hd79 : ob_J RX12 cX12_done 3 (ob_rm 2) false none 0 0 KS NN h 215 [(0, .int p0), (1, .int p1), (2, .int p2)] [] (ob_g (some .int) (ob_pi h Q)) := by
    refine oj_iload_n 1 dX12_done_215 rfl rfl ?_
    refine oj_if_ne 223 dX12_done_216 rfl (fun c69 => ?_) (fun c69 => ?_)
    · have y70 := y68.2 c69
      refine oj_iconst dX12_done_223 ci_1 ?_
      refine oj_goto 228 dX12_done_224 rfl ?_
      refine oj_lv [] rfl ?_
      exact BKX12_done_228  y70
    · have y71 := y68.1 c69
      refine oj_iload_n 2 dX12_done_219 rfl rfl ?_
      refine oj_if_eq 227 dX12_done_220 rfl (fun c76 => ?_) (fun c76 => ?_)
      · have y77 := y71.1 c76
        refine oj_iconst dX12_done_227 ci_0 ?_
        refine oj_lv [] rfl ?_
        exact BKX12_done_228  y77
      · have y78 := y71.2 c76
        refine oj_iconst dX12_done_223 ci_1 ?_
        refine oj_goto 228 dX12_done_224 rfl ?_
        refine oj_lv [] rfl ?_
        exact BKX12_done_228  y78
  by_cases c80 : p0 = (39)
  · exact oj_tableIn 215 dX12_done_1 (by rw [c80] <;> decide) (by rw [c80] <;> decide) (by rw [c80] <;> rfl) rfl hd79
  by_cases c81 : p0 = (40)
  · exact oj_tableIn 215 dX12_done_1 (by rw [c81] <;> decide) (by rw [c81] <;> decide) (by rw [c81] <;> rfl) rfl hd79
  by_cases c82 : p0 = (41)
  · exact oj_tableIn 215 dX12_done_1 (by rw [c82] <;> decide) (by rw [c82] <;> decide) (by rw [c82] <;> rfl) rfl hd79
  by_cases c83 : p0 = (44)
  · exact oj_tableIn 215 dX12_done_1 (by rw [c83] <;> decide) (by rw [c83] <;> decide) (by rw [c83] <;> rfl) rfl hd79
  by_cases c84 : p0 = (46)
  · exact oj_tableIn 215 dX12_done_1 (by rw [c84] <;> decide) (by rw [c84] <;> decide) (by rw [c84] <;> rfl) rfl hd79
  by_cases c85 : p0 = (48)
  · exact oj_tableIn 215 dX12_done_1 (by rw [c85] <;> decide) (by rw [c85] <;> decide) (by rw [c85] <;> rfl) rfl hd79
  by_cases c86 : p0 = (49)
  · exact oj_tableIn 215 dX12_done_1 (by rw [c86] <;> decide) (by rw [c86] <;> decide) (by rw [c86] <;> rfl) rfl hd79
  by_cases c87 : p0 = (50)
  · exact oj_tableIn 215 dX12_done_1 (by rw [c87] <;> decide) (by rw [c87] <;> decide) (by rw [c87] <;> rfl) rfl hd79
  by_cases c88 : p0 = (51)
  · exact oj_tableIn 215 dX12_done_1 (by rw [c88] <;> decide) (by rw [c88] <;> decide) (by rw [c88] <;> rfl) rfl hd79
  by_cases c89 : p0 = (52)
  · exact oj_tableIn 215 dX12_done_1 (by rw [c89] <;> decide) (by rw [c89] <;> decide) (by rw [c89] <;> rfl) rfl hd79
  by_cases c90 : p0 = (53)
  · exact oj_tableIn 215 dX12_done_1 (by rw [c90] <;> decide) (by rw [c90] <;> decide) (by rw [c90] <;> rfl) rfl hd79
  by_cases c91 : p0 = (54)
  · exact oj_tableIn 215 dX12_done_1 (by rw [c91] <;> decide) (by rw [c91] <;> decide) (by rw [c91] <;> rfl) rfl hd79
  by_cases c92 : p0 = (55)
  · exact oj_tableIn 215 dX12_done_1 (by rw [c92] <;> decide) (by rw [c92] <;> decide) (by rw [c92] <;> rfl) rfl hd79
  by_cases c93 : p0 = (56)
  · exact oj_tableIn 215 dX12_done_1 (by rw [c93] <;> decide) (by rw [c93] <;> decide) (by rw [c93] <;> rfl) rfl hd79
  by_cases c94 : p0 = (57)
  · exact oj_tableIn 215 dX12_done_1 (by rw [c94] <;> decide) (by rw [c94] <;> decide) (by rw [c94] <;> rfl) rfl hd79
  by_cases c95 : p0 = (58)
  · exact oj_tableIn 215 dX12_done_1 (by rw [c95] <;> decide) (by rw [c95] <;> decide) (by rw [c95] <;> rfl) rfl hd79
  by_cases c96 : p0 = (59)
  · exact oj_tableIn 215 dX12_done_1 (by rw [c96] <;> decide) (by rw [c96] <;> decide) (by rw [c96] <;> rfl) rfl hd79
  exact oj_tableOut 215 dX12_done_1 (by have nc1 := lv_neT c1 (show (37 : Int32).toInt = 37 by decide); have nc9 := lv_neT c9 (show (38 : Int32).toInt = 38 by decide); have nc22 := lv_neT c22 (show (42 : Int32).toInt = 42 by decide); have nc25 := lv_neT c25 (show (43 : Int32).toInt = 43 by decide); have nc28 := lv_neT c28 (show (45 : Int32).toInt = 45 by decide); have nc31 := lv_neT c31 (show (47 : Int32).toInt = 47 by decide); have nc39 := lv_neT c39 (show (60 : Int32).toInt = 60 by decide); have nc49 := lv_neT c49 (show (61 : Int32).toInt = 61 by decide); have nc59 := lv_neT c59 (show (62 : Int32).toInt = 62 by decide); have nc80 := lv_neT c80 (show (39 : Int32).toInt = 39 by decide); have nc81 := lv_neT c81 (show (40 : Int32).toInt = 40 by decide); have nc82 := lv_neT c82 (show (41 : Int32).toInt = 41 by decide); have nc83 := lv_neT c83 (show (44 : Int32).toInt = 44 by decide); have nc84 := lv_neT c84 (show (46 : Int32).toInt = 46 by decide); have nc85 := lv_neT c85 (show (48 : Int32).toInt = 48 by decide); have nc86 := lv_neT c86 (show (49 : Int32).toInt = 49 by decide); have nc87 := lv_neT c87 (show (50 : Int32).toInt = 50 by decide); have nc88 := lv_neT c88 (show (51 : Int32).toInt = 51 by decide); have nc89 := lv_neT c89 (show (52 : Int32).toInt = 52 by decide); have nc90 := lv_neT c90 (show (53 : Int32).toInt = 53 by decide); have nc91 := lv_neT c91 (show (54 : Int32).toInt = 54 by decide); have nc92 := lv_neT c92 (show (55 : Int32).toInt = 55 by decide); have nc93 := lv_neT c93 (show (56 : Int32).toInt = 56 by decide); have nc94 := lv_neT c94 (show (57 : Int32).toInt = 57 by decide); have nc95 := lv_neT c95 (show (58 : Int32).toInt = 58 by decide); have nc96 := lv_neT c96 (show (59 : Int32).toInt = 59 by decide); omega) rfl hd79
