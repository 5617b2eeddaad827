-- X0_priceOf
set_option maxRecDepth 100000 in
set_option maxHeartbeats 4000000 in
theorem BLX0_priceOf_4 {x1 : Int32} {h : ob_H} {Q : Int32 → Prop} :
    ∀ (n : Nat) (x2 : Int32) (x3 : Int32), it2 (FX0_priceOf_4 x1 h Q) n x2 x3 → ob_J RX0 cX0_priceOf 4 (ob_rm 1) false none 0 0 KS NN h 4 [(0, .ref 92), (1, .int x1), (2, .int x2), (3, .int x3)] [] (ob_g (some .int) (ob_pi h Q)) := by
  intro n
  induction n with
  | zero => intro x2 x3 y; exact False.elim y
  | succ n hk4 =>
    intro x2 x3 y
    have y : FX0_priceOf_4 x1 h Q (it2 (FX0_priceOf_4 x1 h Q) n) x2 x3 := y
    unfold FX0_priceOf_4 at y
    refine oj_iload_n 3 dX0_priceOf_4 rfl rfl ?_
    refine oj_aload_n 0 dX0_priceOf_5 rfl rfl ?_
    refine oj_getr (q := 20) fl_RX0_27 k_92 rfl k_20 dX0_priceOf_6 ?_
    refine oj_geti fl_RX0_58 k_20 rfl dX0_priceOf_9 ?_
    refine oj_icmp_ge 45 dX0_priceOf_12 rfl (fun c1 => ?_) (fun c1 => ?_)
    · have y2 := y.1 c1
      refine oj_iload_n 2 dX0_priceOf_45 rfl rfl ?_
      exact oj_ret (r := some (.int x2)) ⟨trivial, rfl, rfl, rfl, x2, rfl, y2⟩ dX0_priceOf_46 (Nat.zero_le _) (Nat.zero_le _)
    · have y3 := y.2 c1
      refine oj_iload_n 2 dX0_priceOf_15 rfl rfl ?_
      refine oj_iload_n 1 dX0_priceOf_16 rfl rfl ?_
      refine oj_iload_n 3 dX0_priceOf_17 rfl rfl ?_
      refine oj_ishr dX0_priceOf_18 ?_
      refine oj_iconst dX0_priceOf_19 ci_1 ?_
      refine oj_iand dX0_priceOf_20 ?_
      refine oj_if_eq 36 dX0_priceOf_21 rfl (fun c4 => ?_) (fun c4 => ?_)
      · have y5 := y3.1 c4
        refine oj_iconst dX0_priceOf_36 ci_0 ?_
        refine oj_iadd dX0_priceOf_37 ?_
        refine oj_topi (fun v7 ev7 => ?_)
        have y8 := Lt_at y5 v7 ev7
        refine oj_istore_n (lv' := [(2, .int v7), (0, .ref 92), (1, .int x1), (3, .int x3)]) dX0_priceOf_38 rfl (by decide) rfl ?_
        obtain ⟨v9, ev9⟩ : ∃ z : Int32, z = x3 + (1) := ⟨_, rfl⟩
        have y10 := Lt_at y8 v9 ev9
        refine oj_iinc (v := v9) (lv' := [(3, .int v9), (2, .int v7), (0, .ref 92), (1, .int x1)]) 3 dX0_priceOf_39 rfl (iinc_e ci_1 ev9) (by decide) rfl ?_
        refine oj_goto 4 dX0_priceOf_42 rfl ?_
        refine oj_lv [2, 3, 1, 0] rfl ?_
        exact hk4 _ _ y10
      · have y6 := y3.2 c4
        refine oj_aload_n 0 dX0_priceOf_24 rfl rfl ?_
        refine oj_getr (q := 20) fl_RX0_27 k_92 rfl k_20 dX0_priceOf_25 ?_
        refine oj_getr (q := 24) fl_RX0_91 k_20 rfl k_24 dX0_priceOf_28 ?_
        refine oj_iload_n 3 dX0_priceOf_31 rfl rfl ?_
        obtain ⟨c11, y12⟩ := y6
        refine oj_iald k_24 c11 rfl dX0_priceOf_32 ?_
        refine oj_goto 37 dX0_priceOf_33 rfl ?_
        refine oj_iadd dX0_priceOf_37 ?_
        refine oj_topi (fun v13 ev13 => ?_)
        have y14 := Lt_at y12 v13 ev13
        refine oj_istore_n (lv' := [(2, .int v13), (0, .ref 92), (1, .int x1), (3, .int x3)]) dX0_priceOf_38 rfl (by decide) rfl ?_
        obtain ⟨v15, ev15⟩ : ∃ z : Int32, z = x3 + (1) := ⟨_, rfl⟩
        have y16 := Lt_at y14 v15 ev15
        refine oj_iinc (v := v15) (lv' := [(3, .int v15), (2, .int v13), (0, .ref 92), (1, .int x1)]) 3 dX0_priceOf_39 rfl (iinc_e ci_1 ev15) (by decide) rfl ?_
        refine oj_goto 4 dX0_priceOf_42 rfl ?_
        refine oj_lv [2, 3, 1, 0] rfl ?_
        exact hk4 _ _ y16
set_option maxRecDepth 100000 in
set_option maxHeartbeats 4000000 in
theorem BX0_priceOf  {p1 : Int32}  {h : ob_H} {Q : Int32 → Prop} (y : MX0_priceOf  p1 h Q) : ob_T yX0_priceOf cX0_priceOf 4 (some .int) (ob_rm 1) KS NN h [.ref 92, .int p1] (ob_g (some .int) (ob_pi h Q)) := by
  unfold MX0_priceOf at y
  refine ob_T_gf (by decide +kernel) (Nat.le_of_ble_eq_true rfl) ?_
  show ob_J RX0 cX0_priceOf 4 (ob_rm 1) false none 0 0 KS NN h 0 [(0, .ref 92), (1, .int p1)] [] (ob_g (some .int) (ob_pi h Q))
  refine oj_iconst dX0_priceOf_0 ci_0 ?_
  refine oj_istore_n (lv' := [(2, .int (0)), (0, .ref 92), (1, .int p1)]) dX0_priceOf_1 rfl (by decide) rfl ?_
  refine oj_iconst dX0_priceOf_2 ci_0 ?_
  refine oj_istore_n (lv' := [(3, .int (0)), (2, .int (0)), (0, .ref 92), (1, .int p1)]) dX0_priceOf_3 rfl (by decide) rfl ?_
  refine oj_lv [2, 3, 1, 0] rfl ?_
  obtain ⟨n, y17⟩ := y
  exact BLX0_priceOf_4  n _ _ y17
-- X0_isCheaper
set_option maxRecDepth 100000 in
set_option maxHeartbeats 4000000 in
theorem BX0_isCheaper  {p1 : Int32}  {h : ob_H} {Q : Int32 → Prop} (y : MX0_isCheaper  p1 h Q) : ob_T yX0_isCheaper cX0_isCheaper 3 (some .boolean) (ob_rm 2) KS NN h [.ref 92, .int p1] (ob_g (some .boolean) (ob_pi h Q)) := by
  unfold MX0_isCheaper at y
  refine ob_T_gf (by decide +kernel) (Nat.le_of_ble_eq_true rfl) ?_
  show ob_J RX0 cX0_isCheaper 3 (ob_rm 2) false none 0 0 KS NN h 0 [(0, .ref 92), (1, .int p1)] [] (ob_g (some .boolean) (ob_pi h Q))
  refine oj_aload_n 0 dX0_isCheaper_0 rfl rfl ?_
  refine oj_iload_n 1 dX0_isCheaper_1 rfl rfl ?_
  refine oc_Vpi [.int p1] mi_RX0_76 ow_957 op_27 rfl k_92 (BX0_priceOf  y) ⟨by decide, by decide⟩ ⟨Nat.le_refl _, Nat.le_refl _⟩ rfl (Nat.le_of_ble_eq_true rfl) dX0_isCheaper_2 (fun r1 f3 y4 => ?_)
  refine oj_istore_n (lv' := [(2, .int r1), (0, .ref 92), (1, .int p1)]) dX0_isCheaper_5 rfl (by decide) rfl ?_
  refine oj_iload_n 0 dX0_isCheaper_6 rfl rfl ?_
  refine oj_aload_n 1 dX0_isCheaper_7 rfl rfl ?_
  refine oj_geti fl_RX0_18 k_92 rfl dX0_isCheaper_8 ?_
  refine oj_icmp_lt 36 dX0_isCheaper_11 rfl (fun c5 => ?_) (fun c5 => ?_)
  · have y6 := y4.1 c5
    refine oj_iconst dX0_isCheaper_36 ci_1 ?_
    refine oj_goto 41 dX0_isCheaper_37 rfl ?_
    exact oj_ret (r := some (.int (1))) ⟨rfl, rfl, rfl, rfl, (1), rfl, y6⟩ dX0_isCheaper_41 (Nat.zero_le _) (Nat.zero_le _)
  · have y7 := y4.2 c5
    refine oj_iload_n 0 dX0_isCheaper_14 rfl rfl ?_
    refine oj_aload_n 1 dX0_isCheaper_15 rfl rfl ?_
    refine oj_geti fl_RX0_18 k_92 rfl dX0_isCheaper_16 ?_
    refine oj_icmp_ne 40 dX0_isCheaper_19 rfl (fun c8 => ?_) (fun c8 => ?_)
    · have y9 := y7.2 c8
      refine oj_iconst dX0_isCheaper_40 ci_0 ?_
      exact oj_ret (r := some (.int (0))) ⟨rfl, rfl, rfl, rfl, (0), rfl, y9⟩ dX0_isCheaper_41 (Nat.zero_le _) (Nat.zero_le _)
    · have y10 := y7.1 c8
      refine oj_iload_n 2 dX0_isCheaper_22 rfl rfl ?_
      refine oc_Spi [.int p1] mi_RX0_86 ow_660 (BJ6_bitCount_0f7a4  y10) ⟨by decide, by decide⟩ ⟨Nat.le_refl _, Nat.le_refl _⟩ rfl (Nat.le_of_ble_eq_true rfl) dX0_isCheaper_23 (fun r11 f13 y14 => ?_)
      refine oj_aload_n 1 dX0_isCheaper_26 rfl rfl ?_
      refine oj_geti fl_RX0_9 k_92 rfl dX0_isCheaper_27 ?_
      refine oc_Spi [.int (h.1 92 0)] mi_RX0_86 ow_660 (BJ6_bitCount_0f7a4  y14) ⟨by decide, by decide⟩ ⟨Nat.le_refl _, Nat.le_refl _⟩ rfl (Nat.le_of_ble_eq_true rfl) dX0_isCheaper_30 (fun r15 f17 y18 => ?_)
      refine oj_icmp_ge 40 dX0_isCheaper_33 rfl (fun c19 => ?_) (fun c19 => ?_)
      · have y20 := y18.1 c19
        refine oj_iconst dX0_isCheaper_40 ci_0 ?_
        exact oj_ret (r := some (.int (0))) ⟨rfl, rfl, rfl, rfl, (0), rfl, y20⟩ dX0_isCheaper_41 (Nat.zero_le _) (Nat.zero_le _)
      · have y21 := y18.2 c19
        refine oj_iconst dX0_isCheaper_36 ci_1 ?_
        refine oj_goto 41 dX0_isCheaper_37 rfl ?_
        exact oj_ret (r := some (.int (1))) ⟨rfl, rfl, rfl, rfl, (1), rfl, y21⟩ dX0_isCheaper_41 (Nat.zero_le _) (Nat.zero_le _)
-- X0_duskWithout
set_option maxRecDepth 100000 in
set_option maxHeartbeats 4000000 in
theorem BX0_duskWithout  {p1 : Int32}  {h : ob_H} {Q : Int32 → ob_H → Prop} (y : MX0_duskWithout  p1 h Q) : ob_T yX0_duskWithout cX0_duskWithout 2 (some .int) (ob_rm 5) KS NN h [.ref 92, .int p1] (ob_g (some .int) (ob_qi Q)) := by
  unfold MX0_duskWithout at y
  refine ob_T_gf (by decide +kernel) (Nat.le_of_ble_eq_true rfl) ?_
  show ob_J RX0 cX0_duskWithout 2 (ob_rm 5) false none 0 0 KS NN h 0 [(0, .ref 92), (1, .int p1)] [] (ob_g (some .int) (ob_qi Q))
  refine oj_aload_n 0 dX0_duskWithout_0 rfl rfl ?_
  refine oj_getr (q := 39) fl_RX0_35 k_92 rfl k_39 dX0_duskWithout_1 ?_
  refine oj_getr (q := 42) fl_RX0_39 k_39 rfl k_42 dX0_duskWithout_4 ?_
  refine oj_aload_n 0 dX0_duskWithout_7 rfl rfl ?_
  refine oj_getr (q := 34) fl_RX0_31 k_92 rfl k_34 dX0_duskWithout_8 ?_
  refine oc_Vv [.ref 34] mi_RX0_44 ow_876 ow_877 rfl k_42 (BX6_copy AA6_42 AA6_34 y) ⟨by decide, by decide⟩ ⟨Nat.le_refl _, Nat.le_refl _⟩ rfl (Nat.le_of_ble_eq_true rfl) dX0_duskWithout_11 (fun h2 y4 => ?_)
  refine oj_aload_n 0 dX0_duskWithout_14 rfl rfl ?_
  refine oj_getr (q := 39) fl_RX0_35 k_92 rfl k_39 dX0_duskWithout_15 ?_
  refine oj_getr (q := 42) fl_RX0_39 k_39 rfl k_42 dX0_duskWithout_18 ?_
  refine oj_iload_n 1 dX0_duskWithout_21 rfl rfl ?_
  refine oj_iconst dX0_duskWithout_22 ci_0 ?_
  refine oj_iconst dX0_duskWithout_23 ci_5 ?_
  refine oc_Vv [.int p1, .int (0), .int (5)] mi_RX0_50 ow_819 ow_820 rfl k_42 (BX6_move AA6_42 y4) ⟨by decide, by decide⟩ ⟨Nat.le_refl _, Nat.le_refl _⟩ rfl (Nat.le_of_ble_eq_true rfl) dX0_duskWithout_24 (fun h6 y8 => ?_)
  refine oj_aload_n 0 dX0_duskWithout_27 rfl rfl ?_
  refine oj_getr (q := 39) fl_RX0_35 k_92 rfl k_39 dX0_duskWithout_28 ?_
  refine oc_Vi [] mi_RX0_54 ow_889 ow_890 rfl k_39 (BX3_follow  y8) ⟨by decide, by decide⟩ ⟨Nat.le_refl _, Nat.le_refl _⟩ rfl (Nat.le_of_ble_eq_true rfl) dX0_duskWithout_31 (fun r9 f11 h10 y12 => ?_)
  exact oj_ret (r := some (.int r9)) ⟨trivial, rfl, rfl, r9, rfl, y12⟩ dX0_duskWithout_34 (Nat.zero_le _) (Nat.zero_le _)
-- X0_findPurchase
set_option maxRecDepth 100000 in
set_option maxHeartbeats 4000000 in
theorem BLX0_findPurchase_39 {x1 : Int32} {x2 : Int32} {Q : Int32 → ob_H → Prop} :
    ∀ (n : Nat) (x3 : Int32) (h : ob_H), it2 (FX0_findPurchase_39 x1 x2 Q) n x3 h → ob_J RX0 cX0_findPurchase 4 (ob_rm 6) false none 0 0 KS NN h 39 [(0, .ref 92), (1, .int x1), (2, .int x2), (3, .int x3)] [] (ob_g (some .boolean) (ob_qi Q)) := by
  intro n
  induction n with
  | zero => intro x3 h y; exact False.elim y
  | succ n hk39 =>
    intro x3 h y
    have y : FX0_findPurchase_39 x1 x2 Q (it2 (FX0_findPurchase_39 x1 x2 Q) n) x3 h := y
    unfold FX0_findPurchase_39 at y
    refine oj_iload_n 3 dX0_findPurchase_39 rfl rfl ?_
    refine oj_iload_n 2 dX0_findPurchase_40 rfl rfl ?_
    refine oj_icmp_ge 89 dX0_findPurchase_41 rfl (fun c14 => ?_) (fun c14 => ?_)
    · have y15 := y.1 c14
      refine oj_iconst dX0_findPurchase_89 ci_1 ?_
      exact oj_ret (r := some (.int (1))) ⟨rfl, rfl, rfl, (1), rfl, y15⟩ dX0_findPurchase_90 (Nat.zero_le _) (Nat.zero_le _)
    · have y16 := y.2 c14
      refine oj_iload_n 3 dX0_findPurchase_44 rfl rfl ?_
      refine oj_iload_n 2 dX0_findPurchase_45 rfl rfl ?_
      refine oj_iconst dX0_findPurchase_46 ci_m1 ?_
      refine oj_ixor dX0_findPurchase_47 ?_
      refine oj_iand dX0_findPurchase_48 ?_
      refine oj_if_ne 83 dX0_findPurchase_49 rfl (fun c17 => ?_) (fun c17 => ?_)
      · have y18 := y16.2 c17
        obtain ⟨v20, ev20⟩ : ∃ z : Int32, z = x3 + (1) := ⟨_, rfl⟩
        have y21 := Lt_at y18 v20 ev20
        refine oj_iinc (v := v20) (lv' := [(3, .int v20), (0, .ref 92), (1, .int x1), (2, .int x2)]) 3 dX0_findPurchase_83 rfl (iinc_e ci_1 ev20) (by decide) rfl ?_
        refine oj_goto 39 dX0_findPurchase_86 rfl ?_
        refine oj_lv [1, 2, 3, 0] rfl ?_
        exact hk39 _ _ y21
      · have y19 := y16.1 c17
        refine oj_aload_n 0 dX0_findPurchase_52 rfl rfl ?_
        refine oj_iload_n 3 dX0_findPurchase_53 rfl rfl ?_
        refine oc_Vpi [.int x3] mi_RX0_80 ow_961 op_28 rfl k_92 (BX0_isCheaper  y19) ⟨by decide, by decide⟩ ⟨Nat.le_refl _, Nat.le_refl _⟩ rfl (Nat.le_of_ble_eq_true rfl) dX0_findPurchase_54 (fun r22 f24 y25 => ?_)
        refine oj_if_eq 83 dX0_findPurchase_57 rfl (fun c26 => ?_) (fun c26 => ?_)
        · have y27 := y25.1 c26
          obtain ⟨v29, ev29⟩ : ∃ z : Int32, z = x3 + (1) := ⟨_, rfl⟩
          have y30 := Lt_at y27 v29 ev29
          refine oj_iinc (v := v29) (lv' := [(3, .int v29), (0, .ref 92), (1, .int x1), (2, .int x2)]) 3 dX0_findPurchase_83 rfl (iinc_e ci_1 ev29) (by decide) rfl ?_
          refine oj_goto 39 dX0_findPurchase_86 rfl ?_
          refine oj_lv [1, 2, 3, 0] rfl ?_
          exact hk39 _ _ y30
        · have y28 := y25.2 c26
          refine oj_aload_n 0 dX0_findPurchase_60 rfl rfl ?_
          refine oj_iload_n 3 dX0_findPurchase_61 rfl rfl ?_
          refine oc_Vi [.int x3] mi_RX0_83 ow_965 ow_966 rfl k_92 (BX0_duskWithout  y28) ⟨by decide, by decide⟩ ⟨Nat.le_refl _, Nat.le_refl _⟩ rfl (Nat.le_of_ble_eq_true rfl) dX0_findPurchase_62 (fun r31 f33 h32 y34 => ?_)
          refine oj_iload_n 1 dX0_findPurchase_65 rfl rfl ?_
          refine oj_icmp_gt 83 dX0_findPurchase_66 rfl (fun c35 => ?_) (fun c35 => ?_)
          · have y36 := y34.1 c35
            obtain ⟨v38, ev38⟩ : ∃ z : Int32, z = x3 + (1) := ⟨_, rfl⟩
            have y39 := Lt_at y36 v38 ev38
            refine oj_iinc (v := v38) (lv' := [(3, .int v38), (0, .ref 92), (1, .int x1), (2, .int x2)]) 3 dX0_findPurchase_83 rfl (iinc_e ci_1 ev38) (by decide) rfl ?_
            refine oj_goto 39 dX0_findPurchase_86 rfl ?_
            refine oj_lv [1, 2, 3, 0] rfl ?_
            exact hk39 _ _ y39
          · have y37 := y34.2 c35
            refine oj_aload_n 0 dX0_findPurchase_69 rfl rfl ?_
            refine oj_iload_n 3 dX0_findPurchase_70 rfl rfl ?_
            refine oj_puti fl_RX0_9 (Or.inl rfl) k_92 rfl rfl rfl dX0_findPurchase_71 ?_
            refine oj_toph (fun h40 eh40 => ?_)
            have y41 := Lt_at y37 h40 eh40
            refine oj_aload_n 0 dX0_findPurchase_74 rfl rfl ?_
            refine oj_aload_n 0 dX0_findPurchase_75 rfl rfl ?_
            refine oj_iload_n 3 dX0_findPurchase_76 rfl rfl ?_
            refine oc_Vpi [.int x3] mi_RX0_76 ow_957 op_27 rfl k_92 (BX0_priceOf  y41) ⟨by decide, by decide⟩ ⟨Nat.le_refl _, Nat.le_refl _⟩ rfl (Nat.le_of_ble_eq_true rfl) dX0_findPurchase_77 (fun r42 f44 y45 => ?_)
            refine oj_puti fl_RX0_18 (Or.inl rfl) k_92 rfl rfl rfl dX0_findPurchase_80 ?_
            refine oj_toph (fun h46 eh46 => ?_)
            have y47 := Lt_at y45 h46 eh46
            obtain ⟨v48, ev48⟩ : ∃ z : Int32, z = x3 + (1) := ⟨_, rfl⟩
            have y49 := Lt_at y47 v48 ev48
            refine oj_iinc (v := v48) (lv' := [(3, .int v48), (0, .ref 92), (1, .int x1), (2, .int x2)]) 3 dX0_findPurchase_83 rfl (iinc_e ci_1 ev48) (by decide) rfl ?_
            refine oj_goto 39 dX0_findPurchase_86 rfl ?_
            refine oj_lv [1, 2, 3, 0] rfl ?_
            exact hk39 _ _ y49
set_option maxRecDepth 100000 in
set_option maxHeartbeats 4000000 in
theorem BX0_findPurchase  {p1 : Int32}  {h : ob_H} {Q : Int32 → ob_H → Prop} (y : MX0_findPurchase  p1 h Q) : ob_T yX0_findPurchase cX0_findPurchase 4 (some .boolean) (ob_rm 6) KS NN h [.ref 92, .int p1] (ob_g (some .boolean) (ob_qi Q)) := by
  unfold MX0_findPurchase at y
  refine ob_T_gf (by decide +kernel) (Nat.le_of_ble_eq_true rfl) ?_
  show ob_J RX0 cX0_findPurchase 4 (ob_rm 6) false none 0 0 KS NN h 0 [(0, .ref 92), (1, .int p1)] [] (ob_g (some .boolean) (ob_qi Q))
  refine oj_aload_n 0 dX0_findPurchase_0 rfl rfl ?_
  refine oj_getr (q := 34) fl_RX0_31 k_92 rfl k_34 dX0_findPurchase_1 ?_
  refine oj_geti fl_RX0_71 k_34 rfl dX0_findPurchase_4 ?_
  refine oj_iload_n 1 dX0_findPurchase_7 rfl rfl ?_
  refine oj_icmp_le 13 dX0_findPurchase_8 rfl (fun c1 => ?_) (fun c1 => ?_)
  · have y2 := y.1 c1
    refine oj_aload_n 0 dX0_findPurchase_13 rfl rfl ?_
    refine oj_getr (q := 34) fl_RX0_31 k_92 rfl k_34 dX0_findPurchase_14 ?_
    refine oj_getr (q := 35) fl_RX0_72 k_34 rfl k_35 dX0_findPurchase_17 ?_
    refine oj_iconst dX0_findPurchase_20 ci_0 ?_
    refine oj_iald k_35 in_0_7 ix_0 dX0_findPurchase_21 ?_
    refine oj_topi (fun v4 ev4 => ?_)
    have y5 := Lt_at y2 v4 ev4
    refine oj_istore_n (lv' := [(2, .int v4), (0, .ref 92), (1, .int p1)]) dX0_findPurchase_22 rfl (by decide) rfl ?_
    refine oj_aload_n 1 dX0_findPurchase_23 rfl rfl ?_
    refine oj_iload_n 0 dX0_findPurchase_24 rfl rfl ?_
    refine oj_puti fl_RX0_9 (Or.inl rfl) k_92 rfl rfl rfl dX0_findPurchase_25 ?_
    refine oj_toph (fun h6 eh6 => ?_)
    have y7 := Lt_at y5 h6 eh6
    refine oj_aload_n 1 dX0_findPurchase_28 rfl rfl ?_
    refine oj_aload_n 1 dX0_findPurchase_29 rfl rfl ?_
    refine oj_iload_n 0 dX0_findPurchase_30 rfl rfl ?_
    refine oc_Vpi [.int v4] mi_RX0_76 ow_957 op_27 rfl k_92 (BX0_priceOf  y7) ⟨by decide, by decide⟩ ⟨Nat.le_refl _, Nat.le_refl _⟩ rfl (Nat.le_of_ble_eq_true rfl) dX0_findPurchase_31 (fun r8 f10 y11 => ?_)
    refine oj_puti fl_RX0_18 (Or.inl rfl) k_92 rfl rfl rfl dX0_findPurchase_34 ?_
    refine oj_toph (fun h12 eh12 => ?_)
    have y13 := Lt_at y11 h12 eh12
    refine oj_iconst dX0_findPurchase_37 ci_0 ?_
    refine oj_istore_n (lv' := [(3, .int (0)), (2, .int v4), (0, .ref 92), (1, .int p1)]) dX0_findPurchase_38 rfl (by decide) rfl ?_
    refine oj_lv [2, 3, 1, 0] rfl ?_
    obtain ⟨n, y50⟩ := y13
    exact BLX0_findPurchase_39  n _ _ y50
  · have y3 := y.2 c1
    refine oj_iconst dX0_findPurchase_11 ci_0 ?_
    exact oj_ret (r := some (.int (0))) ⟨rfl, rfl, rfl, (0), rfl, y3⟩ dX0_findPurchase_12 (Nat.zero_le _) (Nat.zero_le _)
-- X11_purchase
set_option maxRecDepth 100000 in
set_option maxHeartbeats 4000000 in
theorem BKX11_purchase_25 {x1 : Int32} {x2 : Int32} {s0 : Int32} {h : ob_H} {Q : Int32 → ob_H → Prop}
    (y : KX11_purchase_25 x1 x2 s0 h Q) : ob_J RX11 cX11_purchase 4 (ob_rm 7) false none 0 0 KS NN h 25 [(0, .ref 0), (1, .int x1), (2, .int x2)] [.int s0] (ob_g (some .int) (ob_qi Q)) := by
  unfold KX11_purchase_25 at y
  refine oj_istore_n (lv' := [(3, .int s0), (0, .ref 0), (1, .int x1), (2, .int x2)]) dX11_purchase_25 rfl (by decide) rfl ?_
  refine oj_iload_n 0 dX11_purchase_26 rfl rfl ?_
  refine oj_if_eq 41 dX11_purchase_27 rfl (fun c4 => ?_) (fun c4 => ?_)
  · have y5 := y.1 c4
    refine oj_iconst dX11_purchase_41 ci_m1 ?_
    exact oj_ret (r := some (.int (-1))) ⟨trivial, rfl, rfl, (-1), rfl, y5⟩ dX11_purchase_42 (Nat.zero_le _) (Nat.zero_le _)
  · have y6 := y.2 c4
    refine oj_aload_n 1 dX11_purchase_30 rfl rfl ?_
    refine oj_getr (q := 92) fl_RX11_60 k_0 rfl k_92 dX11_purchase_31 ?_
    refine oj_iload_n 2 dX11_purchase_34 rfl rfl ?_
    refine oc_Vi [.int x1] mi_RX11_250 ow_952 ow_953 rfl k_92 (BX0_findPurchase  y6) ⟨by decide, by decide⟩ ⟨Nat.le_refl _, Nat.le_refl _⟩ rfl (Nat.le_of_ble_eq_true rfl) dX11_purchase_35 (fun r7 f9 h8 y10 => ?_)
    refine oj_if_ne 43 dX11_purchase_38 rfl (fun c11 => ?_) (fun c11 => ?_)
    · have y12 := y10.2 c11
      refine oj_iload_n 3 dX11_purchase_43 rfl rfl ?_
      refine oj_if_ne 57 dX11_purchase_44 rfl (fun c14 => ?_) (fun c14 => ?_)
      · have y15 := y12.2 c14
        refine oj_aload_n 1 dX11_purchase_57 rfl rfl ?_
        refine oj_getr (q := 92) fl_RX11_60 k_0 rfl k_92 dX11_purchase_58 ?_
        refine oj_geti fl_RX11_245 k_92 rfl dX11_purchase_61 ?_
        exact oj_ret (r := some (.int (h8.1 92 0))) ⟨trivial, rfl, rfl, (h8.1 92 0), rfl, y15⟩ dX11_purchase_64 (Nat.zero_le _) (Nat.zero_le _)
      · have y16 := y12.1 c14
        refine oj_aload_n 1 dX11_purchase_47 rfl rfl ?_
        refine oj_getr (q := 92) fl_RX11_60 k_0 rfl k_92 dX11_purchase_48 ?_
        refine oj_geti fl_RX11_253 k_92 rfl dX11_purchase_51 ?_
        refine oj_goto 64 dX11_purchase_54 rfl ?_
        exact oj_ret (r := some (.int (h8.1 92 2))) ⟨trivial, rfl, rfl, (h8.1 92 2), rfl, y16⟩ dX11_purchase_64 (Nat.zero_le _) (Nat.zero_le _)
    · have y13 := y10.1 c11
      refine oj_iconst dX11_purchase_41 ci_m1 ?_
      exact oj_ret (r := some (.int (-1))) ⟨trivial, rfl, rfl, (-1), rfl, y13⟩ dX11_purchase_42 (Nat.zero_le _) (Nat.zero_le _)
set_option maxRecDepth 100000 in
set_option maxHeartbeats 4000000 in
theorem BX11_purchase  {p1 : Int32} {p2 : Int32}  {h : ob_H} {Q : Int32 → ob_H → Prop} (y : MX11_purchase  p1 p2 h Q) : ob_T yX11_purchase cX11_purchase 4 (some .int) (ob_rm 7) KS NN h [.ref 0, .int p1, .int p2] (ob_g (some .int) (ob_qi Q)) := by
  unfold MX11_purchase at y
  refine ob_T_gf (by decide +kernel) (Nat.le_of_ble_eq_true rfl) ?_
  show ob_J RX11 cX11_purchase 4 (ob_rm 7) false none 0 0 KS NN h 0 [(0, .ref 0), (1, .int p1), (2, .int p2)] [] (ob_g (some .int) (ob_qi Q))
  refine oj_iload_n 1 dX11_purchase_0 rfl rfl ?_
  refine oj_if_lt 24 dX11_purchase_1 rfl (fun c1 => ?_) (fun c1 => ?_)
  · have y2 := y.1 c1
    refine oj_iconst dX11_purchase_24 ci_0 ?_
    refine oj_lv [0, 1, 2] rfl ?_
    exact BKX11_purchase_25  y2
  · have y3 := y.2 c1
    refine oj_iload_n 1 dX11_purchase_4 rfl rfl ?_
    refine oj_sipush dX11_purchase_5 cs_9999 ?_
    refine oj_icmp_gt 24 dX11_purchase_8 rfl (fun c17 => ?_) (fun c17 => ?_)
    · have y18 := y3.1 c17
      refine oj_iconst dX11_purchase_24 ci_0 ?_
      refine oj_lv [0, 1, 2] rfl ?_
      exact BKX11_purchase_25  y18
    · have y19 := y3.2 c17
      refine oj_iload_n 2 dX11_purchase_11 rfl rfl ?_
      refine oj_if_eq 20 dX11_purchase_12 rfl (fun c20 => ?_) (fun c20 => ?_)
      · have y21 := y19.1 c20
        refine oj_iconst dX11_purchase_20 ci_1 ?_
        refine oj_goto 25 dX11_purchase_21 rfl ?_
        refine oj_lv [0, 1, 2] rfl ?_
        exact BKX11_purchase_25  y21
      · have y22 := y19.2 c20
        refine oj_iload_n 2 dX11_purchase_15 rfl rfl ?_
        refine oj_iconst dX11_purchase_16 ci_1 ?_
        refine oj_icmp_ne 24 dX11_purchase_17 rfl (fun c23 => ?_) (fun c23 => ?_)
        · have y24 := y22.2 c23
          refine oj_iconst dX11_purchase_24 ci_0 ?_
          refine oj_lv [0, 1, 2] rfl ?_
          exact BKX11_purchase_25  y24
        · have y25 := y22.1 c23
          refine oj_iconst dX11_purchase_20 ci_1 ?_
          refine oj_goto 25 dX11_purchase_21 rfl ?_
          refine oj_lv [0, 1, 2] rfl ?_
          exact BKX11_purchase_25  y25
-- X0_leastGrave
set_option maxRecDepth 100000 in
set_option maxHeartbeats 4000000 in
theorem BLX0_leastGrave_101 {x1 : Int32} {x2 : Int32} {x3 : Int32} {x4 : Int32} {Q : Int32 → ob_H → Prop} :
    ∀ (n : Nat) (x5 : Int32) (h : ob_H), it2 (FX0_leastGrave_101 x1 x2 x3 x4 Q) n x5 h → ob_J RX0 cX0_leastGrave 7 (ob_rm 4) false none 0 0 KS NN h 101 [(0, .ref 92), (1, .int x1), (2, .int x2), (3, .int x3), (4, .int x4), (5, .int x5)] [] (ob_g (some .int) (ob_qi Q)) := by
  intro n
  induction n with
  | zero => intro x5 h y; exact False.elim y
  | succ n hk101 =>
    intro x5 h y
    have y : FX0_leastGrave_101 x1 x2 x3 x4 Q (it2 (FX0_leastGrave_101 x1 x2 x3 x4 Q) n) x5 h := y
    unfold FX0_leastGrave_101 at y
    refine oj_iload 5 dX0_leastGrave_101 rfl ?_
    refine oj_bipush dX0_leastGrave_103 cb_100 ?_
    refine oj_icmp_ge 150 dX0_leastGrave_105 rfl (fun c25 => ?_) (fun c25 => ?_)
    · have y26 := y.1 c25
      refine oj_iconst dX0_leastGrave_150 ci_m1 ?_
      exact oj_ret (r := some (.int (-1))) ⟨trivial, rfl, rfl, (-1), rfl, y26⟩ dX0_leastGrave_151 (Nat.zero_le _) (Nat.zero_le _)
    · have y27 := y.2 c25
      refine oj_aload_n 0 dX0_leastGrave_108 rfl rfl ?_
      refine oj_getr (q := 34) fl_RX0_31 k_92 rfl k_34 dX0_leastGrave_109 ?_
      refine oj_iload_n 1 dX0_leastGrave_112 rfl rfl ?_
      refine oj_iload 5 dX0_leastGrave_113 rfl ?_
      refine oc_Vi [.int x1, .int x5] mi_RX0_99 ow_766 ow_767 rfl k_34 (BX6_orderOf AA6_34 y27) ⟨by decide, by decide⟩ ⟨Nat.le_refl _, Nat.le_refl _⟩ rfl (Nat.le_of_ble_eq_true rfl) dX0_leastGrave_115 (fun r28 f30 h29 y31 => ?_)
      refine oj_istore (lv' := [(6, .int r28), (0, .ref 92), (1, .int x1), (2, .int x2), (3, .int x3), (4, .int x4), (5, .int x5)]) dX0_leastGrave_118 (by decide) rfl ?_
      refine oj_iload_n 3 dX0_leastGrave_120 rfl rfl ?_
      refine oj_if_lt 141 dX0_leastGrave_121 rfl (fun c32 => ?_) (fun c32 => ?_)
      · have y33 := y31.1 c32
        refine oj_iload 6 dX0_leastGrave_141 rfl ?_
        exact oj_ret (r := some (.int x5)) ⟨trivial, rfl, rfl, x5, rfl, y33⟩ dX0_leastGrave_143 (Nat.zero_le _) (Nat.zero_le _)
      · have y34 := y31.2 c32
        refine oj_iload 0 dX0_leastGrave_124 rfl ?_
        refine oj_iload_n 4 dX0_leastGrave_126 rfl rfl ?_
        refine oj_icmp_gt 141 dX0_leastGrave_127 rfl (fun c35 => ?_) (fun c35 => ?_)
        · have y36 := y34.1 c35
          refine oj_iload 6 dX0_leastGrave_141 rfl ?_
          exact oj_ret (r := some (.int x5)) ⟨trivial, rfl, rfl, x5, rfl, y36⟩ dX0_leastGrave_143 (Nat.zero_le _) (Nat.zero_le _)
        · have y37 := y34.2 c35
          refine oj_iload 0 dX0_leastGrave_130 rfl ?_
          refine oj_iload_n 4 dX0_leastGrave_132 rfl rfl ?_
          refine oj_icmp_ne 144 dX0_leastGrave_133 rfl (fun c38 => ?_) (fun c38 => ?_)
          · have y39 := y37.2 c38
            obtain ⟨v41, ev41⟩ : ∃ z : Int32, z = x5 + (1) := ⟨_, rfl⟩
            have y42 := Lt_at y39 v41 ev41
            refine oj_iinc (v := v41) (lv' := [(5, .int v41), (6, .int r28), (0, .ref 92), (1, .int x1), (2, .int x2), (3, .int x3), (4, .int x4)]) 6 dX0_leastGrave_144 rfl (iinc_e ci_1 ev41) (by decide) rfl ?_
            refine oj_goto 101 dX0_leastGrave_147 rfl ?_
            refine oj_lv [2, 3, 4, 5, 6, 0] rfl ?_
            exact hk101 _ _ y42
          · have y40 := y37.1 c38
            refine oj_iload 5 dX0_leastGrave_136 rfl ?_
            refine oj_if_eq 144 dX0_leastGrave_138 rfl (fun c43 => ?_) (fun c43 => ?_)
            · have y44 := y40.1 c43
              obtain ⟨v46, ev46⟩ : ∃ z : Int32, z = x5 + (1) := ⟨_, rfl⟩
              have y47 := Lt_at y44 v46 ev46
              refine oj_iinc (v := v46) (lv' := [(5, .int v46), (6, .int r28), (0, .ref 92), (1, .int x1), (2, .int x2), (3, .int x3), (4, .int x4)]) 6 dX0_leastGrave_144 rfl (iinc_e ci_1 ev46) (by decide) rfl ?_
              refine oj_goto 101 dX0_leastGrave_147 rfl ?_
              refine oj_lv [2, 3, 4, 5, 6, 0] rfl ?_
              exact hk101 _ _ y47
            · have y45 := y40.2 c43
              refine oj_iload 6 dX0_leastGrave_141 rfl ?_
              exact oj_ret (r := some (.int x5)) ⟨trivial, rfl, rfl, x5, rfl, y45⟩ dX0_leastGrave_143 (Nat.zero_le _) (Nat.zero_le _)
set_option maxRecDepth 100000 in
set_option maxHeartbeats 4000000 in
theorem BKX0_leastGrave_65 {x1 : Int32} {x2 : Int32} {s0 : Int32} {h : ob_H} {Q : Int32 → ob_H → Prop}
    (y : KX0_leastGrave_65 x1 x2 s0 h Q) : ob_J RX0 cX0_leastGrave 7 (ob_rm 4) false none 0 0 KS NN h 65 [(0, .ref 92), (1, .int x1), (2, .int x2)] [.int s0] (ob_g (some .int) (ob_qi Q)) := by
  unfold KX0_leastGrave_65 at y
  refine oj_istore_n (lv' := [(3, .int s0), (0, .ref 92), (1, .int x1), (2, .int x2)]) dX0_leastGrave_65 rfl (by decide) rfl ?_
  refine oj_iload_n 3 dX0_leastGrave_66 rfl rfl ?_
  refine oj_if_lt 91 dX0_leastGrave_67 rfl (fun c22 => ?_) (fun c22 => ?_)
  · have y23 := y.1 c22
    refine oj_iconst dX0_leastGrave_91 ci_1 ?_
    refine oj_goto 96 dX0_leastGrave_92 rfl ?_
    refine oj_istore (lv' := [(4, .int (1)), (3, .int s0), (0, .ref 92), (1, .int x1), (2, .int x2)]) dX0_leastGrave_96 (by decide) rfl ?_
    refine oj_iconst dX0_leastGrave_98 ci_0 ?_
    refine oj_istore (lv' := [(5, .int (0)), (4, .int (1)), (3, .int s0), (0, .ref 92), (1, .int x1), (2, .int x2)]) dX0_leastGrave_99 (by decide) rfl ?_
    refine oj_lv [3, 4, 5, 2, 1, 0] rfl ?_
    obtain ⟨n, y48⟩ := y23
    exact BLX0_leastGrave_101  n _ _ y48
  · have y24 := y.2 c22
    refine oj_aload_n 1 dX0_leastGrave_70 rfl rfl ?_
    refine oj_getr (q := 34) fl_RX0_31 k_92 rfl k_34 dX0_leastGrave_71 ?_
    refine oj_getr (q := 36) fl_RX0_103 k_34 rfl k_36 dX0_leastGrave_74 ?_
    refine oj_iload_n 2 dX0_leastGrave_77 rfl rfl ?_
    obtain ⟨c49, y50⟩ := y24
    refine oj_iald k_36 c49 rfl dX0_leastGrave_78 ?_
    refine oj_aload_n 1 dX0_leastGrave_79 rfl rfl ?_
    refine oj_getr (q := 34) fl_RX0_31 k_92 rfl k_34 dX0_leastGrave_80 ?_
    refine oj_getr (q := 36) fl_RX0_103 k_34 rfl k_36 dX0_leastGrave_83 ?_
    refine oj_iload_n 3 dX0_leastGrave_86 rfl rfl ?_
    obtain ⟨c51, y52⟩ := y50
    refine oj_iald k_36 c51 rfl dX0_leastGrave_87 ?_
    refine oj_icmp_ge 95 dX0_leastGrave_88 rfl (fun c53 => ?_) (fun c53 => ?_)
    · have y54 := y52.1 c53
      refine oj_iconst dX0_leastGrave_95 ci_0 ?_
      refine oj_istore (lv' := [(4, .int (0)), (3, .int s0), (0, .ref 92), (1, .int x1), (2, .int x2)]) dX0_leastGrave_96 (by decide) rfl ?_
      refine oj_iconst dX0_leastGrave_98 ci_0 ?_
      refine oj_istore (lv' := [(5, .int (0)), (4, .int (0)), (3, .int s0), (0, .ref 92), (1, .int x1), (2, .int x2)]) dX0_leastGrave_99 (by decide) rfl ?_
      refine oj_lv [3, 4, 5, 2, 1, 0] rfl ?_
      obtain ⟨n, y56⟩ := y54
      exact BLX0_leastGrave_101  n _ _ y56
    · have y55 := y52.2 c53
      refine oj_iconst dX0_leastGrave_91 ci_1 ?_
      refine oj_goto 96 dX0_leastGrave_92 rfl ?_
      refine oj_istore (lv' := [(4, .int (1)), (3, .int s0), (0, .ref 92), (1, .int x1), (2, .int x2)]) dX0_leastGrave_96 (by decide) rfl ?_
      refine oj_iconst dX0_leastGrave_98 ci_0 ?_
      refine oj_istore (lv' := [(5, .int (0)), (4, .int (1)), (3, .int s0), (0, .ref 92), (1, .int x1), (2, .int x2)]) dX0_leastGrave_99 (by decide) rfl ?_
      refine oj_lv [3, 4, 5, 2, 1, 0] rfl ?_
      obtain ⟨n, y57⟩ := y55
      exact BLX0_leastGrave_101  n _ _ y57
set_option maxRecDepth 100000 in
set_option maxHeartbeats 4000000 in
theorem BX0_leastGrave  {p1 : Int32}  {h : ob_H} {Q : Int32 → ob_H → Prop} (y : MX0_leastGrave  p1 h Q) : ob_T yX0_leastGrave cX0_leastGrave 7 (some .int) (ob_rm 4) KS NN h [.ref 92, .int p1] (ob_g (some .int) (ob_qi Q)) := by
  unfold MX0_leastGrave at y
  refine ob_T_gf (by decide +kernel) (Nat.le_of_ble_eq_true rfl) ?_
  show ob_J RX0 cX0_leastGrave 7 (ob_rm 4) false none 0 0 KS NN h 0 [(0, .ref 92), (1, .int p1)] [] (ob_g (some .int) (ob_qi Q))
  refine oj_aload_n 0 dX0_leastGrave_0 rfl rfl ?_
  refine oj_getr (q := 39) fl_RX0_35 k_92 rfl k_39 dX0_leastGrave_1 ?_
  refine oj_getr (q := 42) fl_RX0_39 k_39 rfl k_42 dX0_leastGrave_4 ?_
  refine oj_aload_n 0 dX0_leastGrave_7 rfl rfl ?_
  refine oj_getr (q := 34) fl_RX0_31 k_92 rfl k_34 dX0_leastGrave_8 ?_
  refine oc_Vv [.ref 34] mi_RX0_44 ow_876 ow_877 rfl k_42 (BX6_copy AA6_42 AA6_34 y) ⟨by decide, by decide⟩ ⟨Nat.le_refl _, Nat.le_refl _⟩ rfl (Nat.le_of_ble_eq_true rfl) dX0_leastGrave_11 (fun h2 y4 => ?_)
  refine oj_aload_n 0 dX0_leastGrave_14 rfl rfl ?_
  refine oj_getr (q := 39) fl_RX0_35 k_92 rfl k_39 dX0_leastGrave_15 ?_
  refine oj_getr (q := 42) fl_RX0_39 k_39 rfl k_42 dX0_leastGrave_18 ?_
  refine oj_iconst dX0_leastGrave_21 ci_1 ?_
  refine oj_iload_n 1 dX0_leastGrave_22 rfl rfl ?_
  refine oj_ishl dX0_leastGrave_23 ?_
  refine oj_iconst dX0_leastGrave_24 ci_0 ?_
  refine oj_iconst dX0_leastGrave_25 ci_5 ?_
  refine oc_Vv [.int ((1) <<< (p1 &&& 31)), .int (0), .int (5)] mi_RX0_50 ow_819 ow_820 rfl k_42 (BX6_move AA6_42 y4) ⟨by decide, by decide⟩ ⟨Nat.le_refl _, Nat.le_refl _⟩ rfl (Nat.le_of_ble_eq_true rfl) dX0_leastGrave_26 (fun h6 y8 => ?_)
  refine oj_aload_n 0 dX0_leastGrave_29 rfl rfl ?_
  refine oj_getr (q := 39) fl_RX0_35 k_92 rfl k_39 dX0_leastGrave_30 ?_
  refine oj_getr (q := 42) fl_RX0_39 k_39 rfl k_42 dX0_leastGrave_33 ?_
  refine oc_Vi [] mi_RX0_93 ow_789 ow_790 rfl k_42 (BX6_turn AA6_42 y8) ⟨by decide, by decide⟩ ⟨Nat.le_refl _, Nat.le_refl _⟩ rfl (Nat.le_of_ble_eq_true rfl) dX0_leastGrave_36 (fun r9 f11 h10 y12 => ?_)
  refine oj_istore_n (lv' := [(2, .int r9), (0, .ref 92), (1, .int p1)]) dX0_leastGrave_39 rfl (by decide) rfl ?_
  refine oj_iload_n 0 dX0_leastGrave_40 rfl rfl ?_
  refine oj_if_ge 48 dX0_leastGrave_41 rfl (fun c13 => ?_) (fun c13 => ?_)
  · have y14 := y12.1 c13
    refine oj_aload_n 1 dX0_leastGrave_48 rfl rfl ?_
    refine oj_getr (q := 34) fl_RX0_31 k_92 rfl k_34 dX0_leastGrave_49 ?_
    refine oj_iload_n 0 dX0_leastGrave_52 rfl rfl ?_
    refine oj_aload_n 1 dX0_leastGrave_53 rfl rfl ?_
    refine oj_getr (q := 20) fl_RX0_27 k_92 rfl k_20 dX0_leastGrave_54 ?_
    refine oj_getr (q := 21) fl_RX0_96 k_20 rfl k_21 dX0_leastGrave_57 ?_
    refine oj_iload_n 0 dX0_leastGrave_60 rfl rfl ?_
    obtain ⟨c16, y17⟩ := y14
    refine oj_iald k_21 c16 rfl dX0_leastGrave_61 ?_
    refine oc_Vi [.int r9, .int (h10.1 21 (ix r9))] mi_RX0_99 ow_766 ow_767 rfl k_34 (BX6_orderOf AA6_34 y17) ⟨by decide, by decide⟩ ⟨Nat.le_refl _, Nat.le_refl _⟩ rfl (Nat.le_of_ble_eq_true rfl) dX0_leastGrave_62 (fun r18 f20 h19 y21 => ?_)
    refine oj_lv [1, 2, 0] rfl ?_
    exact BKX0_leastGrave_65  y21
  · have y15 := y12.2 c13
    refine oj_iconst dX0_leastGrave_44 ci_0 ?_
    refine oj_goto 65 dX0_leastGrave_45 rfl ?_
    refine oj_lv [1, 2, 0] rfl ?_
    exact BKX0_leastGrave_65  y15
-- X11_boast
set_option maxRecDepth 100000 in
set_option maxHeartbeats 4000000 in
theorem BX11_boast  {p1 : Int32}  {h : ob_H} {Q : Int32 → ob_H → Prop} (y : MX11_boast  p1 h Q) : ob_T yX11_boast cX11_boast 2 (some .int) (ob_rm 5) KS NN h [.ref 0, .int p1] (ob_g (some .int) (ob_qi Q)) := by
  unfold MX11_boast at y
  refine ob_T_gf (by decide +kernel) (Nat.le_of_ble_eq_true rfl) ?_
  show ob_J RX11 cX11_boast 2 (ob_rm 5) false none 0 0 KS NN h 0 [(0, .ref 0), (1, .int p1)] [] (ob_g (some .int) (ob_qi Q))
  refine oj_aload_n 0 dX11_boast_0 rfl rfl ?_
  refine oj_iload_n 1 dX11_boast_1 rfl rfl ?_
  refine oc_Vpi [.int p1] mi_RX11_169 ow_763 op_20 rfl k_0 (BX11_isWaiting  y) ⟨by decide, by decide⟩ ⟨Nat.le_refl _, Nat.le_refl _⟩ rfl (Nat.le_of_ble_eq_true rfl) dX11_boast_2 (fun r1 f3 y4 => ?_)
  refine oj_if_eq 19 dX11_boast_5 rfl (fun c5 => ?_) (fun c5 => ?_)
  · have y6 := y4.1 c5
    refine oj_iconst dX11_boast_19 ci_m1 ?_
    exact oj_ret (r := some (.int (-1))) ⟨trivial, rfl, rfl, (-1), rfl, y6⟩ dX11_boast_20 (Nat.zero_le _) (Nat.zero_le _)
  · have y7 := y4.2 c5
    refine oj_aload_n 0 dX11_boast_8 rfl rfl ?_
    refine oj_getr (q := 92) fl_RX11_60 k_0 rfl k_92 dX11_boast_9 ?_
    refine oj_iload_n 1 dX11_boast_12 rfl rfl ?_
    refine oc_Vi [.int p1] mi_RX11_255 ow_974 ow_975 rfl k_92 (BX0_leastGrave  y7) ⟨by decide, by decide⟩ ⟨Nat.le_refl _, Nat.le_refl _⟩ rfl (Nat.le_of_ble_eq_true rfl) dX11_boast_13 (fun r8 f10 h9 y11 => ?_)
    refine oj_goto 20 dX11_boast_16 rfl ?_
    exact oj_ret (r := some (.int r8)) ⟨trivial, rfl, rfl, r8, rfl, y11⟩ dX11_boast_20 (Nat.zero_le _) (Nat.zero_le _)
-- X7_weigh
set_option maxRecDepth 100000 in
set_option maxHeartbeats 4000000 in
theorem BLX7_weigh_40 {x1 : Int32} {x3 : Int32} {h : ob_H} {Q : Int32 → Prop} {k4 : Int32 → Int32 → Prop} (hk4 : ∀ (x2' : Int32) (x3' : Int32), k4 x2' x3' → ob_J RX7 cX7_weigh 5 (ob_rm 1) false none 0 0 KS NN h 4 [(0, .ref 93), (1, .int x1), (2, .int x2'), (3, .int x3')] [] (ob_g (some .int) (ob_pi h Q))) :
    ∀ (n : Nat) (x2 : Int32) (x4 : Int32), it2 (FX7_weigh_40 x1 x3 h Q k4) n x2 x4 → ob_J RX7 cX7_weigh 5 (ob_rm 1) false none 0 0 KS NN h 40 [(0, .ref 93), (1, .int x1), (2, .int x2), (3, .int x3), (4, .int x4)] [] (ob_g (some .int) (ob_pi h Q)) := by
  intro n
  induction n with
  | zero => intro x2 x4 y; exact False.elim y
  | succ n hk40 =>
    intro x2 x4 y
    have y : FX7_weigh_40 x1 x3 h Q k4 (it2 (FX7_weigh_40 x1 x3 h Q k4) n) x2 x4 := y
    unfold FX7_weigh_40 at y
    refine oj_iload 4 dX7_weigh_40 rfl ?_
    refine oj_aload_n 0 dX7_weigh_42 rfl rfl ?_
    refine oj_getr (q := 20) fl_RX7_19 k_93 rfl k_20 dX7_weigh_43 ?_
    refine oj_geti fl_RX7_27 k_20 rfl dX7_weigh_46 ?_
    refine oj_icmp_ge 89 dX7_weigh_49 rfl (fun c15 => ?_) (fun c15 => ?_)
    · have y16 := y.1 c15
      obtain ⟨v18, ev18⟩ : ∃ z : Int32, z = x3 + (1) := ⟨_, rfl⟩
      have y19 := Lt_at y16 v18 ev18
      refine oj_iinc (v := v18) (lv' := [(3, .int v18), (0, .ref 93), (1, .int x1), (2, .int x2), (4, .int x4)]) 3 dX7_weigh_89 rfl (iinc_e ci_1 ev18) (by decide) rfl ?_
      refine oj_goto 4 dX7_weigh_92 rfl ?_
      refine oj_lv [1, 2, 3, 0] rfl ?_
      exact hk4 _ _ y19
    · have y17 := y.2 c15
      refine oj_iload_n 2 dX7_weigh_52 rfl rfl ?_
      refine oj_iload_n 1 dX7_weigh_53 rfl rfl ?_
      refine oj_iload 4 dX7_weigh_54 rfl ?_
      refine oj_ishr dX7_weigh_56 ?_
      refine oj_iconst dX7_weigh_57 ci_1 ?_
      refine oj_iand dX7_weigh_58 ?_
      refine oj_if_eq 80 dX7_weigh_59 rfl (fun c20 => ?_) (fun c20 => ?_)
      · have y21 := y17.1 c20
        refine oj_iconst dX7_weigh_80 ci_0 ?_
        refine oj_iadd dX7_weigh_81 ?_
        refine oj_topi (fun v23 ev23 => ?_)
        have y24 := Lt_at y21 v23 ev23
        refine oj_istore_n (lv' := [(2, .int v23), (0, .ref 93), (1, .int x1), (3, .int x3), (4, .int x4)]) dX7_weigh_82 rfl (by decide) rfl ?_
        obtain ⟨v25, ev25⟩ : ∃ z : Int32, z = x4 + (1) := ⟨_, rfl⟩
        have y26 := Lt_at y24 v25 ev25
        refine oj_iinc (v := v25) (lv' := [(4, .int v25), (2, .int v23), (0, .ref 93), (1, .int x1), (3, .int x3)]) 4 dX7_weigh_83 rfl (iinc_e ci_1 ev25) (by decide) rfl ?_
        refine oj_goto 40 dX7_weigh_86 rfl ?_
        refine oj_lv [2, 3, 1, 4, 0] rfl ?_
        exact hk40 _ _ y26
      · have y22 := y17.2 c20
        refine oj_aload_n 0 dX7_weigh_62 rfl rfl ?_
        refine oj_getr (q := 20) fl_RX7_19 k_93 rfl k_20 dX7_weigh_63 ?_
        refine oj_getr (q := 27) fl_RX7_33 k_20 rfl k_27 dX7_weigh_66 ?_
        refine oj_iload_n 3 dX7_weigh_69 rfl rfl ?_
        refine oj_bipush dX7_weigh_70 cb_7 ?_
        refine oj_imul dX7_weigh_72 ?_
        refine oj_iload 4 dX7_weigh_73 rfl ?_
        refine oj_iadd dX7_weigh_75 ?_
        obtain ⟨c27, y28⟩ := y22
        refine oj_iald k_27 c27 rfl dX7_weigh_76 ?_
        refine oj_goto 81 dX7_weigh_77 rfl ?_
        refine oj_iadd dX7_weigh_81 ?_
        refine oj_topi (fun v29 ev29 => ?_)
        have y30 := Lt_at y28 v29 ev29
        refine oj_istore_n (lv' := [(2, .int v29), (0, .ref 93), (1, .int x1), (3, .int x3), (4, .int x4)]) dX7_weigh_82 rfl (by decide) rfl ?_
        obtain ⟨v31, ev31⟩ : ∃ z : Int32, z = x4 + (1) := ⟨_, rfl⟩
        have y32 := Lt_at y30 v31 ev31
        refine oj_iinc (v := v31) (lv' := [(4, .int v31), (2, .int v29), (0, .ref 93), (1, .int x1), (3, .int x3)]) 4 dX7_weigh_83 rfl (iinc_e ci_1 ev31) (by decide) rfl ?_
        refine oj_goto 40 dX7_weigh_86 rfl ?_
        refine oj_lv [2, 3, 1, 4, 0] rfl ?_
        exact hk40 _ _ y32
set_option maxRecDepth 100000 in
set_option maxHeartbeats 4000000 in
theorem BLX7_weigh_4 {x1 : Int32} {h : ob_H} {Q : Int32 → Prop} :
    ∀ (n : Nat) (x2 : Int32) (x3 : Int32), it2 (FX7_weigh_4 x1 h Q) n x2 x3 → ob_J RX7 cX7_weigh 5 (ob_rm 1) false none 0 0 KS NN h 4 [(0, .ref 93), (1, .int x1), (2, .int x2), (3, .int x3)] [] (ob_g (some .int) (ob_pi h Q)) := by
  intro n
  induction n with
  | zero => intro x2 x3 y; exact False.elim y
  | succ n hk4 =>
    intro x2 x3 y
    have y : FX7_weigh_4 x1 h Q (it2 (FX7_weigh_4 x1 h Q) n) x2 x3 := y
    unfold FX7_weigh_4 at y
    refine oj_iload_n 3 dX7_weigh_4 rfl rfl ?_
    refine oj_aload_n 0 dX7_weigh_5 rfl rfl ?_
    refine oj_getr (q := 20) fl_RX7_19 k_93 rfl k_20 dX7_weigh_6 ?_
    refine oj_geti fl_RX7_27 k_20 rfl dX7_weigh_9 ?_
    refine oj_icmp_ge 95 dX7_weigh_12 rfl (fun c1 => ?_) (fun c1 => ?_)
    · have y2 := y.1 c1
      refine oj_iload_n 2 dX7_weigh_95 rfl rfl ?_
      exact oj_ret (r := some (.int x2)) ⟨trivial, rfl, rfl, rfl, x2, rfl, y2⟩ dX7_weigh_96 (Nat.zero_le _) (Nat.zero_le _)
    · have y3 := y.2 c1
      refine oj_iload_n 1 dX7_weigh_15 rfl rfl ?_
      refine oj_iload_n 3 dX7_weigh_16 rfl rfl ?_
      refine oj_ishr dX7_weigh_17 ?_
      refine oj_iconst dX7_weigh_18 ci_1 ?_
      refine oj_iand dX7_weigh_19 ?_
      refine oj_if_eq 89 dX7_weigh_20 rfl (fun c4 => ?_) (fun c4 => ?_)
      · have y5 := y3.1 c4
        obtain ⟨v7, ev7⟩ : ∃ z : Int32, z = x3 + (1) := ⟨_, rfl⟩
        have y8 := Lt_at y5 v7 ev7
        refine oj_iinc (v := v7) (lv' := [(3, .int v7), (0, .ref 93), (1, .int x1), (2, .int x2)]) 3 dX7_weigh_89 rfl (iinc_e ci_1 ev7) (by decide) rfl ?_
        refine oj_goto 4 dX7_weigh_92 rfl ?_
        refine oj_lv [1, 2, 3, 0] rfl ?_
        exact hk4 _ _ y8
      · have y6 := y3.2 c4
        refine oj_iload_n 2 dX7_weigh_23 rfl rfl ?_
        refine oj_aload_n 0 dX7_weigh_24 rfl rfl ?_
        refine oj_getr (q := 20) fl_RX7_19 k_93 rfl k_20 dX7_weigh_25 ?_
        refine oj_getr (q := 21) fl_RX7_30 k_20 rfl k_21 dX7_weigh_28 ?_
        refine oj_iload_n 3 dX7_weigh_31 rfl rfl ?_
        obtain ⟨c9, y10⟩ := y6
        refine oj_iald k_21 c9 rfl dX7_weigh_32 ?_
        refine oj_iadd dX7_weigh_33 ?_
        refine oj_topi (fun v11 ev11 => ?_)
        have y12 := Lt_at y10 v11 ev11
        refine oj_istore_n (lv' := [(2, .int v11), (0, .ref 93), (1, .int x1), (3, .int x3)]) dX7_weigh_34 rfl (by decide) rfl ?_
        refine oj_iload_n 3 dX7_weigh_35 rfl rfl ?_
        refine oj_iconst dX7_weigh_36 ci_1 ?_
        refine oj_iadd dX7_weigh_37 ?_
        refine oj_topi (fun v13 ev13 => ?_)
        have y14 := Lt_at y12 v13 ev13
        refine oj_istore (lv' := [(4, .int v13), (2, .int v11), (0, .ref 93), (1, .int x1), (3, .int x3)]) dX7_weigh_38 (by decide) rfl ?_
        refine oj_lv [2, 3, 1, 4, 0] rfl ?_
        obtain ⟨n, y33⟩ := y14
        exact BLX7_weigh_40 hk4 n _ _ y33
set_option maxRecDepth 100000 in
set_option maxHeartbeats 4000000 in
theorem BX7_weigh  {p1 : Int32}  {h : ob_H} {Q : Int32 → Prop} (y : MX7_weigh  p1 h Q) : ob_T yX7_weigh cX7_weigh 5 (some .int) (ob_rm 1) KS NN h [.ref 93, .int p1] (ob_g (some .int) (ob_pi h Q)) := by
  unfold MX7_weigh at y
  refine ob_T_gf (by decide +kernel) (Nat.le_of_ble_eq_true rfl) ?_
  show ob_J RX7 cX7_weigh 5 (ob_rm 1) false none 0 0 KS NN h 0 [(0, .ref 93), (1, .int p1)] [] (ob_g (some .int) (ob_pi h Q))
  refine oj_iconst dX7_weigh_0 ci_0 ?_
  refine oj_istore_n (lv' := [(2, .int (0)), (0, .ref 93), (1, .int p1)]) dX7_weigh_1 rfl (by decide) rfl ?_
  refine oj_iconst dX7_weigh_2 ci_0 ?_
  refine oj_istore_n (lv' := [(3, .int (0)), (2, .int (0)), (0, .ref 93), (1, .int p1)]) dX7_weigh_3 rfl (by decide) rfl ?_
  refine oj_lv [2, 3, 1, 0] rfl ?_
  obtain ⟨n, y34⟩ := y
  exact BLX7_weigh_4  n _ _ y34
-- X11_weight
set_option maxRecDepth 100000 in
set_option maxHeartbeats 4000000 in
theorem BX11_weight    {h : ob_H} {Q : Int32 → Prop} (y : MX11_weight   h Q) : ob_T yX11_weight cX11_weight 1 (some .int) (ob_rm 2) KS NN h [.ref 0] (ob_g (some .int) (ob_pi h Q)) := by
  unfold MX11_weight at y
  refine ob_T_gf (by decide +kernel) (Nat.le_of_ble_eq_true rfl) ?_
  show ob_J RX11 cX11_weight 1 (ob_rm 2) false none 0 0 KS NN h 0 [(0, .ref 0)] [] (ob_g (some .int) (ob_pi h Q))
  refine oj_aload_n 0 dX11_weight_0 rfl rfl ?_
  refine oj_getr (q := 93) fl_RX11_69 k_0 rfl k_93 dX11_weight_1 ?_
  refine oj_aload_n 0 dX11_weight_4 rfl rfl ?_
  refine oj_getr (q := 34) fl_RX11_37 k_0 rfl k_34 dX11_weight_5 ?_
  refine oj_getr (q := 35) fl_RX11_227 k_34 rfl k_35 dX11_weight_8 ?_
  refine oj_iconst dX11_weight_11 ci_2 ?_
  refine oj_iald k_35 in_2_7 ix_2 dX11_weight_12 ?_
  refine oc_Vpi [.int (h.1 35 2)] mi_RX11_258 ow_984 ow_985 rfl k_93 (BX7_weigh  y) ⟨by decide, by decide⟩ ⟨Nat.le_refl _, Nat.le_refl _⟩ rfl (Nat.le_of_ble_eq_true rfl) dX11_weight_13 (fun r1 f3 y4 => ?_)
  exact oj_ret (r := some (.int r1)) ⟨trivial, rfl, rfl, rfl, r1, rfl, y4⟩ dX11_weight_16 (Nat.zero_le _) (Nat.zero_le _)
-- X7_isBarredBy
set_option maxRecDepth 100000 in
set_option maxHeartbeats 4000000 in
theorem BX7_isBarredBy  {p1 : Int32}  {h : ob_H} {Q : Int32 → Prop} (y : MX7_isBarredBy  p1 h Q) : ob_T yX7_isBarredBy cX7_isBarredBy 2 (some .boolean) (ob_rm 2) KS NN h [.ref 93, .int p1] (ob_g (some .boolean) (ob_pi h Q)) := by
  unfold MX7_isBarredBy at y
  refine ob_T_gf (by decide +kernel) (Nat.le_of_ble_eq_true rfl) ?_
  show ob_J RX7 cX7_isBarredBy 2 (ob_rm 2) false none 0 0 KS NN h 0 [(0, .ref 93), (1, .int p1)] [] (ob_g (some .boolean) (ob_pi h Q))
  refine oj_aload_n 0 dX7_isBarredBy_0 rfl rfl ?_
  refine oj_iload_n 1 dX7_isBarredBy_1 rfl rfl ?_
  refine oc_Vpi [.int p1] mi_RX7_36 ow_984 ow_985 rfl k_93 (BX7_weigh  y) ⟨by decide, by decide⟩ ⟨Nat.le_refl _, Nat.le_refl _⟩ rfl (Nat.le_of_ble_eq_true rfl) dX7_isBarredBy_2 (fun r1 f3 y4 => ?_)
  refine oj_aload_n 0 dX7_isBarredBy_5 rfl rfl ?_
  refine oj_getr (q := 20) fl_RX7_19 k_93 rfl k_20 dX7_isBarredBy_6 ?_
  refine oj_geti fl_RX7_40 k_20 rfl dX7_isBarredBy_9 ?_
  refine oj_icmp_lt 19 dX7_isBarredBy_12 rfl (fun c5 => ?_) (fun c5 => ?_)
  · have y6 := y4.1 c5
    refine oj_iconst dX7_isBarredBy_19 ci_0 ?_
    exact oj_ret (r := some (.int (0))) ⟨rfl, rfl, rfl, rfl, (0), rfl, y6⟩ dX7_isBarredBy_20 (Nat.zero_le _) (Nat.zero_le _)
  · have y7 := y4.2 c5
    refine oj_iconst dX7_isBarredBy_15 ci_1 ?_
    refine oj_goto 20 dX7_isBarredBy_16 rfl ?_
    exact oj_ret (r := some (.int (1))) ⟨rfl, rfl, rfl, rfl, (1), rfl, y7⟩ dX7_isBarredBy_20 (Nat.zero_le _) (Nat.zero_le _)
-- X7_threatens
set_option maxRecDepth 100000 in
set_option maxHeartbeats 4000000 in
theorem BX7_threatens  {p1 : Int32}  {h : ob_H} {Q : Int32 → Prop} (y : MX7_threatens  p1 h Q) : ob_T yX7_threatens cX7_threatens 2 (some .boolean) (ob_rm 3) KS NN h [.ref 93, .int p1] (ob_g (some .boolean) (ob_pi h Q)) := by
  unfold MX7_threatens at y
  refine ob_T_gf (by decide +kernel) (Nat.le_of_ble_eq_true rfl) ?_
  show ob_J RX7 cX7_threatens 2 (ob_rm 3) false none 0 0 KS NN h 0 [(0, .ref 93), (1, .int p1)] [] (ob_g (some .boolean) (ob_pi h Q))
  refine oj_iload_n 1 dX7_threatens_0 rfl rfl ?_
  refine oj_aload_n 0 dX7_threatens_1 rfl rfl ?_
  refine oj_getr (q := 34) fl_RX7_23 k_93 rfl k_34 dX7_threatens_2 ?_
  refine oj_getr (q := 35) fl_RX7_43 k_34 rfl k_35 dX7_threatens_5 ?_
  refine oj_iconst dX7_threatens_8 ci_0 ?_
  refine oj_iald k_35 in_0_7 ix_0 dX7_threatens_9 ?_
  refine oj_iconst dX7_threatens_10 ci_m1 ?_
  refine oj_ixor dX7_threatens_11 ?_
  refine oj_iand dX7_threatens_12 ?_
  refine oj_if_ne 38 dX7_threatens_13 rfl (fun c1 => ?_) (fun c1 => ?_)
  · have y2 := y.2 c1
    refine oj_iconst dX7_threatens_38 ci_0 ?_
    exact oj_ret (r := some (.int (0))) ⟨rfl, rfl, rfl, rfl, (0), rfl, y2⟩ dX7_threatens_39 (Nat.zero_le _) (Nat.zero_le _)
  · have y3 := y.1 c1
    refine oj_aload_n 0 dX7_threatens_16 rfl rfl ?_
    refine oj_aload_n 0 dX7_threatens_17 rfl rfl ?_
    refine oj_getr (q := 34) fl_RX7_23 k_93 rfl k_34 dX7_threatens_18 ?_
    refine oj_getr (q := 35) fl_RX7_43 k_34 rfl k_35 dX7_threatens_21 ?_
    refine oj_iconst dX7_threatens_24 ci_2 ?_
    refine oj_iald k_35 in_2_7 ix_2 dX7_threatens_25 ?_
    refine oj_iload_n 1 dX7_threatens_26 rfl rfl ?_
    refine oj_ior dX7_threatens_27 ?_
    refine oc_Vpi [.int ((h.1 35 2) ||| p1)] mi_RX7_48 ow_1001 ow_1002 rfl k_93 (BX7_isBarredBy  y3) ⟨by decide, by decide⟩ ⟨Nat.le_refl _, Nat.le_refl _⟩ rfl (Nat.le_of_ble_eq_true rfl) dX7_threatens_28 (fun r4 f6 y7 => ?_)
    refine oj_if_eq 38 dX7_threatens_31 rfl (fun c8 => ?_) (fun c8 => ?_)
    · have y9 := y7.1 c8
      refine oj_iconst dX7_threatens_38 ci_0 ?_
      exact oj_ret (r := some (.int (0))) ⟨rfl, rfl, rfl, rfl, (0), rfl, y9⟩ dX7_threatens_39 (Nat.zero_le _) (Nat.zero_le _)
    · have y10 := y7.2 c8
      refine oj_iconst dX7_threatens_34 ci_1 ?_
      refine oj_goto 39 dX7_threatens_35 rfl ?_
      exact oj_ret (r := some (.int (1))) ⟨rfl, rfl, rfl, rfl, (1), rfl, y10⟩ dX7_threatens_39 (Nat.zero_le _) (Nat.zero_le _)
-- X7_findThreat
set_option maxRecDepth 100000 in
set_option maxHeartbeats 4000000 in
theorem BKX7_findThreat_34 {x1 : Int32} {x2 : Int32} {s0 : Int32} {h : ob_H} {Q : Int32 → ob_H → Prop} {k4 : Int32 → Int32 → ob_H → Prop} (hk4 : ∀ (x1' : Int32) (x2' : Int32) (h' : ob_H), k4 x1' x2' h' → ob_J RX7 cX7_findThreat 4 (ob_rm 4) false none 0 0 KS NN h' 4 [(0, .ref 93), (1, .int x1'), (2, .int x2')] [] (ob_g (some .boolean) (ob_qi Q)))
    (y : KX7_findThreat_34 x1 x2 s0 h Q k4) : ob_J RX7 cX7_findThreat 4 (ob_rm 4) false none 0 0 KS NN h 34 [(0, .ref 93), (1, .int x1), (2, .int x2)] [.int s0] (ob_g (some .boolean) (ob_qi Q)) := by
  unfold KX7_findThreat_34 at y
  refine oj_istore_n (lv' := [(3, .int s0), (0, .ref 93), (1, .int x1), (2, .int x2)]) dX7_findThreat_34 rfl (by decide) rfl ?_
  refine oj_iload_n 0 dX7_findThreat_35 rfl rfl ?_
  refine oj_if_eq 54 dX7_findThreat_36 rfl (fun c9 => ?_) (fun c9 => ?_)
  · have y10 := y.1 c9
    obtain ⟨v12, ev12⟩ : ∃ z : Int32, z = x2 + (1) := ⟨_, rfl⟩
    have y13 := Lt_at y10 v12 ev12
    refine oj_iinc (v := v12) (lv' := [(2, .int v12), (3, .int s0), (0, .ref 93), (1, .int x1)]) 3 dX7_findThreat_54 rfl (iinc_e ci_1 ev12) (by decide) rfl ?_
    refine oj_goto 4 dX7_findThreat_57 rfl ?_
    refine oj_lv [2, 3, 0] rfl ?_
    exact hk4 _ _ _ y13
  · have y11 := y.2 c9
    refine oj_aload_n 1 dX7_findThreat_39 rfl rfl ?_
    refine oj_iload_n 3 dX7_findThreat_40 rfl rfl ?_
    refine oc_Vpi [.int x2] mi_RX7_57 ow_998 op_29 rfl k_93 (BX7_threatens  y11) ⟨by decide, by decide⟩ ⟨Nat.le_refl _, Nat.le_refl _⟩ rfl (Nat.le_of_ble_eq_true rfl) dX7_findThreat_41 (fun r14 f16 y17 => ?_)
    refine oj_if_eq 54 dX7_findThreat_44 rfl (fun c18 => ?_) (fun c18 => ?_)
    · have y19 := y17.1 c18
      obtain ⟨v21, ev21⟩ : ∃ z : Int32, z = x2 + (1) := ⟨_, rfl⟩
      have y22 := Lt_at y19 v21 ev21
      refine oj_iinc (v := v21) (lv' := [(2, .int v21), (3, .int s0), (0, .ref 93), (1, .int x1)]) 3 dX7_findThreat_54 rfl (iinc_e ci_1 ev21) (by decide) rfl ?_
      refine oj_goto 4 dX7_findThreat_57 rfl ?_
      refine oj_lv [2, 3, 0] rfl ?_
      exact hk4 _ _ _ y22
    · have y20 := y17.2 c18
      refine oj_iconst dX7_findThreat_47 ci_1 ?_
      refine oj_istore_n (lv' := [(1, .int (1)), (3, .int s0), (0, .ref 93), (2, .int x2)]) dX7_findThreat_48 rfl (by decide) rfl ?_
      refine oj_aload_n 2 dX7_findThreat_49 rfl rfl ?_
      refine oj_iload_n 3 dX7_findThreat_50 rfl rfl ?_
      refine oj_puti fl_RX7_9 (Or.inl rfl) k_93 rfl rfl rfl dX7_findThreat_51 ?_
      refine oj_toph (fun h23 eh23 => ?_)
      have y24 := Lt_at y20 h23 eh23
      obtain ⟨v25, ev25⟩ : ∃ z : Int32, z = x2 + (1) := ⟨_, rfl⟩
      have y26 := Lt_at y24 v25 ev25
      refine oj_iinc (v := v25) (lv' := [(2, .int v25), (1, .int (1)), (3, .int s0), (0, .ref 93)]) 3 dX7_findThreat_54 rfl (iinc_e ci_1 ev25) (by decide) rfl ?_
      refine oj_goto 4 dX7_findThreat_57 rfl ?_
      refine oj_lv [3, 1, 0] rfl ?_
      exact hk4 _ _ _ y26
set_option maxRecDepth 100000 in
set_option maxHeartbeats 4000000 in
theorem BLX7_findThreat_4 {Q : Int32 → ob_H → Prop} :
    ∀ (n : Nat) (x1 : Int32) (x2 : Int32) (h : ob_H), it3 (FX7_findThreat_4 Q) n x1 x2 h → ob_J RX7 cX7_findThreat 4 (ob_rm 4) false none 0 0 KS NN h 4 [(0, .ref 93), (1, .int x1), (2, .int x2)] [] (ob_g (some .boolean) (ob_qi Q)) := by
  intro n
  induction n with
  | zero => intro x1 x2 h y; exact False.elim y
  | succ n hk4 =>
    intro x1 x2 h y
    have y : FX7_findThreat_4 Q (it3 (FX7_findThreat_4 Q) n) x1 x2 h := y
    unfold FX7_findThreat_4 at y
    refine oj_iload_n 2 dX7_findThreat_4 rfl rfl ?_
    refine oj_sipush dX7_findThreat_5 cs_128 ?_
    refine oj_icmp_ge 60 dX7_findThreat_8 rfl (fun c1 => ?_) (fun c1 => ?_)
    · have y2 := y.1 c1
      refine oj_iload_n 1 dX7_findThreat_60 rfl rfl ?_
      obtain ⟨c4, y5⟩ := y2
      exact oj_ret (r := some (.int x1)) ⟨c4, rfl, rfl, x1, rfl, y5⟩ dX7_findThreat_61 (Nat.zero_le _) (Nat.zero_le _)
    · have y3 := y.2 c1
      refine oj_iload_n 1 dX7_findThreat_11 rfl rfl ?_
      refine oj_if_eq 29 dX7_findThreat_12 rfl (fun c6 => ?_) (fun c6 => ?_)
      · have y7 := y3.1 c6
        refine oj_iconst dX7_findThreat_29 ci_1 ?_
        refine oj_goto 34 dX7_findThreat_30 rfl ?_
        refine oj_lv [0, 1, 2] rfl ?_
        exact BKX7_findThreat_34 hk4 y7
      · have y8 := y3.2 c6
        refine oj_iload_n 2 dX7_findThreat_15 rfl rfl ?_
        refine oc_Spi [.int x2] mi_RX7_52 ow_660 (BJ6_bitCount_0f7a4  y8) ⟨by decide, by decide⟩ ⟨Nat.le_refl _, Nat.le_refl _⟩ rfl (Nat.le_of_ble_eq_true rfl) dX7_findThreat_16 (fun r27 f29 y30 => ?_)
        refine oj_aload_n 0 dX7_findThreat_19 rfl rfl ?_
        refine oj_geti fl_RX7_9 k_93 rfl dX7_findThreat_20 ?_
        refine oc_Spi [.int (h.1 93 0)] mi_RX7_52 ow_660 (BJ6_bitCount_0f7a4  y30) ⟨by decide, by decide⟩ ⟨Nat.le_refl _, Nat.le_refl _⟩ rfl (Nat.le_of_ble_eq_true rfl) dX7_findThreat_23 (fun r31 f33 y34 => ?_)
        refine oj_icmp_ge 33 dX7_findThreat_26 rfl (fun c35 => ?_) (fun c35 => ?_)
        · have y36 := y34.1 c35
          refine oj_iconst dX7_findThreat_33 ci_0 ?_
          refine oj_lv [0, 1, 2] rfl ?_
          exact BKX7_findThreat_34 hk4 y36
        · have y37 := y34.2 c35
          refine oj_iconst dX7_findThreat_29 ci_1 ?_
          refine oj_goto 34 dX7_findThreat_30 rfl ?_
          refine oj_lv [0, 1, 2] rfl ?_
          exact BKX7_findThreat_34 hk4 y37
set_option maxRecDepth 100000 in
set_option maxHeartbeats 4000000 in
theorem BX7_findThreat    {h : ob_H} {Q : Int32 → ob_H → Prop} (y : MX7_findThreat   h Q) : ob_T yX7_findThreat cX7_findThreat 4 (some .boolean) (ob_rm 4) KS NN h [.ref 93] (ob_g (some .boolean) (ob_qi Q)) := by
  unfold MX7_findThreat at y
  refine ob_T_gf (by decide +kernel) (Nat.le_of_ble_eq_true rfl) ?_
  show ob_J RX7 cX7_findThreat 4 (ob_rm 4) false none 0 0 KS NN h 0 [(0, .ref 93)] [] (ob_g (some .boolean) (ob_qi Q))
  refine oj_iconst dX7_findThreat_0 ci_0 ?_
  refine oj_istore_n (lv' := [(1, .int (0)), (0, .ref 93)]) dX7_findThreat_1 rfl (by decide) rfl ?_
  refine oj_iconst dX7_findThreat_2 ci_0 ?_
  refine oj_istore_n (lv' := [(2, .int (0)), (1, .int (0)), (0, .ref 93)]) dX7_findThreat_3 rfl (by decide) rfl ?_
  refine oj_lv [2, 1, 0] rfl ?_
  obtain ⟨n, y38⟩ := y
  exact BLX7_findThreat_4  n _ _ _ y38
-- X11_threat
set_option maxRecDepth 100000 in
set_option maxHeartbeats 4000000 in
theorem BX11_threat  {p1 : Int32}  {h : ob_H} {Q : Int32 → ob_H → Prop} (y : MX11_threat  p1 h Q) : ob_T yX11_threat cX11_threat 2 (some .int) (ob_rm 5) KS NN h [.ref 0, .int p1] (ob_g (some .int) (ob_qi Q)) := by
  unfold MX11_threat at y
  refine ob_T_gf (by decide +kernel) (Nat.le_of_ble_eq_true rfl) ?_
  show ob_J RX11 cX11_threat 2 (ob_rm 5) false none 0 0 KS NN h 0 [(0, .ref 0), (1, .int p1)] [] (ob_g (some .int) (ob_qi Q))
  refine oj_iload_n 1 dX11_threat_0 rfl rfl ?_
  refine oj_if_lt 19 dX11_threat_1 rfl (fun c1 => ?_) (fun c1 => ?_)
  · have y2 := y.1 c1
    refine oj_iconst dX11_threat_19 ci_m1 ?_
    exact oj_ret (r := some (.int (-1))) ⟨trivial, rfl, rfl, (-1), rfl, y2⟩ dX11_threat_20 (Nat.zero_le _) (Nat.zero_le _)
  · have y3 := y.2 c1
    refine oj_iload_n 1 dX11_threat_4 rfl rfl ?_
    refine oj_iconst dX11_threat_5 ci_1 ?_
    refine oj_icmp_gt 19 dX11_threat_6 rfl (fun c4 => ?_) (fun c4 => ?_)
    · have y5 := y3.1 c4
      refine oj_iconst dX11_threat_19 ci_m1 ?_
      exact oj_ret (r := some (.int (-1))) ⟨trivial, rfl, rfl, (-1), rfl, y5⟩ dX11_threat_20 (Nat.zero_le _) (Nat.zero_le _)
    · have y6 := y3.2 c4
      refine oj_aload_n 0 dX11_threat_9 rfl rfl ?_
      refine oj_getr (q := 93) fl_RX11_69 k_0 rfl k_93 dX11_threat_10 ?_
      refine oc_Vi [] mi_RX11_261 ow_992 ow_993 rfl k_93 (BX7_findThreat  y6) ⟨by decide, by decide⟩ ⟨Nat.le_refl _, Nat.le_refl _⟩ rfl (Nat.le_of_ble_eq_true rfl) dX11_threat_13 (fun r7 f9 h8 y10 => ?_)
      refine oj_if_ne 21 dX11_threat_16 rfl (fun c11 => ?_) (fun c11 => ?_)
      · have y12 := y10.2 c11
        refine oj_iload_n 1 dX11_threat_21 rfl rfl ?_
        refine oj_if_ne 38 dX11_threat_22 rfl (fun c14 => ?_) (fun c14 => ?_)
        · have y15 := y12.2 c14
          refine oj_aload_n 0 dX11_threat_38 rfl rfl ?_
          refine oj_getr (q := 93) fl_RX11_69 k_0 rfl k_93 dX11_threat_39 ?_
          refine oj_geti fl_RX11_264 k_93 rfl dX11_threat_42 ?_
          exact oj_ret (r := some (.int (h8.1 93 0))) ⟨trivial, rfl, rfl, (h8.1 93 0), rfl, y15⟩ dX11_threat_45 (Nat.zero_le _) (Nat.zero_le _)
        · have y16 := y12.1 c14
          refine oj_aload_n 0 dX11_threat_25 rfl rfl ?_
          refine oj_getr (q := 93) fl_RX11_69 k_0 rfl k_93 dX11_threat_26 ?_
          refine oj_geti fl_RX11_264 k_93 rfl dX11_threat_29 ?_
          refine oc_Spi [.int (h8.1 93 0)] mi_RX11_267 ow_660 (BJ6_bitCount_0f7a4  y16) ⟨by decide, by decide⟩ ⟨Nat.le_refl _, Nat.le_refl _⟩ rfl (Nat.le_of_ble_eq_true rfl) dX11_threat_32 (fun r17 f19 y20 => ?_)
          refine oj_goto 45 dX11_threat_35 rfl ?_
          exact oj_ret (r := some (.int r17)) ⟨trivial, rfl, rfl, r17, rfl, y20⟩ dX11_threat_45 (Nat.zero_le _) (Nat.zero_le _)
      · have y13 := y10.1 c11
        refine oj_iconst dX11_threat_19 ci_m1 ?_
        exact oj_ret (r := some (.int (-1))) ⟨trivial, rfl, rfl, (-1), rfl, y13⟩ dX11_threat_20 (Nat.zero_le _) (Nat.zero_le _)
-- X7_countThreats
set_option maxRecDepth 100000 in
set_option maxHeartbeats 4000000 in
theorem BLX7_countThreats_4 {h : ob_H} {Q : Int32 → Prop} :
    ∀ (n : Nat) (x1 : Int32) (x2 : Int32), it2 (FX7_countThreats_4 h Q) n x1 x2 → ob_J RX7 cX7_countThreats 3 (ob_rm 4) false none 0 0 KS NN h 4 [(0, .ref 93), (1, .int x1), (2, .int x2)] [] (ob_g (some .int) (ob_pi h Q)) := by
  intro n
  induction n with
  | zero => intro x1 x2 y; exact False.elim y
  | succ n hk4 =>
    intro x1 x2 y
    have y : FX7_countThreats_4 h Q (it2 (FX7_countThreats_4 h Q) n) x1 x2 := y
    unfold FX7_countThreats_4 at y
    refine oj_iload_n 2 dX7_countThreats_4 rfl rfl ?_
    refine oj_sipush dX7_countThreats_5 cs_128 ?_
    refine oj_icmp_ge 33 dX7_countThreats_8 rfl (fun c1 => ?_) (fun c1 => ?_)
    · have y2 := y.1 c1
      refine oj_iload_n 1 dX7_countThreats_33 rfl rfl ?_
      exact oj_ret (r := some (.int x1)) ⟨trivial, rfl, rfl, rfl, x1, rfl, y2⟩ dX7_countThreats_34 (Nat.zero_le _) (Nat.zero_le _)
    · have y3 := y.2 c1
      refine oj_iload_n 1 dX7_countThreats_11 rfl rfl ?_
      refine oj_aload_n 0 dX7_countThreats_12 rfl rfl ?_
      refine oj_iload_n 2 dX7_countThreats_13 rfl rfl ?_
      refine oc_Vpi [.int x2] mi_RX7_57 ow_998 op_29 rfl k_93 (BX7_threatens  y3) ⟨by decide, by decide⟩ ⟨Nat.le_refl _, Nat.le_refl _⟩ rfl (Nat.le_of_ble_eq_true rfl) dX7_countThreats_14 (fun r4 f6 y7 => ?_)
      refine oj_if_eq 24 dX7_countThreats_17 rfl (fun c8 => ?_) (fun c8 => ?_)
      · have y9 := y7.1 c8
        refine oj_iconst dX7_countThreats_24 ci_0 ?_
        refine oj_iadd dX7_countThreats_25 ?_
        refine oj_topi (fun v11 ev11 => ?_)
        have y12 := Lt_at y9 v11 ev11
        refine oj_istore_n (lv' := [(1, .int v11), (0, .ref 93), (2, .int x2)]) dX7_countThreats_26 rfl (by decide) rfl ?_
        obtain ⟨v13, ev13⟩ : ∃ z : Int32, z = x2 + (1) := ⟨_, rfl⟩
        have y14 := Lt_at y12 v13 ev13
        refine oj_iinc (v := v13) (lv' := [(2, .int v13), (1, .int v11), (0, .ref 93)]) 2 dX7_countThreats_27 rfl (iinc_e ci_1 ev13) (by decide) rfl ?_
        refine oj_goto 4 dX7_countThreats_30 rfl ?_
        refine oj_lv [2, 1, 0] rfl ?_
        exact hk4 _ _ y14
      · have y10 := y7.2 c8
        refine oj_iconst dX7_countThreats_20 ci_1 ?_
        refine oj_goto 25 dX7_countThreats_21 rfl ?_
        refine oj_iadd dX7_countThreats_25 ?_
        refine oj_topi (fun v15 ev15 => ?_)
        have y16 := Lt_at y10 v15 ev15
        refine oj_istore_n (lv' := [(1, .int v15), (0, .ref 93), (2, .int x2)]) dX7_countThreats_26 rfl (by decide) rfl ?_
        obtain ⟨v17, ev17⟩ : ∃ z : Int32, z = x2 + (1) := ⟨_, rfl⟩
        have y18 := Lt_at y16 v17 ev17
        refine oj_iinc (v := v17) (lv' := [(2, .int v17), (1, .int v15), (0, .ref 93)]) 2 dX7_countThreats_27 rfl (iinc_e ci_1 ev17) (by decide) rfl ?_
        refine oj_goto 4 dX7_countThreats_30 rfl ?_
        refine oj_lv [2, 1, 0] rfl ?_
        exact hk4 _ _ y18
set_option maxRecDepth 100000 in
set_option maxHeartbeats 4000000 in
theorem BX7_countThreats    {h : ob_H} {Q : Int32 → Prop} (y : MX7_countThreats   h Q) : ob_T yX7_countThreats cX7_countThreats 3 (some .int) (ob_rm 4) KS NN h [.ref 93] (ob_g (some .int) (ob_pi h Q)) := by
  unfold MX7_countThreats at y
  refine ob_T_gf (by decide +kernel) (Nat.le_of_ble_eq_true rfl) ?_
  show ob_J RX7 cX7_countThreats 3 (ob_rm 4) false none 0 0 KS NN h 0 [(0, .ref 93)] [] (ob_g (some .int) (ob_pi h Q))
  refine oj_iconst dX7_countThreats_0 ci_0 ?_
  refine oj_istore_n (lv' := [(1, .int (0)), (0, .ref 93)]) dX7_countThreats_1 rfl (by decide) rfl ?_
  refine oj_iconst dX7_countThreats_2 ci_0 ?_
  refine oj_istore_n (lv' := [(2, .int (0)), (1, .int (0)), (0, .ref 93)]) dX7_countThreats_3 rfl (by decide) rfl ?_
  refine oj_lv [2, 1, 0] rfl ?_
  obtain ⟨n, y19⟩ := y
  exact BLX7_countThreats_4  n _ _ y19
-- X11_bars
set_option maxRecDepth 100000 in
set_option maxHeartbeats 4000000 in
theorem BX11_bars    {h : ob_H} {Q : Int32 → Prop} (y : MX11_bars   h Q) : ob_T yX11_bars cX11_bars 1 (some .int) (ob_rm 5) KS NN h [.ref 0] (ob_g (some .int) (ob_pi h Q)) := by
  unfold MX11_bars at y
  refine ob_T_gf (by decide +kernel) (Nat.le_of_ble_eq_true rfl) ?_
  show ob_J RX11 cX11_bars 1 (ob_rm 5) false none 0 0 KS NN h 0 [(0, .ref 0)] [] (ob_g (some .int) (ob_pi h Q))
  refine oj_aload_n 0 dX11_bars_0 rfl rfl ?_
  refine oj_getr (q := 93) fl_RX11_69 k_0 rfl k_93 dX11_bars_1 ?_
  refine oc_Vpi [] mi_RX11_272 ow_1011 ow_1012 rfl k_93 (BX7_countThreats  y) ⟨by decide, by decide⟩ ⟨Nat.le_refl _, Nat.le_refl _⟩ rfl (Nat.le_of_ble_eq_true rfl) dX11_bars_4 (fun r1 f3 y4 => ?_)
  exact oj_ret (r := some (.int r1)) ⟨trivial, rfl, rfl, rfl, r1, rfl, y4⟩ dX11_bars_7 (Nat.zero_le _) (Nat.zero_le _)
-- X11_gain
set_option maxRecDepth 100000 in
set_option maxHeartbeats 4000000 in
theorem BX11_gain  {p1 : Int32}  {h : ob_H} {Q : Int32 → ob_H → Prop} (y : MX11_gain  p1 h Q) : ob_T yX11_gain cX11_gain 2 (some .int) (ob_rm 6) KS NN h [.ref 0, .int p1] (ob_g (some .int) (ob_qi Q)) := by
  unfold MX11_gain at y
  refine ob_T_gf (by decide +kernel) (Nat.le_of_ble_eq_true rfl) ?_
  show ob_J RX11 cX11_gain 2 (ob_rm 6) false none 0 0 KS NN h 0 [(0, .ref 0), (1, .int p1)] [] (ob_g (some .int) (ob_qi Q))
  refine oj_aload_n 0 dX11_gain_0 rfl rfl ?_
  refine oj_iload_n 1 dX11_gain_1 rfl rfl ?_
  refine oc_Vpi [.int p1] mi_RX11_169 ow_763 op_20 rfl k_0 (BX11_isWaiting  y) ⟨by decide, by decide⟩ ⟨Nat.le_refl _, Nat.le_refl _⟩ rfl (Nat.le_of_ble_eq_true rfl) dX11_gain_2 (fun r1 f3 y4 => ?_)
  refine oj_if_ne 11 dX11_gain_5 rfl (fun c5 => ?_) (fun c5 => ?_)
  · have y6 := y4.2 c5
    refine oj_aload_n 0 dX11_gain_11 rfl rfl ?_
    refine oj_getr (q := 92) fl_RX11_60 k_0 rfl k_92 dX11_gain_12 ?_
    refine oj_iconst dX11_gain_15 ci_0 ?_
    refine oc_Vi [.int (0)] mi_RX11_275 ow_965 ow_966 rfl k_92 (BX0_duskWithout  y6) ⟨by decide, by decide⟩ ⟨Nat.le_refl _, Nat.le_refl _⟩ rfl (Nat.le_of_ble_eq_true rfl) dX11_gain_16 (fun r8 f10 h9 y11 => ?_)
    refine oj_aload_n 0 dX11_gain_19 rfl rfl ?_
    refine oj_getr (q := 92) fl_RX11_60 k_0 rfl k_92 dX11_gain_20 ?_
    refine oj_iconst dX11_gain_23 ci_1 ?_
    refine oj_iload_n 1 dX11_gain_24 rfl rfl ?_
    refine oj_ishl dX11_gain_25 ?_
    refine oc_Vi [.int ((1) <<< (p1 &&& 31))] mi_RX11_275 ow_965 ow_966 rfl k_92 (BX0_duskWithout  y11) ⟨by decide, by decide⟩ ⟨Nat.le_refl _, Nat.le_refl _⟩ rfl (Nat.le_of_ble_eq_true rfl) dX11_gain_26 (fun r12 f14 h13 y15 => ?_)
    refine oj_isub dX11_gain_29 ?_
    exact oj_ret (r := some (.int (r8 - r12))) ⟨trivial, rfl, rfl, (r8 - r12), rfl, y15⟩ dX11_gain_30 (Nat.zero_le _) (Nat.zero_le _)
  · have y7 := y4.1 c5
    refine oj_ldc ow_783 dX11_gain_8 ?_
    exact oj_ret (r := some (.int (-1000000000))) ⟨trivial, rfl, rfl, (-1000000000), rfl, y7⟩ dX11_gain_10 (Nat.zero_le _) (Nat.zero_le _)
-- X2_crowdOf
set_option maxRecDepth 100000 in
set_option maxHeartbeats 4000000 in
theorem BLX2_crowdOf_17 {o : Nat} (hA : A2 o) {x3 : Int32} {h : ob_H} {Q : Int32 → Prop} {k6 : Int32 → Int32 → Prop} (hk6 : ∀ (x2' : Int32) (x3' : Int32), k6 x2' x3' → ob_J RX2 cX2_crowdOf 5 (ob_rm 1) false none 0 0 KS NN h 6 [(0, .ref o), (2, .int x2'), (3, .int x3')] [] (ob_g (some .int) (ob_pi h Q))) :
    ∀ (n : Nat) (x2 : Int32) (x4 : Int32), it2 (FX2_crowdOf_17 o x3 h Q k6) n x2 x4 → ob_J RX2 cX2_crowdOf 5 (ob_rm 1) false none 0 0 KS NN h 17 [(0, .ref o), (2, .int x2), (3, .int x3), (4, .int x4)] [] (ob_g (some .int) (ob_pi h Q)) := by
  intro n
  induction n with
  | zero => intro x2 x4 y; exact False.elim y
  | succ n hk17 =>
    intro x2 x4 y
    have y : FX2_crowdOf_17 o x3 h Q k6 (it2 (FX2_crowdOf_17 o x3 h Q k6) n) x2 x4 := y
    unfold FX2_crowdOf_17 at y
    refine oj_iload 3 dX2_crowdOf_17 rfl ?_
    refine oj_aload_n 0 dX2_crowdOf_19 rfl rfl ?_
    refine oj_geti fl_RX2_7 (A2_0 hA) rfl dX2_crowdOf_20 ?_
    refine oj_icmp_ge 55 dX2_crowdOf_23 rfl (fun c6 => ?_) (fun c6 => ?_)
    · have y7 := y.1 c6
      obtain ⟨v9, ev9⟩ : ∃ z : Int32, z = x3 + (1) := ⟨_, rfl⟩
      have y10 := Lt_at y7 v9 ev9
      refine oj_iinc (v := v9) (lv' := [(3, .int v9), (0, .ref o), (2, .int x2), (4, .int x4)]) 2 dX2_crowdOf_55 rfl (iinc_e ci_1 ev9) (by decide) rfl ?_
      refine oj_goto 6 dX2_crowdOf_58 rfl ?_
      refine oj_lv [1, 2, 0] rfl ?_
      exact hk6 _ _ y10
    · have y8 := y.2 c6
      refine oj_iload_n 1 dX2_crowdOf_26 rfl rfl ?_
      refine oj_iload_n 1 dX2_crowdOf_27 rfl rfl ?_
      refine oj_iload 3 dX2_crowdOf_28 rfl ?_
      refine oj_ishr dX2_crowdOf_30 ?_
      refine oj_iconst dX2_crowdOf_31 ci_1 ?_
      refine oj_iand dX2_crowdOf_32 ?_
      refine oj_if_eq 46 dX2_crowdOf_33 rfl (fun c11 => ?_) (fun c11 => ?_)
      · have y12 := y8.1 c11
        refine oj_iconst dX2_crowdOf_46 ci_0 ?_
        refine oj_ior dX2_crowdOf_47 ?_
        refine oj_topi (fun v14 ev14 => ?_)
        have y15 := Lt_at y12 v14 ev14
        refine oj_istore_n (lv' := [(2, .int v14), (0, .ref o), (3, .int x3), (4, .int x4)]) dX2_crowdOf_48 rfl (by decide) rfl ?_
        obtain ⟨v16, ev16⟩ : ∃ z : Int32, z = x4 + (1) := ⟨_, rfl⟩
        have y17 := Lt_at y15 v16 ev16
        refine oj_iinc (v := v16) (lv' := [(4, .int v16), (2, .int v14), (0, .ref o), (3, .int x3)]) 3 dX2_crowdOf_49 rfl (iinc_e ci_1 ev16) (by decide) rfl ?_
        refine oj_goto 17 dX2_crowdOf_52 rfl ?_
        refine oj_lv [2, 1, 3, 0] rfl ?_
        exact hk17 _ _ y17
      · have y13 := y8.2 c11
        refine oj_aload_n 0 dX2_crowdOf_36 rfl rfl ?_
        refine oj_getr (q := (o + 6)) fl_RX2_29 (A2_0 hA) rfl (A2_6 hA) dX2_crowdOf_37 ?_
        refine oj_iload 3 dX2_crowdOf_40 rfl ?_
        obtain ⟨c18, y19⟩ := y13
        refine oj_iald (A2_6 hA) c18 rfl dX2_crowdOf_42 ?_
        refine oj_goto 47 dX2_crowdOf_43 rfl ?_
        refine oj_ior dX2_crowdOf_47 ?_
        refine oj_topi (fun v20 ev20 => ?_)
        have y21 := Lt_at y19 v20 ev20
        refine oj_istore_n (lv' := [(2, .int v20), (0, .ref o), (3, .int x3), (4, .int x4)]) dX2_crowdOf_48 rfl (by decide) rfl ?_
        obtain ⟨v22, ev22⟩ : ∃ z : Int32, z = x4 + (1) := ⟨_, rfl⟩
        have y23 := Lt_at y21 v22 ev22
        refine oj_iinc (v := v22) (lv' := [(4, .int v22), (2, .int v20), (0, .ref o), (3, .int x3)]) 3 dX2_crowdOf_49 rfl (iinc_e ci_1 ev22) (by decide) rfl ?_
        refine oj_goto 17 dX2_crowdOf_52 rfl ?_
        refine oj_lv [2, 1, 3, 0] rfl ?_
        exact hk17 _ _ y23
set_option maxRecDepth 100000 in
set_option maxHeartbeats 4000000 in
theorem BLX2_crowdOf_6 {o : Nat} (hA : A2 o) {h : ob_H} {Q : Int32 → Prop} :
    ∀ (n : Nat) (x2 : Int32) (x3 : Int32), it2 (FX2_crowdOf_6 o h Q) n x2 x3 → ob_J RX2 cX2_crowdOf 5 (ob_rm 1) false none 0 0 KS NN h 6 [(0, .ref o), (2, .int x2), (3, .int x3)] [] (ob_g (some .int) (ob_pi h Q)) := by
  intro n
  induction n with
  | zero => intro x2 x3 y; exact False.elim y
  | succ n hk6 =>
    intro x2 x3 y
    have y : FX2_crowdOf_6 o h Q (it2 (FX2_crowdOf_6 o h Q) n) x2 x3 := y
    unfold FX2_crowdOf_6 at y
    refine oj_iload_n 2 dX2_crowdOf_6 rfl rfl ?_
    refine oj_aload_n 0 dX2_crowdOf_7 rfl rfl ?_
    refine oj_geti fl_RX2_7 (A2_0 hA) rfl dX2_crowdOf_8 ?_
    refine oj_icmp_ge 61 dX2_crowdOf_11 rfl (fun c3 => ?_) (fun c3 => ?_)
    · have y4 := y.1 c3
      refine oj_iload_n 1 dX2_crowdOf_61 rfl rfl ?_
      exact oj_ret (r := some (.int x2)) ⟨trivial, rfl, rfl, rfl, x2, rfl, y4⟩ dX2_crowdOf_62 (Nat.zero_le _) (Nat.zero_le _)
    · have y5 := y.2 c3
      refine oj_iconst dX2_crowdOf_14 ci_0 ?_
      refine oj_istore (lv' := [(4, .int (0)), (0, .ref o), (2, .int x2), (3, .int x3)]) dX2_crowdOf_15 (by decide) rfl ?_
      refine oj_lv [1, 2, 3, 0] rfl ?_
      obtain ⟨n, y24⟩ := y5
      exact BLX2_crowdOf_17 hA hk6 n _ _ y24
set_option maxRecDepth 100000 in
set_option maxHeartbeats 4000000 in
theorem BX2_crowdOf  {o : Nat} {p1 : Int32} (hA : A2 o) {h : ob_H} {Q : Int32 → Prop} (y : MX2_crowdOf  o p1 h Q) : ob_T yX2_crowdOf cX2_crowdOf 5 (some .int) (ob_rm 1) KS NN h [.ref o, .int p1] (ob_g (some .int) (ob_pi h Q)) := by
  unfold MX2_crowdOf at y
  refine ob_T_gf (by decide +kernel) (Nat.le_of_ble_eq_true rfl) ?_
  show ob_J RX2 cX2_crowdOf 5 (ob_rm 1) false none 0 0 KS NN h 0 [(0, .ref o), (1, .int p1)] [] (ob_g (some .int) (ob_pi h Q))
  refine oj_iconst dX2_crowdOf_0 ci_1 ?_
  refine oj_iload_n 1 dX2_crowdOf_1 rfl rfl ?_
  refine oj_ishl dX2_crowdOf_2 ?_
  refine oj_topi (fun v1 ev1 => ?_)
  have y2 := Lt_at y v1 ev1
  refine oj_istore_n (lv' := [(2, .int v1), (0, .ref o), (1, .int p1)]) dX2_crowdOf_3 rfl (by decide) rfl ?_
  refine oj_iconst dX2_crowdOf_4 ci_0 ?_
  refine oj_istore_n (lv' := [(3, .int (0)), (2, .int v1), (0, .ref o), (1, .int p1)]) dX2_crowdOf_5 rfl (by decide) rfl ?_
  refine oj_lv [2, 1, 0] rfl ?_
  obtain ⟨n, y25⟩ := y2
  exact BLX2_crowdOf_6 hA n _ _ y25
-- X11_crowd
set_option maxRecDepth 100000 in
set_option maxHeartbeats 4000000 in
theorem BX11_crowd  {p1 : Int32}  {h : ob_H} {Q : Int32 → Prop} (y : MX11_crowd  p1 h Q) : ob_T yX11_crowd cX11_crowd 2 (some .int) (ob_rm 2) KS NN h [.ref 0, .int p1] (ob_g (some .int) (ob_pi h Q)) := by
  unfold MX11_crowd at y
  refine ob_T_gf (by decide +kernel) (Nat.le_of_ble_eq_true rfl) ?_
  show ob_J RX11 cX11_crowd 2 (ob_rm 2) false none 0 0 KS NN h 0 [(0, .ref 0), (1, .int p1)] [] (ob_g (some .int) (ob_pi h Q))
  refine oj_aload_n 0 dX11_crowd_0 rfl rfl ?_
  refine oj_iload_n 1 dX11_crowd_1 rfl rfl ?_
  refine oc_Vpi [.int p1] mi_RX11_137 ow_743 op_19 rfl k_0 (BX11_isTold  y) ⟨by decide, by decide⟩ ⟨Nat.le_refl _, Nat.le_refl _⟩ rfl (Nat.le_of_ble_eq_true rfl) dX11_crowd_2 (fun r1 f3 y4 => ?_)
  refine oj_if_eq 19 dX11_crowd_5 rfl (fun c5 => ?_) (fun c5 => ?_)
  · have y6 := y4.1 c5
    refine oj_iconst dX11_crowd_19 ci_m1 ?_
    exact oj_ret (r := some (.int (-1))) ⟨trivial, rfl, rfl, rfl, (-1), rfl, y6⟩ dX11_crowd_20 (Nat.zero_le _) (Nat.zero_le _)
  · have y7 := y4.2 c5
    refine oj_aload_n 0 dX11_crowd_8 rfl rfl ?_
    refine oj_getr (q := 20) fl_RX11_28 k_0 rfl k_20 dX11_crowd_9 ?_
    refine oj_iload_n 1 dX11_crowd_12 rfl rfl ?_
    refine oc_Vpi [.int p1] mi_RX11_278 ow_1024 ow_1025 rfl k_20 (BX2_crowdOf AA2_20 y7) ⟨by decide, by decide⟩ ⟨Nat.le_refl _, Nat.le_refl _⟩ rfl (Nat.le_of_ble_eq_true rfl) dX11_crowd_13 (fun r8 f10 y11 => ?_)
    refine oj_goto 20 dX11_crowd_16 rfl ?_
    exact oj_ret (r := some (.int r8)) ⟨trivial, rfl, rfl, rfl, r8, rfl, y11⟩ dX11_crowd_20 (Nat.zero_le _) (Nat.zero_le _)
-- X11_canBeDrawn
set_option maxRecDepth 100000 in
set_option maxHeartbeats 4000000 in
theorem BKX11_canBeDrawn_21 {x1 : Int32} {x2 : Int32} {s0 : Int32} {h : ob_H} {Q : Int32 → Prop}
    (y : KX11_canBeDrawn_21 x1 x2 s0 h Q) : ob_J RX11 cX11_canBeDrawn 4 (ob_rm 2) false none 0 0 KS NN h 21 [(1, .int x1), (2, .int x2)] [.int s0] (ob_g (some .boolean) (ob_pi h Q)) := by
  unfold KX11_canBeDrawn_21 at y
  refine oj_istore_n (lv' := [(3, .int s0), (1, .int x1), (2, .int x2)]) dX11_canBeDrawn_21 rfl (by decide) rfl ?_
  refine oj_iload_n 0 dX11_canBeDrawn_22 rfl rfl ?_
  refine oj_if_eq 47 dX11_canBeDrawn_23 rfl (fun c4 => ?_) (fun c4 => ?_)
  · have y5 := y.1 c4
    refine oj_iconst dX11_canBeDrawn_47 ci_0 ?_
    exact oj_ret (r := some (.int (0))) ⟨rfl, rfl, rfl, rfl, (0), rfl, y5⟩ dX11_canBeDrawn_48 (Nat.zero_le _) (Nat.zero_le _)
  · have y6 := y.2 c4
    refine oj_iload_n 1 dX11_canBeDrawn_26 rfl rfl ?_
    refine oc_Spi [.int x1] mi_RX11_267 ow_660 (BJ6_bitCount_0f7a4  y6) ⟨by decide, by decide⟩ ⟨Nat.le_refl _, Nat.le_refl _⟩ rfl (Nat.le_of_ble_eq_true rfl) dX11_canBeDrawn_27 (fun r7 f9 y10 => ?_)
    refine oj_iconst dX11_canBeDrawn_30 ci_4 ?_
    refine oj_icmp_gt 47 dX11_canBeDrawn_31 rfl (fun c11 => ?_) (fun c11 => ?_)
    · have y12 := y10.1 c11
      refine oj_iconst dX11_canBeDrawn_47 ci_0 ?_
      exact oj_ret (r := some (.int (0))) ⟨rfl, rfl, rfl, rfl, (0), rfl, y12⟩ dX11_canBeDrawn_48 (Nat.zero_le _) (Nat.zero_le _)
    · have y13 := y10.2 c11
      refine oj_iload_n 2 dX11_canBeDrawn_34 rfl rfl ?_
      refine oj_if_eq 43 dX11_canBeDrawn_35 rfl (fun c14 => ?_) (fun c14 => ?_)
      · have y15 := y13.1 c14
        refine oj_iconst dX11_canBeDrawn_43 ci_1 ?_
        refine oj_goto 48 dX11_canBeDrawn_44 rfl ?_
        exact oj_ret (r := some (.int (1))) ⟨rfl, rfl, rfl, rfl, (1), rfl, y15⟩ dX11_canBeDrawn_48 (Nat.zero_le _) (Nat.zero_le _)
      · have y16 := y13.2 c14
        refine oj_iload_n 2 dX11_canBeDrawn_38 rfl rfl ?_
        refine oj_iconst dX11_canBeDrawn_39 ci_1 ?_
        refine oj_icmp_ne 47 dX11_canBeDrawn_40 rfl (fun c17 => ?_) (fun c17 => ?_)
        · have y18 := y16.2 c17
          refine oj_iconst dX11_canBeDrawn_47 ci_0 ?_
          exact oj_ret (r := some (.int (0))) ⟨rfl, rfl, rfl, rfl, (0), rfl, y18⟩ dX11_canBeDrawn_48 (Nat.zero_le _) (Nat.zero_le _)
        · have y19 := y16.1 c17
          refine oj_iconst dX11_canBeDrawn_43 ci_1 ?_
          refine oj_goto 48 dX11_canBeDrawn_44 rfl ?_
          exact oj_ret (r := some (.int (1))) ⟨rfl, rfl, rfl, rfl, (1), rfl, y19⟩ dX11_canBeDrawn_48 (Nat.zero_le _) (Nat.zero_le _)
set_option maxRecDepth 100000 in
set_option maxHeartbeats 4000000 in
theorem BX11_canBeDrawn  {p1 : Int32} {p2 : Int32}  {h : ob_H} {Q : Int32 → Prop} (y : MX11_canBeDrawn  p1 p2 h Q) : ob_T yX11_canBeDrawn cX11_canBeDrawn 4 (some .boolean) (ob_rm 2) KS NN h [.ref 0, .int p1, .int p2] (ob_g (some .boolean) (ob_pi h Q)) := by
  unfold MX11_canBeDrawn at y
  refine ob_T_gf (by decide +kernel) (Nat.le_of_ble_eq_true rfl) ?_
  show ob_J RX11 cX11_canBeDrawn 4 (ob_rm 2) false none 0 0 KS NN h 0 [(0, .ref 0), (1, .int p1), (2, .int p2)] [] (ob_g (some .boolean) (ob_pi h Q))
  refine oj_iload_n 1 dX11_canBeDrawn_0 rfl rfl ?_
  refine oj_aload_n 0 dX11_canBeDrawn_1 rfl rfl ?_
  refine oj_getr (q := 34) fl_RX11_37 k_0 rfl k_34 dX11_canBeDrawn_2 ?_
  refine oj_getr (q := 35) fl_RX11_227 k_34 rfl k_35 dX11_canBeDrawn_5 ?_
  refine oj_iconst dX11_canBeDrawn_8 ci_0 ?_
  refine oj_iald k_35 in_0_7 ix_0 dX11_canBeDrawn_9 ?_
  refine oj_iconst dX11_canBeDrawn_10 ci_m1 ?_
  refine oj_ixor dX11_canBeDrawn_11 ?_
  refine oj_iand dX11_canBeDrawn_12 ?_
  refine oj_if_ne 20 dX11_canBeDrawn_13 rfl (fun c1 => ?_) (fun c1 => ?_)
  · have y2 := y.2 c1
    refine oj_iconst dX11_canBeDrawn_20 ci_0 ?_
    refine oj_lv [1, 2] rfl ?_
    exact BKX11_canBeDrawn_21  y2
  · have y3 := y.1 c1
    refine oj_iconst dX11_canBeDrawn_16 ci_1 ?_
    refine oj_goto 21 dX11_canBeDrawn_17 rfl ?_
    refine oj_lv [1, 2] rfl ?_
    exact BKX11_canBeDrawn_21  y3
-- X7_takeChances
set_option maxRecDepth 100000 in
set_option maxHeartbeats 4000000 in
theorem BLX7_takeChances_2 {Q : ob_H → Prop} :
    ∀ (n : Nat) (x1 : Int32) (h : ob_H), it2 (FX7_takeChances_2 Q) n x1 h → ob_J RX7 cX7_takeChances 2 (ob_rm 4) false none 0 0 KS NN h 2 [(0, .ref 93), (1, .int x1)] [] (ob_g none (ob_qv Q)) := by
  intro n
  induction n with
  | zero => intro x1 h y; exact False.elim y
  | succ n hk2 =>
    intro x1 h y
    have y : FX7_takeChances_2 Q (it2 (FX7_takeChances_2 Q) n) x1 h := y
    unfold FX7_takeChances_2 at y
    refine oj_iload_n 1 dX7_takeChances_2 rfl rfl ?_
    refine oj_aload_n 0 dX7_takeChances_3 rfl rfl ?_
    refine oj_getr (q := 20) fl_RX7_19 k_93 rfl k_20 dX7_takeChances_4 ?_
    refine oj_geti fl_RX7_27 k_20 rfl dX7_takeChances_7 ?_
    refine oj_icmp_ge 42 dX7_takeChances_10 rfl (fun c1 => ?_) (fun c1 => ?_)
    · have y2 := y.1 c1
      exact oj_ret (r := none) ⟨trivial, rfl, rfl, rfl, y2⟩ dX7_takeChances_42 (Nat.zero_le _) (Nat.zero_le _)
    · have y3 := y.2 c1
      refine oj_aload_n 0 dX7_takeChances_13 rfl rfl ?_
      refine oj_getr (q := 94) fl_RX7_15 k_93 rfl k_94 dX7_takeChances_14 ?_
      refine oj_iload_n 1 dX7_takeChances_17 rfl rfl ?_
      refine oj_iconst dX7_takeChances_18 ci_0 ?_
      refine oj_bipush dX7_takeChances_19 cb_100 ?_
      refine oj_aload_n 0 dX7_takeChances_21 rfl rfl ?_
      refine oj_getr (q := 34) fl_RX7_23 k_93 rfl k_34 dX7_takeChances_22 ?_
      refine oj_iload_n 1 dX7_takeChances_25 rfl rfl ?_
      refine oc_Vi [.int x1] mi_RX7_74 ow_811 ow_812 rfl k_34 (BX6_answerOf AA6_34 y3) ⟨by decide, by decide⟩ ⟨Nat.le_refl _, Nat.le_refl _⟩ rfl (Nat.le_of_ble_eq_true rfl) dX7_takeChances_26 (fun r4 f6 h5 y7 => ?_)
      refine oj_mmin ow_1044 ow_1045 ow_20 ow_1046 (by decide) (by decide) (Nat.le_of_ble_eq_true rfl) (Nat.zero_le _) (Nat.zero_le _) dX7_takeChances_29 ?_
      refine oj_mmax ow_1047 ow_1048 ow_20 ow_1049 (by decide) (by decide) (Nat.le_of_ble_eq_true rfl) (Nat.zero_le _) (Nat.zero_le _) dX7_takeChances_32 ?_
      obtain ⟨c8, y9⟩ := y7
      refine oj_iast k_94 c8 rfl dX7_takeChances_35 ?_
      refine oj_toph (fun h10 eh10 => ?_)
      have y11 := Lt_at y9 h10 eh10
      obtain ⟨v12, ev12⟩ : ∃ z : Int32, z = x1 + (1) := ⟨_, rfl⟩
      have y13 := Lt_at y11 v12 ev12
      refine oj_iinc (v := v12) (lv' := [(1, .int v12), (0, .ref 93)]) 1 dX7_takeChances_36 rfl (iinc_e ci_1 ev12) (by decide) rfl ?_
      refine oj_goto 2 dX7_takeChances_39 rfl ?_
      refine oj_lv [1, 0] rfl ?_
      exact hk2 _ _ y13
set_option maxRecDepth 100000 in
set_option maxHeartbeats 4000000 in
theorem BX7_takeChances    {h : ob_H} {Q : ob_H → Prop} (y : MX7_takeChances   h Q) : ob_T yX7_takeChances cX7_takeChances 2 none (ob_rm 4) KS NN h [.ref 93] (ob_g none (ob_qv Q)) := by
  unfold MX7_takeChances at y
  refine ob_T_gf (by decide +kernel) (Nat.le_of_ble_eq_true rfl) ?_
  show ob_J RX7 cX7_takeChances 2 (ob_rm 4) false none 0 0 KS NN h 0 [(0, .ref 93)] [] (ob_g none (ob_qv Q))
  refine oj_iconst dX7_takeChances_0 ci_0 ?_
  refine oj_istore_n (lv' := [(1, .int (0)), (0, .ref 93)]) dX7_takeChances_1 rfl (by decide) rfl ?_
  refine oj_lv [1, 0] rfl ?_
  obtain ⟨n, y14⟩ := y
  exact BLX7_takeChances_2  n _ _ y14
-- X7_ways
set_option maxRecDepth 100000 in
set_option maxHeartbeats 4000000 in
theorem BLX7_ways_5 {x1 : Int32} {x2 : Int32} {h : ob_H} {Q : Int32 → Prop} :
    ∀ (n : Nat) (x3 : Int32) (x4 : Int32), it2 (FX7_ways_5 x1 x2 h Q) n x3 x4 → ob_J RX7 cX7_ways 5 (ob_rm 1) false none 0 0 KS NN h 5 [(0, .ref 93), (1, .int x1), (2, .int x2), (3, .int x3), (4, .int x4)] [] (ob_g (some .int) (ob_pi h Q)) := by
  intro n
  induction n with
  | zero => intro x3 x4 y; exact False.elim y
  | succ n hk5 =>
    intro x3 x4 y
    have y : FX7_ways_5 x1 x2 h Q (it2 (FX7_ways_5 x1 x2 h Q) n) x3 x4 := y
    unfold FX7_ways_5 at y
    refine oj_iload 4 dX7_ways_5 rfl ?_
    refine oj_aload_n 0 dX7_ways_7 rfl rfl ?_
    refine oj_getr (q := 20) fl_RX7_19 k_93 rfl k_20 dX7_ways_8 ?_
    refine oj_geti fl_RX7_27 k_20 rfl dX7_ways_11 ?_
    refine oj_icmp_ge 64 dX7_ways_14 rfl (fun c1 => ?_) (fun c1 => ?_)
    · have y2 := y.1 c1
      refine oj_iload_n 3 dX7_ways_64 rfl rfl ?_
      exact oj_ret (r := some (.int x3)) ⟨trivial, rfl, rfl, rfl, x3, rfl, y2⟩ dX7_ways_65 (Nat.zero_le _) (Nat.zero_le _)
    · have y3 := y.2 c1
      refine oj_iload_n 1 dX7_ways_17 rfl rfl ?_
      refine oj_iload 4 dX7_ways_18 rfl ?_
      refine oj_ishr dX7_ways_20 ?_
      refine oj_iconst dX7_ways_21 ci_1 ?_
      refine oj_iand dX7_ways_22 ?_
      refine oj_if_eq 58 dX7_ways_23 rfl (fun c4 => ?_) (fun c4 => ?_)
      · have y5 := y3.1 c4
        obtain ⟨v7, ev7⟩ : ∃ z : Int32, z = x4 + (1) := ⟨_, rfl⟩
        have y8 := Lt_at y5 v7 ev7
        refine oj_iinc (v := v7) (lv' := [(4, .int v7), (0, .ref 93), (1, .int x1), (2, .int x2), (3, .int x3)]) 4 dX7_ways_58 rfl (iinc_e ci_1 ev7) (by decide) rfl ?_
        refine oj_goto 5 dX7_ways_61 rfl ?_
        refine oj_lv [1, 2, 3, 4, 0] rfl ?_
        exact hk5 _ _ y8
      · have y6 := y3.2 c4
        refine oj_iload_n 3 dX7_ways_26 rfl rfl ?_
        refine oj_iload_n 2 dX7_ways_27 rfl rfl ?_
        refine oj_iload 4 dX7_ways_28 rfl ?_
        refine oj_ishr dX7_ways_30 ?_
        refine oj_iconst dX7_ways_31 ci_1 ?_
        refine oj_iand dX7_ways_32 ?_
        refine oj_if_eq 49 dX7_ways_33 rfl (fun c9 => ?_) (fun c9 => ?_)
        · have y10 := y6.1 c9
          refine oj_aload_n 0 dX7_ways_49 rfl rfl ?_
          refine oj_getr (q := 94) fl_RX7_15 k_93 rfl k_94 dX7_ways_50 ?_
          refine oj_iload 4 dX7_ways_53 rfl ?_
          obtain ⟨c12, y13⟩ := y10
          refine oj_iald k_94 c12 rfl dX7_ways_55 ?_
          refine oj_imul dX7_ways_56 ?_
          refine oj_topi (fun v14 ev14 => ?_)
          have y15 := Lt_at y13 v14 ev14
          refine oj_istore_n (lv' := [(3, .int v14), (0, .ref 93), (1, .int x1), (2, .int x2), (4, .int x4)]) dX7_ways_57 rfl (by decide) rfl ?_
          obtain ⟨v16, ev16⟩ : ∃ z : Int32, z = x4 + (1) := ⟨_, rfl⟩
          have y17 := Lt_at y15 v16 ev16
          refine oj_iinc (v := v16) (lv' := [(4, .int v16), (3, .int v14), (0, .ref 93), (1, .int x1), (2, .int x2)]) 4 dX7_ways_58 rfl (iinc_e ci_1 ev16) (by decide) rfl ?_
          refine oj_goto 5 dX7_ways_61 rfl ?_
          refine oj_lv [2, 3, 4, 1, 0] rfl ?_
          exact hk5 _ _ y17
        · have y11 := y6.2 c9
          refine oj_bipush dX7_ways_36 cb_100 ?_
          refine oj_aload_n 0 dX7_ways_38 rfl rfl ?_
          refine oj_getr (q := 94) fl_RX7_15 k_93 rfl k_94 dX7_ways_39 ?_
          refine oj_iload 4 dX7_ways_42 rfl ?_
          obtain ⟨c18, y19⟩ := y11
          refine oj_iald k_94 c18 rfl dX7_ways_44 ?_
          refine oj_isub dX7_ways_45 ?_
          refine oj_goto 56 dX7_ways_46 rfl ?_
          refine oj_imul dX7_ways_56 ?_
          refine oj_topi (fun v20 ev20 => ?_)
          have y21 := Lt_at y19 v20 ev20
          refine oj_istore_n (lv' := [(3, .int v20), (0, .ref 93), (1, .int x1), (2, .int x2), (4, .int x4)]) dX7_ways_57 rfl (by decide) rfl ?_
          obtain ⟨v22, ev22⟩ : ∃ z : Int32, z = x4 + (1) := ⟨_, rfl⟩
          have y23 := Lt_at y21 v22 ev22
          refine oj_iinc (v := v22) (lv' := [(4, .int v22), (3, .int v20), (0, .ref 93), (1, .int x1), (2, .int x2)]) 4 dX7_ways_58 rfl (iinc_e ci_1 ev22) (by decide) rfl ?_
          refine oj_goto 5 dX7_ways_61 rfl ?_
          refine oj_lv [2, 3, 4, 1, 0] rfl ?_
          exact hk5 _ _ y23
set_option maxRecDepth 100000 in
set_option maxHeartbeats 4000000 in
theorem BX7_ways  {p1 : Int32} {p2 : Int32}  {h : ob_H} {Q : Int32 → Prop} (y : MX7_ways  p1 p2 h Q) : ob_T yX7_ways cX7_ways 5 (some .int) (ob_rm 1) KS NN h [.ref 93, .int p1, .int p2] (ob_g (some .int) (ob_pi h Q)) := by
  unfold MX7_ways at y
  refine ob_T_gf (by decide +kernel) (Nat.le_of_ble_eq_true rfl) ?_
  show ob_J RX7 cX7_ways 5 (ob_rm 1) false none 0 0 KS NN h 0 [(0, .ref 93), (1, .int p1), (2, .int p2)] [] (ob_g (some .int) (ob_pi h Q))
  refine oj_iconst dX7_ways_0 ci_1 ?_
  refine oj_istore_n (lv' := [(3, .int (1)), (0, .ref 93), (1, .int p1), (2, .int p2)]) dX7_ways_1 rfl (by decide) rfl ?_
  refine oj_iconst dX7_ways_2 ci_0 ?_
  refine oj_istore (lv' := [(4, .int (0)), (3, .int (1)), (0, .ref 93), (1, .int p1), (2, .int p2)]) dX7_ways_3 (by decide) rfl ?_
  refine oj_lv [2, 3, 4, 1, 0] rfl ?_
  obtain ⟨n, y24⟩ := y
  exact BLX7_ways_5  n _ _ y24
-- X7_whole
set_option maxRecDepth 100000 in
set_option maxHeartbeats 4000000 in
theorem BLX7_whole_4 {x0 : Int32} {h : ob_H} {Q : Int32 → Prop} :
    ∀ (n : Nat) (x1 : Int32) (x2 : Int32), it2 (FX7_whole_4 x0 h Q) n x1 x2 → ob_J RX7 cX7_whole 3 (ob_rm 2) false none 0 0 KS NN h 4 [(0, .int x0), (1, .int x1), (2, .int x2)] [] (ob_g (some .int) (ob_pi h Q)) := by
  intro n
  induction n with
  | zero => intro x1 x2 y; exact False.elim y
  | succ n hk4 =>
    intro x1 x2 y
    have y : FX7_whole_4 x0 h Q (it2 (FX7_whole_4 x0 h Q) n) x1 x2 := y
    unfold FX7_whole_4 at y
    refine oj_iload_n 2 dX7_whole_4 rfl rfl ?_
    refine oj_iload_n 0 dX7_whole_5 rfl rfl ?_
    refine oc_Spi [.int x0] mi_RX7_52 ow_660 (BJ6_bitCount_0f7a4  y) ⟨by decide, by decide⟩ ⟨Nat.le_refl _, Nat.le_refl _⟩ rfl (Nat.le_of_ble_eq_true rfl) dX7_whole_6 (fun r1 f3 y4 => ?_)
    refine oj_icmp_ge 28 dX7_whole_9 rfl (fun c5 => ?_) (fun c5 => ?_)
    · have y6 := y4.1 c5
      refine oj_iload_n 1 dX7_whole_28 rfl rfl ?_
      exact oj_ret (r := some (.int x1)) ⟨trivial, rfl, rfl, rfl, x1, rfl, y6⟩ dX7_whole_29 (Nat.zero_le _) (Nat.zero_le _)
    · have y7 := y4.2 c5
      refine oj_iload_n 2 dX7_whole_12 rfl rfl ?_
      refine oj_iconst dX7_whole_13 ci_4 ?_
      refine oj_icmp_ge 28 dX7_whole_14 rfl (fun c8 => ?_) (fun c8 => ?_)
      · have y9 := y7.1 c8
        refine oj_iload_n 1 dX7_whole_28 rfl rfl ?_
        exact oj_ret (r := some (.int x1)) ⟨trivial, rfl, rfl, rfl, x1, rfl, y9⟩ dX7_whole_29 (Nat.zero_le _) (Nat.zero_le _)
      · have y10 := y7.2 c8
        refine oj_iload_n 1 dX7_whole_17 rfl rfl ?_
        refine oj_bipush dX7_whole_18 cb_100 ?_
        refine oj_imul dX7_whole_20 ?_
        refine oj_topi (fun v11 ev11 => ?_)
        have y12 := Lt_at y10 v11 ev11
        refine oj_istore_n (lv' := [(1, .int v11), (0, .int x0), (2, .int x2)]) dX7_whole_21 rfl (by decide) rfl ?_
        obtain ⟨v13, ev13⟩ : ∃ z : Int32, z = x2 + (1) := ⟨_, rfl⟩
        have y14 := Lt_at y12 v13 ev13
        refine oj_iinc (v := v13) (lv' := [(2, .int v13), (1, .int v11), (0, .int x0)]) 2 dX7_whole_22 rfl (iinc_e ci_1 ev13) (by decide) rfl ?_
        refine oj_goto 4 dX7_whole_25 rfl ?_
        refine oj_lv [2, 1, 0] rfl ?_
        exact hk4 _ _ y14
set_option maxRecDepth 100000 in
set_option maxHeartbeats 4000000 in
theorem BX7_whole  {p0 : Int32}  {h : ob_H} {Q : Int32 → Prop} (y : MX7_whole  p0 h Q) : ob_T yX7_whole cX7_whole 3 (some .int) (ob_rm 2) KS NN h [.int p0] (ob_g (some .int) (ob_pi h Q)) := by
  unfold MX7_whole at y
  refine ob_T_gf (by decide +kernel) (Nat.le_of_ble_eq_true rfl) ?_
  show ob_J RX7 cX7_whole 3 (ob_rm 2) false none 0 0 KS NN h 0 [(0, .int p0)] [] (ob_g (some .int) (ob_pi h Q))
  refine oj_iconst dX7_whole_0 ci_1 ?_
  refine oj_istore_n (lv' := [(1, .int (1)), (0, .int p0)]) dX7_whole_1 rfl (by decide) rfl ?_
  refine oj_iconst dX7_whole_2 ci_0 ?_
  refine oj_istore_n (lv' := [(2, .int (0)), (1, .int (1)), (0, .int p0)]) dX7_whole_3 rfl (by decide) rfl ?_
  refine oj_lv [2, 1, 0] rfl ?_
  obtain ⟨n, y15⟩ := y
  exact BLX7_whole_4  n _ _ y15
-- X7_lowest
set_option maxRecDepth 100000 in
set_option maxHeartbeats 4000000 in
theorem BKX7_lowest_48 {x3 : Int32} {s0 : Int32} {h : ob_H} {Q : Int32 → Prop}
    (y : KX7_lowest_48 x3 s0 h Q) : ob_J RX7 cX7_lowest 7 (ob_rm 1) false none 0 0 KS NN h 48 [(3, .int x3)] [.int s0] (ob_g (some .int) (ob_pi h Q)) := by
  unfold KX7_lowest_48 at y
  refine oj_istore (lv' := [(5, .int s0), (3, .int x3)]) dX7_lowest_48 (by decide) rfl ?_
  refine oj_iload_n 1 dX7_lowest_50 rfl rfl ?_
  refine oj_if_ne 59 dX7_lowest_51 rfl (fun c7 => ?_) (fun c7 => ?_)
  · have y8 := y.2 c7
    refine oj_iload 0 dX7_lowest_59 rfl ?_
    refine oj_iload_n 1 dX7_lowest_61 rfl rfl ?_
    obtain ⟨c10, y11⟩ := y8
    refine oj_idiv dX7_lowest_62 c10 ?_
    exact oj_ret (r := some (.int (s0 / x3))) ⟨trivial, rfl, rfl, rfl, (s0 / x3), rfl, y11⟩ dX7_lowest_63 (Nat.zero_le _) (Nat.zero_le _)
  · have y9 := y.1 c7
    refine oj_iload 0 dX7_lowest_54 rfl ?_
    refine oj_goto 63 dX7_lowest_56 rfl ?_
    exact oj_ret (r := some (.int s0)) ⟨trivial, rfl, rfl, rfl, s0, rfl, y9⟩ dX7_lowest_63 (Nat.zero_le _) (Nat.zero_le _)
set_option maxRecDepth 100000 in
set_option maxHeartbeats 4000000 in
theorem BKX7_lowest_39 {x0 : Int32} {x1 : Int32} {x2 : Int32} {x3 : Int32} {h : ob_H} {Q : Int32 → Prop}
    (y : KX7_lowest_39 x0 x1 x2 x3 h Q) : ob_J RX7 cX7_lowest 7 (ob_rm 1) false none 0 0 KS NN h 39 [(0, .int x0), (1, .int x1), (2, .int x2), (3, .int x3)] [] (ob_g (some .int) (ob_pi h Q)) := by
  unfold KX7_lowest_39 at y
  refine oj_iload_n 2 dX7_lowest_39 rfl rfl ?_
  refine oj_if_ne 47 dX7_lowest_40 rfl (fun c4 => ?_) (fun c4 => ?_)
  · have y5 := y.2 c4
    refine oj_iload_n 1 dX7_lowest_47 rfl rfl ?_
    refine oj_lv [3] rfl ?_
    exact BKX7_lowest_48  y5
  · have y6 := y.1 c4
    refine oj_iload_n 0 dX7_lowest_43 rfl rfl ?_
    refine oj_goto 48 dX7_lowest_44 rfl ?_
    refine oj_lv [3] rfl ?_
    exact BKX7_lowest_48  y6
set_option maxRecDepth 100000 in
set_option maxHeartbeats 4000000 in
theorem BLX7_lowest_8 {x0 : Int32} {x1 : Int32} {x2 : Int32} {h : ob_H} {Q : Int32 → Prop} :
    ∀ (n : Nat) (x3 : Int32) (x4 : Int32) (x5 : Int32), it3 (FX7_lowest_8 x0 x1 x2 h Q) n x3 x4 x5 → ob_J RX7 cX7_lowest 7 (ob_rm 1) false none 0 0 KS NN h 8 [(0, .int x0), (1, .int x1), (2, .int x2), (3, .int x3), (4, .int x4), (5, .int x5)] [] (ob_g (some .int) (ob_pi h Q)) := by
  intro n
  induction n with
  | zero => intro x3 x4 x5 y; exact False.elim y
  | succ n hk8 =>
    intro x3 x4 x5 y
    have y : FX7_lowest_8 x0 x1 x2 h Q (it3 (FX7_lowest_8 x0 x1 x2 h Q) n) x3 x4 x5 := y
    unfold FX7_lowest_8 at y
    refine oj_iload 5 dX7_lowest_8 rfl ?_
    refine oj_ldc ow_1060 dX7_lowest_10 ?_
    refine oj_icmp_ge 39 dX7_lowest_12 rfl (fun c1 => ?_) (fun c1 => ?_)
    · have y2 := y.1 c1
      refine oj_lv [0, 1, 2, 3] rfl ?_
      exact BKX7_lowest_39  y2
    · have y3 := y.2 c1
      refine oj_iload 4 dX7_lowest_15 rfl ?_
      refine oj_if_eq 39 dX7_lowest_17 rfl (fun c12 => ?_) (fun c12 => ?_)
      · have y13 := y3.1 c12
        refine oj_lv [0, 1, 2, 3] rfl ?_
        exact BKX7_lowest_39  y13
      · have y14 := y3.2 c12
        refine oj_iload_n 3 dX7_lowest_20 rfl rfl ?_
        refine oj_iload 4 dX7_lowest_21 rfl ?_
        obtain ⟨c15, y16⟩ := y14
        refine oj_irem dX7_lowest_23 c15 ?_
        refine oj_topi (fun v17 ev17 => ?_)
        have y18 := Lt_at y16 v17 ev17
        refine oj_istore (lv' := [(6, .int v17), (0, .int x0), (1, .int x1), (2, .int x2), (3, .int x3), (4, .int x4), (5, .int x5)]) dX7_lowest_24 (by decide) rfl ?_
        refine oj_iload 5 dX7_lowest_26 rfl ?_
        refine oj_istore_n (lv' := [(3, .int x4), (6, .int v17), (0, .int x0), (1, .int x1), (2, .int x2), (4, .int x4), (5, .int x5)]) dX7_lowest_28 rfl (by decide) rfl ?_
        refine oj_iload 1 dX7_lowest_29 rfl ?_
        refine oj_istore (lv' := [(4, .int v17), (3, .int x4), (6, .int v17), (0, .int x0), (1, .int x1), (2, .int x2), (5, .int x5)]) dX7_lowest_31 (by decide) rfl ?_
        obtain ⟨v19, ev19⟩ : ∃ z : Int32, z = x5 + (1) := ⟨_, rfl⟩
        have y20 := Lt_at y18 v19 ev19
        refine oj_iinc (v := v19) (lv' := [(5, .int v19), (4, .int v17), (3, .int x4), (6, .int v17), (0, .int x0), (1, .int x1), (2, .int x2)]) 6 dX7_lowest_33 rfl (iinc_e ci_1 ev19) (by decide) rfl ?_
        refine oj_goto 8 dX7_lowest_36 rfl ?_
        refine oj_lv [4, 5, 6, 2, 1, 0] rfl ?_
        exact hk8 _ _ _ y20
set_option maxRecDepth 100000 in
set_option maxHeartbeats 4000000 in
theorem BX7_lowest  {p0 : Int32} {p1 : Int32} {p2 : Int32}  {h : ob_H} {Q : Int32 → Prop} (y : MX7_lowest  p0 p1 p2 h Q) : ob_T yX7_lowest cX7_lowest 7 (some .int) (ob_rm 1) KS NN h [.int p0, .int p1, .int p2] (ob_g (some .int) (ob_pi h Q)) := by
  unfold MX7_lowest at y
  refine ob_T_gf (by decide +kernel) (Nat.le_of_ble_eq_true rfl) ?_
  show ob_J RX7 cX7_lowest 7 (ob_rm 1) false none 0 0 KS NN h 0 [(0, .int p0), (1, .int p1), (2, .int p2)] [] (ob_g (some .int) (ob_pi h Q))
  refine oj_iload_n 1 dX7_lowest_0 rfl rfl ?_
  refine oj_istore_n (lv' := [(3, .int p1), (0, .int p0), (1, .int p1), (2, .int p2)]) dX7_lowest_1 rfl (by decide) rfl ?_
  refine oj_iload_n 1 dX7_lowest_2 rfl rfl ?_
  refine oj_istore (lv' := [(4, .int p0), (3, .int p1), (0, .int p0), (1, .int p1), (2, .int p2)]) dX7_lowest_3 (by decide) rfl ?_
  refine oj_iconst dX7_lowest_5 ci_0 ?_
  refine oj_istore (lv' := [(5, .int (0)), (4, .int p0), (3, .int p1), (0, .int p0), (1, .int p1), (2, .int p2)]) dX7_lowest_6 (by decide) rfl ?_
  refine oj_lv [3, 4, 5, 2, 1, 0] rfl ?_
  obtain ⟨n, y21⟩ := y
  exact BLX7_lowest_8  n _ _ _ y21
