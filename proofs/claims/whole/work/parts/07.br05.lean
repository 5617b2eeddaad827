-- X7_oddsOf
set_option maxRecDepth 100000 in
set_option maxHeartbeats 4000000 in
theorem BX7_oddsOf  {p1 : Int32} {p2 : Int32}  {h : ob_H} {Q : Int32 → ob_H → Prop} (y : MX7_oddsOf  p1 p2 h Q) : ob_T yX7_oddsOf cX7_oddsOf 3 (some .int) (ob_rm 5) KS NN h [.ref 93, .int p1, .int p2] (ob_g (some .int) (ob_qi Q)) := by
  unfold MX7_oddsOf at y
  refine ob_T_gf (by decide +kernel) (Nat.le_of_ble_eq_true rfl) ?_
  show ob_J RX7 cX7_oddsOf 3 (ob_rm 5) false none 0 0 KS NN h 0 [(0, .ref 93), (1, .int p1), (2, .int p2)] [] (ob_g (some .int) (ob_qi Q))
  refine oj_aload_n 0 dX7_oddsOf_0 rfl rfl ?_
  refine oc_Vv [] mi_RX7_60 ow_1041 op_31 rfl k_93 (BX7_takeChances  y) ⟨by decide, by decide⟩ ⟨Nat.le_refl _, Nat.le_refl _⟩ rfl (Nat.le_of_ble_eq_true rfl) dX7_oddsOf_1 (fun h2 y4 => ?_)
  refine oj_aload_n 0 dX7_oddsOf_4 rfl rfl ?_
  refine oj_iload_n 1 dX7_oddsOf_5 rfl rfl ?_
  refine oj_iconst dX7_oddsOf_6 ci_0 ?_
  refine oc_Vpi [.int p1, .int (0)] mi_RX7_63 ow_1052 op_32 rfl k_93 (BX7_ways  y4) ⟨by decide, by decide⟩ ⟨Nat.le_refl _, Nat.le_refl _⟩ rfl (Nat.le_of_ble_eq_true rfl) dX7_oddsOf_7 (fun r5 f7 y8 => ?_)
  refine oj_iload_n 1 dX7_oddsOf_10 rfl rfl ?_
  refine oc_Spi [.int p1] mi_RX7_67 ow_1055 (BX7_whole  y8) ⟨by decide, by decide⟩ ⟨Nat.le_refl _, Nat.le_refl _⟩ rfl (Nat.le_of_ble_eq_true rfl) dX7_oddsOf_11 (fun r9 f11 y12 => ?_)
  refine oj_iload_n 2 dX7_oddsOf_14 rfl rfl ?_
  refine oc_Spi [.int r5, .int r9, .int p2] mi_RX7_70 ow_1058 (BX7_lowest  y12) ⟨by decide, by decide⟩ ⟨Nat.le_refl _, Nat.le_refl _⟩ rfl (Nat.le_of_ble_eq_true rfl) dX7_oddsOf_15 (fun r13 f15 y16 => ?_)
  exact oj_ret (r := some (.int r13)) ⟨trivial, rfl, rfl, r13, rfl, y16⟩ dX7_oddsOf_18 (Nat.zero_le _) (Nat.zero_le _)
-- X11_odds
set_option maxRecDepth 100000 in
set_option maxHeartbeats 4000000 in
theorem BX11_odds  {p1 : Int32} {p2 : Int32}  {h : ob_H} {Q : Int32 → ob_H → Prop} (y : MX11_odds  p1 p2 h Q) : ob_T yX11_odds cX11_odds 3 (some .int) (ob_rm 6) KS NN h [.ref 0, .int p1, .int p2] (ob_g (some .int) (ob_qi Q)) := by
  unfold MX11_odds at y
  refine ob_T_gf (by decide +kernel) (Nat.le_of_ble_eq_true rfl) ?_
  show ob_J RX11 cX11_odds 3 (ob_rm 6) false none 0 0 KS NN h 0 [(0, .ref 0), (1, .int p1), (2, .int p2)] [] (ob_g (some .int) (ob_qi Q))
  refine oj_aload_n 0 dX11_odds_0 rfl rfl ?_
  refine oj_iload_n 1 dX11_odds_1 rfl rfl ?_
  refine oj_iload_n 2 dX11_odds_2 rfl rfl ?_
  refine oc_Vpi [.int p1, .int p2] mi_RX11_281 ow_1033 op_30 rfl k_0 (BX11_canBeDrawn  y) ⟨by decide, by decide⟩ ⟨Nat.le_refl _, Nat.le_refl _⟩ rfl (Nat.le_of_ble_eq_true rfl) dX11_odds_3 (fun r1 f3 y4 => ?_)
  refine oj_if_eq 21 dX11_odds_6 rfl (fun c5 => ?_) (fun c5 => ?_)
  · have y6 := y4.1 c5
    refine oj_iconst dX11_odds_21 ci_m1 ?_
    exact oj_ret (r := some (.int (-1))) ⟨trivial, rfl, rfl, (-1), rfl, y6⟩ dX11_odds_22 (Nat.zero_le _) (Nat.zero_le _)
  · have y7 := y4.2 c5
    refine oj_aload_n 0 dX11_odds_9 rfl rfl ?_
    refine oj_getr (q := 93) fl_RX11_69 k_0 rfl k_93 dX11_odds_10 ?_
    refine oj_iload_n 1 dX11_odds_13 rfl rfl ?_
    refine oj_iload_n 2 dX11_odds_14 rfl rfl ?_
    refine oc_Vi [.int p1, .int p2] mi_RX11_285 ow_1036 ow_1037 rfl k_93 (BX7_oddsOf  y7) ⟨by decide, by decide⟩ ⟨Nat.le_refl _, Nat.le_refl _⟩ rfl (Nat.le_of_ble_eq_true rfl) dX11_odds_15 (fun r8 f10 h9 y11 => ?_)
    refine oj_goto 22 dX11_odds_18 rfl ?_
    exact oj_ret (r := some (.int r8)) ⟨trivial, rfl, rfl, r8, rfl, y11⟩ dX11_odds_22 (Nat.zero_le _) (Nat.zero_le _)
-- X7_perilOf
set_option maxRecDepth 100000 in
set_option maxHeartbeats 4000000 in
theorem BLX7_perilOf_9 {x1 : Int32} {x2 : Int32} {h : ob_H} {Q : Int32 → ob_H → Prop} :
    ∀ (n : Nat) (x3 : Int32) (x4 : Int32), it2 (FX7_perilOf_9 x1 x2 h Q) n x3 x4 → ob_J RX7 cX7_perilOf 5 (ob_rm 5) false none 0 0 KS NN h 9 [(0, .ref 93), (1, .int x1), (2, .int x2), (3, .int x3), (4, .int x4)] [] (ob_g (some .int) (ob_qi Q)) := by
  intro n
  induction n with
  | zero => intro x3 x4 y; exact False.elim y
  | succ n hk9 =>
    intro x3 x4 y
    have y : FX7_perilOf_9 x1 x2 h Q (it2 (FX7_perilOf_9 x1 x2 h Q) n) x3 x4 := y
    unfold FX7_perilOf_9 at y
    refine oj_iload 4 dX7_perilOf_9 rfl ?_
    refine oj_sipush dX7_perilOf_11 cs_128 ?_
    refine oj_icmp_ge 61 dX7_perilOf_14 rfl (fun c5 => ?_) (fun c5 => ?_)
    · have y6 := y.1 c5
      refine oj_iload_n 3 dX7_perilOf_61 rfl rfl ?_
      refine oj_iload_n 1 dX7_perilOf_62 rfl rfl ?_
      refine oc_Spi [.int x1] mi_RX7_67 ow_1055 (BX7_whole  y6) ⟨by decide, by decide⟩ ⟨Nat.le_refl _, Nat.le_refl _⟩ rfl (Nat.le_of_ble_eq_true rfl) dX7_perilOf_63 (fun r8 f10 y11 => ?_)
      refine oj_iload_n 2 dX7_perilOf_66 rfl rfl ?_
      refine oc_Spi [.int x3, .int r8, .int x2] mi_RX7_70 ow_1058 (BX7_lowest  y11) ⟨by decide, by decide⟩ ⟨Nat.le_refl _, Nat.le_refl _⟩ rfl (Nat.le_of_ble_eq_true rfl) dX7_perilOf_67 (fun r12 f14 y15 => ?_)
      exact oj_ret (r := some (.int r12)) ⟨trivial, rfl, rfl, r12, rfl, y15⟩ dX7_perilOf_70 (Nat.zero_le _) (Nat.zero_le _)
    · have y7 := y.2 c5
      refine oj_iload 4 dX7_perilOf_17 rfl ?_
      refine oj_iload_n 1 dX7_perilOf_19 rfl rfl ?_
      refine oj_iconst dX7_perilOf_20 ci_m1 ?_
      refine oj_ixor dX7_perilOf_21 ?_
      refine oj_iand dX7_perilOf_22 ?_
      refine oj_if_ne 55 dX7_perilOf_23 rfl (fun c16 => ?_) (fun c16 => ?_)
      · have y17 := y7.2 c16
        obtain ⟨v19, ev19⟩ : ∃ z : Int32, z = x4 + (1) := ⟨_, rfl⟩
        have y20 := Lt_at y17 v19 ev19
        refine oj_iinc (v := v19) (lv' := [(4, .int v19), (0, .ref 93), (1, .int x1), (2, .int x2), (3, .int x3)]) 4 dX7_perilOf_55 rfl (iinc_e ci_1 ev19) (by decide) rfl ?_
        refine oj_goto 9 dX7_perilOf_58 rfl ?_
        refine oj_lv [1, 2, 3, 4, 0] rfl ?_
        exact hk9 _ _ y20
      · have y18 := y7.1 c16
        refine oj_aload_n 0 dX7_perilOf_26 rfl rfl ?_
        refine oj_aload_n 0 dX7_perilOf_27 rfl rfl ?_
        refine oj_getr (q := 34) fl_RX7_23 k_93 rfl k_34 dX7_perilOf_28 ?_
        refine oj_getr (q := 35) fl_RX7_43 k_34 rfl k_35 dX7_perilOf_31 ?_
        refine oj_iconst dX7_perilOf_34 ci_2 ?_
        refine oj_iald k_35 in_2_7 ix_2 dX7_perilOf_35 ?_
        refine oj_iload 4 dX7_perilOf_36 rfl ?_
        refine oj_ior dX7_perilOf_38 ?_
        refine oc_Vpi [.int ((h.1 35 2) ||| x4)] mi_RX7_48 ow_1001 ow_1002 rfl k_93 (BX7_isBarredBy  y18) ⟨by decide, by decide⟩ ⟨Nat.le_refl _, Nat.le_refl _⟩ rfl (Nat.le_of_ble_eq_true rfl) dX7_perilOf_39 (fun r21 f23 y24 => ?_)
        refine oj_if_eq 55 dX7_perilOf_42 rfl (fun c25 => ?_) (fun c25 => ?_)
        · have y26 := y24.1 c25
          obtain ⟨v28, ev28⟩ : ∃ z : Int32, z = x4 + (1) := ⟨_, rfl⟩
          have y29 := Lt_at y26 v28 ev28
          refine oj_iinc (v := v28) (lv' := [(4, .int v28), (0, .ref 93), (1, .int x1), (2, .int x2), (3, .int x3)]) 4 dX7_perilOf_55 rfl (iinc_e ci_1 ev28) (by decide) rfl ?_
          refine oj_goto 9 dX7_perilOf_58 rfl ?_
          refine oj_lv [1, 2, 3, 4, 0] rfl ?_
          exact hk9 _ _ y29
        · have y27 := y24.2 c25
          refine oj_iload_n 3 dX7_perilOf_45 rfl rfl ?_
          refine oj_aload_n 0 dX7_perilOf_46 rfl rfl ?_
          refine oj_iload_n 1 dX7_perilOf_47 rfl rfl ?_
          refine oj_iload 4 dX7_perilOf_48 rfl ?_
          refine oc_Vpi [.int x1, .int x4] mi_RX7_63 ow_1052 op_32 rfl k_93 (BX7_ways  y27) ⟨by decide, by decide⟩ ⟨Nat.le_refl _, Nat.le_refl _⟩ rfl (Nat.le_of_ble_eq_true rfl) dX7_perilOf_50 (fun r30 f32 y33 => ?_)
          refine oj_iadd dX7_perilOf_53 ?_
          refine oj_topi (fun v34 ev34 => ?_)
          have y35 := Lt_at y33 v34 ev34
          refine oj_istore_n (lv' := [(3, .int v34), (0, .ref 93), (1, .int x1), (2, .int x2), (4, .int x4)]) dX7_perilOf_54 rfl (by decide) rfl ?_
          obtain ⟨v36, ev36⟩ : ∃ z : Int32, z = x4 + (1) := ⟨_, rfl⟩
          have y37 := Lt_at y35 v36 ev36
          refine oj_iinc (v := v36) (lv' := [(4, .int v36), (3, .int v34), (0, .ref 93), (1, .int x1), (2, .int x2)]) 4 dX7_perilOf_55 rfl (iinc_e ci_1 ev36) (by decide) rfl ?_
          refine oj_goto 9 dX7_perilOf_58 rfl ?_
          refine oj_lv [2, 3, 4, 1, 0] rfl ?_
          exact hk9 _ _ y37
set_option maxRecDepth 100000 in
set_option maxHeartbeats 4000000 in
theorem BX7_perilOf  {p1 : Int32} {p2 : Int32}  {h : ob_H} {Q : Int32 → ob_H → Prop} (y : MX7_perilOf  p1 p2 h Q) : ob_T yX7_perilOf cX7_perilOf 5 (some .int) (ob_rm 5) KS NN h [.ref 93, .int p1, .int p2] (ob_g (some .int) (ob_qi Q)) := by
  unfold MX7_perilOf at y
  refine ob_T_gf (by decide +kernel) (Nat.le_of_ble_eq_true rfl) ?_
  show ob_J RX7 cX7_perilOf 5 (ob_rm 5) false none 0 0 KS NN h 0 [(0, .ref 93), (1, .int p1), (2, .int p2)] [] (ob_g (some .int) (ob_qi Q))
  refine oj_aload_n 0 dX7_perilOf_0 rfl rfl ?_
  refine oc_Vv [] mi_RX7_60 ow_1041 op_31 rfl k_93 (BX7_takeChances  y) ⟨by decide, by decide⟩ ⟨Nat.le_refl _, Nat.le_refl _⟩ rfl (Nat.le_of_ble_eq_true rfl) dX7_perilOf_1 (fun h2 y4 => ?_)
  refine oj_iconst dX7_perilOf_4 ci_0 ?_
  refine oj_istore_n (lv' := [(3, .int (0)), (0, .ref 93), (1, .int p1), (2, .int p2)]) dX7_perilOf_5 rfl (by decide) rfl ?_
  refine oj_iconst dX7_perilOf_6 ci_0 ?_
  refine oj_istore (lv' := [(4, .int (0)), (3, .int (0)), (0, .ref 93), (1, .int p1), (2, .int p2)]) dX7_perilOf_7 (by decide) rfl ?_
  refine oj_lv [2, 3, 4, 1, 0] rfl ?_
  obtain ⟨n, y38⟩ := y4
  exact BLX7_perilOf_9  n _ _ y38
-- X11_peril
set_option maxRecDepth 100000 in
set_option maxHeartbeats 4000000 in
theorem BX11_peril  {p1 : Int32} {p2 : Int32}  {h : ob_H} {Q : Int32 → ob_H → Prop} (y : MX11_peril  p1 p2 h Q) : ob_T yX11_peril cX11_peril 3 (some .int) (ob_rm 6) KS NN h [.ref 0, .int p1, .int p2] (ob_g (some .int) (ob_qi Q)) := by
  unfold MX11_peril at y
  refine ob_T_gf (by decide +kernel) (Nat.le_of_ble_eq_true rfl) ?_
  show ob_J RX11 cX11_peril 3 (ob_rm 6) false none 0 0 KS NN h 0 [(0, .ref 0), (1, .int p1), (2, .int p2)] [] (ob_g (some .int) (ob_qi Q))
  refine oj_aload_n 0 dX11_peril_0 rfl rfl ?_
  refine oj_iload_n 1 dX11_peril_1 rfl rfl ?_
  refine oj_iload_n 2 dX11_peril_2 rfl rfl ?_
  refine oc_Vpi [.int p1, .int p2] mi_RX11_281 ow_1033 op_30 rfl k_0 (BX11_canBeDrawn  y) ⟨by decide, by decide⟩ ⟨Nat.le_refl _, Nat.le_refl _⟩ rfl (Nat.le_of_ble_eq_true rfl) dX11_peril_3 (fun r1 f3 y4 => ?_)
  refine oj_if_eq 21 dX11_peril_6 rfl (fun c5 => ?_) (fun c5 => ?_)
  · have y6 := y4.1 c5
    refine oj_iconst dX11_peril_21 ci_m1 ?_
    exact oj_ret (r := some (.int (-1))) ⟨trivial, rfl, rfl, (-1), rfl, y6⟩ dX11_peril_22 (Nat.zero_le _) (Nat.zero_le _)
  · have y7 := y4.2 c5
    refine oj_aload_n 0 dX11_peril_9 rfl rfl ?_
    refine oj_getr (q := 93) fl_RX11_69 k_0 rfl k_93 dX11_peril_10 ?_
    refine oj_iload_n 1 dX11_peril_13 rfl rfl ?_
    refine oj_iload_n 2 dX11_peril_14 rfl rfl ?_
    refine oc_Vi [.int p1, .int p2] mi_RX11_288 ow_1066 ow_1067 rfl k_93 (BX7_perilOf  y7) ⟨by decide, by decide⟩ ⟨Nat.le_refl _, Nat.le_refl _⟩ rfl (Nat.le_of_ble_eq_true rfl) dX11_peril_15 (fun r8 f10 h9 y11 => ?_)
    refine oj_goto 22 dX11_peril_18 rfl ?_
    exact oj_ret (r := some (.int r8)) ⟨trivial, rfl, rfl, r8, rfl, y11⟩ dX11_peril_22 (Nat.zero_le _) (Nat.zero_le _)
-- X0_findTarry
set_option maxRecDepth 100000 in
set_option maxHeartbeats 4000000 in
theorem BLX0_findTarry_2 {x1 : Int32} {Q : ob_H → Prop} :
    ∀ (n : Nat) (x2 : Int32) (h : ob_H), it2 (FX0_findTarry_2 x1 Q) n x2 h → ob_J RX0 cX0_findTarry 4 (ob_rm 5) false none 0 0 KS NN h 2 [(0, .ref 92), (1, .int x1), (2, .int x2)] [] (ob_g none (ob_qv Q)) := by
  intro n
  induction n with
  | zero => intro x2 h y; exact False.elim y
  | succ n hk2 =>
    intro x2 h y
    have y : FX0_findTarry_2 x1 Q (it2 (FX0_findTarry_2 x1 Q) n) x2 h := y
    unfold FX0_findTarry_2 at y
    refine oj_iload_n 2 dX0_findTarry_2 rfl rfl ?_
    refine oj_iload_n 1 dX0_findTarry_3 rfl rfl ?_
    refine oj_icmp_gt 69 dX0_findTarry_4 rfl (fun c1 => ?_) (fun c1 => ?_)
    · have y2 := y.1 c1
      exact oj_ret (r := none) ⟨trivial, rfl, rfl, rfl, y2⟩ dX0_findTarry_69 (Nat.zero_le _) (Nat.zero_le _)
    · have y3 := y.2 c1
      refine oj_aload_n 0 dX0_findTarry_7 rfl rfl ?_
      refine oj_getr (q := 39) fl_RX0_35 k_92 rfl k_39 dX0_findTarry_8 ?_
      refine oj_getr (q := 42) fl_RX0_39 k_39 rfl k_42 dX0_findTarry_11 ?_
      refine oj_aload_n 0 dX0_findTarry_14 rfl rfl ?_
      refine oj_getr (q := 34) fl_RX0_31 k_92 rfl k_34 dX0_findTarry_15 ?_
      refine oc_Vv [.ref 34] mi_RX0_44 ow_876 ow_877 rfl k_42 (BX6_copy AA6_42 AA6_34 y3) ⟨by decide, by decide⟩ ⟨Nat.le_refl _, Nat.le_refl _⟩ rfl (Nat.le_of_ble_eq_true rfl) dX0_findTarry_18 (fun h5 y7 => ?_)
      refine oj_aload_n 0 dX0_findTarry_21 rfl rfl ?_
      refine oj_getr (q := 39) fl_RX0_35 k_92 rfl k_39 dX0_findTarry_22 ?_
      refine oj_getr (q := 42) fl_RX0_39 k_39 rfl k_42 dX0_findTarry_25 ?_
      refine oj_iload_n 2 dX0_findTarry_28 rfl rfl ?_
      refine oc_Vi [.int x2] mi_RX0_106 ow_836 ow_837 rfl k_42 (BX6_letPass AA6_42 y7) ⟨by decide, by decide⟩ ⟨Nat.le_refl _, Nat.le_refl _⟩ rfl (Nat.le_of_ble_eq_true rfl) dX0_findTarry_29 (fun r8 f10 h9 y11 => ?_)
      refine oj_pop dX0_findTarry_32 rfl ?_
      refine oj_aload_n 0 dX0_findTarry_33 rfl rfl ?_
      refine oj_getr (q := 39) fl_RX0_35 k_92 rfl k_39 dX0_findTarry_34 ?_
      refine oc_Vi [] mi_RX0_54 ow_889 ow_890 rfl k_39 (BX3_follow  y11) ⟨by decide, by decide⟩ ⟨Nat.le_refl _, Nat.le_refl _⟩ rfl (Nat.le_of_ble_eq_true rfl) dX0_findTarry_37 (fun r12 f14 h13 y15 => ?_)
      refine oj_istore_n (lv' := [(3, .int r12), (0, .ref 92), (1, .int x1), (2, .int x2)]) dX0_findTarry_40 rfl (by decide) rfl ?_
      refine oj_iload_n 3 dX0_findTarry_41 rfl rfl ?_
      refine oj_if_eq 53 dX0_findTarry_42 rfl (fun c16 => ?_) (fun c16 => ?_)
      · have y17 := y15.1 c16
        refine oj_aload_n 1 dX0_findTarry_53 rfl rfl ?_
        refine oj_iload_n 3 dX0_findTarry_54 rfl rfl ?_
        refine oj_puti fl_RX0_21 (Or.inl rfl) k_92 rfl rfl rfl dX0_findTarry_55 ?_
        refine oj_toph (fun h19 eh19 => ?_)
        have y20 := Lt_at y17 h19 eh19
        refine oj_aload_n 1 dX0_findTarry_58 rfl rfl ?_
        refine oj_iload_n 0 dX0_findTarry_59 rfl rfl ?_
        refine oj_puti fl_RX0_24 (Or.inl rfl) k_92 rfl rfl rfl dX0_findTarry_60 ?_
        refine oj_toph (fun h21 eh21 => ?_)
        have y22 := Lt_at y20 h21 eh21
        obtain ⟨v23, ev23⟩ : ∃ z : Int32, z = x2 + (1) := ⟨_, rfl⟩
        have y24 := Lt_at y22 v23 ev23
        refine oj_iinc (v := v23) (lv' := [(2, .int v23), (3, .int r12), (0, .ref 92), (1, .int x1)]) 3 dX0_findTarry_63 rfl (iinc_e ci_1 ev23) (by decide) rfl ?_
        refine oj_goto 2 dX0_findTarry_66 rfl ?_
        refine oj_lv [2, 3, 0] rfl ?_
        exact hk2 _ _ y24
      · have y18 := y15.2 c16
        refine oj_iload_n 0 dX0_findTarry_45 rfl rfl ?_
        refine oj_aload_n 1 dX0_findTarry_46 rfl rfl ?_
        refine oj_geti fl_RX0_24 k_92 rfl dX0_findTarry_47 ?_
        refine oj_icmp_ge 63 dX0_findTarry_50 rfl (fun c25 => ?_) (fun c25 => ?_)
        · have y26 := y18.1 c25
          obtain ⟨v28, ev28⟩ : ∃ z : Int32, z = x2 + (1) := ⟨_, rfl⟩
          have y29 := Lt_at y26 v28 ev28
          refine oj_iinc (v := v28) (lv' := [(2, .int v28), (3, .int r12), (0, .ref 92), (1, .int x1)]) 3 dX0_findTarry_63 rfl (iinc_e ci_1 ev28) (by decide) rfl ?_
          refine oj_goto 2 dX0_findTarry_66 rfl ?_
          refine oj_lv [2, 3, 0] rfl ?_
          exact hk2 _ _ y29
        · have y27 := y18.2 c25
          refine oj_aload_n 1 dX0_findTarry_53 rfl rfl ?_
          refine oj_iload_n 3 dX0_findTarry_54 rfl rfl ?_
          refine oj_puti fl_RX0_21 (Or.inl rfl) k_92 rfl rfl rfl dX0_findTarry_55 ?_
          refine oj_toph (fun h30 eh30 => ?_)
          have y31 := Lt_at y27 h30 eh30
          refine oj_aload_n 1 dX0_findTarry_58 rfl rfl ?_
          refine oj_iload_n 0 dX0_findTarry_59 rfl rfl ?_
          refine oj_puti fl_RX0_24 (Or.inl rfl) k_92 rfl rfl rfl dX0_findTarry_60 ?_
          refine oj_toph (fun h32 eh32 => ?_)
          have y33 := Lt_at y31 h32 eh32
          obtain ⟨v34, ev34⟩ : ∃ z : Int32, z = x2 + (1) := ⟨_, rfl⟩
          have y35 := Lt_at y33 v34 ev34
          refine oj_iinc (v := v34) (lv' := [(2, .int v34), (3, .int r12), (0, .ref 92), (1, .int x1)]) 3 dX0_findTarry_63 rfl (iinc_e ci_1 ev34) (by decide) rfl ?_
          refine oj_goto 2 dX0_findTarry_66 rfl ?_
          refine oj_lv [2, 3, 0] rfl ?_
          exact hk2 _ _ y35
set_option maxRecDepth 100000 in
set_option maxHeartbeats 4000000 in
theorem BX0_findTarry  {p1 : Int32}  {h : ob_H} {Q : ob_H → Prop} (y : MX0_findTarry  p1 h Q) : ob_T yX0_findTarry cX0_findTarry 4 none (ob_rm 5) KS NN h [.ref 92, .int p1] (ob_g none (ob_qv Q)) := by
  unfold MX0_findTarry at y
  refine ob_T_gf (by decide +kernel) (Nat.le_of_ble_eq_true rfl) ?_
  show ob_J RX0 cX0_findTarry 4 (ob_rm 5) false none 0 0 KS NN h 0 [(0, .ref 92), (1, .int p1)] [] (ob_g none (ob_qv Q))
  refine oj_iconst dX0_findTarry_0 ci_0 ?_
  refine oj_istore_n (lv' := [(2, .int (0)), (0, .ref 92), (1, .int p1)]) dX0_findTarry_1 rfl (by decide) rfl ?_
  refine oj_lv [1, 2, 0] rfl ?_
  obtain ⟨n, y36⟩ := y
  exact BLX0_findTarry_2  n _ _ y36
-- X11_tarry
set_option maxRecDepth 100000 in
set_option maxHeartbeats 4000000 in
theorem BX11_tarry  {p1 : Int32}  {h : ob_H} {Q : Int32 → ob_H → Prop} (y : MX11_tarry  p1 h Q) : ob_T yX11_tarry cX11_tarry 2 (some .int) (ob_rm 6) KS NN h [.ref 0, .int p1] (ob_g (some .int) (ob_qi Q)) := by
  unfold MX11_tarry at y
  refine ob_T_gf (by decide +kernel) (Nat.le_of_ble_eq_true rfl) ?_
  show ob_J RX11 cX11_tarry 2 (ob_rm 6) false none 0 0 KS NN h 0 [(0, .ref 0), (1, .int p1)] [] (ob_g (some .int) (ob_qi Q))
  refine oj_iload_n 1 dX11_tarry_0 rfl rfl ?_
  refine oj_if_lt 9 dX11_tarry_1 rfl (fun c1 => ?_) (fun c1 => ?_)
  · have y2 := y.1 c1
    refine oj_iconst dX11_tarry_9 ci_m1 ?_
    exact oj_ret (r := some (.int (-1))) ⟨trivial, rfl, rfl, (-1), rfl, y2⟩ dX11_tarry_10 (Nat.zero_le _) (Nat.zero_le _)
  · have y3 := y.2 c1
    refine oj_iload_n 1 dX11_tarry_4 rfl rfl ?_
    refine oj_iconst dX11_tarry_5 ci_1 ?_
    refine oj_icmp_le 11 dX11_tarry_6 rfl (fun c4 => ?_) (fun c4 => ?_)
    · have y5 := y3.1 c4
      refine oj_aload_n 0 dX11_tarry_11 rfl rfl ?_
      refine oj_getr (q := 92) fl_RX11_60 k_0 rfl k_92 dX11_tarry_12 ?_
      refine oj_bipush dX11_tarry_15 cb_60 ?_
      refine oc_Vv [.int (60)] mi_RX11_291 ow_1074 ow_1075 rfl k_92 (BX0_findTarry  y5) ⟨by decide, by decide⟩ ⟨Nat.le_refl _, Nat.le_refl _⟩ rfl (Nat.le_of_ble_eq_true rfl) dX11_tarry_17 (fun h8 y10 => ?_)
      refine oj_iload_n 1 dX11_tarry_20 rfl rfl ?_
      refine oj_if_ne 34 dX11_tarry_21 rfl (fun c11 => ?_) (fun c11 => ?_)
      · have y12 := y10.2 c11
        refine oj_aload_n 0 dX11_tarry_34 rfl rfl ?_
        refine oj_getr (q := 92) fl_RX11_60 k_0 rfl k_92 dX11_tarry_35 ?_
        refine oj_geti fl_RX11_247 k_92 rfl dX11_tarry_38 ?_
        exact oj_ret (r := some (.int (h8.1 92 4))) ⟨trivial, rfl, rfl, (h8.1 92 4), rfl, y12⟩ dX11_tarry_41 (Nat.zero_le _) (Nat.zero_le _)
      · have y13 := y10.1 c11
        refine oj_aload_n 0 dX11_tarry_24 rfl rfl ?_
        refine oj_getr (q := 92) fl_RX11_60 k_0 rfl k_92 dX11_tarry_25 ?_
        refine oj_geti fl_RX11_294 k_92 rfl dX11_tarry_28 ?_
        refine oj_goto 41 dX11_tarry_31 rfl ?_
        exact oj_ret (r := some (.int (h8.1 92 3))) ⟨trivial, rfl, rfl, (h8.1 92 3), rfl, y13⟩ dX11_tarry_41 (Nat.zero_le _) (Nat.zero_le _)
    · have y6 := y3.2 c4
      refine oj_iconst dX11_tarry_9 ci_m1 ?_
      exact oj_ret (r := some (.int (-1))) ⟨trivial, rfl, rfl, (-1), rfl, y6⟩ dX11_tarry_10 (Nat.zero_le _) (Nat.zero_le _)
-- X0_duskExchanged
set_option maxRecDepth 100000 in
set_option maxHeartbeats 4000000 in
theorem BX0_duskExchanged  {p1 : Int32} {p2 : Int32}  {h : ob_H} {Q : Int32 → ob_H → Prop} (y : MX0_duskExchanged  p1 p2 h Q) : ob_T yX0_duskExchanged cX0_duskExchanged 3 (some .int) (ob_rm 5) KS NN h [.ref 92, .int p1, .int p2] (ob_g (some .int) (ob_qi Q)) := by
  unfold MX0_duskExchanged at y
  refine ob_T_gf (by decide +kernel) (Nat.le_of_ble_eq_true rfl) ?_
  show ob_J RX0 cX0_duskExchanged 3 (ob_rm 5) false none 0 0 KS NN h 0 [(0, .ref 92), (1, .int p1), (2, .int p2)] [] (ob_g (some .int) (ob_qi Q))
  refine oj_aload_n 0 dX0_duskExchanged_0 rfl rfl ?_
  refine oj_getr (q := 39) fl_RX0_35 k_92 rfl k_39 dX0_duskExchanged_1 ?_
  refine oj_getr (q := 42) fl_RX0_39 k_39 rfl k_42 dX0_duskExchanged_4 ?_
  refine oj_aload_n 0 dX0_duskExchanged_7 rfl rfl ?_
  refine oj_getr (q := 34) fl_RX0_31 k_92 rfl k_34 dX0_duskExchanged_8 ?_
  refine oc_Vv [.ref 34] mi_RX0_44 ow_876 ow_877 rfl k_42 (BX6_copy AA6_42 AA6_34 y) ⟨by decide, by decide⟩ ⟨Nat.le_refl _, Nat.le_refl _⟩ rfl (Nat.le_of_ble_eq_true rfl) dX0_duskExchanged_11 (fun h2 y4 => ?_)
  refine oj_aload_n 0 dX0_duskExchanged_14 rfl rfl ?_
  refine oj_getr (q := 39) fl_RX0_35 k_92 rfl k_39 dX0_duskExchanged_15 ?_
  refine oj_getr (q := 42) fl_RX0_39 k_39 rfl k_42 dX0_duskExchanged_18 ?_
  refine oj_iload_n 1 dX0_duskExchanged_21 rfl rfl ?_
  refine oj_iload_n 2 dX0_duskExchanged_22 rfl rfl ?_
  refine oc_Vv [.int p1, .int p2] mi_RX0_112 ow_844 ow_845 rfl k_42 (BX6_exchange AA6_42 y4) ⟨by decide, by decide⟩ ⟨Nat.le_refl _, Nat.le_refl _⟩ rfl (Nat.le_of_ble_eq_true rfl) dX0_duskExchanged_23 (fun h6 y8 => ?_)
  refine oj_aload_n 0 dX0_duskExchanged_26 rfl rfl ?_
  refine oj_getr (q := 39) fl_RX0_35 k_92 rfl k_39 dX0_duskExchanged_27 ?_
  refine oc_Vi [] mi_RX0_54 ow_889 ow_890 rfl k_39 (BX3_follow  y8) ⟨by decide, by decide⟩ ⟨Nat.le_refl _, Nat.le_refl _⟩ rfl (Nat.le_of_ble_eq_true rfl) dX0_duskExchanged_30 (fun r9 f11 h10 y12 => ?_)
  exact oj_ret (r := some (.int r9)) ⟨trivial, rfl, rfl, r9, rfl, y12⟩ dX0_duskExchanged_33 (Nat.zero_le _) (Nat.zero_le _)
-- X0_findSwap
set_option maxRecDepth 100000 in
set_option maxHeartbeats 4000000 in
theorem BKX0_findSwap_74 {x1 : Int32} {x2 : Int32} {x3 : Int32} {s0 : Int32} {h : ob_H} {Q : Int32 → ob_H → Prop} {k13 : Int32 → Int32 → ob_H → Prop} {k28 : Int32 → Int32 → ob_H → Prop} (hk13 : ∀ (x1' : Int32) (x2' : Int32) (h' : ob_H), k13 x1' x2' h' → ob_J RX0 cX0_findSwap 5 (ob_rm 6) false none 0 0 KS NN h' 13 [(0, .ref 92), (1, .int x1'), (2, .int x2')] [] (ob_g (some .boolean) (ob_qi Q))) (hk28 : ∀ (x1' : Int32) (x3' : Int32) (h' : ob_H), k28 x1' x3' h' → ob_J RX0 cX0_findSwap 5 (ob_rm 6) false none 0 0 KS NN h' 28 [(0, .ref 92), (1, .int x1'), (2, .int x2), (3, .int x3')] [] (ob_g (some .boolean) (ob_qi Q)))
    (y : KX0_findSwap_74 x1 x2 x3 s0 h Q k13 k28) : ob_J RX0 cX0_findSwap 5 (ob_rm 6) false none 0 0 KS NN h 74 [(0, .ref 92), (1, .int x1), (2, .int x2), (3, .int x3)] [.int s0] (ob_g (some .boolean) (ob_qi Q)) := by
  unfold KX0_findSwap_74 at y
  refine oj_istore (lv' := [(4, .int s0), (0, .ref 92), (1, .int x1), (2, .int x2), (3, .int x3)]) dX0_findSwap_74 (by decide) rfl ?_
  refine oj_iload 0 dX0_findSwap_76 rfl ?_
  refine oj_aload_n 1 dX0_findSwap_78 rfl rfl ?_
  refine oj_geti fl_RX0_24 k_92 rfl dX0_findSwap_79 ?_
  refine oj_icmp_ge 103 dX0_findSwap_82 rfl (fun c26 => ?_) (fun c26 => ?_)
  · have y27 := y.1 c26
    obtain ⟨v29, ev29⟩ : ∃ z : Int32, z = x3 + (1) := ⟨_, rfl⟩
    have y30 := Lt_at y27 v29 ev29
    refine oj_iinc (v := v29) (lv' := [(3, .int v29), (4, .int s0), (0, .ref 92), (1, .int x1), (2, .int x2)]) 4 dX0_findSwap_103 rfl (iinc_e ci_1 ev29) (by decide) rfl ?_
    refine oj_goto 28 dX0_findSwap_106 rfl ?_
    refine oj_lv [2, 3, 4, 0] rfl ?_
    exact hk28 _ _ _ y30
  · have y28 := y.2 c26
    refine oj_iconst dX0_findSwap_85 ci_1 ?_
    refine oj_istore_n (lv' := [(1, .int (1)), (4, .int s0), (0, .ref 92), (2, .int x2), (3, .int x3)]) dX0_findSwap_86 rfl (by decide) rfl ?_
    refine oj_aload_n 2 dX0_findSwap_87 rfl rfl ?_
    refine oj_iload_n 3 dX0_findSwap_88 rfl rfl ?_
    refine oj_puti fl_RX0_9 (Or.inl rfl) k_92 rfl rfl rfl dX0_findSwap_89 ?_
    refine oj_toph (fun h31 eh31 => ?_)
    have y32 := Lt_at y28 h31 eh31
    refine oj_aload_n 2 dX0_findSwap_92 rfl rfl ?_
    refine oj_iload_n 4 dX0_findSwap_93 rfl rfl ?_
    refine oj_puti fl_RX0_15 (Or.inl rfl) k_92 rfl rfl rfl dX0_findSwap_94 ?_
    refine oj_toph (fun h33 eh33 => ?_)
    have y34 := Lt_at y32 h33 eh33
    refine oj_aload_n 2 dX0_findSwap_97 rfl rfl ?_
    refine oj_iload 1 dX0_findSwap_98 rfl ?_
    refine oj_puti fl_RX0_24 (Or.inl rfl) k_92 rfl rfl rfl dX0_findSwap_100 ?_
    refine oj_toph (fun h35 eh35 => ?_)
    have y36 := Lt_at y34 h35 eh35
    obtain ⟨v37, ev37⟩ : ∃ z : Int32, z = x3 + (1) := ⟨_, rfl⟩
    have y38 := Lt_at y36 v37 ev37
    refine oj_iinc (v := v37) (lv' := [(3, .int v37), (1, .int (1)), (4, .int s0), (0, .ref 92), (2, .int x2)]) 4 dX0_findSwap_103 rfl (iinc_e ci_1 ev37) (by decide) rfl ?_
    refine oj_goto 28 dX0_findSwap_106 rfl ?_
    refine oj_lv [3, 1, 4, 0] rfl ?_
    exact hk28 _ _ _ y38
set_option maxRecDepth 100000 in
set_option maxHeartbeats 4000000 in
theorem BLX0_findSwap_28 {x2 : Int32} {Q : Int32 → ob_H → Prop} {k13 : Int32 → Int32 → ob_H → Prop} (hk13 : ∀ (x1' : Int32) (x2' : Int32) (h' : ob_H), k13 x1' x2' h' → ob_J RX0 cX0_findSwap 5 (ob_rm 6) false none 0 0 KS NN h' 13 [(0, .ref 92), (1, .int x1'), (2, .int x2')] [] (ob_g (some .boolean) (ob_qi Q))) :
    ∀ (n : Nat) (x1 : Int32) (x3 : Int32) (h : ob_H), it3 (FX0_findSwap_28 x2 Q k13) n x1 x3 h → ob_J RX0 cX0_findSwap 5 (ob_rm 6) false none 0 0 KS NN h 28 [(0, .ref 92), (1, .int x1), (2, .int x2), (3, .int x3)] [] (ob_g (some .boolean) (ob_qi Q)) := by
  intro n
  induction n with
  | zero => intro x1 x3 h y; exact False.elim y
  | succ n hk28 =>
    intro x1 x3 h y
    have y : FX0_findSwap_28 x2 Q k13 (it3 (FX0_findSwap_28 x2 Q k13) n) x1 x3 h := y
    unfold FX0_findSwap_28 at y
    refine oj_iload_n 3 dX0_findSwap_28 rfl rfl ?_
    refine oj_aload_n 0 dX0_findSwap_29 rfl rfl ?_
    refine oj_getr (q := 20) fl_RX0_27 k_92 rfl k_20 dX0_findSwap_30 ?_
    refine oj_geti fl_RX0_58 k_20 rfl dX0_findSwap_33 ?_
    refine oj_icmp_ge 109 dX0_findSwap_36 rfl (fun c14 => ?_) (fun c14 => ?_)
    · have y15 := y.1 c14
      obtain ⟨v17, ev17⟩ : ∃ z : Int32, z = x2 + (1) := ⟨_, rfl⟩
      have y18 := Lt_at y15 v17 ev17
      refine oj_iinc (v := v17) (lv' := [(2, .int v17), (0, .ref 92), (1, .int x1), (3, .int x3)]) 2 dX0_findSwap_109 rfl (iinc_e ci_1 ev17) (by decide) rfl ?_
      refine oj_goto 13 dX0_findSwap_112 rfl ?_
      refine oj_lv [1, 2, 0] rfl ?_
      exact hk13 _ _ _ y18
    · have y16 := y.2 c14
      refine oj_aload_n 0 dX0_findSwap_39 rfl rfl ?_
      refine oj_getr (q := 34) fl_RX0_31 k_92 rfl k_34 dX0_findSwap_40 ?_
      refine oj_iload_n 2 dX0_findSwap_43 rfl rfl ?_
      refine oc_Vpi [.int x2] mi_RX0_63 ow_750 ow_751 rfl k_34 (BX6_waits AA6_34 y16) ⟨by decide, by decide⟩ ⟨Nat.le_refl _, Nat.le_refl _⟩ rfl (Nat.le_of_ble_eq_true rfl) dX0_findSwap_44 (fun r19 f21 y22 => ?_)
      refine oj_if_eq 70 dX0_findSwap_47 rfl (fun c23 => ?_) (fun c23 => ?_)
      · have y24 := y22.1 c23
        refine oj_aload_n 0 dX0_findSwap_70 rfl rfl ?_
        refine oj_geti fl_RX0_24 k_92 rfl dX0_findSwap_71 ?_
        refine oj_lv [0, 1, 2, 3] rfl ?_
        exact BKX0_findSwap_74 hk13 hk28 y24
      · have y25 := y22.2 c23
        refine oj_aload_n 0 dX0_findSwap_50 rfl rfl ?_
        refine oj_getr (q := 34) fl_RX0_31 k_92 rfl k_34 dX0_findSwap_51 ?_
        refine oj_iload_n 3 dX0_findSwap_54 rfl rfl ?_
        refine oc_Vpi [.int x3] mi_RX0_63 ow_750 ow_751 rfl k_34 (BX6_waits AA6_34 y25) ⟨by decide, by decide⟩ ⟨Nat.le_refl _, Nat.le_refl _⟩ rfl (Nat.le_of_ble_eq_true rfl) dX0_findSwap_55 (fun r39 f41 y42 => ?_)
        refine oj_if_eq 70 dX0_findSwap_58 rfl (fun c43 => ?_) (fun c43 => ?_)
        · have y44 := y42.1 c43
          refine oj_aload_n 0 dX0_findSwap_70 rfl rfl ?_
          refine oj_geti fl_RX0_24 k_92 rfl dX0_findSwap_71 ?_
          refine oj_lv [0, 1, 2, 3] rfl ?_
          exact BKX0_findSwap_74 hk13 hk28 y44
        · have y45 := y42.2 c43
          refine oj_aload_n 0 dX0_findSwap_61 rfl rfl ?_
          refine oj_iload_n 2 dX0_findSwap_62 rfl rfl ?_
          refine oj_iload_n 3 dX0_findSwap_63 rfl rfl ?_
          refine oc_Vi [.int x2, .int x3] mi_RX0_109 ow_1088 op_33 rfl k_92 (BX0_duskExchanged  y45) ⟨by decide, by decide⟩ ⟨Nat.le_refl _, Nat.le_refl _⟩ rfl (Nat.le_of_ble_eq_true rfl) dX0_findSwap_64 (fun r46 f48 h47 y49 => ?_)
          refine oj_goto 74 dX0_findSwap_67 rfl ?_
          refine oj_lv [0, 1, 2, 3] rfl ?_
          exact BKX0_findSwap_74 hk13 hk28 y49
set_option maxRecDepth 100000 in
set_option maxHeartbeats 4000000 in
theorem BLX0_findSwap_13 {Q : Int32 → ob_H → Prop} :
    ∀ (n : Nat) (x1 : Int32) (x2 : Int32) (h : ob_H), it3 (FX0_findSwap_13 Q) n x1 x2 h → ob_J RX0 cX0_findSwap 5 (ob_rm 6) false none 0 0 KS NN h 13 [(0, .ref 92), (1, .int x1), (2, .int x2)] [] (ob_g (some .boolean) (ob_qi Q)) := by
  intro n
  induction n with
  | zero => intro x1 x2 h y; exact False.elim y
  | succ n hk13 =>
    intro x1 x2 h y
    have y : FX0_findSwap_13 Q (it3 (FX0_findSwap_13 Q) n) x1 x2 h := y
    unfold FX0_findSwap_13 at y
    refine oj_iload_n 2 dX0_findSwap_13 rfl rfl ?_
    refine oj_aload_n 0 dX0_findSwap_14 rfl rfl ?_
    refine oj_getr (q := 20) fl_RX0_27 k_92 rfl k_20 dX0_findSwap_15 ?_
    refine oj_geti fl_RX0_58 k_20 rfl dX0_findSwap_18 ?_
    refine oj_icmp_ge 115 dX0_findSwap_21 rfl (fun c7 => ?_) (fun c7 => ?_)
    · have y8 := y.1 c7
      refine oj_iload_n 1 dX0_findSwap_115 rfl rfl ?_
      obtain ⟨c10, y11⟩ := y8
      exact oj_ret (r := some (.int x1)) ⟨c10, rfl, rfl, x1, rfl, y11⟩ dX0_findSwap_116 (Nat.zero_le _) (Nat.zero_le _)
    · have y9 := y.2 c7
      refine oj_iload_n 2 dX0_findSwap_24 rfl rfl ?_
      refine oj_iconst dX0_findSwap_25 ci_1 ?_
      refine oj_iadd dX0_findSwap_26 ?_
      refine oj_topi (fun v12 ev12 => ?_)
      have y13 := Lt_at y9 v12 ev12
      refine oj_istore_n (lv' := [(3, .int v12), (0, .ref 92), (1, .int x1), (2, .int x2)]) dX0_findSwap_27 rfl (by decide) rfl ?_
      refine oj_lv [1, 2, 3, 0] rfl ?_
      obtain ⟨n, y50⟩ := y13
      exact BLX0_findSwap_28 hk13 n _ _ _ y50
set_option maxRecDepth 100000 in
set_option maxHeartbeats 4000000 in
theorem BX0_findSwap    {h : ob_H} {Q : Int32 → ob_H → Prop} (y : MX0_findSwap   h Q) : ob_T yX0_findSwap cX0_findSwap 5 (some .boolean) (ob_rm 6) KS NN h [.ref 92] (ob_g (some .boolean) (ob_qi Q)) := by
  unfold MX0_findSwap at y
  refine ob_T_gf (by decide +kernel) (Nat.le_of_ble_eq_true rfl) ?_
  show ob_J RX0 cX0_findSwap 5 (ob_rm 6) false none 0 0 KS NN h 0 [(0, .ref 92)] [] (ob_g (some .boolean) (ob_qi Q))
  refine oj_iconst dX0_findSwap_0 ci_0 ?_
  refine oj_istore_n (lv' := [(1, .int (0)), (0, .ref 92)]) dX0_findSwap_1 rfl (by decide) rfl ?_
  refine oj_aload_n 1 dX0_findSwap_2 rfl rfl ?_
  refine oj_aload_n 1 dX0_findSwap_3 rfl rfl ?_
  refine oj_iconst dX0_findSwap_4 ci_0 ?_
  refine oc_Vi [.int (0)] mi_RX0_83 ow_965 ow_966 rfl k_92 (BX0_duskWithout  y) ⟨by decide, by decide⟩ ⟨Nat.le_refl _, Nat.le_refl _⟩ rfl (Nat.le_of_ble_eq_true rfl) dX0_findSwap_5 (fun r1 f3 h2 y4 => ?_)
  refine oj_puti fl_RX0_24 (Or.inl rfl) k_92 rfl rfl rfl dX0_findSwap_8 ?_
  refine oj_toph (fun h5 eh5 => ?_)
  have y6 := Lt_at y4 h5 eh5
  refine oj_iconst dX0_findSwap_11 ci_0 ?_
  refine oj_istore_n (lv' := [(2, .int (0)), (1, .int (0)), (0, .ref 92)]) dX0_findSwap_12 rfl (by decide) rfl ?_
  refine oj_lv [2, 1, 0] rfl ?_
  obtain ⟨n, y51⟩ := y6
  exact BLX0_findSwap_13  n _ _ _ y51
-- X11_swap
set_option maxRecDepth 100000 in
set_option maxHeartbeats 4000000 in
theorem BX11_swap  {p1 : Int32}  {h : ob_H} {Q : Int32 → ob_H → Prop} (y : MX11_swap  p1 h Q) : ob_T yX11_swap cX11_swap 2 (some .int) (ob_rm 7) KS NN h [.ref 0, .int p1] (ob_g (some .int) (ob_qi Q)) := by
  unfold MX11_swap at y
  refine ob_T_gf (by decide +kernel) (Nat.le_of_ble_eq_true rfl) ?_
  show ob_J RX11 cX11_swap 2 (ob_rm 7) false none 0 0 KS NN h 0 [(0, .ref 0), (1, .int p1)] [] (ob_g (some .int) (ob_qi Q))
  refine oj_iload_n 1 dX11_swap_0 rfl rfl ?_
  refine oj_if_lt 19 dX11_swap_1 rfl (fun c1 => ?_) (fun c1 => ?_)
  · have y2 := y.1 c1
    refine oj_iconst dX11_swap_19 ci_m1 ?_
    exact oj_ret (r := some (.int (-1))) ⟨trivial, rfl, rfl, (-1), rfl, y2⟩ dX11_swap_20 (Nat.zero_le _) (Nat.zero_le _)
  · have y3 := y.2 c1
    refine oj_iload_n 1 dX11_swap_4 rfl rfl ?_
    refine oj_iconst dX11_swap_5 ci_2 ?_
    refine oj_icmp_gt 19 dX11_swap_6 rfl (fun c4 => ?_) (fun c4 => ?_)
    · have y5 := y3.1 c4
      refine oj_iconst dX11_swap_19 ci_m1 ?_
      exact oj_ret (r := some (.int (-1))) ⟨trivial, rfl, rfl, (-1), rfl, y5⟩ dX11_swap_20 (Nat.zero_le _) (Nat.zero_le _)
    · have y6 := y3.2 c4
      refine oj_aload_n 0 dX11_swap_9 rfl rfl ?_
      refine oj_getr (q := 92) fl_RX11_60 k_0 rfl k_92 dX11_swap_10 ?_
      refine oc_Vi [] mi_RX11_296 ow_1083 ow_1084 rfl k_92 (BX0_findSwap  y6) ⟨by decide, by decide⟩ ⟨Nat.le_refl _, Nat.le_refl _⟩ rfl (Nat.le_of_ble_eq_true rfl) dX11_swap_13 (fun r7 f9 h8 y10 => ?_)
      refine oj_if_ne 21 dX11_swap_16 rfl (fun c11 => ?_) (fun c11 => ?_)
      · have y12 := y10.2 c11
        refine oj_iload_n 1 dX11_swap_21 rfl rfl ?_
        by_cases c14 : p1 = (0)
        · have y15 := y12.1 c14
          refine oj_lookup 48 dX11_swap_22 (by decide) (by rw [c14] <;> rfl) rfl ?_
          refine oj_aload_n 0 dX11_swap_48 rfl rfl ?_
          refine oj_getr (q := 92) fl_RX11_60 k_0 rfl k_92 dX11_swap_49 ?_
          refine oj_geti fl_RX11_245 k_92 rfl dX11_swap_52 ?_
          exact oj_ret (r := some (.int (h8.1 92 0))) ⟨trivial, rfl, rfl, (h8.1 92 0), rfl, y15⟩ dX11_swap_55 (Nat.zero_le _) (Nat.zero_le _)
        have y16 := y12.2 c14
        by_cases c17 : p1 = (1)
        · have y18 := y16.1 c17
          refine oj_lookup 56 dX11_swap_22 (by decide) (by rw [c17] <;> rfl) rfl ?_
          refine oj_aload_n 0 dX11_swap_56 rfl rfl ?_
          refine oj_getr (q := 92) fl_RX11_60 k_0 rfl k_92 dX11_swap_57 ?_
          refine oj_geti fl_RX11_299 k_92 rfl dX11_swap_60 ?_
          exact oj_ret (r := some (.int (h8.1 92 1))) ⟨trivial, rfl, rfl, (h8.1 92 1), rfl, y18⟩ dX11_swap_63 (Nat.zero_le _) (Nat.zero_le _)
        have y19 := y16.2 c17
        refine oj_lookup 64 dX11_swap_22 (by decide) (by show Op.lookupswitch.offset [(0, 26), (1, 34)] 42 p1.toInt = _; rw [lv_osw c14 (show (0 : Int32).toInt = 0 by decide), lv_osw c17 (show (1 : Int32).toInt = 1 by decide)] <;> rfl) rfl ?_
        refine oj_aload_n 0 dX11_swap_64 rfl rfl ?_
        refine oj_getr (q := 92) fl_RX11_60 k_0 rfl k_92 dX11_swap_65 ?_
        refine oj_geti fl_RX11_247 k_92 rfl dX11_swap_68 ?_
        exact oj_ret (r := some (.int (h8.1 92 4))) ⟨trivial, rfl, rfl, (h8.1 92 4), rfl, y19⟩ dX11_swap_71 (Nat.zero_le _) (Nat.zero_le _)
      · have y13 := y10.1 c11
        refine oj_iconst dX11_swap_19 ci_m1 ?_
        exact oj_ret (r := some (.int (-1))) ⟨trivial, rfl, rfl, (-1), rfl, y13⟩ dX11_swap_20 (Nat.zero_le _) (Nat.zero_le _)
-- X11_by
set_option maxRecDepth 100000 in
set_option maxHeartbeats 4000000 in
theorem BLX11_by_29 {x1 : Int32} {h : ob_H} {Q : Int32 → ob_H → Prop} :
    ∀ (n : Nat) (x2 : Int32) (x3 : Int32), it2 (FX11_by_29 x1 h Q) n x2 x3 → ob_J RX11 cX11_by 4 (ob_rm 6) false none 0 0 KS NN h 29 [(0, .ref 0), (1, .int x1), (2, .int x2), (3, .int x3)] [] (ob_g (some .int) (ob_qi Q)) := by
  intro n
  induction n with
  | zero => intro x2 x3 y; exact False.elim y
  | succ n hk29 =>
    intro x2 x3 y
    have y : FX11_by_29 x1 h Q (it2 (FX11_by_29 x1 h Q) n) x2 x3 := y
    unfold FX11_by_29 at y
    refine oj_iload_n 3 dX11_by_29 rfl rfl ?_
    refine oj_aload_n 0 dX11_by_30 rfl rfl ?_
    refine oj_getr (q := 39) fl_RX11_44 k_0 rfl k_39 dX11_by_31 ?_
    refine oj_geti fl_RX11_216 k_39 rfl dX11_by_34 ?_
    refine oj_icmp_ge 62 dX11_by_37 rfl (fun c11 => ?_) (fun c11 => ?_)
    · have y12 := y.1 c11
      refine oj_iload_n 2 dX11_by_62 rfl rfl ?_
      exact oj_ret (r := some (.int x2)) ⟨trivial, rfl, rfl, x2, rfl, y12⟩ dX11_by_63 (Nat.zero_le _) (Nat.zero_le _)
    · have y13 := y.2 c11
      refine oj_aload_n 0 dX11_by_40 rfl rfl ?_
      refine oj_getr (q := 39) fl_RX11_44 k_0 rfl k_39 dX11_by_41 ?_
      refine oj_getr (q := 41) fl_RX11_220 k_39 rfl k_41 dX11_by_44 ?_
      refine oj_iload_n 3 dX11_by_47 rfl rfl ?_
      obtain ⟨c14, y15⟩ := y13
      refine oj_iald k_41 c14 rfl dX11_by_48 ?_
      refine oj_iload_n 1 dX11_by_49 rfl rfl ?_
      refine oj_icmp_gt 56 dX11_by_50 rfl (fun c16 => ?_) (fun c16 => ?_)
      · have y17 := y15.1 c16
        obtain ⟨v19, ev19⟩ : ∃ z : Int32, z = x3 + (1) := ⟨_, rfl⟩
        have y20 := Lt_at y17 v19 ev19
        refine oj_iinc (v := v19) (lv' := [(3, .int v19), (0, .ref 0), (1, .int x1), (2, .int x2)]) 3 dX11_by_56 rfl (iinc_e ci_1 ev19) (by decide) rfl ?_
        refine oj_goto 29 dX11_by_59 rfl ?_
        refine oj_lv [1, 2, 3, 0] rfl ?_
        exact hk29 _ _ y20
      · have y18 := y15.2 c16
        obtain ⟨v21, ev21⟩ : ∃ z : Int32, z = x2 + (1) := ⟨_, rfl⟩
        have y22 := Lt_at y18 v21 ev21
        refine oj_iinc (v := v21) (lv' := [(2, .int v21), (0, .ref 0), (1, .int x1), (3, .int x3)]) 2 dX11_by_53 rfl (iinc_e ci_1 ev21) (by decide) rfl ?_
        obtain ⟨v23, ev23⟩ : ∃ z : Int32, z = x3 + (1) := ⟨_, rfl⟩
        have y24 := Lt_at y22 v23 ev23
        refine oj_iinc (v := v23) (lv' := [(3, .int v23), (2, .int v21), (0, .ref 0), (1, .int x1)]) 3 dX11_by_56 rfl (iinc_e ci_1 ev23) (by decide) rfl ?_
        refine oj_goto 29 dX11_by_59 rfl ?_
        refine oj_lv [2, 3, 1, 0] rfl ?_
        exact hk29 _ _ y24
set_option maxRecDepth 100000 in
set_option maxHeartbeats 4000000 in
theorem BX11_by  {p1 : Int32}  {h : ob_H} {Q : Int32 → ob_H → Prop} (y : MX11_by  p1 h Q) : ob_T yX11_by cX11_by 4 (some .int) (ob_rm 6) KS NN h [.ref 0, .int p1] (ob_g (some .int) (ob_qi Q)) := by
  unfold MX11_by at y
  refine ob_T_gf (by decide +kernel) (Nat.le_of_ble_eq_true rfl) ?_
  show ob_J RX11 cX11_by 4 (ob_rm 6) false none 0 0 KS NN h 0 [(0, .ref 0), (1, .int p1)] [] (ob_g (some .int) (ob_qi Q))
  refine oj_iload_n 1 dX11_by_0 rfl rfl ?_
  refine oj_if_lt 11 dX11_by_1 rfl (fun c1 => ?_) (fun c1 => ?_)
  · have y2 := y.1 c1
    refine oj_iconst dX11_by_11 ci_m1 ?_
    exact oj_ret (r := some (.int (-1))) ⟨trivial, rfl, rfl, (-1), rfl, y2⟩ dX11_by_12 (Nat.zero_le _) (Nat.zero_le _)
  · have y3 := y.2 c1
    refine oj_iload_n 1 dX11_by_4 rfl rfl ?_
    refine oj_sipush dX11_by_5 cs_9999 ?_
    refine oj_icmp_le 13 dX11_by_8 rfl (fun c4 => ?_) (fun c4 => ?_)
    · have y5 := y3.1 c4
      refine oj_aload_n 0 dX11_by_13 rfl rfl ?_
      refine oj_getr (q := 39) fl_RX11_44 k_0 rfl k_39 dX11_by_14 ?_
      refine oj_aload_n 0 dX11_by_17 rfl rfl ?_
      refine oj_getr (q := 34) fl_RX11_37 k_0 rfl k_34 dX11_by_18 ?_
      refine oc_Vi [.ref 34] mi_RX11_212 ow_884 ow_885 rfl k_39 (BX3_goOn AA6_34 y5) ⟨by decide, by decide⟩ ⟨Nat.le_refl _, Nat.le_refl _⟩ rfl (Nat.le_of_ble_eq_true rfl) dX11_by_21 (fun r7 f9 h8 y10 => ?_)
      refine oj_pop dX11_by_24 rfl ?_
      refine oj_iconst dX11_by_25 ci_0 ?_
      refine oj_istore_n (lv' := [(2, .int (0)), (0, .ref 0), (1, .int p1)]) dX11_by_26 rfl (by decide) rfl ?_
      refine oj_iconst dX11_by_27 ci_0 ?_
      refine oj_istore_n (lv' := [(3, .int (0)), (2, .int (0)), (0, .ref 0), (1, .int p1)]) dX11_by_28 rfl (by decide) rfl ?_
      refine oj_lv [2, 3, 1, 0] rfl ?_
      obtain ⟨n, y25⟩ := y10
      exact BLX11_by_29  n _ _ y25
    · have y6 := y3.2 c4
      refine oj_iconst dX11_by_11 ci_m1 ?_
      exact oj_ret (r := some (.int (-1))) ⟨trivial, rfl, rfl, (-1), rfl, y6⟩ dX11_by_12 (Nat.zero_le _) (Nat.zero_le _)
-- X11_upset
set_option maxRecDepth 100000 in
set_option maxHeartbeats 4000000 in
theorem BLX11_upset_16 {h : ob_H} {Q : Int32 → ob_H → Prop} :
    ∀ (n : Nat) (x1 : Int32) (x2 : Int32), it2 (FX11_upset_16 h Q) n x1 x2 → ob_J RX11 cX11_upset 3 (ob_rm 6) false none 0 0 KS NN h 16 [(0, .ref 0), (1, .int x1), (2, .int x2)] [] (ob_g (some .int) (ob_qi Q)) := by
  intro n
  induction n with
  | zero => intro x1 x2 y; exact False.elim y
  | succ n hk16 =>
    intro x1 x2 y
    have y : FX11_upset_16 h Q (it2 (FX11_upset_16 h Q) n) x1 x2 := y
    unfold FX11_upset_16 at y
    refine oj_iload_n 2 dX11_upset_16 rfl rfl ?_
    refine oj_aload_n 0 dX11_upset_17 rfl rfl ?_
    refine oj_getr (q := 39) fl_RX11_44 k_0 rfl k_39 dX11_upset_18 ?_
    refine oj_geti fl_RX11_216 k_39 rfl dX11_upset_21 ?_
    refine oj_icmp_ge 75 dX11_upset_24 rfl (fun c5 => ?_) (fun c5 => ?_)
    · have y6 := y.1 c5
      refine oj_iload_n 1 dX11_upset_75 rfl rfl ?_
      exact oj_ret (r := some (.int x1)) ⟨trivial, rfl, rfl, x1, rfl, y6⟩ dX11_upset_76 (Nat.zero_le _) (Nat.zero_le _)
    · have y7 := y.2 c5
      refine oj_aload_n 0 dX11_upset_27 rfl rfl ?_
      refine oj_getr (q := 20) fl_RX11_28 k_0 rfl k_20 dX11_upset_28 ?_
      refine oj_getr (q := 21) fl_RX11_145 k_20 rfl k_21 dX11_upset_31 ?_
      refine oj_aload_n 0 dX11_upset_34 rfl rfl ?_
      refine oj_getr (q := 39) fl_RX11_44 k_0 rfl k_39 dX11_upset_35 ?_
      refine oj_getr (q := 40) fl_RX11_217 k_39 rfl k_40 dX11_upset_38 ?_
      refine oj_iload_n 2 dX11_upset_41 rfl rfl ?_
      refine oj_iconst dX11_upset_42 ci_1 ?_
      refine oj_isub dX11_upset_43 ?_
      obtain ⟨c8, y9⟩ := y7
      refine oj_iald k_40 c8 rfl dX11_upset_44 ?_
      obtain ⟨c10, y11⟩ := y9
      refine oj_iald k_21 c10 rfl dX11_upset_45 ?_
      refine oj_aload_n 0 dX11_upset_46 rfl rfl ?_
      refine oj_getr (q := 20) fl_RX11_28 k_0 rfl k_20 dX11_upset_47 ?_
      refine oj_getr (q := 21) fl_RX11_145 k_20 rfl k_21 dX11_upset_50 ?_
      refine oj_aload_n 0 dX11_upset_53 rfl rfl ?_
      refine oj_getr (q := 39) fl_RX11_44 k_0 rfl k_39 dX11_upset_54 ?_
      refine oj_getr (q := 40) fl_RX11_217 k_39 rfl k_40 dX11_upset_57 ?_
      refine oj_iload_n 2 dX11_upset_60 rfl rfl ?_
      obtain ⟨c12, y13⟩ := y11
      refine oj_iald k_40 c12 rfl dX11_upset_61 ?_
      obtain ⟨c14, y15⟩ := y13
      refine oj_iald k_21 c14 rfl dX11_upset_62 ?_
      refine oj_icmp_ge 69 dX11_upset_63 rfl (fun c16 => ?_) (fun c16 => ?_)
      · have y17 := y15.1 c16
        obtain ⟨v19, ev19⟩ : ∃ z : Int32, z = x2 + (1) := ⟨_, rfl⟩
        have y20 := Lt_at y17 v19 ev19
        refine oj_iinc (v := v19) (lv' := [(2, .int v19), (0, .ref 0), (1, .int x1)]) 2 dX11_upset_69 rfl (iinc_e ci_1 ev19) (by decide) rfl ?_
        refine oj_goto 16 dX11_upset_72 rfl ?_
        refine oj_lv [1, 2, 0] rfl ?_
        exact hk16 _ _ y20
      · have y18 := y15.2 c16
        obtain ⟨v21, ev21⟩ : ∃ z : Int32, z = x1 + (1) := ⟨_, rfl⟩
        have y22 := Lt_at y18 v21 ev21
        refine oj_iinc (v := v21) (lv' := [(1, .int v21), (0, .ref 0), (2, .int x2)]) 1 dX11_upset_66 rfl (iinc_e ci_1 ev21) (by decide) rfl ?_
        obtain ⟨v23, ev23⟩ : ∃ z : Int32, z = x2 + (1) := ⟨_, rfl⟩
        have y24 := Lt_at y22 v23 ev23
        refine oj_iinc (v := v23) (lv' := [(2, .int v23), (1, .int v21), (0, .ref 0)]) 2 dX11_upset_69 rfl (iinc_e ci_1 ev23) (by decide) rfl ?_
        refine oj_goto 16 dX11_upset_72 rfl ?_
        refine oj_lv [2, 1, 0] rfl ?_
        exact hk16 _ _ y24
set_option maxRecDepth 100000 in
set_option maxHeartbeats 4000000 in
theorem BX11_upset    {h : ob_H} {Q : Int32 → ob_H → Prop} (y : MX11_upset   h Q) : ob_T yX11_upset cX11_upset 3 (some .int) (ob_rm 6) KS NN h [.ref 0] (ob_g (some .int) (ob_qi Q)) := by
  unfold MX11_upset at y
  refine ob_T_gf (by decide +kernel) (Nat.le_of_ble_eq_true rfl) ?_
  show ob_J RX11 cX11_upset 3 (ob_rm 6) false none 0 0 KS NN h 0 [(0, .ref 0)] [] (ob_g (some .int) (ob_qi Q))
  refine oj_aload_n 0 dX11_upset_0 rfl rfl ?_
  refine oj_getr (q := 39) fl_RX11_44 k_0 rfl k_39 dX11_upset_1 ?_
  refine oj_aload_n 0 dX11_upset_4 rfl rfl ?_
  refine oj_getr (q := 34) fl_RX11_37 k_0 rfl k_34 dX11_upset_5 ?_
  refine oc_Vi [.ref 34] mi_RX11_212 ow_884 ow_885 rfl k_39 (BX3_goOn AA6_34 y) ⟨by decide, by decide⟩ ⟨Nat.le_refl _, Nat.le_refl _⟩ rfl (Nat.le_of_ble_eq_true rfl) dX11_upset_8 (fun r1 f3 h2 y4 => ?_)
  refine oj_pop dX11_upset_11 rfl ?_
  refine oj_iconst dX11_upset_12 ci_0 ?_
  refine oj_istore_n (lv' := [(1, .int (0)), (0, .ref 0)]) dX11_upset_13 rfl (by decide) rfl ?_
  refine oj_iconst dX11_upset_14 ci_1 ?_
  refine oj_istore_n (lv' := [(2, .int (1)), (1, .int (0)), (0, .ref 0)]) dX11_upset_15 rfl (by decide) rfl ?_
  refine oj_lv [2, 1, 0] rfl ?_
  obtain ⟨n, y25⟩ := y4
  exact BLX11_upset_16  n _ _ y25
-- X11_lies
set_option maxRecDepth 100000 in
set_option maxHeartbeats 4000000 in
theorem BX11_lies  {p1 : Int32}  {h : ob_H} {Q : Int32 → Prop} (y : MX11_lies  p1 h Q) : ob_T yX11_lies cX11_lies 2 (some .int) (ob_rm 1) KS NN h [.ref 0, .int p1] (ob_g (some .int) (ob_pi h Q)) := by
  unfold MX11_lies at y
  refine ob_T_gf (by decide +kernel) (Nat.le_of_ble_eq_true rfl) ?_
  show ob_J RX11 cX11_lies 2 (ob_rm 1) false none 0 0 KS NN h 0 [(0, .ref 0), (1, .int p1)] [] (ob_g (some .int) (ob_pi h Q))
  refine oj_iload_n 1 dX11_lies_0 rfl rfl ?_
  refine oj_if_lt 21 dX11_lies_1 rfl (fun c1 => ?_) (fun c1 => ?_)
  · have y2 := y.1 c1
    refine oj_iconst dX11_lies_21 ci_m1 ?_
    exact oj_ret (r := some (.int (-1))) ⟨trivial, rfl, rfl, rfl, (-1), rfl, y2⟩ dX11_lies_22 (Nat.zero_le _) (Nat.zero_le _)
  · have y3 := y.2 c1
    refine oj_iload_n 1 dX11_lies_4 rfl rfl ?_
    refine oj_aload_n 0 dX11_lies_5 rfl rfl ?_
    refine oj_geti fl_RX11_95 k_0 rfl dX11_lies_6 ?_
    refine oj_icmp_ge 21 dX11_lies_9 rfl (fun c4 => ?_) (fun c4 => ?_)
    · have y5 := y3.1 c4
      refine oj_iconst dX11_lies_21 ci_m1 ?_
      exact oj_ret (r := some (.int (-1))) ⟨trivial, rfl, rfl, rfl, (-1), rfl, y5⟩ dX11_lies_22 (Nat.zero_le _) (Nat.zero_le _)
    · have y6 := y3.2 c4
      refine oj_aload_n 0 dX11_lies_12 rfl rfl ?_
      refine oj_getr (q := 107) fl_RX11_91 k_0 rfl k_107 dX11_lies_13 ?_
      refine oj_iload_n 1 dX11_lies_16 rfl rfl ?_
      obtain ⟨c7, y8⟩ := y6
      refine oj_iald k_107 c7 rfl dX11_lies_17 ?_
      refine oj_goto 22 dX11_lies_18 rfl ?_
      exact oj_ret (r := some (.int (h.1 107 (ix p1)))) ⟨trivial, rfl, rfl, rfl, (h.1 107 (ix p1)), rfl, y8⟩ dX11_lies_22 (Nat.zero_le _) (Nat.zero_le _)
-- X9_tell
set_option maxRecDepth 100000 in
set_option maxHeartbeats 4000000 in
theorem BX9_tell  {p1 : Int32} {p2 : Int32} {p3 : Int32}  {h : ob_H} {Q : Int32 → ob_H → Prop} (y : MX9_tell  p1 p2 p3 h Q) : ob_T yX9_tell cX9_tell 4 (some .int) (ob_rm 1) KS NN h [.ref 98, .int p1, .int p2, .int p3] (ob_g (some .int) (ob_qi Q)) := by
  unfold MX9_tell at y
  refine ob_T_gf (by decide +kernel) (Nat.le_of_ble_eq_true rfl) ?_
  show ob_J RX9 cX9_tell 4 (ob_rm 1) false none 0 0 KS NN h 0 [(0, .ref 98), (1, .int p1), (2, .int p2), (3, .int p3)] [] (ob_g (some .int) (ob_qi Q))
  refine oj_aload_n 0 dX9_tell_0 rfl rfl ?_
  refine oj_geti fl_RX9_11 k_98 rfl dX9_tell_1 ?_
  refine oj_bipush dX9_tell_4 cb_30 ?_
  refine oj_icmp_lt 11 dX9_tell_6 rfl (fun c1 => ?_) (fun c1 => ?_)
  · have y2 := y.1 c1
    refine oj_aload_n 0 dX9_tell_11 rfl rfl ?_
    refine oj_getr (q := 99) fl_RX9_26 k_98 rfl k_99 dX9_tell_12 ?_
    refine oj_aload_n 0 dX9_tell_15 rfl rfl ?_
    refine oj_geti fl_RX9_11 k_98 rfl dX9_tell_16 ?_
    refine oj_iload_n 1 dX9_tell_19 rfl rfl ?_
    obtain ⟨c4, y5⟩ := y2
    refine oj_iast k_99 c4 rfl dX9_tell_20 ?_
    refine oj_toph (fun h6 eh6 => ?_)
    have y7 := Lt_at y5 h6 eh6
    refine oj_aload_n 0 dX9_tell_21 rfl rfl ?_
    refine oj_getr (q := 100) fl_RX9_30 k_98 rfl k_100 dX9_tell_22 ?_
    refine oj_aload_n 0 dX9_tell_25 rfl rfl ?_
    refine oj_geti fl_RX9_11 k_98 rfl dX9_tell_26 ?_
    refine oj_iload_n 2 dX9_tell_29 rfl rfl ?_
    obtain ⟨c8, y9⟩ := y7
    refine oj_iast k_100 c8 rfl dX9_tell_30 ?_
    refine oj_toph (fun h10 eh10 => ?_)
    have y11 := Lt_at y9 h10 eh10
    refine oj_aload_n 0 dX9_tell_31 rfl rfl ?_
    refine oj_getr (q := 101) fl_RX9_33 k_98 rfl k_101 dX9_tell_32 ?_
    refine oj_aload_n 0 dX9_tell_35 rfl rfl ?_
    refine oj_geti fl_RX9_11 k_98 rfl dX9_tell_36 ?_
    refine oj_iload_n 3 dX9_tell_39 rfl rfl ?_
    obtain ⟨c12, y13⟩ := y11
    refine oj_zast k_101 c12 rfl dX9_tell_40 ?_
    refine oj_toph (fun h14 eh14 => ?_)
    have y15 := Lt_at y13 h14 eh14
    refine oj_aload_n 0 dX9_tell_41 rfl rfl ?_
    refine oj_getr (q := 102) fl_RX9_37 k_98 rfl k_102 dX9_tell_42 ?_
    refine oj_aload_n 0 dX9_tell_45 rfl rfl ?_
    refine oj_geti fl_RX9_11 k_98 rfl dX9_tell_46 ?_
    refine oj_aload_n 0 dX9_tell_49 rfl rfl ?_
    refine oj_geti fl_RX9_17 k_98 rfl dX9_tell_50 ?_
    obtain ⟨c16, y17⟩ := y15
    refine oj_iast k_102 c16 rfl dX9_tell_53 ?_
    refine oj_toph (fun h18 eh18 => ?_)
    have y19 := Lt_at y17 h18 eh18
    refine oj_aload_n 0 dX9_tell_54 rfl rfl ?_
    refine oj_getr (q := 103) fl_RX9_40 k_98 rfl k_103 dX9_tell_55 ?_
    refine oj_aload_n 0 dX9_tell_58 rfl rfl ?_
    refine oj_geti fl_RX9_11 k_98 rfl dX9_tell_59 ?_
    refine oj_iconst dX9_tell_62 ci_m1 ?_
    obtain ⟨c20, y21⟩ := y19
    refine oj_iast k_103 c20 rfl dX9_tell_63 ?_
    refine oj_toph (fun h22 eh22 => ?_)
    have y23 := Lt_at y21 h22 eh22
    refine oj_aload_n 0 dX9_tell_64 rfl rfl ?_
    refine oj_dup dX9_tell_65 rfl ?_
    refine oj_geti fl_RX9_11 k_98 rfl dX9_tell_66 ?_
    refine oj_iconst dX9_tell_69 ci_1 ?_
    refine oj_iadd dX9_tell_70 ?_
    refine oj_puti fl_RX9_11 (Or.inl rfl) k_98 rfl rfl rfl dX9_tell_71 ?_
    refine oj_toph (fun h24 eh24 => ?_)
    have y25 := Lt_at y23 h24 eh24
    refine oj_aload_n 0 dX9_tell_74 rfl rfl ?_
    refine oj_geti fl_RX9_11 k_98 rfl dX9_tell_75 ?_
    refine oj_iconst dX9_tell_78 ci_1 ?_
    refine oj_isub dX9_tell_79 ?_
    exact oj_ret (r := some (.int ((h24.1 98 0) - (1)))) ⟨trivial, rfl, rfl, ((h24.1 98 0) - (1)), rfl, y25⟩ dX9_tell_80 (Nat.zero_le _) (Nat.zero_le _)
  · have y3 := y.2 c1
    refine oj_iconst dX9_tell_9 ci_m1 ?_
    exact oj_ret (r := some (.int (-1))) ⟨trivial, rfl, rfl, (-1), rfl, y3⟩ dX9_tell_10 (Nat.zero_le _) (Nat.zero_le _)
-- X11_seen
set_option maxRecDepth 100000 in
set_option maxHeartbeats 4000000 in
theorem BKX11_seen_24 {x1 : Int32} {x2 : Int32} {x3 : Int32} {s0 : Int32} {h : ob_H} {Q : Int32 → ob_H → Prop}
    (y : KX11_seen_24 x1 x2 x3 s0 h Q) : ob_J RX11 cX11_seen 5 (ob_rm 2) false none 0 0 KS NN h 24 [(0, .ref 0), (1, .int x1), (2, .int x2), (3, .int x3)] [.int s0] (ob_g (some .int) (ob_qi Q)) := by
  unfold KX11_seen_24 at y
  refine oj_istore (lv' := [(4, .int s0), (0, .ref 0), (1, .int x1), (2, .int x2), (3, .int x3)]) dX11_seen_24 (by decide) rfl ?_
  refine oj_iload 0 dX11_seen_26 rfl ?_
  refine oj_if_eq 46 dX11_seen_28 rfl (fun c4 => ?_) (fun c4 => ?_)
  · have y5 := y.1 c4
    refine oj_iconst dX11_seen_46 ci_m1 ?_
    exact oj_ret (r := some (.int (-1))) ⟨trivial, rfl, rfl, (-1), rfl, y5⟩ dX11_seen_47 (Nat.zero_le _) (Nat.zero_le _)
  · have y6 := y.2 c4
    refine oj_aload_n 1 dX11_seen_31 rfl rfl ?_
    refine oj_getr (q := 98) fl_RX11_87 k_0 rfl k_98 dX11_seen_32 ?_
    refine oj_iload_n 2 dX11_seen_35 rfl rfl ?_
    refine oj_iconst dX11_seen_36 ci_1 ?_
    refine oj_isub dX11_seen_37 ?_
    refine oj_iload_n 3 dX11_seen_38 rfl rfl ?_
    refine oj_iload_n 4 dX11_seen_39 rfl rfl ?_
    refine oc_Vi [.int (x1 - (1)), .int x2, .int x3] mi_RX11_302 ow_1108 ow_1109 rfl k_98 (BX9_tell  y6) ⟨by decide, by decide⟩ ⟨Nat.le_refl _, Nat.le_refl _⟩ rfl (Nat.le_of_ble_eq_true rfl) dX11_seen_40 (fun r7 f9 h8 y10 => ?_)
    refine oj_goto 47 dX11_seen_43 rfl ?_
    exact oj_ret (r := some (.int r7)) ⟨trivial, rfl, rfl, r7, rfl, y10⟩ dX11_seen_47 (Nat.zero_le _) (Nat.zero_le _)
set_option maxRecDepth 100000 in
set_option maxHeartbeats 4000000 in
theorem BX11_seen  {p1 : Int32} {p2 : Int32} {p3 : Int32}  {h : ob_H} {Q : Int32 → ob_H → Prop} (y : MX11_seen  p1 p2 p3 h Q) : ob_T yX11_seen cX11_seen 5 (some .int) (ob_rm 2) KS NN h [.ref 0, .int p1, .int p2, .int p3] (ob_g (some .int) (ob_qi Q)) := by
  unfold MX11_seen at y
  refine ob_T_gf (by decide +kernel) (Nat.le_of_ble_eq_true rfl) ?_
  show ob_J RX11 cX11_seen 5 (ob_rm 2) false none 0 0 KS NN h 0 [(0, .ref 0), (1, .int p1), (2, .int p2), (3, .int p3)] [] (ob_g (some .int) (ob_qi Q))
  refine oj_iload_n 1 dX11_seen_0 rfl rfl ?_
  refine oj_iconst dX11_seen_1 ci_1 ?_
  refine oj_icmp_lt 23 dX11_seen_2 rfl (fun c1 => ?_) (fun c1 => ?_)
  · have y2 := y.1 c1
    refine oj_iconst dX11_seen_23 ci_0 ?_
    refine oj_lv [0, 1, 2, 3] rfl ?_
    exact BKX11_seen_24  y2
  · have y3 := y.2 c1
    refine oj_iload_n 1 dX11_seen_5 rfl rfl ?_
    refine oj_bipush dX11_seen_6 cb_7 ?_
    refine oj_icmp_gt 23 dX11_seen_8 rfl (fun c11 => ?_) (fun c11 => ?_)
    · have y12 := y3.1 c11
      refine oj_iconst dX11_seen_23 ci_0 ?_
      refine oj_lv [0, 1, 2, 3] rfl ?_
      exact BKX11_seen_24  y12
    · have y13 := y3.2 c11
      refine oj_aload_n 0 dX11_seen_11 rfl rfl ?_
      refine oj_iload_n 2 dX11_seen_12 rfl rfl ?_
      refine oc_Vpi [.int p2] mi_RX11_137 ow_743 op_19 rfl k_0 (BX11_isTold  y13) ⟨by decide, by decide⟩ ⟨Nat.le_refl _, Nat.le_refl _⟩ rfl (Nat.le_of_ble_eq_true rfl) dX11_seen_13 (fun r14 f16 y17 => ?_)
      refine oj_if_eq 23 dX11_seen_16 rfl (fun c18 => ?_) (fun c18 => ?_)
      · have y19 := y17.1 c18
        refine oj_iconst dX11_seen_23 ci_0 ?_
        refine oj_lv [0, 1, 2, 3] rfl ?_
        exact BKX11_seen_24  y19
      · have y20 := y17.2 c18
        refine oj_iconst dX11_seen_19 ci_1 ?_
        refine oj_goto 24 dX11_seen_20 rfl ?_
        refine oj_lv [0, 1, 2, 3] rfl ?_
        exact BKX11_seen_24  y20
-- X9_takeBack
set_option maxRecDepth 100000 in
set_option maxHeartbeats 4000000 in
theorem BX9_takeBack  {p1 : Int32}  {h : ob_H} {Q : Int32 → ob_H → Prop} (y : MX9_takeBack  p1 h Q) : ob_T yX9_takeBack cX9_takeBack 2 (some .boolean) (ob_rm 1) KS NN h [.ref 98, .int p1] (ob_g (some .boolean) (ob_qi Q)) := by
  unfold MX9_takeBack at y
  refine ob_T_gf (by decide +kernel) (Nat.le_of_ble_eq_true rfl) ?_
  show ob_J RX9 cX9_takeBack 2 (ob_rm 1) false none 0 0 KS NN h 0 [(0, .ref 98), (1, .int p1)] [] (ob_g (some .boolean) (ob_qi Q))
  refine oj_iload_n 1 dX9_takeBack_0 rfl rfl ?_
  refine oj_if_lt 21 dX9_takeBack_1 rfl (fun c1 => ?_) (fun c1 => ?_)
  · have y2 := y.1 c1
    refine oj_iconst dX9_takeBack_21 ci_0 ?_
    exact oj_ret (r := some (.int (0))) ⟨rfl, rfl, rfl, (0), rfl, y2⟩ dX9_takeBack_22 (Nat.zero_le _) (Nat.zero_le _)
  · have y3 := y.2 c1
    refine oj_iload_n 1 dX9_takeBack_4 rfl rfl ?_
    refine oj_aload_n 0 dX9_takeBack_5 rfl rfl ?_
    refine oj_geti fl_RX9_11 k_98 rfl dX9_takeBack_6 ?_
    refine oj_icmp_ge 21 dX9_takeBack_9 rfl (fun c4 => ?_) (fun c4 => ?_)
    · have y5 := y3.1 c4
      refine oj_iconst dX9_takeBack_21 ci_0 ?_
      exact oj_ret (r := some (.int (0))) ⟨rfl, rfl, rfl, (0), rfl, y5⟩ dX9_takeBack_22 (Nat.zero_le _) (Nat.zero_le _)
    · have y6 := y3.2 c4
      refine oj_aload_n 0 dX9_takeBack_12 rfl rfl ?_
      refine oj_getr (q := 103) fl_RX9_40 k_98 rfl k_103 dX9_takeBack_13 ?_
      refine oj_iload_n 1 dX9_takeBack_16 rfl rfl ?_
      obtain ⟨c7, y8⟩ := y6
      refine oj_iald k_103 c7 rfl dX9_takeBack_17 ?_
      refine oj_if_lt 23 dX9_takeBack_18 rfl (fun c9 => ?_) (fun c9 => ?_)
      · have y10 := y8.1 c9
        refine oj_aload_n 0 dX9_takeBack_23 rfl rfl ?_
        refine oj_getr (q := 103) fl_RX9_40 k_98 rfl k_103 dX9_takeBack_24 ?_
        refine oj_iload_n 1 dX9_takeBack_27 rfl rfl ?_
        refine oj_aload_n 0 dX9_takeBack_28 rfl rfl ?_
        refine oj_geti fl_RX9_17 k_98 rfl dX9_takeBack_29 ?_
        refine oj_iast k_103 c7 rfl dX9_takeBack_32 ?_
        refine oj_toph (fun h12 eh12 => ?_)
        have y13 := Lt_at y10 h12 eh12
        refine oj_iconst dX9_takeBack_33 ci_1 ?_
        exact oj_ret (r := some (.int (1))) ⟨rfl, rfl, rfl, (1), rfl, y13⟩ dX9_takeBack_34 (Nat.zero_le _) (Nat.zero_le _)
      · have y11 := y8.2 c9
        refine oj_iconst dX9_takeBack_21 ci_0 ?_
        exact oj_ret (r := some (.int (0))) ⟨rfl, rfl, rfl, (0), rfl, y11⟩ dX9_takeBack_22 (Nat.zero_le _) (Nat.zero_le _)
-- X11_untell
set_option maxRecDepth 100000 in
set_option maxHeartbeats 4000000 in
theorem BX11_untell  {p1 : Int32}  {h : ob_H} {Q : Int32 → ob_H → Prop} (y : MX11_untell  p1 h Q) : ob_T yX11_untell cX11_untell 2 (some .boolean) (ob_rm 2) KS NN h [.ref 0, .int p1] (ob_g (some .boolean) (ob_qi Q)) := by
  unfold MX11_untell at y
  refine ob_T_gf (by decide +kernel) (Nat.le_of_ble_eq_true rfl) ?_
  show ob_J RX11 cX11_untell 2 (ob_rm 2) false none 0 0 KS NN h 0 [(0, .ref 0), (1, .int p1)] [] (ob_g (some .boolean) (ob_qi Q))
  refine oj_aload_n 0 dX11_untell_0 rfl rfl ?_
  refine oj_getr (q := 98) fl_RX11_87 k_0 rfl k_98 dX11_untell_1 ?_
  refine oj_iload_n 1 dX11_untell_4 rfl rfl ?_
  refine oc_Vi [.int p1] mi_RX11_306 ow_1116 ow_1117 rfl k_98 (BX9_takeBack  y) ⟨by decide, by decide⟩ ⟨Nat.le_refl _, Nat.le_refl _⟩ rfl (Nat.le_of_ble_eq_true rfl) dX11_untell_5 (fun r1 f3 h2 y4 => ?_)
  exact oj_ret (r := some (.int r1)) ⟨f3, rfl, rfl, r1, rfl, y4⟩ dX11_untell_8 (Nat.zero_le _) (Nat.zero_le _)
-- X9_passTime
set_option maxRecDepth 100000 in
set_option maxHeartbeats 4000000 in
theorem BX9_passTime  {p1 : Int32}  {h : ob_H} {Q : Int32 → ob_H → Prop} (y : MX9_passTime  p1 h Q) : ob_T yX9_passTime cX9_passTime 2 (some .int) (ob_rm 1) KS NN h [.ref 98, .int p1] (ob_g (some .int) (ob_qi Q)) := by
  unfold MX9_passTime at y
  refine ob_T_gf (by decide +kernel) (Nat.le_of_ble_eq_true rfl) ?_
  show ob_J RX9 cX9_passTime 2 (ob_rm 1) false none 0 0 KS NN h 0 [(0, .ref 98), (1, .int p1)] [] (ob_g (some .int) (ob_qi Q))
  refine oj_iload_n 1 dX9_passTime_0 rfl rfl ?_
  refine oj_if_lt 22 dX9_passTime_1 rfl (fun c1 => ?_) (fun c1 => ?_)
  · have y2 := y.1 c1
    refine oj_iconst dX9_passTime_22 ci_m1 ?_
    exact oj_ret (r := some (.int (-1))) ⟨trivial, rfl, rfl, (-1), rfl, y2⟩ dX9_passTime_23 (Nat.zero_le _) (Nat.zero_le _)
  · have y3 := y.2 c1
    refine oj_iload_n 1 dX9_passTime_4 rfl rfl ?_
    refine oj_sipush dX9_passTime_5 cs_1000 ?_
    refine oj_icmp_gt 22 dX9_passTime_8 rfl (fun c4 => ?_) (fun c4 => ?_)
    · have y5 := y3.1 c4
      refine oj_iconst dX9_passTime_22 ci_m1 ?_
      exact oj_ret (r := some (.int (-1))) ⟨trivial, rfl, rfl, (-1), rfl, y5⟩ dX9_passTime_23 (Nat.zero_le _) (Nat.zero_le _)
    · have y6 := y3.2 c4
      refine oj_aload_n 0 dX9_passTime_11 rfl rfl ?_
      refine oj_geti fl_RX9_17 k_98 rfl dX9_passTime_12 ?_
      refine oj_iload_n 1 dX9_passTime_15 rfl rfl ?_
      refine oj_iadd dX9_passTime_16 ?_
      refine oj_ldc ow_1127 dX9_passTime_17 ?_
      refine oj_icmp_le 24 dX9_passTime_19 rfl (fun c7 => ?_) (fun c7 => ?_)
      · have y8 := y6.1 c7
        refine oj_aload_n 0 dX9_passTime_24 rfl rfl ?_
        refine oj_dup dX9_passTime_25 rfl ?_
        refine oj_geti fl_RX9_17 k_98 rfl dX9_passTime_26 ?_
        refine oj_iload_n 1 dX9_passTime_29 rfl rfl ?_
        refine oj_iadd dX9_passTime_30 ?_
        refine oj_puti fl_RX9_17 (Or.inl rfl) k_98 rfl rfl rfl dX9_passTime_31 ?_
        refine oj_toph (fun h10 eh10 => ?_)
        have y11 := Lt_at y8 h10 eh10
        refine oj_aload_n 0 dX9_passTime_34 rfl rfl ?_
        refine oj_geti fl_RX9_17 k_98 rfl dX9_passTime_35 ?_
        exact oj_ret (r := some (.int (h10.1 98 1))) ⟨trivial, rfl, rfl, (h10.1 98 1), rfl, y11⟩ dX9_passTime_38 (Nat.zero_le _) (Nat.zero_le _)
      · have y9 := y6.2 c7
        refine oj_iconst dX9_passTime_22 ci_m1 ?_
        exact oj_ret (r := some (.int (-1))) ⟨trivial, rfl, rfl, (-1), rfl, y9⟩ dX9_passTime_23 (Nat.zero_le _) (Nat.zero_le _)
-- X11_later
set_option maxRecDepth 100000 in
set_option maxHeartbeats 4000000 in
theorem BX11_later  {p1 : Int32}  {h : ob_H} {Q : Int32 → ob_H → Prop} (y : MX11_later  p1 h Q) : ob_T yX11_later cX11_later 2 (some .int) (ob_rm 2) KS NN h [.ref 0, .int p1] (ob_g (some .int) (ob_qi Q)) := by
  unfold MX11_later at y
  refine ob_T_gf (by decide +kernel) (Nat.le_of_ble_eq_true rfl) ?_
  show ob_J RX11 cX11_later 2 (ob_rm 2) false none 0 0 KS NN h 0 [(0, .ref 0), (1, .int p1)] [] (ob_g (some .int) (ob_qi Q))
  refine oj_aload_n 0 dX11_later_0 rfl rfl ?_
  refine oj_getr (q := 98) fl_RX11_87 k_0 rfl k_98 dX11_later_1 ?_
  refine oj_iload_n 1 dX11_later_4 rfl rfl ?_
  refine oc_Vi [.int p1] mi_RX11_308 ow_1124 ow_1125 rfl k_98 (BX9_passTime  y) ⟨by decide, by decide⟩ ⟨Nat.le_refl _, Nat.le_refl _⟩ rfl (Nat.le_of_ble_eq_true rfl) dX11_later_5 (fun r1 f3 h2 y4 => ?_)
  exact oj_ret (r := some (.int r1)) ⟨trivial, rfl, rfl, r1, rfl, y4⟩ dX11_later_8 (Nat.zero_le _) (Nat.zero_le _)
-- X9_findHeard
set_option maxRecDepth 100000 in
set_option maxHeartbeats 4000000 in
theorem BKX9_findHeard_102 {x1 : Int32} {x2 : Int32} {x3 : Int32} {x4 : Int32} {s0 : Int32} {s1 : Int32} {h : ob_H} {Q : ob_H → Prop} {k20 : Int32 → ob_H → Prop} {k57 : Int32 → ob_H → Prop} (hk20 : ∀ (x3' : Int32) (h' : ob_H), k20 x3' h' → ob_J RX9 cX9_findHeard 5 (ob_rm 5) false none 0 0 KS NN h' 20 [(0, .ref 98), (1, .int x1), (2, .int x2), (3, .int x3')] [] (ob_g none (ob_qv Q))) (hk57 : ∀ (x4' : Int32) (h' : ob_H), k57 x4' h' → ob_J RX9 cX9_findHeard 5 (ob_rm 5) false none 0 0 KS NN h' 57 [(0, .ref 98), (1, .int x1), (2, .int x2), (3, .int x3), (4, .int x4')] [] (ob_g none (ob_qv Q)))
    (y : KX9_findHeard_102 x1 x2 x3 x4 s0 s1 h Q k20 k57) : ob_J RX9 cX9_findHeard 5 (ob_rm 5) false none 0 0 KS NN h 102 [(0, .ref 98), (1, .int x1), (2, .int x2), (3, .int x3), (4, .int x4)] [.int s0, .int s1, .ref 104] (ob_g none (ob_qv Q)) := by
  unfold KX9_findHeard_102 at y
  obtain ⟨c37, y38⟩ := y
  refine oj_iast k_104 c37 rfl dX9_findHeard_102 ?_
  refine oj_toph (fun h39 eh39 => ?_)
  have y40 := Lt_at y38 h39 eh39
  obtain ⟨v41, ev41⟩ : ∃ z : Int32, z = x4 + (1) := ⟨_, rfl⟩
  have y42 := Lt_at y40 v41 ev41
  refine oj_iinc (v := v41) (lv' := [(4, .int v41), (0, .ref 98), (1, .int x1), (2, .int x2), (3, .int x3)]) 4 dX9_findHeard_103 rfl (iinc_e ci_1 ev41) (by decide) rfl ?_
  refine oj_goto 57 dX9_findHeard_106 rfl ?_
  refine oj_lv [1, 2, 3, 4, 0] rfl ?_
  exact hk57 _ _ y42
set_option maxRecDepth 100000 in
set_option maxHeartbeats 4000000 in
theorem BLX9_findHeard_57 {x1 : Int32} {x2 : Int32} {x3 : Int32} {Q : ob_H → Prop} {k20 : Int32 → ob_H → Prop} (hk20 : ∀ (x3' : Int32) (h' : ob_H), k20 x3' h' → ob_J RX9 cX9_findHeard 5 (ob_rm 5) false none 0 0 KS NN h' 20 [(0, .ref 98), (1, .int x1), (2, .int x2), (3, .int x3')] [] (ob_g none (ob_qv Q))) :
    ∀ (n : Nat) (x4 : Int32) (h : ob_H), it2 (FX9_findHeard_57 x1 x2 x3 Q k20) n x4 h → ob_J RX9 cX9_findHeard 5 (ob_rm 5) false none 0 0 KS NN h 57 [(0, .ref 98), (1, .int x1), (2, .int x2), (3, .int x3), (4, .int x4)] [] (ob_g none (ob_qv Q)) := by
  intro n
  induction n with
  | zero => intro x4 h y; exact False.elim y
  | succ n hk57 =>
    intro x4 h y
    have y : FX9_findHeard_57 x1 x2 x3 Q k20 (it2 (FX9_findHeard_57 x1 x2 x3 Q k20) n) x4 h := y
    unfold FX9_findHeard_57 at y
    refine oj_iload 4 dX9_findHeard_57 rfl ?_
    refine oj_bipush dX9_findHeard_59 cb_7 ?_
    refine oj_icmp_ge 109 dX9_findHeard_61 rfl (fun c29 => ?_) (fun c29 => ?_)
    · have y30 := y.1 c29
      obtain ⟨v32, ev32⟩ : ∃ z : Int32, z = x3 + (1) := ⟨_, rfl⟩
      have y33 := Lt_at y30 v32 ev32
      refine oj_iinc (v := v32) (lv' := [(3, .int v32), (0, .ref 98), (1, .int x1), (2, .int x2), (4, .int x4)]) 3 dX9_findHeard_109 rfl (iinc_e ci_1 ev32) (by decide) rfl ?_
      refine oj_goto 20 dX9_findHeard_112 rfl ?_
      refine oj_lv [1, 2, 3, 0] rfl ?_
      exact hk20 _ _ y33
    · have y31 := y.2 c29
      refine oj_aload_n 0 dX9_findHeard_64 rfl rfl ?_
      refine oj_getr (q := 104) fl_RX9_43 k_98 rfl k_104 dX9_findHeard_65 ?_
      refine oj_iload_n 3 dX9_findHeard_68 rfl rfl ?_
      refine oj_bipush dX9_findHeard_69 cb_7 ?_
      refine oj_imul dX9_findHeard_71 ?_
      refine oj_iload 4 dX9_findHeard_72 rfl ?_
      refine oj_iadd dX9_findHeard_74 ?_
      refine oj_iload 4 dX9_findHeard_75 rfl ?_
      refine oj_aload_n 0 dX9_findHeard_77 rfl rfl ?_
      refine oj_getr (q := 39) fl_RX9_60 k_98 rfl k_39 dX9_findHeard_78 ?_
      refine oj_geti fl_RX9_92 k_39 rfl dX9_findHeard_81 ?_
      refine oj_icmp_ge 100 dX9_findHeard_84 rfl (fun c34 => ?_) (fun c34 => ?_)
      · have y35 := y31.1 c34
        refine oj_bipush dX9_findHeard_100 cb_7 ?_
        refine oj_lv [0, 1, 2, 3, 4] rfl ?_
        exact BKX9_findHeard_102 hk20 hk57 y35
      · have y36 := y31.2 c34
        refine oj_aload_n 0 dX9_findHeard_87 rfl rfl ?_
        refine oj_getr (q := 39) fl_RX9_60 k_98 rfl k_39 dX9_findHeard_88 ?_
        refine oj_getr (q := 40) fl_RX9_93 k_39 rfl k_40 dX9_findHeard_91 ?_
        refine oj_iload 4 dX9_findHeard_94 rfl ?_
        obtain ⟨c43, y44⟩ := y36
        refine oj_iald k_40 c43 rfl dX9_findHeard_96 ?_
        refine oj_goto 102 dX9_findHeard_97 rfl ?_
        refine oj_lv [0, 1, 2, 3, 4] rfl ?_
        exact BKX9_findHeard_102 hk20 hk57 y44
set_option maxRecDepth 100000 in
set_option maxHeartbeats 4000000 in
theorem BLX9_findHeard_20 {x1 : Int32} {x2 : Int32} {Q : ob_H → Prop} :
    ∀ (n : Nat) (x3 : Int32) (h : ob_H), it2 (FX9_findHeard_20 x1 x2 Q) n x3 h → ob_J RX9 cX9_findHeard 5 (ob_rm 5) false none 0 0 KS NN h 20 [(0, .ref 98), (1, .int x1), (2, .int x2), (3, .int x3)] [] (ob_g none (ob_qv Q)) := by
  intro n
  induction n with
  | zero => intro x3 h y; exact False.elim y
  | succ n hk20 =>
    intro x3 h y
    have y : FX9_findHeard_20 x1 x2 Q (it2 (FX9_findHeard_20 x1 x2 Q) n) x3 h := y
    unfold FX9_findHeard_20 at y
    refine oj_iload_n 3 dX9_findHeard_20 rfl rfl ?_
    refine oj_bipush dX9_findHeard_21 cb_100 ?_
    refine oj_icmp_ge 115 dX9_findHeard_23 rfl (fun c8 => ?_) (fun c8 => ?_)
    · have y9 := y.1 c8
      refine oj_aload_n 0 dX9_findHeard_115 rfl rfl ?_
      refine oj_getr (q := 20) fl_RX9_56 k_98 rfl k_20 dX9_findHeard_116 ?_
      refine oj_getr (q := 21) fl_RX9_74 k_20 rfl k_21 dX9_findHeard_119 ?_
      refine oj_iload_n 1 dX9_findHeard_122 rfl rfl ?_
      refine oj_iload_n 2 dX9_findHeard_123 rfl rfl ?_
      obtain ⟨c11, y12⟩ := y9
      refine oj_iast k_21 c11 rfl dX9_findHeard_124 ?_
      refine oj_toph (fun h13 eh13 => ?_)
      have y14 := Lt_at y12 h13 eh13
      refine oj_aload_n 0 dX9_findHeard_125 rfl rfl ?_
      refine oj_iconst dX9_findHeard_126 ci_1 ?_
      refine oj_puti fl_RX9_46 (Or.inl rfl) k_98 rfl rfl rfl dX9_findHeard_127 ?_
      refine oj_toph (fun h15 eh15 => ?_)
      have y16 := Lt_at y14 h15 eh15
      exact oj_ret (r := none) ⟨trivial, rfl, rfl, rfl, y16⟩ dX9_findHeard_130 (Nat.zero_le _) (Nat.zero_le _)
    · have y10 := y.2 c8
      refine oj_aload_n 0 dX9_findHeard_26 rfl rfl ?_
      refine oj_getr (q := 20) fl_RX9_56 k_98 rfl k_20 dX9_findHeard_27 ?_
      refine oj_getr (q := 21) fl_RX9_74 k_20 rfl k_21 dX9_findHeard_30 ?_
      refine oj_iload_n 1 dX9_findHeard_33 rfl rfl ?_
      refine oj_iload_n 3 dX9_findHeard_34 rfl rfl ?_
      obtain ⟨c17, y18⟩ := y10
      refine oj_iast k_21 c17 rfl dX9_findHeard_35 ?_
      refine oj_toph (fun h19 eh19 => ?_)
      have y20 := Lt_at y18 h19 eh19
      refine oj_aload_n 0 dX9_findHeard_36 rfl rfl ?_
      refine oj_getr (q := 39) fl_RX9_60 k_98 rfl k_39 dX9_findHeard_37 ?_
      refine oj_getr (q := 42) fl_RX9_77 k_39 rfl k_42 dX9_findHeard_40 ?_
      refine oc_Vv [] mi_RX9_83 ow_543 ow_544 rfl k_42 (BX6_begin AA6_42 y20) ⟨by decide, by decide⟩ ⟨Nat.le_refl _, Nat.le_refl _⟩ rfl (Nat.le_of_ble_eq_true rfl) dX9_findHeard_43 (fun h22 y24 => ?_)
      refine oj_aload_n 0 dX9_findHeard_46 rfl rfl ?_
      refine oj_getr (q := 39) fl_RX9_60 k_98 rfl k_39 dX9_findHeard_47 ?_
      refine oc_Vi [] mi_RX9_88 ow_889 ow_890 rfl k_39 (BX3_follow  y24) ⟨by decide, by decide⟩ ⟨Nat.le_refl _, Nat.le_refl _⟩ rfl (Nat.le_of_ble_eq_true rfl) dX9_findHeard_50 (fun r25 f27 h26 y28 => ?_)
      refine oj_pop dX9_findHeard_53 rfl ?_
      refine oj_iconst dX9_findHeard_54 ci_0 ?_
      refine oj_istore (lv' := [(4, .int (0)), (0, .ref 98), (1, .int x1), (2, .int x2), (3, .int x3)]) dX9_findHeard_55 (by decide) rfl ?_
      refine oj_lv [1, 2, 3, 4, 0] rfl ?_
      obtain ⟨n, y45⟩ := y28
      exact BLX9_findHeard_57 hk20 n _ _ y45
set_option maxRecDepth 100000 in
set_option maxHeartbeats 4000000 in
theorem BX9_findHeard  {p1 : Int32}  {h : ob_H} {Q : ob_H → Prop} (y : MX9_findHeard  p1 h Q) : ob_T yX9_findHeard cX9_findHeard 5 none (ob_rm 5) KS NN h [.ref 98, .int p1] (ob_g none (ob_qv Q)) := by
  unfold MX9_findHeard at y
  refine ob_T_gf (by decide +kernel) (Nat.le_of_ble_eq_true rfl) ?_
  show ob_J RX9 cX9_findHeard 5 (ob_rm 5) false none 0 0 KS NN h 0 [(0, .ref 98), (1, .int p1)] [] (ob_g none (ob_qv Q))
  refine oj_aload_n 0 dX9_findHeard_0 rfl rfl ?_
  refine oj_geti fl_RX9_46 k_98 rfl dX9_findHeard_1 ?_
  refine oj_if_eq 8 dX9_findHeard_4 rfl (fun c1 => ?_) (fun c1 => ?_)
  · have y2 := y.1 c1
    refine oj_aload_n 0 dX9_findHeard_8 rfl rfl ?_
    refine oj_getr (q := 20) fl_RX9_56 k_98 rfl k_20 dX9_findHeard_9 ?_
    refine oj_getr (q := 21) fl_RX9_74 k_20 rfl k_21 dX9_findHeard_12 ?_
    refine oj_iload_n 1 dX9_findHeard_15 rfl rfl ?_
    obtain ⟨c4, y5⟩ := y2
    refine oj_iald k_21 c4 rfl dX9_findHeard_16 ?_
    refine oj_topi (fun v6 ev6 => ?_)
    have y7 := Lt_at y5 v6 ev6
    refine oj_istore_n (lv' := [(2, .int v6), (0, .ref 98), (1, .int p1)]) dX9_findHeard_17 rfl (by decide) rfl ?_
    refine oj_iconst dX9_findHeard_18 ci_0 ?_
    refine oj_istore_n (lv' := [(3, .int (0)), (2, .int v6), (0, .ref 98), (1, .int p1)]) dX9_findHeard_19 rfl (by decide) rfl ?_
    refine oj_lv [2, 3, 1, 0] rfl ?_
    obtain ⟨n, y46⟩ := y7
    exact BLX9_findHeard_20  n _ _ y46
  · have y3 := y.2 c1
    exact oj_ret (r := none) ⟨trivial, rfl, rfl, rfl, y3⟩ dX9_findHeard_7 (Nat.zero_le _) (Nat.zero_le _)
-- X9_isSo
set_option maxRecDepth 100000 in
set_option maxHeartbeats 4000000 in
theorem BKX9_isSo_76 {x1 : Int32} {x2 : Int32} {x3 : Int32} {x4 : Int32} {s0 : Int32} {h : ob_H} {Q : Int32 → Prop} {k2 : Int32 → Prop} (hk2 : ∀ (x3' : Int32), k2 x3' → ob_J RX9 cX9_isSo 6 (ob_rm 1) false none 0 0 KS NN h 2 [(0, .ref 98), (1, .int x1), (2, .int x2), (3, .int x3')] [] (ob_g (some .boolean) (ob_pi h Q)))
    (y : KX9_isSo_76 x1 x2 x3 x4 s0 h Q k2) : ob_J RX9 cX9_isSo 6 (ob_rm 1) false none 0 0 KS NN h 76 [(0, .ref 98), (1, .int x1), (2, .int x2), (3, .int x3), (4, .int x4)] [.int s0] (ob_g (some .boolean) (ob_pi h Q)) := by
  unfold KX9_isSo_76 at y
  refine oj_istore (lv' := [(5, .int s0), (0, .ref 98), (1, .int x1), (2, .int x2), (3, .int x3), (4, .int x4)]) dX9_isSo_76 (by decide) rfl ?_
  refine oj_iload 5 dX9_isSo_78 rfl ?_
  refine oj_if_eq 96 dX9_isSo_80 rfl (fun c16 => ?_) (fun c16 => ?_)
  · have y17 := y.1 c16
    obtain ⟨v19, ev19⟩ : ∃ z : Int32, z = x3 + (1) := ⟨_, rfl⟩
    have y20 := Lt_at y17 v19 ev19
    refine oj_iinc (v := v19) (lv' := [(3, .int v19), (5, .int s0), (0, .ref 98), (1, .int x1), (2, .int x2), (4, .int x4)]) 4 dX9_isSo_96 rfl (iinc_e ci_1 ev19) (by decide) rfl ?_
    refine oj_goto 2 dX9_isSo_99 rfl ?_
    refine oj_lv [2, 3, 4, 0] rfl ?_
    exact hk2 _ y20
  · have y18 := y.2 c16
    refine oj_iload 0 dX9_isSo_83 rfl ?_
    refine oj_aload_n 1 dX9_isSo_85 rfl rfl ?_
    refine oj_getr (q := 101) fl_RX9_33 k_98 rfl k_101 dX9_isSo_86 ?_
    refine oj_iload_n 4 dX9_isSo_89 rfl rfl ?_
    obtain ⟨c21, y22⟩ := y18
    refine oj_zald k_101 c21 rfl dX9_isSo_90 ?_
    refine oj_icmp_eq 96 dX9_isSo_91 rfl (fun c23 => ?_) (fun c23 => ?_)
    · have y24 := y22.1 c23
      obtain ⟨v26, ev26⟩ : ∃ z : Int32, z = x3 + (1) := ⟨_, rfl⟩
      have y27 := Lt_at y24 v26 ev26
      refine oj_iinc (v := v26) (lv' := [(3, .int v26), (5, .int s0), (0, .ref 98), (1, .int x1), (2, .int x2), (4, .int x4)]) 4 dX9_isSo_96 rfl (iinc_e ci_1 ev26) (by decide) rfl ?_
      refine oj_goto 2 dX9_isSo_99 rfl ?_
      refine oj_lv [2, 3, 4, 0] rfl ?_
      exact hk2 _ y27
    · have y25 := y22.2 c23
      refine oj_iconst dX9_isSo_94 ci_0 ?_
      exact oj_ret (r := some (.int (0))) ⟨rfl, rfl, rfl, rfl, (0), rfl, y25⟩ dX9_isSo_95 (Nat.zero_le _) (Nat.zero_le _)
set_option maxRecDepth 100000 in
set_option maxHeartbeats 4000000 in
theorem BKX9_isSo_44 {x1 : Int32} {x2 : Int32} {x3 : Int32} {s0 : Int32} {h : ob_H} {Q : Int32 → Prop} {k2 : Int32 → Prop} (hk2 : ∀ (x3' : Int32), k2 x3' → ob_J RX9 cX9_isSo 6 (ob_rm 1) false none 0 0 KS NN h 2 [(0, .ref 98), (1, .int x1), (2, .int x2), (3, .int x3')] [] (ob_g (some .boolean) (ob_pi h Q)))
    (y : KX9_isSo_44 x1 x2 x3 s0 h Q k2) : ob_J RX9 cX9_isSo 6 (ob_rm 1) false none 0 0 KS NN h 44 [(0, .ref 98), (1, .int x1), (2, .int x2), (3, .int x3)] [.int s0] (ob_g (some .boolean) (ob_pi h Q)) := by
  unfold KX9_isSo_44 at y
  refine oj_istore (lv' := [(4, .int s0), (0, .ref 98), (1, .int x1), (2, .int x2), (3, .int x3)]) dX9_isSo_44 (by decide) rfl ?_
  refine oj_aload_n 1 dX9_isSo_46 rfl rfl ?_
  refine oj_getr (q := 104) fl_RX9_43 k_98 rfl k_104 dX9_isSo_47 ?_
  refine oj_iload_n 2 dX9_isSo_50 rfl rfl ?_
  refine oj_bipush dX9_isSo_51 cb_7 ?_
  refine oj_imul dX9_isSo_53 ?_
  refine oj_aload_n 1 dX9_isSo_54 rfl rfl ?_
  refine oj_getr (q := 99) fl_RX9_26 k_98 rfl k_99 dX9_isSo_55 ?_
  refine oj_iload_n 4 dX9_isSo_58 rfl rfl ?_
  obtain ⟨c9, y10⟩ := y
  refine oj_iald k_99 c9 rfl dX9_isSo_59 ?_
  refine oj_iadd dX9_isSo_60 ?_
  obtain ⟨c11, y12⟩ := y10
  refine oj_iald k_104 c11 rfl dX9_isSo_61 ?_
  refine oj_aload_n 1 dX9_isSo_62 rfl rfl ?_
  refine oj_getr (q := 100) fl_RX9_30 k_98 rfl k_100 dX9_isSo_63 ?_
  refine oj_iload_n 4 dX9_isSo_66 rfl rfl ?_
  refine oj_iald k_100 c9 rfl dX9_isSo_67 ?_
  refine oj_icmp_ne 75 dX9_isSo_68 rfl (fun c13 => ?_) (fun c13 => ?_)
  · have y14 := y12.2 c13
    refine oj_iconst dX9_isSo_75 ci_0 ?_
    refine oj_lv [1, 2, 3, 4, 0] rfl ?_
    exact BKX9_isSo_76 hk2 y14
  · have y15 := y12.1 c13
    refine oj_iconst dX9_isSo_71 ci_1 ?_
    refine oj_goto 76 dX9_isSo_72 rfl ?_
    refine oj_lv [1, 2, 3, 4, 0] rfl ?_
    exact BKX9_isSo_76 hk2 y15
set_option maxRecDepth 100000 in
set_option maxHeartbeats 4000000 in
theorem BLX9_isSo_2 {x1 : Int32} {x2 : Int32} {h : ob_H} {Q : Int32 → Prop} :
    ∀ (n : Nat) (x3 : Int32), it1 (FX9_isSo_2 x1 x2 h Q) n x3 → ob_J RX9 cX9_isSo 6 (ob_rm 1) false none 0 0 KS NN h 2 [(0, .ref 98), (1, .int x1), (2, .int x2), (3, .int x3)] [] (ob_g (some .boolean) (ob_pi h Q)) := by
  intro n
  induction n with
  | zero => intro x3 y; exact False.elim y
  | succ n hk2 =>
    intro x3 y
    have y : FX9_isSo_2 x1 x2 h Q (it1 (FX9_isSo_2 x1 x2 h Q) n) x3 := y
    unfold FX9_isSo_2 at y
    refine oj_iload_n 3 dX9_isSo_2 rfl rfl ?_
    refine oj_aload_n 0 dX9_isSo_3 rfl rfl ?_
    refine oj_geti fl_RX9_11 k_98 rfl dX9_isSo_4 ?_
    refine oj_icmp_ge 102 dX9_isSo_7 rfl (fun c1 => ?_) (fun c1 => ?_)
    · have y2 := y.1 c1
      refine oj_iconst dX9_isSo_102 ci_1 ?_
      exact oj_ret (r := some (.int (1))) ⟨rfl, rfl, rfl, rfl, (1), rfl, y2⟩ dX9_isSo_103 (Nat.zero_le _) (Nat.zero_le _)
    · have y3 := y.2 c1
      refine oj_aload_n 0 dX9_isSo_10 rfl rfl ?_
      refine oj_getr (q := 102) fl_RX9_37 k_98 rfl k_102 dX9_isSo_11 ?_
      refine oj_iload_n 3 dX9_isSo_14 rfl rfl ?_
      obtain ⟨c4, y5⟩ := y3
      refine oj_iald k_102 c4 rfl dX9_isSo_15 ?_
      refine oj_iload_n 2 dX9_isSo_16 rfl rfl ?_
      refine oj_icmp_gt 43 dX9_isSo_17 rfl (fun c6 => ?_) (fun c6 => ?_)
      · have y7 := y5.1 c6
        refine oj_iconst dX9_isSo_43 ci_0 ?_
        refine oj_lv [0, 1, 2, 3] rfl ?_
        exact BKX9_isSo_44 hk2 y7
      · have y8 := y5.2 c6
        refine oj_aload_n 0 dX9_isSo_20 rfl rfl ?_
        refine oj_getr (q := 103) fl_RX9_40 k_98 rfl k_103 dX9_isSo_21 ?_
        refine oj_iload_n 3 dX9_isSo_24 rfl rfl ?_
        refine oj_iald k_103 c4 rfl dX9_isSo_25 ?_
        refine oj_if_lt 39 dX9_isSo_26 rfl (fun c28 => ?_) (fun c28 => ?_)
        · have y29 := y8.1 c28
          refine oj_iconst dX9_isSo_39 ci_1 ?_
          refine oj_goto 44 dX9_isSo_40 rfl ?_
          refine oj_lv [0, 1, 2, 3] rfl ?_
          exact BKX9_isSo_44 hk2 y29
        · have y30 := y8.2 c28
          refine oj_aload_n 0 dX9_isSo_29 rfl rfl ?_
          refine oj_getr (q := 103) fl_RX9_40 k_98 rfl k_103 dX9_isSo_30 ?_
          refine oj_iload_n 3 dX9_isSo_33 rfl rfl ?_
          refine oj_iald k_103 c4 rfl dX9_isSo_34 ?_
          refine oj_iload_n 2 dX9_isSo_35 rfl rfl ?_
          refine oj_icmp_le 43 dX9_isSo_36 rfl (fun c31 => ?_) (fun c31 => ?_)
          · have y32 := y30.1 c31
            refine oj_iconst dX9_isSo_43 ci_0 ?_
            refine oj_lv [0, 1, 2, 3] rfl ?_
            exact BKX9_isSo_44 hk2 y32
          · have y33 := y30.2 c31
            refine oj_iconst dX9_isSo_39 ci_1 ?_
            refine oj_goto 44 dX9_isSo_40 rfl ?_
            refine oj_lv [0, 1, 2, 3] rfl ?_
            exact BKX9_isSo_44 hk2 y33
set_option maxRecDepth 100000 in
set_option maxHeartbeats 4000000 in
theorem BX9_isSo  {p1 : Int32} {p2 : Int32}  {h : ob_H} {Q : Int32 → Prop} (y : MX9_isSo  p1 p2 h Q) : ob_T yX9_isSo cX9_isSo 6 (some .boolean) (ob_rm 1) KS NN h [.ref 98, .int p1, .int p2] (ob_g (some .boolean) (ob_pi h Q)) := by
  unfold MX9_isSo at y
  refine ob_T_gf (by decide +kernel) (Nat.le_of_ble_eq_true rfl) ?_
  show ob_J RX9 cX9_isSo 6 (ob_rm 1) false none 0 0 KS NN h 0 [(0, .ref 98), (1, .int p1), (2, .int p2)] [] (ob_g (some .boolean) (ob_pi h Q))
  refine oj_iconst dX9_isSo_0 ci_0 ?_
  refine oj_istore_n (lv' := [(3, .int (0)), (0, .ref 98), (1, .int p1), (2, .int p2)]) dX9_isSo_1 rfl (by decide) rfl ?_
  refine oj_lv [1, 2, 3, 0] rfl ?_
  obtain ⟨n, y34⟩ := y
  exact BLX9_isSo_2  n _ y34
-- X9_mark
set_option maxRecDepth 100000 in
set_option maxHeartbeats 4000000 in
theorem BLX9_mark_29 {x1 : Int32} {Q : Int32 → ob_H → Prop} :
    ∀ (n : Nat) (x2 : Int32) (x3 : Int32) (h : ob_H), it3 (FX9_mark_29 x1 Q) n x2 x3 h → ob_J RX9 cX9_mark 4 (ob_rm 6) false none 0 0 KS NN h 29 [(0, .ref 98), (1, .int x1), (2, .int x2), (3, .int x3)] [] (ob_g (some .int) (ob_qi Q)) := by
  intro n
  induction n with
  | zero => intro x2 x3 h y; exact False.elim y
  | succ n hk29 =>
    intro x2 x3 h y
    have y : FX9_mark_29 x1 Q (it3 (FX9_mark_29 x1 Q) n) x2 x3 h := y
    unfold FX9_mark_29 at y
    refine oj_iload_n 3 dX9_mark_29 rfl rfl ?_
    refine oj_bipush dX9_mark_30 cb_100 ?_
    refine oj_icmp_ge 70 dX9_mark_32 rfl (fun c8 => ?_) (fun c8 => ?_)
    · have y9 := y.1 c8
      refine oj_iload_n 2 dX9_mark_70 rfl rfl ?_
      exact oj_ret (r := some (.int x2)) ⟨trivial, rfl, rfl, x2, rfl, y9⟩ dX9_mark_71 (Nat.zero_le _) (Nat.zero_le _)
    · have y10 := y.2 c8
      refine oj_aload_n 0 dX9_mark_35 rfl rfl ?_
      refine oj_getr (q := 105) fl_RX9_50 k_98 rfl k_105 dX9_mark_36 ?_
      refine oj_iload_n 3 dX9_mark_39 rfl rfl ?_
      refine oj_aload_n 0 dX9_mark_40 rfl rfl ?_
      refine oj_iload_n 3 dX9_mark_41 rfl rfl ?_
      refine oj_iload_n 1 dX9_mark_42 rfl rfl ?_
      refine oc_Vpi [.int x3, .int x1] mi_RX9_70 ow_1144 op_35 rfl k_98 (BX9_isSo  y10) ⟨by decide, by decide⟩ ⟨Nat.le_refl _, Nat.le_refl _⟩ rfl (Nat.le_of_ble_eq_true rfl) dX9_mark_43 (fun r11 f13 y14 => ?_)
      obtain ⟨c15, y16⟩ := y14
      refine oj_zast k_105 c15 rfl dX9_mark_46 ?_
      refine oj_toph (fun h17 eh17 => ?_)
      have y18 := Lt_at y16 h17 eh17
      refine oj_iload_n 2 dX9_mark_47 rfl rfl ?_
      refine oj_aload_n 0 dX9_mark_48 rfl rfl ?_
      refine oj_getr (q := 105) fl_RX9_50 k_98 rfl k_105 dX9_mark_49 ?_
      refine oj_iload_n 3 dX9_mark_52 rfl rfl ?_
      refine oj_zald k_105 c15 rfl dX9_mark_53 ?_
      refine oj_if_eq 61 dX9_mark_54 rfl (fun c19 => ?_) (fun c19 => ?_)
      · have y20 := y18.1 c19
        refine oj_iconst dX9_mark_61 ci_0 ?_
        refine oj_iadd dX9_mark_62 ?_
        refine oj_topi (fun v22 ev22 => ?_)
        have y23 := Lt_at y20 v22 ev22
        refine oj_istore_n (lv' := [(2, .int v22), (0, .ref 98), (1, .int x1), (3, .int x3)]) dX9_mark_63 rfl (by decide) rfl ?_
        obtain ⟨v24, ev24⟩ : ∃ z : Int32, z = x3 + (1) := ⟨_, rfl⟩
        have y25 := Lt_at y23 v24 ev24
        refine oj_iinc (v := v24) (lv' := [(3, .int v24), (2, .int v22), (0, .ref 98), (1, .int x1)]) 3 dX9_mark_64 rfl (iinc_e ci_1 ev24) (by decide) rfl ?_
        refine oj_goto 29 dX9_mark_67 rfl ?_
        refine oj_lv [2, 3, 1, 0] rfl ?_
        exact hk29 _ _ _ y25
      · have y21 := y18.2 c19
        refine oj_iconst dX9_mark_57 ci_1 ?_
        refine oj_goto 62 dX9_mark_58 rfl ?_
        refine oj_iadd dX9_mark_62 ?_
        refine oj_topi (fun v26 ev26 => ?_)
        have y27 := Lt_at y21 v26 ev26
        refine oj_istore_n (lv' := [(2, .int v26), (0, .ref 98), (1, .int x1), (3, .int x3)]) dX9_mark_63 rfl (by decide) rfl ?_
        obtain ⟨v28, ev28⟩ : ∃ z : Int32, z = x3 + (1) := ⟨_, rfl⟩
        have y29 := Lt_at y27 v28 ev28
        refine oj_iinc (v := v28) (lv' := [(3, .int v28), (2, .int v26), (0, .ref 98), (1, .int x1)]) 3 dX9_mark_64 rfl (iinc_e ci_1 ev28) (by decide) rfl ?_
        refine oj_goto 29 dX9_mark_67 rfl ?_
        refine oj_lv [2, 3, 1, 0] rfl ?_
        exact hk29 _ _ _ y29
set_option maxRecDepth 100000 in
set_option maxHeartbeats 4000000 in
theorem BX9_mark  {p1 : Int32}  {h : ob_H} {Q : Int32 → ob_H → Prop} (y : MX9_mark  p1 h Q) : ob_T yX9_mark cX9_mark 4 (some .int) (ob_rm 6) KS NN h [.ref 98, .int p1] (ob_g (some .int) (ob_qi Q)) := by
  unfold MX9_mark at y
  refine ob_T_gf (by decide +kernel) (Nat.le_of_ble_eq_true rfl) ?_
  show ob_J RX9 cX9_mark 4 (ob_rm 6) false none 0 0 KS NN h 0 [(0, .ref 98), (1, .int p1)] [] (ob_g (some .int) (ob_qi Q))
  refine oj_aload_n 0 dX9_mark_0 rfl rfl ?_
  refine oj_getr (q := 20) fl_RX9_56 k_98 rfl k_20 dX9_mark_1 ?_
  refine oj_geti fl_RX9_65 k_20 rfl dX9_mark_4 ?_
  refine oj_if_ne 12 dX9_mark_7 rfl (fun c1 => ?_) (fun c1 => ?_)
  · have y2 := y.2 c1
    refine oj_aload_n 0 dX9_mark_12 rfl rfl ?_
    refine oj_aload_n 0 dX9_mark_13 rfl rfl ?_
    refine oj_getr (q := 20) fl_RX9_56 k_98 rfl k_20 dX9_mark_14 ?_
    refine oj_geti fl_RX9_65 k_20 rfl dX9_mark_17 ?_
    refine oj_iconst dX9_mark_20 ci_1 ?_
    refine oj_isub dX9_mark_21 ?_
    refine oc_Vv [.int ((h.1 20 0) - (1))] mi_RX9_66 ow_1138 op_34 rfl k_98 (BX9_findHeard  y2) ⟨by decide, by decide⟩ ⟨Nat.le_refl _, Nat.le_refl _⟩ rfl (Nat.le_of_ble_eq_true rfl) dX9_mark_22 (fun h5 y7 => ?_)
    refine oj_iconst dX9_mark_25 ci_0 ?_
    refine oj_istore_n (lv' := [(2, .int (0)), (0, .ref 98), (1, .int p1)]) dX9_mark_26 rfl (by decide) rfl ?_
    refine oj_iconst dX9_mark_27 ci_0 ?_
    refine oj_istore_n (lv' := [(3, .int (0)), (2, .int (0)), (0, .ref 98), (1, .int p1)]) dX9_mark_28 rfl (by decide) rfl ?_
    refine oj_lv [2, 3, 1, 0] rfl ?_
    obtain ⟨n, y30⟩ := y7
    exact BLX9_mark_29  n _ _ _ y30
  · have y3 := y.1 c1
    refine oj_iconst dX9_mark_10 ci_0 ?_
    exact oj_ret (r := some (.int (0))) ⟨trivial, rfl, rfl, (0), rfl, y3⟩ dX9_mark_11 (Nat.zero_le _) (Nat.zero_le _)
-- X11_fits
set_option maxRecDepth 100000 in
set_option maxHeartbeats 4000000 in
theorem BX11_fits  {p1 : Int32}  {h : ob_H} {Q : Int32 → ob_H → Prop} (y : MX11_fits  p1 h Q) : ob_T yX11_fits cX11_fits 2 (some .int) (ob_rm 7) KS NN h [.ref 0, .int p1] (ob_g (some .int) (ob_qi Q)) := by
  unfold MX11_fits at y
  refine ob_T_gf (by decide +kernel) (Nat.le_of_ble_eq_true rfl) ?_
  show ob_J RX11 cX11_fits 2 (ob_rm 7) false none 0 0 KS NN h 0 [(0, .ref 0), (1, .int p1)] [] (ob_g (some .int) (ob_qi Q))
  refine oj_aload_n 0 dX11_fits_0 rfl rfl ?_
  refine oj_getr (q := 98) fl_RX11_87 k_0 rfl k_98 dX11_fits_1 ?_
  refine oj_iload_n 1 dX11_fits_4 rfl rfl ?_
  refine oc_Vi [.int p1] mi_RX11_311 ow_1133 ow_1134 rfl k_98 (BX9_mark  y) ⟨by decide, by decide⟩ ⟨Nat.le_refl _, Nat.le_refl _⟩ rfl (Nat.le_of_ble_eq_true rfl) dX11_fits_5 (fun r1 f3 h2 y4 => ?_)
  exact oj_ret (r := some (.int r1)) ⟨trivial, rfl, rfl, r1, rfl, y4⟩ dX11_fits_8 (Nat.zero_le _) (Nat.zero_le _)
-- X9_leastFitting
set_option maxRecDepth 100000 in
set_option maxHeartbeats 4000000 in
theorem BLX9_leastFitting_2 {h : ob_H} {Q : Int32 → Prop} :
    ∀ (n : Nat) (x1 : Int32), it1 (FX9_leastFitting_2 h Q) n x1 → ob_J RX9 cX9_leastFitting 2 (ob_rm 1) false none 0 0 KS NN h 2 [(0, .ref 98), (1, .int x1)] [] (ob_g (some .int) (ob_pi h Q)) := by
  intro n
  induction n with
  | zero => intro x1 y; exact False.elim y
  | succ n hk2 =>
    intro x1 y
    have y : FX9_leastFitting_2 h Q (it1 (FX9_leastFitting_2 h Q) n) x1 := y
    unfold FX9_leastFitting_2 at y
    refine oj_iload_n 1 dX9_leastFitting_2 rfl rfl ?_
    refine oj_bipush dX9_leastFitting_3 cb_100 ?_
    refine oj_icmp_ge 25 dX9_leastFitting_5 rfl (fun c1 => ?_) (fun c1 => ?_)
    · have y2 := y.1 c1
      refine oj_iconst dX9_leastFitting_25 ci_m1 ?_
      exact oj_ret (r := some (.int (-1))) ⟨trivial, rfl, rfl, rfl, (-1), rfl, y2⟩ dX9_leastFitting_26 (Nat.zero_le _) (Nat.zero_le _)
    · have y3 := y.2 c1
      refine oj_aload_n 0 dX9_leastFitting_8 rfl rfl ?_
      refine oj_getr (q := 105) fl_RX9_50 k_98 rfl k_105 dX9_leastFitting_9 ?_
      refine oj_iload_n 1 dX9_leastFitting_12 rfl rfl ?_
      obtain ⟨c4, y5⟩ := y3
      refine oj_zald k_105 c4 rfl dX9_leastFitting_13 ?_
      refine oj_if_eq 19 dX9_leastFitting_14 rfl (fun c6 => ?_) (fun c6 => ?_)
      · have y7 := y5.1 c6
        obtain ⟨v9, ev9⟩ : ∃ z : Int32, z = x1 + (1) := ⟨_, rfl⟩
        have y10 := Lt_at y7 v9 ev9
        refine oj_iinc (v := v9) (lv' := [(1, .int v9), (0, .ref 98)]) 1 dX9_leastFitting_19 rfl (iinc_e ci_1 ev9) (by decide) rfl ?_
        refine oj_goto 2 dX9_leastFitting_22 rfl ?_
        refine oj_lv [1, 0] rfl ?_
        exact hk2 _ y10
      · have y8 := y5.2 c6
        refine oj_iload_n 1 dX9_leastFitting_17 rfl rfl ?_
        exact oj_ret (r := some (.int x1)) ⟨trivial, rfl, rfl, rfl, x1, rfl, y8⟩ dX9_leastFitting_18 (Nat.zero_le _) (Nat.zero_le _)
set_option maxRecDepth 100000 in
set_option maxHeartbeats 4000000 in
theorem BX9_leastFitting    {h : ob_H} {Q : Int32 → Prop} (y : MX9_leastFitting   h Q) : ob_T yX9_leastFitting cX9_leastFitting 2 (some .int) (ob_rm 1) KS NN h [.ref 98] (ob_g (some .int) (ob_pi h Q)) := by
  unfold MX9_leastFitting at y
  refine ob_T_gf (by decide +kernel) (Nat.le_of_ble_eq_true rfl) ?_
  show ob_J RX9 cX9_leastFitting 2 (ob_rm 1) false none 0 0 KS NN h 0 [(0, .ref 98)] [] (ob_g (some .int) (ob_pi h Q))
  refine oj_iconst dX9_leastFitting_0 ci_0 ?_
  refine oj_istore_n (lv' := [(1, .int (0)), (0, .ref 98)]) dX9_leastFitting_1 rfl (by decide) rfl ?_
  refine oj_lv [1, 0] rfl ?_
  obtain ⟨n, y11⟩ := y
  exact BLX9_leastFitting_2  n _ y11
-- X9_greatestFitting
set_option maxRecDepth 100000 in
set_option maxHeartbeats 4000000 in
theorem BLX9_greatestFitting_3 {h : ob_H} {Q : Int32 → Prop} :
    ∀ (n : Nat) (x1 : Int32), it1 (FX9_greatestFitting_3 h Q) n x1 → ob_J RX9 cX9_greatestFitting 2 (ob_rm 1) false none 0 0 KS NN h 3 [(0, .ref 98), (1, .int x1)] [] (ob_g (some .int) (ob_pi h Q)) := by
  intro n
  induction n with
  | zero => intro x1 y; exact False.elim y
  | succ n hk3 =>
    intro x1 y
    have y : FX9_greatestFitting_3 h Q (it1 (FX9_greatestFitting_3 h Q) n) x1 := y
    unfold FX9_greatestFitting_3 at y
    refine oj_iload_n 1 dX9_greatestFitting_3 rfl rfl ?_
    refine oj_if_lt 24 dX9_greatestFitting_4 rfl (fun c1 => ?_) (fun c1 => ?_)
    · have y2 := y.1 c1
      refine oj_iconst dX9_greatestFitting_24 ci_m1 ?_
      exact oj_ret (r := some (.int (-1))) ⟨trivial, rfl, rfl, rfl, (-1), rfl, y2⟩ dX9_greatestFitting_25 (Nat.zero_le _) (Nat.zero_le _)
    · have y3 := y.2 c1
      refine oj_aload_n 0 dX9_greatestFitting_7 rfl rfl ?_
      refine oj_getr (q := 105) fl_RX9_50 k_98 rfl k_105 dX9_greatestFitting_8 ?_
      refine oj_iload_n 1 dX9_greatestFitting_11 rfl rfl ?_
      obtain ⟨c4, y5⟩ := y3
      refine oj_zald k_105 c4 rfl dX9_greatestFitting_12 ?_
      refine oj_if_eq 18 dX9_greatestFitting_13 rfl (fun c6 => ?_) (fun c6 => ?_)
      · have y7 := y5.1 c6
        obtain ⟨v9, ev9⟩ : ∃ z : Int32, z = x1 + (-1) := ⟨_, rfl⟩
        have y10 := Lt_at y7 v9 ev9
        refine oj_iinc (v := v9) (lv' := [(1, .int v9), (0, .ref 98)]) 1 dX9_greatestFitting_18 rfl (iinc_e ci_m1 ev9) (by decide) rfl ?_
        refine oj_goto 3 dX9_greatestFitting_21 rfl ?_
        refine oj_lv [1, 0] rfl ?_
        exact hk3 _ y10
      · have y8 := y5.2 c6
        refine oj_iload_n 1 dX9_greatestFitting_16 rfl rfl ?_
        exact oj_ret (r := some (.int x1)) ⟨trivial, rfl, rfl, rfl, x1, rfl, y8⟩ dX9_greatestFitting_17 (Nat.zero_le _) (Nat.zero_le _)
set_option maxRecDepth 100000 in
set_option maxHeartbeats 4000000 in
theorem BX9_greatestFitting    {h : ob_H} {Q : Int32 → Prop} (y : MX9_greatestFitting   h Q) : ob_T yX9_greatestFitting cX9_greatestFitting 2 (some .int) (ob_rm 1) KS NN h [.ref 98] (ob_g (some .int) (ob_pi h Q)) := by
  unfold MX9_greatestFitting at y
  refine ob_T_gf (by decide +kernel) (Nat.le_of_ble_eq_true rfl) ?_
  show ob_J RX9 cX9_greatestFitting 2 (ob_rm 1) false none 0 0 KS NN h 0 [(0, .ref 98)] [] (ob_g (some .int) (ob_pi h Q))
  refine oj_bipush dX9_greatestFitting_0 cb_99 ?_
  refine oj_istore_n (lv' := [(1, .int (99)), (0, .ref 98)]) dX9_greatestFitting_2 rfl (by decide) rfl ?_
  refine oj_lv [1, 0] rfl ?_
  obtain ⟨n, y11⟩ := y
  exact BLX9_greatestFitting_3  n _ y11
-- X11_sure
set_option maxRecDepth 100000 in
set_option maxHeartbeats 4000000 in
theorem BX11_sure  {p1 : Int32} {p2 : Int32}  {h : ob_H} {Q : Int32 → ob_H → Prop} (y : MX11_sure  p1 p2 h Q) : ob_T yX11_sure cX11_sure 3 (some .int) (ob_rm 7) KS NN h [.ref 0, .int p1, .int p2] (ob_g (some .int) (ob_qi Q)) := by
  unfold MX11_sure at y
  refine ob_T_gf (by decide +kernel) (Nat.le_of_ble_eq_true rfl) ?_
  show ob_J RX11 cX11_sure 3 (ob_rm 7) false none 0 0 KS NN h 0 [(0, .ref 0), (1, .int p1), (2, .int p2)] [] (ob_g (some .int) (ob_qi Q))
  refine oj_iload_n 1 dX11_sure_0 rfl rfl ?_
  refine oj_if_lt 20 dX11_sure_1 rfl (fun c1 => ?_) (fun c1 => ?_)
  · have y2 := y.1 c1
    refine oj_iconst dX11_sure_20 ci_m1 ?_
    exact oj_ret (r := some (.int (-1))) ⟨trivial, rfl, rfl, (-1), rfl, y2⟩ dX11_sure_21 (Nat.zero_le _) (Nat.zero_le _)
  · have y3 := y.2 c1
    refine oj_iload_n 1 dX11_sure_4 rfl rfl ?_
    refine oj_iconst dX11_sure_5 ci_1 ?_
    refine oj_icmp_gt 20 dX11_sure_6 rfl (fun c4 => ?_) (fun c4 => ?_)
    · have y5 := y3.1 c4
      refine oj_iconst dX11_sure_20 ci_m1 ?_
      exact oj_ret (r := some (.int (-1))) ⟨trivial, rfl, rfl, (-1), rfl, y5⟩ dX11_sure_21 (Nat.zero_le _) (Nat.zero_le _)
    · have y6 := y3.2 c4
      refine oj_aload_n 0 dX11_sure_9 rfl rfl ?_
      refine oj_getr (q := 98) fl_RX11_87 k_0 rfl k_98 dX11_sure_10 ?_
      refine oj_iload_n 2 dX11_sure_13 rfl rfl ?_
      refine oc_Vi [.int p2] mi_RX11_311 ow_1133 ow_1134 rfl k_98 (BX9_mark  y6) ⟨by decide, by decide⟩ ⟨Nat.le_refl _, Nat.le_refl _⟩ rfl (Nat.le_of_ble_eq_true rfl) dX11_sure_14 (fun r7 f9 h8 y10 => ?_)
      refine oj_if_ne 22 dX11_sure_17 rfl (fun c11 => ?_) (fun c11 => ?_)
      · have y12 := y10.2 c11
        refine oj_iload_n 1 dX11_sure_22 rfl rfl ?_
        refine oj_if_ne 36 dX11_sure_23 rfl (fun c14 => ?_) (fun c14 => ?_)
        · have y15 := y12.2 c14
          refine oj_aload_n 0 dX11_sure_36 rfl rfl ?_
          refine oj_getr (q := 98) fl_RX11_87 k_0 rfl k_98 dX11_sure_37 ?_
          refine oc_Vpi [] mi_RX11_317 ow_1155 ow_1156 rfl k_98 (BX9_greatestFitting  y15) ⟨by decide, by decide⟩ ⟨Nat.le_refl _, Nat.le_refl _⟩ rfl (Nat.le_of_ble_eq_true rfl) dX11_sure_40 (fun r17 f19 y20 => ?_)
          exact oj_ret (r := some (.int r17)) ⟨trivial, rfl, rfl, r17, rfl, y20⟩ dX11_sure_43 (Nat.zero_le _) (Nat.zero_le _)
        · have y16 := y12.1 c14
          refine oj_aload_n 0 dX11_sure_26 rfl rfl ?_
          refine oj_getr (q := 98) fl_RX11_87 k_0 rfl k_98 dX11_sure_27 ?_
          refine oc_Vpi [] mi_RX11_314 ow_1151 ow_1152 rfl k_98 (BX9_leastFitting  y16) ⟨by decide, by decide⟩ ⟨Nat.le_refl _, Nat.le_refl _⟩ rfl (Nat.le_of_ble_eq_true rfl) dX11_sure_30 (fun r21 f23 y24 => ?_)
          refine oj_goto 43 dX11_sure_33 rfl ?_
          exact oj_ret (r := some (.int r21)) ⟨trivial, rfl, rfl, r21, rfl, y24⟩ dX11_sure_43 (Nat.zero_le _) (Nat.zero_le _)
      · have y13 := y10.1 c11
        refine oj_iconst dX11_sure_20 ci_m1 ?_
        exact oj_ret (r := some (.int (-1))) ⟨trivial, rfl, rfl, (-1), rfl, y13⟩ dX11_sure_21 (Nat.zero_le _) (Nat.zero_le _)
