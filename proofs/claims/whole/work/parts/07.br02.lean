-- X1_forgetActs
set_option maxRecDepth 100000 in
set_option maxHeartbeats 4000000 in
theorem BX1_forgetActs    {h : ob_H} {Q : ob_H → Prop} (y : MX1_forgetActs   h Q) : ob_T yX1_forgetActs cX1_forgetActs 1 none (ob_rm 1) KS NN h [.ref 95] (ob_g none (ob_qv Q)) := by
  unfold MX1_forgetActs at y
  refine ob_T_gf (by decide +kernel) (Nat.le_of_ble_eq_true rfl) ?_
  show ob_J RX1 cX1_forgetActs 1 (ob_rm 1) false none 0 0 KS NN h 0 [(0, .ref 95)] [] (ob_g none (ob_qv Q))
  refine oj_aload_n 0 dX1_forgetActs_0 rfl rfl ?_
  refine oj_iconst dX1_forgetActs_1 ci_0 ?_
  refine oj_puti fl_RX1_24 (Or.inl rfl) k_95 rfl rfl rfl dX1_forgetActs_2 ?_
  refine oj_toph (fun h1 eh1 => ?_)
  have y2 := Lt_at y h1 eh1
  refine oj_aload_n 0 dX1_forgetActs_5 rfl rfl ?_
  refine oj_iconst dX1_forgetActs_6 ci_0 ?_
  refine oj_puti fl_RX1_11 (Or.inl rfl) k_95 rfl rfl rfl dX1_forgetActs_7 ?_
  refine oj_toph (fun h3 eh3 => ?_)
  have y4 := Lt_at y2 h3 eh3
  refine oj_aload_n 0 dX1_forgetActs_10 rfl rfl ?_
  refine oj_iconst dX1_forgetActs_11 ci_0 ?_
  refine oj_puti fl_RX1_15 (Or.inl rfl) k_95 rfl rfl rfl dX1_forgetActs_12 ?_
  refine oj_toph (fun h5 eh5 => ?_)
  have y6 := Lt_at y4 h5 eh5
  exact oj_ret (r := none) ⟨trivial, rfl, rfl, rfl, y6⟩ dX1_forgetActs_15 (Nat.zero_le _) (Nat.zero_le _)
-- X1_emptyBoxes
set_option maxRecDepth 100000 in
set_option maxHeartbeats 4000000 in
theorem BX1_emptyBoxes    {h : ob_H} {Q : ob_H → Prop} (y : MX1_emptyBoxes   h Q) : ob_T yX1_emptyBoxes cX1_emptyBoxes 1 none (ob_rm 1) KS NN h [.ref 95] (ob_g none (ob_qv Q)) := by
  unfold MX1_emptyBoxes at y
  refine ob_T_gf (by decide +kernel) (Nat.le_of_ble_eq_true rfl) ?_
  show ob_J RX1 cX1_emptyBoxes 1 (ob_rm 1) false none 0 0 KS NN h 0 [(0, .ref 95)] [] (ob_g none (ob_qv Q))
  refine oj_aload_n 0 dX1_emptyBoxes_0 rfl rfl ?_
  refine oj_iconst dX1_emptyBoxes_1 ci_0 ?_
  refine oj_puti fl_RX1_30 (Or.inl rfl) k_95 rfl rfl rfl dX1_emptyBoxes_2 ?_
  refine oj_toph (fun h1 eh1 => ?_)
  have y2 := Lt_at y h1 eh1
  exact oj_ret (r := none) ⟨trivial, rfl, rfl, rfl, y2⟩ dX1_emptyBoxes_5 (Nat.zero_le _) (Nat.zero_le _)
-- X9_forget
set_option maxRecDepth 100000 in
set_option maxHeartbeats 4000000 in
theorem BX9_forget    {h : ob_H} {Q : ob_H → Prop} (y : MX9_forget   h Q) : ob_T yX9_forget cX9_forget 1 none (ob_rm 1) KS NN h [.ref 98] (ob_g none (ob_qv Q)) := by
  unfold MX9_forget at y
  refine ob_T_gf (by decide +kernel) (Nat.le_of_ble_eq_true rfl) ?_
  show ob_J RX9 cX9_forget 1 (ob_rm 1) false none 0 0 KS NN h 0 [(0, .ref 98)] [] (ob_g none (ob_qv Q))
  refine oj_aload_n 0 dX9_forget_0 rfl rfl ?_
  refine oj_iconst dX9_forget_1 ci_0 ?_
  refine oj_puti fl_RX9_11 (Or.inl rfl) k_98 rfl rfl rfl dX9_forget_2 ?_
  refine oj_toph (fun h1 eh1 => ?_)
  have y2 := Lt_at y h1 eh1
  refine oj_aload_n 0 dX9_forget_5 rfl rfl ?_
  refine oj_iconst dX9_forget_6 ci_0 ?_
  refine oj_puti fl_RX9_46 (Or.inl rfl) k_98 rfl rfl rfl dX9_forget_7 ?_
  refine oj_toph (fun h3 eh3 => ?_)
  have y4 := Lt_at y2 h3 eh3
  exact oj_ret (r := none) ⟨trivial, rfl, rfl, rfl, y4⟩ dX9_forget_10 (Nat.zero_le _) (Nat.zero_le _)
-- X11_wedding
set_option maxRecDepth 100000 in
set_option maxHeartbeats 4000000 in
theorem BX11_wedding    {h : ob_H} {Q : Int32 → ob_H → Prop} (y : MX11_wedding   h Q) : ob_T yX11_wedding cX11_wedding 2 (some .int) (ob_rm 248) KS NN h [.ref 0] (ob_g (some .int) (ob_qi Q)) := by
  unfold MX11_wedding at y
  refine ob_T_gf (by decide +kernel) (Nat.le_of_ble_eq_true rfl) ?_
  show ob_J RX11 cX11_wedding 2 (ob_rm 248) false none 0 0 KS NN h 0 [(0, .ref 0)] [] (ob_g (some .int) (ob_qi Q))
  refine oj_aload_n 0 dX11_wedding_0 rfl rfl ?_
  refine oj_getr (q := 4) fl_RX11_21 k_0 rfl k_4 dX11_wedding_1 ?_
  refine oc_Vi [] mi_RX11_109 ow_600 ow_601 rfl k_4 (BX5_read  y) ⟨by decide, by decide⟩ ⟨Nat.le_refl _, Nat.le_refl _⟩ rfl (Nat.le_of_ble_eq_true rfl) dX11_wedding_4 (fun r1 f3 h2 y4 => ?_)
  refine oj_istore_n (lv' := [(1, .int r1), (0, .ref 0)]) dX11_wedding_7 rfl (by decide) rfl ?_
  refine oj_aload_n 1 dX11_wedding_8 rfl rfl ?_
  refine oj_getr (q := 1) fl_RX11_10 k_0 rfl k_1 dX11_wedding_9 ?_
  refine oj_iconst dX11_wedding_12 ci_0 ?_
  refine oj_puti fl_RX11_102 (Or.inl rfl) k_1 rfl rfl rfl dX11_wedding_13 ?_
  refine oj_toph (fun h5 eh5 => ?_)
  have y6 := Lt_at y4 h5 eh5
  refine oj_iload_n 0 dX11_wedding_16 rfl rfl ?_
  refine oj_if_ne 22 dX11_wedding_17 rfl (fun c7 => ?_) (fun c7 => ?_)
  · have y8 := y6.2 c7
    refine oj_aload_n 1 dX11_wedding_22 rfl rfl ?_
    refine oj_getr (q := 20) fl_RX11_28 k_0 rfl k_20 dX11_wedding_23 ?_
    refine oj_aload_n 1 dX11_wedding_26 rfl rfl ?_
    refine oj_getr (q := 4) fl_RX11_21 k_0 rfl k_4 dX11_wedding_27 ?_
    refine oj_getr (q := 5) fl_RX11_113 k_4 rfl k_5 dX11_wedding_30 ?_
    refine oc_Vv [.ref 5] mi_RX11_116 ow_710 ow_711 rfl k_20 (BX2_copy AA2_20 AA2_5 y8) ⟨by decide, by decide⟩ ⟨Nat.le_refl _, Nat.le_refl _⟩ rfl (Nat.le_of_ble_eq_true rfl) dX11_wedding_33 (fun h11 y13 => ?_)
    refine oj_aload_n 1 dX11_wedding_36 rfl rfl ?_
    refine oj_getr (q := 34) fl_RX11_37 k_0 rfl k_34 dX11_wedding_37 ?_
    refine oc_Vv [] mi_RX11_99 ow_543 ow_544 rfl k_34 (BX6_begin AA6_34 y13) ⟨by decide, by decide⟩ ⟨Nat.le_refl _, Nat.le_refl _⟩ rfl (Nat.le_of_ble_eq_true rfl) dX11_wedding_40 (fun h15 y17 => ?_)
    refine oj_aload_n 1 dX11_wedding_43 rfl rfl ?_
    refine oj_getr (q := 95) fl_RX11_78 k_0 rfl k_95 dX11_wedding_44 ?_
    refine oc_Vv [] mi_RX11_119 ow_722 ow_723 rfl k_95 (BX1_forgetActs  y17) ⟨by decide, by decide⟩ ⟨Nat.le_refl _, Nat.le_refl _⟩ rfl (Nat.le_of_ble_eq_true rfl) dX11_wedding_47 (fun h19 y21 => ?_)
    refine oj_aload_n 1 dX11_wedding_50 rfl rfl ?_
    refine oj_getr (q := 95) fl_RX11_78 k_0 rfl k_95 dX11_wedding_51 ?_
    refine oc_Vv [] mi_RX11_122 ow_726 ow_727 rfl k_95 (BX1_emptyBoxes  y21) ⟨by decide, by decide⟩ ⟨Nat.le_refl _, Nat.le_refl _⟩ rfl (Nat.le_of_ble_eq_true rfl) dX11_wedding_54 (fun h23 y25 => ?_)
    refine oj_aload_n 1 dX11_wedding_57 rfl rfl ?_
    refine oj_getr (q := 98) fl_RX11_87 k_0 rfl k_98 dX11_wedding_58 ?_
    refine oc_Vv [] mi_RX11_125 ow_730 ow_731 rfl k_98 (BX9_forget  y25) ⟨by decide, by decide⟩ ⟨Nat.le_refl _, Nat.le_refl _⟩ rfl (Nat.le_of_ble_eq_true rfl) dX11_wedding_61 (fun h27 y29 => ?_)
    refine oj_aload_n 1 dX11_wedding_64 rfl rfl ?_
    refine oj_iconst dX11_wedding_65 ci_0 ?_
    refine oj_puti fl_RX11_95 (Or.inl rfl) k_0 rfl rfl rfl dX11_wedding_66 ?_
    refine oj_toph (fun h30 eh30 => ?_)
    have y31 := Lt_at y29 h30 eh30
    refine oj_aload_n 1 dX11_wedding_69 rfl rfl ?_
    refine oj_getr (q := 20) fl_RX11_28 k_0 rfl k_20 dX11_wedding_70 ?_
    refine oj_geti fl_RX11_128 k_20 rfl dX11_wedding_73 ?_
    exact oj_ret (r := some (.int (h30.1 20 0))) ⟨trivial, rfl, rfl, (h30.1 20 0), rfl, y31⟩ dX11_wedding_76 (Nat.zero_le _) (Nat.zero_le _)
  · have y9 := y6.1 c7
    refine oj_iconst dX11_wedding_20 ci_m1 ?_
    exact oj_ret (r := some (.int (-1))) ⟨trivial, rfl, rfl, (-1), rfl, y9⟩ dX11_wedding_21 (Nat.zero_le _) (Nat.zero_le _)
-- X11_fault
set_option maxRecDepth 100000 in
set_option maxHeartbeats 4000000 in
theorem BX11_fault  {p1 : Int32}  {h : ob_H} {Q : Int32 → Prop} (y : MX11_fault  p1 h Q) : ob_T yX11_fault cX11_fault 2 (some .int) (ob_rm 1) KS NN h [.ref 0, .int p1] (ob_g (some .int) (ob_pi h Q)) := by
  unfold MX11_fault at y
  refine ob_T_gf (by decide +kernel) (Nat.le_of_ble_eq_true rfl) ?_
  show ob_J RX11 cX11_fault 2 (ob_rm 1) false none 0 0 KS NN h 0 [(0, .ref 0), (1, .int p1)] [] (ob_g (some .int) (ob_pi h Q))
  refine oj_iload_n 1 dX11_fault_0 rfl rfl ?_
  by_cases c1 : p1 = (0)
  · have y2 := y.1 c1
    refine oj_lookup 28 dX11_fault_1 (by decide) (by rw [c1] <;> rfl) rfl ?_
    refine oj_aload_n 0 dX11_fault_28 rfl rfl ?_
    refine oj_getr (q := 4) fl_RX11_21 k_0 rfl k_4 dX11_fault_29 ?_
    refine oj_geti fl_RX11_131 k_4 rfl dX11_fault_32 ?_
    exact oj_ret (r := some (.int (h.1 4 1))) ⟨trivial, rfl, rfl, rfl, (h.1 4 1), rfl, y2⟩ dX11_fault_35 (Nat.zero_le _) (Nat.zero_le _)
  have y3 := y.2 c1
  by_cases c4 : p1 = (1)
  · have y5 := y3.1 c4
    refine oj_lookup 36 dX11_fault_1 (by decide) (by rw [c4] <;> rfl) rfl ?_
    refine oj_aload_n 0 dX11_fault_36 rfl rfl ?_
    refine oj_getr (q := 4) fl_RX11_21 k_0 rfl k_4 dX11_fault_37 ?_
    refine oj_geti fl_RX11_134 k_4 rfl dX11_fault_40 ?_
    exact oj_ret (r := some (.int (h.1 4 2))) ⟨trivial, rfl, rfl, rfl, (h.1 4 2), rfl, y5⟩ dX11_fault_43 (Nat.zero_le _) (Nat.zero_le _)
  have y6 := y3.2 c4
  refine oj_lookup 44 dX11_fault_1 (by decide) (by show Op.lookupswitch.offset [(0, 27), (1, 35)] 43 p1.toInt = _; rw [lv_osw c1 (show (0 : Int32).toInt = 0 by decide), lv_osw c4 (show (1 : Int32).toInt = 1 by decide)] <;> rfl) rfl ?_
  refine oj_iconst dX11_fault_44 ci_m1 ?_
  exact oj_ret (r := some (.int (-1))) ⟨trivial, rfl, rfl, rfl, (-1), rfl, y6⟩ dX11_fault_45 (Nat.zero_le _) (Nat.zero_le _)
-- X11_isTold
set_option maxRecDepth 100000 in
set_option maxHeartbeats 4000000 in
theorem BX11_isTold  {p1 : Int32}  {h : ob_H} {Q : Int32 → Prop} (y : MX11_isTold  p1 h Q) : ob_T yX11_isTold cX11_isTold 2 (some .boolean) (ob_rm 1) KS NN h [.ref 0, .int p1] (ob_g (some .boolean) (ob_pi h Q)) := by
  unfold MX11_isTold at y
  refine ob_T_gf (by decide +kernel) (Nat.le_of_ble_eq_true rfl) ?_
  show ob_J RX11 cX11_isTold 2 (ob_rm 1) false none 0 0 KS NN h 0 [(0, .ref 0), (1, .int p1)] [] (ob_g (some .boolean) (ob_pi h Q))
  refine oj_iload_n 1 dX11_isTold_0 rfl rfl ?_
  refine oj_if_lt 19 dX11_isTold_1 rfl (fun c1 => ?_) (fun c1 => ?_)
  · have y2 := y.1 c1
    refine oj_iconst dX11_isTold_19 ci_0 ?_
    exact oj_ret (r := some (.int (0))) ⟨rfl, rfl, rfl, rfl, (0), rfl, y2⟩ dX11_isTold_20 (Nat.zero_le _) (Nat.zero_le _)
  · have y3 := y.2 c1
    refine oj_iload_n 1 dX11_isTold_4 rfl rfl ?_
    refine oj_aload_n 0 dX11_isTold_5 rfl rfl ?_
    refine oj_getr (q := 20) fl_RX11_28 k_0 rfl k_20 dX11_isTold_6 ?_
    refine oj_geti fl_RX11_128 k_20 rfl dX11_isTold_9 ?_
    refine oj_icmp_ge 19 dX11_isTold_12 rfl (fun c4 => ?_) (fun c4 => ?_)
    · have y5 := y3.1 c4
      refine oj_iconst dX11_isTold_19 ci_0 ?_
      exact oj_ret (r := some (.int (0))) ⟨rfl, rfl, rfl, rfl, (0), rfl, y5⟩ dX11_isTold_20 (Nat.zero_le _) (Nat.zero_le _)
    · have y6 := y3.2 c4
      refine oj_iconst dX11_isTold_15 ci_1 ?_
      refine oj_goto 20 dX11_isTold_16 rfl ?_
      exact oj_ret (r := some (.int (1))) ⟨rfl, rfl, rfl, rfl, (1), rfl, y6⟩ dX11_isTold_20 (Nat.zero_le _) (Nat.zero_le _)
-- X6_sortOf
set_option maxRecDepth 100000 in
set_option maxHeartbeats 4000000 in
theorem BLX6_sortOf_2 {o : Nat} (hA : A6 o) {x1 : Int32} {h : ob_H} {Q : Int32 → Prop} :
    ∀ (n : Nat) (x2 : Int32), it1 (FX6_sortOf_2 o x1 h Q) n x2 → ob_J RX6 cX6_sortOf 3 (ob_rm 1) false none 0 0 KS NN h 2 [(0, .ref o), (1, .int x1), (2, .int x2)] [] (ob_g (some .int) (ob_pi h Q)) := by
  intro n
  induction n with
  | zero => intro x2 y; exact False.elim y
  | succ n hk2 =>
    intro x2 y
    have y : FX6_sortOf_2 o x1 h Q (it1 (FX6_sortOf_2 o x1 h Q) n) x2 := y
    unfold FX6_sortOf_2 at y
    refine oj_iload_n 2 dX6_sortOf_2 rfl rfl ?_
    refine oj_bipush dX6_sortOf_3 cb_7 ?_
    refine oj_icmp_ge 29 dX6_sortOf_5 rfl (fun c1 => ?_) (fun c1 => ?_)
    · have y2 := y.1 c1
      refine oj_bipush dX6_sortOf_29 cb_m2 ?_
      exact oj_ret (r := some (.int (-2))) ⟨trivial, rfl, rfl, rfl, (-2), rfl, y2⟩ dX6_sortOf_31 (Nat.zero_le _) (Nat.zero_le _)
    · have y3 := y.2 c1
      refine oj_aload_n 0 dX6_sortOf_8 rfl rfl ?_
      refine oj_getr (q := (o + 1)) fl_RX6_13 (A6_0 hA) rfl (A6_1 hA) dX6_sortOf_9 ?_
      refine oj_iload_n 2 dX6_sortOf_12 rfl rfl ?_
      obtain ⟨c4, y5⟩ := y3
      refine oj_iald (A6_1 hA) c4 rfl dX6_sortOf_13 ?_
      refine oj_iload_n 1 dX6_sortOf_14 rfl rfl ?_
      refine oj_ishr dX6_sortOf_15 ?_
      refine oj_iconst dX6_sortOf_16 ci_1 ?_
      refine oj_iand dX6_sortOf_17 ?_
      refine oj_if_eq 23 dX6_sortOf_18 rfl (fun c6 => ?_) (fun c6 => ?_)
      · have y7 := y5.1 c6
        obtain ⟨v9, ev9⟩ : ∃ z : Int32, z = x2 + (1) := ⟨_, rfl⟩
        have y10 := Lt_at y7 v9 ev9
        refine oj_iinc (v := v9) (lv' := [(2, .int v9), (0, .ref o), (1, .int x1)]) 2 dX6_sortOf_23 rfl (iinc_e ci_1 ev9) (by decide) rfl ?_
        refine oj_goto 2 dX6_sortOf_26 rfl ?_
        refine oj_lv [1, 2, 0] rfl ?_
        exact hk2 _ y10
      · have y8 := y5.2 c6
        refine oj_iload_n 2 dX6_sortOf_21 rfl rfl ?_
        exact oj_ret (r := some (.int x2)) ⟨trivial, rfl, rfl, rfl, x2, rfl, y8⟩ dX6_sortOf_22 (Nat.zero_le _) (Nat.zero_le _)
set_option maxRecDepth 100000 in
set_option maxHeartbeats 4000000 in
theorem BX6_sortOf  {o : Nat} {p1 : Int32} (hA : A6 o) {h : ob_H} {Q : Int32 → Prop} (y : MX6_sortOf  o p1 h Q) : ob_T yX6_sortOf cX6_sortOf 3 (some .int) (ob_rm 1) KS NN h [.ref o, .int p1] (ob_g (some .int) (ob_pi h Q)) := by
  unfold MX6_sortOf at y
  refine ob_T_gf (by decide +kernel) (Nat.le_of_ble_eq_true rfl) ?_
  show ob_J RX6 cX6_sortOf 3 (ob_rm 1) false none 0 0 KS NN h 0 [(0, .ref o), (1, .int p1)] [] (ob_g (some .int) (ob_pi h Q))
  refine oj_iconst dX6_sortOf_0 ci_0 ?_
  refine oj_istore_n (lv' := [(2, .int (0)), (0, .ref o), (1, .int p1)]) dX6_sortOf_1 rfl (by decide) rfl ?_
  refine oj_lv [1, 2, 0] rfl ?_
  obtain ⟨n, y11⟩ := y
  exact BLX6_sortOf_2 hA n _ y11
-- X6_waits
set_option maxRecDepth 100000 in
set_option maxHeartbeats 4000000 in
theorem BX6_waits  {o : Nat} {p1 : Int32} (hA : A6 o) {h : ob_H} {Q : Int32 → Prop} (y : MX6_waits  o p1 h Q) : ob_T yX6_waits cX6_waits 2 (some .boolean) (ob_rm 1) KS NN h [.ref o, .int p1] (ob_g (some .boolean) (ob_pi h Q)) := by
  unfold MX6_waits at y
  refine ob_T_gf (by decide +kernel) (Nat.le_of_ble_eq_true rfl) ?_
  show ob_J RX6 cX6_waits 2 (ob_rm 1) false none 0 0 KS NN h 0 [(0, .ref o), (1, .int p1)] [] (ob_g (some .boolean) (ob_pi h Q))
  refine oj_aload_n 0 dX6_waits_0 rfl rfl ?_
  refine oj_getr (q := (o + 1)) fl_RX6_13 (A6_0 hA) rfl (A6_1 hA) dX6_waits_1 ?_
  refine oj_iconst dX6_waits_4 ci_0 ?_
  refine oj_iald (A6_1 hA) in_0_7 ix_0 dX6_waits_5 ?_
  refine oj_iload_n 1 dX6_waits_6 rfl rfl ?_
  refine oj_ishr dX6_waits_7 ?_
  refine oj_iconst dX6_waits_8 ci_1 ?_
  refine oj_iand dX6_waits_9 ?_
  refine oj_if_eq 17 dX6_waits_10 rfl (fun c1 => ?_) (fun c1 => ?_)
  · have y2 := y.1 c1
    refine oj_iconst dX6_waits_17 ci_0 ?_
    exact oj_ret (r := some (.int (0))) ⟨rfl, rfl, rfl, rfl, (0), rfl, y2⟩ dX6_waits_18 (Nat.zero_le _) (Nat.zero_le _)
  · have y3 := y.2 c1
    refine oj_iconst dX6_waits_13 ci_1 ?_
    refine oj_goto 18 dX6_waits_14 rfl ?_
    exact oj_ret (r := some (.int (1))) ⟨rfl, rfl, rfl, rfl, (1), rfl, y3⟩ dX6_waits_18 (Nat.zero_le _) (Nat.zero_le _)
-- X6_waited
set_option maxRecDepth 100000 in
set_option maxHeartbeats 4000000 in
theorem BX6_waited  {o : Nat} {p1 : Int32} (hA : A6 o) {h : ob_H} {Q : Int32 → Prop} (y : MX6_waited  o p1 h Q) : ob_T yX6_waited cX6_waited 2 (some .int) (ob_rm 1) KS NN h [.ref o, .int p1] (ob_g (some .int) (ob_pi h Q)) := by
  unfold MX6_waited at y
  refine ob_T_gf (by decide +kernel) (Nat.le_of_ble_eq_true rfl) ?_
  show ob_J RX6 cX6_waited 2 (ob_rm 1) false none 0 0 KS NN h 0 [(0, .ref o), (1, .int p1)] [] (ob_g (some .int) (ob_pi h Q))
  refine oj_aload_n 0 dX6_waited_0 rfl rfl ?_
  refine oj_geti fl_RX6_23 (A6_0 hA) rfl dX6_waited_1 ?_
  refine oj_aload_n 0 dX6_waited_4 rfl rfl ?_
  refine oj_getr (q := (o + 3)) fl_RX6_20 (A6_0 hA) rfl (A6_3 hA) dX6_waited_5 ?_
  refine oj_iload_n 1 dX6_waited_8 rfl rfl ?_
  obtain ⟨c1, y2⟩ := y
  refine oj_iald (A6_3 hA) c1 rfl dX6_waited_9 ?_
  refine oj_isub dX6_waited_10 ?_
  exact oj_ret (r := some (.int ((h.1 o 3) - (h.1 (o + 3) (ix p1))))) ⟨trivial, rfl, rfl, rfl, ((h.1 o 3) - (h.1 (o + 3) (ix p1))), rfl, y2⟩ dX6_waited_11 (Nat.zero_le _) (Nat.zero_le _)
-- X11_objector
set_option maxRecDepth 100000 in
set_option maxHeartbeats 4000000 in
theorem BX11_objector  {p1 : Int32} {p2 : Int32}  {h : ob_H} {Q : Int32 → Prop} (y : MX11_objector  p1 p2 h Q) : ob_T yX11_objector cX11_objector 3 (some .int) (ob_rm 2) KS NN h [.ref 0, .int p1, .int p2] (ob_g (some .int) (ob_pi h Q)) := by
  unfold MX11_objector at y
  refine ob_T_gf (by decide +kernel) (Nat.le_of_ble_eq_true rfl) ?_
  show ob_J RX11 cX11_objector 3 (ob_rm 2) false none 0 0 KS NN h 0 [(0, .ref 0), (1, .int p1), (2, .int p2)] [] (ob_g (some .int) (ob_pi h Q))
  refine oj_aload_n 0 dX11_objector_0 rfl rfl ?_
  refine oj_iload_n 1 dX11_objector_1 rfl rfl ?_
  refine oc_Vpi [.int p1] mi_RX11_137 ow_743 op_19 rfl k_0 (BX11_isTold  y) ⟨by decide, by decide⟩ ⟨Nat.le_refl _, Nat.le_refl _⟩ rfl (Nat.le_of_ble_eq_true rfl) dX11_objector_2 (fun r1 f3 y4 => ?_)
  refine oj_if_ne 11 dX11_objector_5 rfl (fun c5 => ?_) (fun c5 => ?_)
  · have y6 := y4.2 c5
    refine oj_iload_n 2 dX11_objector_11 rfl rfl ?_
    by_cases c8 : p2 = (0)
    · have y9 := y6.1 c8
      refine oj_tableIn 60 dX11_objector_12 (by rw [c8] <;> decide) (by rw [c8] <;> decide) (by rw [c8] <;> rfl) rfl ?_
      refine oj_aload_n 0 dX11_objector_60 rfl rfl ?_
      refine oj_getr (q := 34) fl_RX11_37 k_0 rfl k_34 dX11_objector_61 ?_
      refine oj_iload_n 1 dX11_objector_64 rfl rfl ?_
      refine oc_Vpi [.int p1] mi_RX11_141 ow_746 ow_747 rfl k_34 (BX6_sortOf AA6_34 y9) ⟨by decide, by decide⟩ ⟨Nat.le_refl _, Nat.le_refl _⟩ rfl (Nat.le_of_ble_eq_true rfl) dX11_objector_65 (fun r10 f12 y13 => ?_)
      exact oj_ret (r := some (.int r10)) ⟨trivial, rfl, rfl, rfl, r10, rfl, y13⟩ dX11_objector_68 (Nat.zero_le _) (Nat.zero_le _)
    have y14 := y6.2 c8
    by_cases c15 : p2 = (1)
    · have y16 := y14.1 c15
      refine oj_tableIn 69 dX11_objector_12 (by rw [c15] <;> decide) (by rw [c15] <;> decide) (by rw [c15] <;> rfl) rfl ?_
      refine oj_aload_n 0 dX11_objector_69 rfl rfl ?_
      refine oj_getr (q := 20) fl_RX11_28 k_0 rfl k_20 dX11_objector_70 ?_
      refine oj_getr (q := 21) fl_RX11_145 k_20 rfl k_21 dX11_objector_73 ?_
      refine oj_iload_n 1 dX11_objector_76 rfl rfl ?_
      obtain ⟨c17, y18⟩ := y16
      refine oj_iald k_21 c17 rfl dX11_objector_77 ?_
      exact oj_ret (r := some (.int (h.1 21 (ix p1)))) ⟨trivial, rfl, rfl, rfl, (h.1 21 (ix p1)), rfl, y18⟩ dX11_objector_78 (Nat.zero_le _) (Nat.zero_le _)
    have y19 := y14.2 c15
    by_cases c20 : p2 = (2)
    · have y21 := y19.1 c20
      refine oj_tableIn 79 dX11_objector_12 (by rw [c20] <;> decide) (by rw [c20] <;> decide) (by rw [c20] <;> rfl) rfl ?_
      refine oj_aload_n 0 dX11_objector_79 rfl rfl ?_
      refine oj_getr (q := 20) fl_RX11_28 k_0 rfl k_20 dX11_objector_80 ?_
      refine oj_getr (q := 22) fl_RX11_148 k_20 rfl k_22 dX11_objector_83 ?_
      refine oj_iload_n 1 dX11_objector_86 rfl rfl ?_
      obtain ⟨c22, y23⟩ := y21
      refine oj_iald k_22 c22 rfl dX11_objector_87 ?_
      exact oj_ret (r := some (.int (h.1 22 (ix p1)))) ⟨trivial, rfl, rfl, rfl, (h.1 22 (ix p1)), rfl, y23⟩ dX11_objector_88 (Nat.zero_le _) (Nat.zero_le _)
    have y24 := y19.2 c20
    by_cases c25 : p2 = (3)
    · have y26 := y24.1 c25
      refine oj_tableIn 89 dX11_objector_12 (by rw [c25] <;> decide) (by rw [c25] <;> decide) (by rw [c25] <;> rfl) rfl ?_
      refine oj_aload_n 0 dX11_objector_89 rfl rfl ?_
      refine oj_getr (q := 34) fl_RX11_37 k_0 rfl k_34 dX11_objector_90 ?_
      refine oj_getr (q := 36) fl_RX11_151 k_34 rfl k_36 dX11_objector_93 ?_
      refine oj_iload_n 1 dX11_objector_96 rfl rfl ?_
      obtain ⟨c27, y28⟩ := y26
      refine oj_iald k_36 c27 rfl dX11_objector_97 ?_
      exact oj_ret (r := some (.int (h.1 36 (ix p1)))) ⟨trivial, rfl, rfl, rfl, (h.1 36 (ix p1)), rfl, y28⟩ dX11_objector_98 (Nat.zero_le _) (Nat.zero_le _)
    have y29 := y24.2 c25
    by_cases c30 : p2 = (4)
    · have y31 := y29.1 c30
      refine oj_tableIn 99 dX11_objector_12 (by rw [c30] <;> decide) (by rw [c30] <;> decide) (by rw [c30] <;> rfl) rfl ?_
      refine oj_aload_n 0 dX11_objector_99 rfl rfl ?_
      refine oj_getr (q := 34) fl_RX11_37 k_0 rfl k_34 dX11_objector_100 ?_
      refine oj_iload_n 1 dX11_objector_103 rfl rfl ?_
      refine oc_Vpi [.int p1] mi_RX11_154 ow_750 ow_751 rfl k_34 (BX6_waits AA6_34 y31) ⟨by decide, by decide⟩ ⟨Nat.le_refl _, Nat.le_refl _⟩ rfl (Nat.le_of_ble_eq_true rfl) dX11_objector_104 (fun r32 f34 y35 => ?_)
      refine oj_if_eq 121 dX11_objector_107 rfl (fun c36 => ?_) (fun c36 => ?_)
      · have y37 := y35.1 c36
        refine oj_iconst dX11_objector_121 ci_0 ?_
        exact oj_ret (r := some (.int (0))) ⟨trivial, rfl, rfl, rfl, (0), rfl, y37⟩ dX11_objector_122 (Nat.zero_le _) (Nat.zero_le _)
      · have y38 := y35.2 c36
        refine oj_aload_n 0 dX11_objector_110 rfl rfl ?_
        refine oj_getr (q := 34) fl_RX11_37 k_0 rfl k_34 dX11_objector_111 ?_
        refine oj_iload_n 1 dX11_objector_114 rfl rfl ?_
        refine oc_Vpi [.int p1] mi_RX11_157 ow_754 ow_755 rfl k_34 (BX6_waited AA6_34 y38) ⟨by decide, by decide⟩ ⟨Nat.le_refl _, Nat.le_refl _⟩ rfl (Nat.le_of_ble_eq_true rfl) dX11_objector_115 (fun r39 f41 y42 => ?_)
        refine oj_goto 122 dX11_objector_118 rfl ?_
        exact oj_ret (r := some (.int r39)) ⟨trivial, rfl, rfl, rfl, r39, rfl, y42⟩ dX11_objector_122 (Nat.zero_le _) (Nat.zero_le _)
    have y43 := y29.2 c30
    by_cases c44 : p2 = (5)
    · have y45 := y43.1 c44
      refine oj_tableIn 123 dX11_objector_12 (by rw [c44] <;> decide) (by rw [c44] <;> decide) (by rw [c44] <;> rfl) rfl ?_
      refine oj_aload_n 0 dX11_objector_123 rfl rfl ?_
      refine oj_getr (q := 20) fl_RX11_28 k_0 rfl k_20 dX11_objector_124 ?_
      refine oj_getr (q := 24) fl_RX11_160 k_20 rfl k_24 dX11_objector_127 ?_
      refine oj_iload_n 1 dX11_objector_130 rfl rfl ?_
      obtain ⟨c46, y47⟩ := y45
      refine oj_iald k_24 c46 rfl dX11_objector_131 ?_
      exact oj_ret (r := some (.int (h.1 24 (ix p1)))) ⟨trivial, rfl, rfl, rfl, (h.1 24 (ix p1)), rfl, y47⟩ dX11_objector_132 (Nat.zero_le _) (Nat.zero_le _)
    have y48 := y43.2 c44
    by_cases c49 : p2 = (6)
    · have y50 := y48.1 c49
      refine oj_tableIn 133 dX11_objector_12 (by rw [c49] <;> decide) (by rw [c49] <;> decide) (by rw [c49] <;> rfl) rfl ?_
      refine oj_aload_n 0 dX11_objector_133 rfl rfl ?_
      refine oj_getr (q := 20) fl_RX11_28 k_0 rfl k_20 dX11_objector_134 ?_
      refine oj_getr (q := 25) fl_RX11_163 k_20 rfl k_25 dX11_objector_137 ?_
      refine oj_iload_n 1 dX11_objector_140 rfl rfl ?_
      obtain ⟨c51, y52⟩ := y50
      refine oj_iald k_25 c51 rfl dX11_objector_141 ?_
      exact oj_ret (r := some (.int (h.1 25 (ix p1)))) ⟨trivial, rfl, rfl, rfl, (h.1 25 (ix p1)), rfl, y52⟩ dX11_objector_142 (Nat.zero_le _) (Nat.zero_le _)
    have y53 := y48.2 c49
    by_cases c54 : p2 = (7)
    · have y55 := y53.1 c54
      refine oj_tableIn 143 dX11_objector_12 (by rw [c54] <;> decide) (by rw [c54] <;> decide) (by rw [c54] <;> rfl) rfl ?_
      refine oj_aload_n 0 dX11_objector_143 rfl rfl ?_
      refine oj_getr (q := 20) fl_RX11_28 k_0 rfl k_20 dX11_objector_144 ?_
      refine oj_getr (q := 26) fl_RX11_166 k_20 rfl k_26 dX11_objector_147 ?_
      refine oj_iload_n 1 dX11_objector_150 rfl rfl ?_
      obtain ⟨c56, y57⟩ := y55
      refine oj_iald k_26 c56 rfl dX11_objector_151 ?_
      exact oj_ret (r := some (.int (h.1 26 (ix p1)))) ⟨trivial, rfl, rfl, rfl, (h.1 26 (ix p1)), rfl, y57⟩ dX11_objector_152 (Nat.zero_le _) (Nat.zero_le _)
    have y58 := y53.2 c54
    refine oj_tableOut 153 dX11_objector_12 (show (p2 : Int32).toInt < 0 ∨ 7 < (p2 : Int32).toInt by have nc8 := lv_neT c8 (show (0 : Int32).toInt = 0 by decide); have nc15 := lv_neT c15 (show (1 : Int32).toInt = 1 by decide); have nc20 := lv_neT c20 (show (2 : Int32).toInt = 2 by decide); have nc25 := lv_neT c25 (show (3 : Int32).toInt = 3 by decide); have nc30 := lv_neT c30 (show (4 : Int32).toInt = 4 by decide); have nc44 := lv_neT c44 (show (5 : Int32).toInt = 5 by decide); have nc49 := lv_neT c49 (show (6 : Int32).toInt = 6 by decide); have nc54 := lv_neT c54 (show (7 : Int32).toInt = 7 by decide); omega) rfl ?_
    refine oj_bipush dX11_objector_153 cb_m2 ?_
    exact oj_ret (r := some (.int (-2))) ⟨trivial, rfl, rfl, rfl, (-2), rfl, y58⟩ dX11_objector_155 (Nat.zero_le _) (Nat.zero_le _)
  · have y7 := y4.1 c5
    refine oj_bipush dX11_objector_8 cb_m2 ?_
    exact oj_ret (r := some (.int (-2))) ⟨trivial, rfl, rfl, rfl, (-2), rfl, y7⟩ dX11_objector_10 (Nat.zero_le _) (Nat.zero_le _)
-- X11_isWaiting
set_option maxRecDepth 100000 in
set_option maxHeartbeats 4000000 in
theorem BX11_isWaiting  {p1 : Int32}  {h : ob_H} {Q : Int32 → Prop} (y : MX11_isWaiting  p1 h Q) : ob_T yX11_isWaiting cX11_isWaiting 2 (some .boolean) (ob_rm 2) KS NN h [.ref 0, .int p1] (ob_g (some .boolean) (ob_pi h Q)) := by
  unfold MX11_isWaiting at y
  refine ob_T_gf (by decide +kernel) (Nat.le_of_ble_eq_true rfl) ?_
  show ob_J RX11 cX11_isWaiting 2 (ob_rm 2) false none 0 0 KS NN h 0 [(0, .ref 0), (1, .int p1)] [] (ob_g (some .boolean) (ob_pi h Q))
  refine oj_aload_n 0 dX11_isWaiting_0 rfl rfl ?_
  refine oj_iload_n 1 dX11_isWaiting_1 rfl rfl ?_
  refine oc_Vpi [.int p1] mi_RX11_137 ow_743 op_19 rfl k_0 (BX11_isTold  y) ⟨by decide, by decide⟩ ⟨Nat.le_refl _, Nat.le_refl _⟩ rfl (Nat.le_of_ble_eq_true rfl) dX11_isWaiting_2 (fun r1 f3 y4 => ?_)
  refine oj_if_eq 23 dX11_isWaiting_5 rfl (fun c5 => ?_) (fun c5 => ?_)
  · have y6 := y4.1 c5
    refine oj_iconst dX11_isWaiting_23 ci_0 ?_
    exact oj_ret (r := some (.int (0))) ⟨rfl, rfl, rfl, rfl, (0), rfl, y6⟩ dX11_isWaiting_24 (Nat.zero_le _) (Nat.zero_le _)
  · have y7 := y4.2 c5
    refine oj_aload_n 0 dX11_isWaiting_8 rfl rfl ?_
    refine oj_getr (q := 34) fl_RX11_37 k_0 rfl k_34 dX11_isWaiting_9 ?_
    refine oj_iload_n 1 dX11_isWaiting_12 rfl rfl ?_
    refine oc_Vpi [.int p1] mi_RX11_154 ow_750 ow_751 rfl k_34 (BX6_waits AA6_34 y7) ⟨by decide, by decide⟩ ⟨Nat.le_refl _, Nat.le_refl _⟩ rfl (Nat.le_of_ble_eq_true rfl) dX11_isWaiting_13 (fun r8 f10 y11 => ?_)
    refine oj_if_eq 23 dX11_isWaiting_16 rfl (fun c12 => ?_) (fun c12 => ?_)
    · have y13 := y11.1 c12
      refine oj_iconst dX11_isWaiting_23 ci_0 ?_
      exact oj_ret (r := some (.int (0))) ⟨rfl, rfl, rfl, rfl, (0), rfl, y13⟩ dX11_isWaiting_24 (Nat.zero_le _) (Nat.zero_le _)
    · have y14 := y11.2 c12
      refine oj_iconst dX11_isWaiting_19 ci_1 ?_
      refine oj_goto 24 dX11_isWaiting_20 rfl ?_
      exact oj_ret (r := some (.int (1))) ⟨rfl, rfl, rfl, rfl, (1), rfl, y14⟩ dX11_isWaiting_24 (Nat.zero_le _) (Nat.zero_le _)
-- X6_gather
set_option maxRecDepth 100000 in
set_option maxHeartbeats 4000000 in
theorem BX6_gather  {o : Nat} {p1 : Int32} {p2 : Int32} (hA : A6 o) {h : ob_H} {Q : ob_H → Prop} (y : MX6_gather  o p1 p2 h Q) : ob_T yX6_gather cX6_gather 3 none (ob_rm 2) KS NN h [.ref o, .int p1, .int p2] (ob_g none (ob_qv Q)) := by
  unfold MX6_gather at y
  refine ob_T_gf (by decide +kernel) (Nat.le_of_ble_eq_true rfl) ?_
  show ob_J RX6 cX6_gather 3 (ob_rm 2) false none 0 0 KS NN h 0 [(0, .ref o), (1, .int p1), (2, .int p2)] [] (ob_g none (ob_qv Q))
  refine oj_aload_n 0 dX6_gather_0 rfl rfl ?_
  refine oj_getr (q := (o + 4)) fl_RX6_35 (A6_0 hA) rfl (A6_4 hA) dX6_gather_1 ?_
  refine oj_iconst dX6_gather_4 ci_0 ?_
  refine oj_iload_n 2 dX6_gather_5 rfl rfl ?_
  refine oj_iast (A6_4 hA) in_0_6 ix_0 dX6_gather_6 ?_
  refine oj_toph (fun h1 eh1 => ?_)
  have y2 := Lt_at y h1 eh1
  refine oj_aload_n 0 dX6_gather_7 rfl rfl ?_
  refine oj_getr (q := (o + 4)) fl_RX6_35 (A6_0 hA) rfl (A6_4 hA) dX6_gather_8 ?_
  refine oj_iconst dX6_gather_11 ci_1 ?_
  refine oj_aload_n 0 dX6_gather_12 rfl rfl ?_
  refine oj_getr (q := 20) fl_RX6_38 (A6_0 hA) rfl k_20 dX6_gather_13 ?_
  refine oj_getr (q := 22) fl_RX6_75 k_20 rfl k_22 dX6_gather_16 ?_
  refine oj_iload_n 1 dX6_gather_19 rfl rfl ?_
  obtain ⟨c3, y4⟩ := y2
  refine oj_iald k_22 c3 rfl dX6_gather_20 ?_
  refine oj_iast (A6_4 hA) in_1_6 ix_1 dX6_gather_21 ?_
  refine oj_toph (fun h5 eh5 => ?_)
  have y6 := Lt_at y4 h5 eh5
  refine oj_aload_n 0 dX6_gather_22 rfl rfl ?_
  refine oj_getr (q := (o + 4)) fl_RX6_35 (A6_0 hA) rfl (A6_4 hA) dX6_gather_23 ?_
  refine oj_iconst dX6_gather_26 ci_2 ?_
  refine oj_aload_n 0 dX6_gather_27 rfl rfl ?_
  refine oj_iload_n 1 dX6_gather_28 rfl rfl ?_
  refine oc_Vpi [.int p1] mi_RX6_78 ow_754 ow_755 rfl (A6_0 hA) (BX6_waited hA y6) ⟨by decide, by decide⟩ ⟨Nat.le_refl _, Nat.le_refl _⟩ rfl (Nat.le_of_ble_eq_true rfl) dX6_gather_29 (fun r7 f9 y10 => ?_)
  refine oj_iast (A6_4 hA) in_2_6 ix_2 dX6_gather_32 ?_
  refine oj_toph (fun h11 eh11 => ?_)
  have y12 := Lt_at y10 h11 eh11
  refine oj_aload_n 0 dX6_gather_33 rfl rfl ?_
  refine oj_getr (q := (o + 4)) fl_RX6_35 (A6_0 hA) rfl (A6_4 hA) dX6_gather_34 ?_
  refine oj_iconst dX6_gather_37 ci_3 ?_
  refine oj_aload_n 0 dX6_gather_38 rfl rfl ?_
  refine oj_getr (q := (o + 2)) fl_RX6_17 (A6_0 hA) rfl (A6_2 hA) dX6_gather_39 ?_
  refine oj_iload_n 1 dX6_gather_42 rfl rfl ?_
  refine oj_iald (A6_2 hA) c3 rfl dX6_gather_43 ?_
  refine oj_iast (A6_4 hA) in_3_6 ix_3 dX6_gather_44 ?_
  refine oj_toph (fun h13 eh13 => ?_)
  have y14 := Lt_at y12 h13 eh13
  refine oj_aload_n 0 dX6_gather_45 rfl rfl ?_
  refine oj_getr (q := (o + 4)) fl_RX6_35 (A6_0 hA) rfl (A6_4 hA) dX6_gather_46 ?_
  refine oj_iconst dX6_gather_49 ci_4 ?_
  refine oj_aload_n 0 dX6_gather_50 rfl rfl ?_
  refine oj_getr (q := (o + 1)) fl_RX6_13 (A6_0 hA) rfl (A6_1 hA) dX6_gather_51 ?_
  refine oj_iconst dX6_gather_54 ci_1 ?_
  refine oj_iald (A6_1 hA) in_1_7 ix_1 dX6_gather_55 ?_
  refine oj_aload_n 0 dX6_gather_56 rfl rfl ?_
  refine oj_getr (q := (o + 1)) fl_RX6_13 (A6_0 hA) rfl (A6_1 hA) dX6_gather_57 ?_
  refine oj_iconst dX6_gather_60 ci_2 ?_
  refine oj_iald (A6_1 hA) in_2_7 ix_2 dX6_gather_61 ?_
  refine oj_ior dX6_gather_62 ?_
  refine oc_Spi [.int ((h13.1 (o + 1) 1) ||| (h13.1 (o + 1) 2))] mi_RX6_82 ow_660 (BJ6_bitCount_0f7a4  y14) ⟨by decide, by decide⟩ ⟨Nat.le_refl _, Nat.le_refl _⟩ rfl (Nat.le_of_ble_eq_true rfl) dX6_gather_63 (fun r15 f17 y18 => ?_)
  refine oj_iast (A6_4 hA) in_4_6 ix_4 dX6_gather_66 ?_
  refine oj_toph (fun h19 eh19 => ?_)
  have y20 := Lt_at y18 h19 eh19
  refine oj_aload_n 0 dX6_gather_67 rfl rfl ?_
  refine oj_getr (q := (o + 4)) fl_RX6_35 (A6_0 hA) rfl (A6_4 hA) dX6_gather_68 ?_
  refine oj_iconst dX6_gather_71 ci_5 ?_
  refine oj_aload_n 0 dX6_gather_72 rfl rfl ?_
  refine oj_geti fl_RX6_23 (A6_0 hA) rfl dX6_gather_73 ?_
  refine oj_iast (A6_4 hA) in_5_6 ix_5 dX6_gather_76 ?_
  refine oj_toph (fun h21 eh21 => ?_)
  have y22 := Lt_at y20 h21 eh21
  exact oj_ret (r := none) ⟨trivial, rfl, rfl, rfl, y22⟩ dX6_gather_77 (Nat.zero_le _) (Nat.zero_le _)
-- X4_join
set_option maxRecDepth 100000 in
set_option maxHeartbeats 4000000 in
theorem BX4_join  {p0 : Int32} {p1 : Int32} {p2 : Int32}  {h : ob_H} {Q : Int32 → Prop} (y : MX4_join  p0 p1 p2 h Q) : ob_T yX4_join cX4_join 3 (some .int) (ob_rm 1) KS NN h [.int p0, .int p1, .int p2] (ob_g (some .int) (ob_pi h Q)) := by
  unfold MX4_join at y
  refine ob_T_gf (by decide +kernel) (Nat.le_of_ble_eq_true rfl) ?_
  show ob_J RX4 cX4_join 3 (ob_rm 1) false none 0 0 KS NN h 0 [(0, .int p0), (1, .int p1), (2, .int p2)] [] (ob_g (some .int) (ob_pi h Q))
  refine oj_iload_n 0 dX4_join_0 rfl rfl ?_
  by_cases c1 : p0 = (37)
  · have y2 := y.1 c1
    refine oj_lookup 116 dX4_join_1 (by decide) (by rw [c1] <;> rfl) rfl ?_
    refine oj_iload_n 2 dX4_join_116 rfl rfl ?_
    refine oj_if_ne 124 dX4_join_117 rfl (fun c3 => ?_) (fun c3 => ?_)
    · have y4 := y2.2 c3
      refine oj_iload_n 1 dX4_join_124 rfl rfl ?_
      refine oj_iload_n 2 dX4_join_125 rfl rfl ?_
      obtain ⟨c6, y7⟩ := y4
      refine oj_irem dX4_join_126 c6 ?_
      exact oj_ret (r := some (.int (irm p1 p2))) ⟨trivial, rfl, rfl, rfl, (irm p1 p2), rfl, y7⟩ dX4_join_127 (Nat.zero_le _) (Nat.zero_le _)
    · have y5 := y2.1 c3
      refine oj_iconst dX4_join_120 ci_0 ?_
      refine oj_goto 127 dX4_join_121 rfl ?_
      exact oj_ret (r := some (.int (0))) ⟨trivial, rfl, rfl, rfl, (0), rfl, y5⟩ dX4_join_127 (Nat.zero_le _) (Nat.zero_le _)
  have y8 := y.2 c1
  by_cases c9 : p0 = (42)
  · have y10 := y8.1 c9
    refine oj_lookup 100 dX4_join_1 (by decide) (by rw [c9] <;> rfl) rfl ?_
    refine oj_iload_n 1 dX4_join_100 rfl rfl ?_
    refine oj_iload_n 2 dX4_join_101 rfl rfl ?_
    refine oj_imul dX4_join_102 ?_
    exact oj_ret (r := some (.int (p1 * p2))) ⟨trivial, rfl, rfl, rfl, (p1 * p2), rfl, y10⟩ dX4_join_103 (Nat.zero_le _) (Nat.zero_le _)
  have y11 := y8.2 c9
  by_cases c12 : p0 = (43)
  · have y13 := y11.1 c12
    refine oj_lookup 92 dX4_join_1 (by decide) (by rw [c12] <;> rfl) rfl ?_
    refine oj_iload_n 1 dX4_join_92 rfl rfl ?_
    refine oj_iload_n 2 dX4_join_93 rfl rfl ?_
    refine oj_iadd dX4_join_94 ?_
    exact oj_ret (r := some (.int (p1 + p2))) ⟨trivial, rfl, rfl, rfl, (p1 + p2), rfl, y13⟩ dX4_join_95 (Nat.zero_le _) (Nat.zero_le _)
  have y14 := y11.2 c12
  by_cases c15 : p0 = (45)
  · have y16 := y14.1 c15
    refine oj_lookup 96 dX4_join_1 (by decide) (by rw [c15] <;> rfl) rfl ?_
    refine oj_iload_n 1 dX4_join_96 rfl rfl ?_
    refine oj_iload_n 2 dX4_join_97 rfl rfl ?_
    refine oj_isub dX4_join_98 ?_
    exact oj_ret (r := some (.int (p1 - p2))) ⟨trivial, rfl, rfl, rfl, (p1 - p2), rfl, y16⟩ dX4_join_99 (Nat.zero_le _) (Nat.zero_le _)
  have y17 := y14.2 c15
  by_cases c18 : p0 = (47)
  · have y19 := y17.1 c18
    refine oj_lookup 104 dX4_join_1 (by decide) (by rw [c18] <;> rfl) rfl ?_
    refine oj_iload_n 2 dX4_join_104 rfl rfl ?_
    refine oj_if_ne 112 dX4_join_105 rfl (fun c20 => ?_) (fun c20 => ?_)
    · have y21 := y19.2 c20
      refine oj_iload_n 1 dX4_join_112 rfl rfl ?_
      refine oj_iload_n 2 dX4_join_113 rfl rfl ?_
      obtain ⟨c23, y24⟩ := y21
      refine oj_idiv dX4_join_114 c23 ?_
      exact oj_ret (r := some (.int (p1 / p2))) ⟨trivial, rfl, rfl, rfl, (p1 / p2), rfl, y24⟩ dX4_join_115 (Nat.zero_le _) (Nat.zero_le _)
    · have y22 := y19.1 c20
      refine oj_iconst dX4_join_108 ci_0 ?_
      refine oj_goto 115 dX4_join_109 rfl ?_
      exact oj_ret (r := some (.int (0))) ⟨trivial, rfl, rfl, rfl, (0), rfl, y22⟩ dX4_join_115 (Nat.zero_le _) (Nat.zero_le _)
  have y25 := y17.2 c18
  by_cases c26 : p0 = (60)
  · have y27 := y25.1 c26
    refine oj_lookup 128 dX4_join_1 (by decide) (by rw [c26] <;> rfl) rfl ?_
    refine oj_iload_n 1 dX4_join_128 rfl rfl ?_
    refine oj_iload_n 2 dX4_join_129 rfl rfl ?_
    refine oj_icmp_ge 137 dX4_join_130 rfl (fun c28 => ?_) (fun c28 => ?_)
    · have y29 := y27.1 c28
      refine oj_iconst dX4_join_137 ci_0 ?_
      exact oj_ret (r := some (.int (0))) ⟨trivial, rfl, rfl, rfl, (0), rfl, y29⟩ dX4_join_138 (Nat.zero_le _) (Nat.zero_le _)
    · have y30 := y27.2 c28
      refine oj_iconst dX4_join_133 ci_1 ?_
      refine oj_goto 138 dX4_join_134 rfl ?_
      exact oj_ret (r := some (.int (1))) ⟨trivial, rfl, rfl, rfl, (1), rfl, y30⟩ dX4_join_138 (Nat.zero_le _) (Nat.zero_le _)
  have y31 := y25.2 c26
  by_cases c32 : p0 = (61)
  · have y33 := y31.1 c32
    refine oj_lookup 150 dX4_join_1 (by decide) (by rw [c32] <;> rfl) rfl ?_
    refine oj_iload_n 1 dX4_join_150 rfl rfl ?_
    refine oj_iload_n 2 dX4_join_151 rfl rfl ?_
    refine oj_icmp_ne 159 dX4_join_152 rfl (fun c34 => ?_) (fun c34 => ?_)
    · have y35 := y33.2 c34
      refine oj_iconst dX4_join_159 ci_0 ?_
      exact oj_ret (r := some (.int (0))) ⟨trivial, rfl, rfl, rfl, (0), rfl, y35⟩ dX4_join_160 (Nat.zero_le _) (Nat.zero_le _)
    · have y36 := y33.1 c34
      refine oj_iconst dX4_join_155 ci_1 ?_
      refine oj_goto 160 dX4_join_156 rfl ?_
      exact oj_ret (r := some (.int (1))) ⟨trivial, rfl, rfl, rfl, (1), rfl, y36⟩ dX4_join_160 (Nat.zero_le _) (Nat.zero_le _)
  have y37 := y31.2 c32
  by_cases c38 : p0 = (62)
  · have y39 := y37.1 c38
    refine oj_lookup 139 dX4_join_1 (by decide) (by rw [c38] <;> rfl) rfl ?_
    refine oj_iload_n 1 dX4_join_139 rfl rfl ?_
    refine oj_iload_n 2 dX4_join_140 rfl rfl ?_
    refine oj_icmp_le 148 dX4_join_141 rfl (fun c40 => ?_) (fun c40 => ?_)
    · have y41 := y39.1 c40
      refine oj_iconst dX4_join_148 ci_0 ?_
      exact oj_ret (r := some (.int (0))) ⟨trivial, rfl, rfl, rfl, (0), rfl, y41⟩ dX4_join_149 (Nat.zero_le _) (Nat.zero_le _)
    · have y42 := y39.2 c40
      refine oj_iconst dX4_join_144 ci_1 ?_
      refine oj_goto 149 dX4_join_145 rfl ?_
      exact oj_ret (r := some (.int (1))) ⟨trivial, rfl, rfl, rfl, (1), rfl, y42⟩ dX4_join_149 (Nat.zero_le _) (Nat.zero_le _)
  have y43 := y37.2 c38
  by_cases c44 : p0 = (117)
  · have y45 := y43.1 c44
    refine oj_lookup 175 dX4_join_1 (by decide) (by rw [c44] <;> rfl) rfl ?_
    refine oj_iload_n 1 dX4_join_175 rfl rfl ?_
    refine oj_if_ne 183 dX4_join_176 rfl (fun c46 => ?_) (fun c46 => ?_)
    · have y47 := y45.2 c46
      refine oj_iconst dX4_join_183 ci_1 ?_
      refine oj_goto 188 dX4_join_184 rfl ?_
      exact oj_ret (r := some (.int (1))) ⟨trivial, rfl, rfl, rfl, (1), rfl, y47⟩ dX4_join_188 (Nat.zero_le _) (Nat.zero_le _)
    · have y48 := y45.1 c46
      refine oj_iload_n 2 dX4_join_179 rfl rfl ?_
      refine oj_if_eq 187 dX4_join_180 rfl (fun c49 => ?_) (fun c49 => ?_)
      · have y50 := y48.1 c49
        refine oj_iconst dX4_join_187 ci_0 ?_
        exact oj_ret (r := some (.int (0))) ⟨trivial, rfl, rfl, rfl, (0), rfl, y50⟩ dX4_join_188 (Nat.zero_le _) (Nat.zero_le _)
      · have y51 := y48.2 c49
        refine oj_iconst dX4_join_183 ci_1 ?_
        refine oj_goto 188 dX4_join_184 rfl ?_
        exact oj_ret (r := some (.int (1))) ⟨trivial, rfl, rfl, rfl, (1), rfl, y51⟩ dX4_join_188 (Nat.zero_le _) (Nat.zero_le _)
  have y52 := y43.2 c44
  by_cases c53 : p0 = (118)
  · have y54 := y52.1 c53
    refine oj_lookup 161 dX4_join_1 (by decide) (by rw [c53] <;> rfl) rfl ?_
    refine oj_iload_n 1 dX4_join_161 rfl rfl ?_
    refine oj_if_eq 173 dX4_join_162 rfl (fun c55 => ?_) (fun c55 => ?_)
    · have y56 := y54.1 c55
      refine oj_iconst dX4_join_173 ci_0 ?_
      exact oj_ret (r := some (.int (0))) ⟨trivial, rfl, rfl, rfl, (0), rfl, y56⟩ dX4_join_174 (Nat.zero_le _) (Nat.zero_le _)
    · have y57 := y54.2 c55
      refine oj_iload_n 2 dX4_join_165 rfl rfl ?_
      refine oj_if_eq 173 dX4_join_166 rfl (fun c58 => ?_) (fun c58 => ?_)
      · have y59 := y57.1 c58
        refine oj_iconst dX4_join_173 ci_0 ?_
        exact oj_ret (r := some (.int (0))) ⟨trivial, rfl, rfl, rfl, (0), rfl, y59⟩ dX4_join_174 (Nat.zero_le _) (Nat.zero_le _)
      · have y60 := y57.2 c58
        refine oj_iconst dX4_join_169 ci_1 ?_
        refine oj_goto 174 dX4_join_170 rfl ?_
        exact oj_ret (r := some (.int (1))) ⟨trivial, rfl, rfl, rfl, (1), rfl, y60⟩ dX4_join_174 (Nat.zero_le _) (Nat.zero_le _)
  have y61 := y52.2 c53
  refine oj_lookup 189 dX4_join_1 (by decide) (by show Op.lookupswitch.offset [(37, 115), (42, 99), (43, 91), (45, 95), (47, 103), (60, 127), (61, 149), (62, 138), (117, 174), (118, 160)] 188 p0.toInt = _; rw [lv_osw c1 (show (37 : Int32).toInt = 37 by decide), lv_osw c9 (show (42 : Int32).toInt = 42 by decide), lv_osw c12 (show (43 : Int32).toInt = 43 by decide), lv_osw c15 (show (45 : Int32).toInt = 45 by decide), lv_osw c18 (show (47 : Int32).toInt = 47 by decide), lv_osw c26 (show (60 : Int32).toInt = 60 by decide), lv_osw c32 (show (61 : Int32).toInt = 61 by decide), lv_osw c38 (show (62 : Int32).toInt = 62 by decide), lv_osw c44 (show (117 : Int32).toInt = 117 by decide), lv_osw c53 (show (118 : Int32).toInt = 118 by decide)] <;> rfl) rfl ?_
  refine oj_iconst dX4_join_189 ci_0 ?_
  exact oj_ret (r := some (.int (0))) ⟨trivial, rfl, rfl, rfl, (0), rfl, y61⟩ dX4_join_190 (Nat.zero_le _) (Nat.zero_le _)
-- X4_value
set_option maxRecDepth 100000 in
set_option maxHeartbeats 4000000 in
theorem BKX4_value_63 {o : Nat} {p1 : Nat} (hA : A4 o) (hp1 : ob_is KS NN p1 (0, [6])) {x2 : Int32} {x3 : Int32} {s0 : Int32} {s1 : Int32} {h : ob_H} {Q : Int32 → ob_H → Prop} {k4 : Int32 → Int32 → ob_H → Prop} (hk4 : ∀ (x2' : Int32) (x3' : Int32) (h' : ob_H), k4 x2' x3' h' → ob_J RX4 cX4_value 5 (ob_rm 2) false none 0 0 KS NN h' 4 [(0, .ref o), (1, .ref p1), (2, .int x2'), (3, .int x3')] [] (ob_g (some .int) (ob_qi Q)))
    (y : KX4_value_63 o p1 x2 x3 s0 s1 h Q k4) : ob_J RX4 cX4_value 5 (ob_rm 2) false none 0 0 KS NN h 63 [(0, .ref o), (1, .ref p1), (2, .int x2), (3, .int x3)] [.int s0, .int s1, .ref (o + 2)] (ob_g (some .int) (ob_qi Q)) := by
  unfold KX4_value_63 at y
  obtain ⟨c24, y25⟩ := y
  refine oj_iast (A4_2 hA) c24 rfl dX4_value_63 ?_
  refine oj_toph (fun h26 eh26 => ?_)
  have y27 := Lt_at y25 h26 eh26
  obtain ⟨v28, ev28⟩ : ∃ z : Int32, z = x2 + (1) := ⟨_, rfl⟩
  have y29 := Lt_at y27 v28 ev28
  refine oj_iinc (v := v28) (lv' := [(2, .int v28), (0, .ref o), (1, .ref p1), (3, .int x3)]) 2 dX4_value_64 rfl (iinc_e ci_1 ev28) (by decide) rfl ?_
  refine oj_goto 144 dX4_value_67 rfl ?_
  obtain ⟨v30, ev30⟩ : ∃ z : Int32, z = x3 + (1) := ⟨_, rfl⟩
  have y31 := Lt_at y29 v30 ev30
  refine oj_iinc (v := v30) (lv' := [(3, .int v30), (2, .int v28), (0, .ref o), (1, .ref p1)]) 3 dX4_value_144 rfl (iinc_e ci_1 ev30) (by decide) rfl ?_
  refine oj_goto 4 dX4_value_147 rfl ?_
  refine oj_lv [2, 3, 1, 0] rfl ?_
  exact hk4 _ _ _ y31
set_option maxRecDepth 100000 in
set_option maxHeartbeats 4000000 in
theorem BKX4_value_34 {o : Nat} {p1 : Nat} (hA : A4 o) (hp1 : ob_is KS NN p1 (0, [6])) {x2 : Int32} {x3 : Int32} {x4 : Int32} {h : ob_H} {Q : Int32 → ob_H → Prop} {k4 : Int32 → Int32 → ob_H → Prop} (hk4 : ∀ (x2' : Int32) (x3' : Int32) (h' : ob_H), k4 x2' x3' h' → ob_J RX4 cX4_value 5 (ob_rm 2) false none 0 0 KS NN h' 4 [(0, .ref o), (1, .ref p1), (2, .int x2'), (3, .int x3')] [] (ob_g (some .int) (ob_qi Q)))
    (y : KX4_value_34 o p1 x2 x3 x4 h Q k4) : ob_J RX4 cX4_value 5 (ob_rm 2) false none 0 0 KS NN h 34 [(0, .ref o), (1, .ref p1), (2, .int x2), (3, .int x3), (4, .int x4)] [] (ob_g (some .int) (ob_qi Q)) := by
  unfold KX4_value_34 at y
  refine oj_iload_n 2 dX4_value_34 rfl rfl ?_
  refine oj_bipush dX4_value_35 cb_32 ?_
  refine oj_icmp_ge 144 dX4_value_37 rfl (fun c14 => ?_) (fun c14 => ?_)
  · have y15 := y.1 c14
    obtain ⟨v17, ev17⟩ : ∃ z : Int32, z = x3 + (1) := ⟨_, rfl⟩
    have y18 := Lt_at y15 v17 ev17
    refine oj_iinc (v := v17) (lv' := [(3, .int v17), (0, .ref o), (1, .ref p1), (2, .int x2), (4, .int x4)]) 3 dX4_value_144 rfl (iinc_e ci_1 ev17) (by decide) rfl ?_
    refine oj_goto 4 dX4_value_147 rfl ?_
    refine oj_lv [1, 2, 3, 0] rfl ?_
    exact hk4 _ _ _ y18
  · have y16 := y.2 c14
    refine oj_aload_n 0 dX4_value_40 rfl rfl ?_
    refine oj_getr (q := (o + 2)) fl_RX4_17 (A4_0 hA) rfl (A4_2 hA) dX4_value_41 ?_
    refine oj_iload_n 2 dX4_value_44 rfl rfl ?_
    refine oj_iload 4 dX4_value_45 rfl ?_
    refine oj_if_lt 55 dX4_value_47 rfl (fun c19 => ?_) (fun c19 => ?_)
    · have y20 := y16.1 c19
      refine oj_aload_n 1 dX4_value_55 rfl rfl ?_
      refine oj_iload 4 dX4_value_56 rfl ?_
      refine oj_ineg dX4_value_58 ?_
      refine oj_bipush dX4_value_59 cb_100 ?_
      refine oj_isub dX4_value_61 ?_
      obtain ⟨c22, y23⟩ := y20
      refine oj_iald hp1 c22 rfl dX4_value_62 ?_
      refine oj_lv [0, 1, 2, 3] rfl ?_
      exact BKX4_value_63 hA hp1 hk4 y23
    · have y21 := y16.2 c19
      refine oj_iload 4 dX4_value_50 rfl ?_
      refine oj_goto 63 dX4_value_52 rfl ?_
      refine oj_lv [0, 1, 2, 3] rfl ?_
      exact BKX4_value_63 hA hp1 hk4 y21
set_option maxRecDepth 100000 in
set_option maxHeartbeats 4000000 in
theorem BKX4_value_104 {o : Nat} {p1 : Nat} (hA : A4 o) (hp1 : ob_is KS NN p1 (0, [6])) {x2 : Int32} {x3 : Int32} {s0 : Int32} {s1 : Int32} {h : ob_H} {Q : Int32 → ob_H → Prop} {k4 : Int32 → Int32 → ob_H → Prop} (hk4 : ∀ (x2' : Int32) (x3' : Int32) (h' : ob_H), k4 x2' x3' h' → ob_J RX4 cX4_value 5 (ob_rm 2) false none 0 0 KS NN h' 4 [(0, .ref o), (1, .ref p1), (2, .int x2'), (3, .int x3')] [] (ob_g (some .int) (ob_qi Q)))
    (y : KX4_value_104 o p1 x2 x3 s0 s1 h Q k4) : ob_J RX4 cX4_value 5 (ob_rm 2) false none 0 0 KS NN h 104 [(0, .ref o), (1, .ref p1), (2, .int x2), (3, .int x3)] [.int s0, .int s1, .ref (o + 2)] (ob_g (some .int) (ob_qi Q)) := by
  unfold KX4_value_104 at y
  obtain ⟨c71, y72⟩ := y
  refine oj_iast (A4_2 hA) c71 rfl dX4_value_104 ?_
  refine oj_toph (fun h73 eh73 => ?_)
  have y74 := Lt_at y72 h73 eh73
  refine oj_goto 144 dX4_value_105 rfl ?_
  obtain ⟨v75, ev75⟩ : ∃ z : Int32, z = x3 + (1) := ⟨_, rfl⟩
  have y76 := Lt_at y74 v75 ev75
  refine oj_iinc (v := v75) (lv' := [(3, .int v75), (0, .ref o), (1, .ref p1), (2, .int x2)]) 3 dX4_value_144 rfl (iinc_e ci_1 ev75) (by decide) rfl ?_
  refine oj_goto 4 dX4_value_147 rfl ?_
  refine oj_lv [1, 2, 3, 0] rfl ?_
  exact hk4 _ _ _ y76
set_option maxRecDepth 100000 in
set_option maxHeartbeats 4000000 in
theorem BLX4_value_4 {o : Nat} {p1 : Nat} (hA : A4 o) (hp1 : ob_is KS NN p1 (0, [6])) {Q : Int32 → ob_H → Prop} :
    ∀ (n : Nat) (x2 : Int32) (x3 : Int32) (h : ob_H), it3 (FX4_value_4 o p1 Q) n x2 x3 h → ob_J RX4 cX4_value 5 (ob_rm 2) false none 0 0 KS NN h 4 [(0, .ref o), (1, .ref p1), (2, .int x2), (3, .int x3)] [] (ob_g (some .int) (ob_qi Q)) := by
  intro n
  induction n with
  | zero => intro x2 x3 h y; exact False.elim y
  | succ n hk4 =>
    intro x2 x3 h y
    have y : FX4_value_4 o p1 Q (it3 (FX4_value_4 o p1 Q) n) x2 x3 h := y
    unfold FX4_value_4 at y
    refine oj_iload_n 3 dX4_value_4 rfl rfl ?_
    refine oj_aload_n 0 dX4_value_5 rfl rfl ?_
    refine oj_geti fl_RX4_13 (A4_0 hA) rfl dX4_value_6 ?_
    refine oj_icmp_ge 150 dX4_value_9 rfl (fun c1 => ?_) (fun c1 => ?_)
    · have y2 := y.1 c1
      refine oj_iload_n 2 dX4_value_150 rfl rfl ?_
      refine oj_if_le 163 dX4_value_151 rfl (fun c4 => ?_) (fun c4 => ?_)
      · have y5 := y2.1 c4
        refine oj_iconst dX4_value_163 ci_0 ?_
        exact oj_ret (r := some (.int (0))) ⟨trivial, rfl, rfl, (0), rfl, y5⟩ dX4_value_164 (Nat.zero_le _) (Nat.zero_le _)
      · have y6 := y2.2 c4
        refine oj_aload_n 0 dX4_value_154 rfl rfl ?_
        refine oj_getr (q := (o + 2)) fl_RX4_17 (A4_0 hA) rfl (A4_2 hA) dX4_value_155 ?_
        refine oj_iconst dX4_value_158 ci_0 ?_
        refine oj_iald (A4_2 hA) in_0_32 ix_0 dX4_value_159 ?_
        refine oj_goto 164 dX4_value_160 rfl ?_
        exact oj_ret (r := some (.int (h.1 (o + 2) 0))) ⟨trivial, rfl, rfl, (h.1 (o + 2) 0), rfl, y6⟩ dX4_value_164 (Nat.zero_le _) (Nat.zero_le _)
    · have y3 := y.2 c1
      refine oj_aload_n 0 dX4_value_12 rfl rfl ?_
      refine oj_getr (q := (o + 1)) fl_RX4_9 (A4_0 hA) rfl (A4_1 hA) dX4_value_13 ?_
      refine oj_iload_n 3 dX4_value_16 rfl rfl ?_
      obtain ⟨c7, y8⟩ := y3
      refine oj_iald (A4_1 hA) c7 rfl dX4_value_17 ?_
      refine oj_topi (fun v9 ev9 => ?_)
      have y10 := Lt_at y8 v9 ev9
      refine oj_istore (lv' := [(4, .int v9), (0, .ref o), (1, .ref p1), (2, .int x2), (3, .int x3)]) dX4_value_18 (by decide) rfl ?_
      refine oj_iload 0 dX4_value_20 rfl ?_
      refine oj_if_ge 34 dX4_value_22 rfl (fun c11 => ?_) (fun c11 => ?_)
      · have y12 := y10.1 c11
        refine oj_lv [1, 2, 3, 4, 0] rfl ?_
        exact BKX4_value_34 hA hp1 hk4 y12
      · have y13 := y10.2 c11
        refine oj_iload 0 dX4_value_25 rfl ?_
        refine oj_ineg dX4_value_27 ?_
        refine oc_Spi [.int (-v9)] mi_RX4_28 ow_691 (BX4_isFact  y13) ⟨by decide, by decide⟩ ⟨Nat.le_refl _, Nat.le_refl _⟩ rfl (Nat.le_of_ble_eq_true rfl) dX4_value_28 (fun r32 f34 y35 => ?_)
        refine oj_if_eq 70 dX4_value_31 rfl (fun c36 => ?_) (fun c36 => ?_)
        · have y37 := y35.1 c36
          refine oj_iload 0 dX4_value_70 rfl ?_
          refine oj_bipush dX4_value_72 cb_m119 ?_
          refine oj_icmp_ne 108 dX4_value_74 rfl (fun c39 => ?_) (fun c39 => ?_)
          · have y40 := y37.2 c39
            refine oj_iload_n 3 dX4_value_108 rfl rfl ?_
            refine oj_iconst dX4_value_109 ci_1 ?_
            refine oj_icmp_le 144 dX4_value_110 rfl (fun c42 => ?_) (fun c42 => ?_)
            · have y43 := y40.1 c42
              obtain ⟨v45, ev45⟩ : ∃ z : Int32, z = x3 + (1) := ⟨_, rfl⟩
              have y46 := Lt_at y43 v45 ev45
              refine oj_iinc (v := v45) (lv' := [(3, .int v45), (4, .int v9), (0, .ref o), (1, .ref p1), (2, .int x2)]) 4 dX4_value_144 rfl (iinc_e ci_1 ev45) (by decide) rfl ?_
              refine oj_goto 4 dX4_value_147 rfl ?_
              refine oj_lv [2, 3, 4, 0] rfl ?_
              exact hk4 _ _ _ y46
            · have y44 := y40.2 c42
              obtain ⟨v47, ev47⟩ : ∃ z : Int32, z = x2 + (-1) := ⟨_, rfl⟩
              have y48 := Lt_at y44 v47 ev47
              refine oj_iinc (v := v47) (lv' := [(2, .int v47), (4, .int v9), (0, .ref o), (1, .ref p1), (3, .int x3)]) 3 dX4_value_113 rfl (iinc_e ci_m1 ev47) (by decide) rfl ?_
              refine oj_aload_n 2 dX4_value_116 rfl rfl ?_
              refine oj_getr (q := (o + 2)) fl_RX4_17 (A4_0 hA) rfl (A4_2 hA) dX4_value_117 ?_
              refine oj_iload_n 0 dX4_value_120 rfl rfl ?_
              refine oj_iconst dX4_value_121 ci_1 ?_
              refine oj_isub dX4_value_122 ?_
              refine oj_iload 1 dX4_value_123 rfl ?_
              refine oj_ineg dX4_value_125 ?_
              refine oj_aload_n 2 dX4_value_126 rfl rfl ?_
              refine oj_getr (q := (o + 2)) fl_RX4_17 (A4_0 hA) rfl (A4_2 hA) dX4_value_127 ?_
              refine oj_iload_n 0 dX4_value_130 rfl rfl ?_
              refine oj_iconst dX4_value_131 ci_1 ?_
              refine oj_isub dX4_value_132 ?_
              obtain ⟨c49, y50⟩ := y48
              refine oj_iald (A4_2 hA) c49 rfl dX4_value_133 ?_
              refine oj_aload_n 2 dX4_value_134 rfl rfl ?_
              refine oj_getr (q := (o + 2)) fl_RX4_17 (A4_0 hA) rfl (A4_2 hA) dX4_value_135 ?_
              refine oj_iload_n 0 dX4_value_138 rfl rfl ?_
              obtain ⟨c51, y52⟩ := y50
              refine oj_iald (A4_2 hA) c51 rfl dX4_value_139 ?_
              refine oc_Spi [.int (-v9), .int (h.1 (o + 2) (ix (v47 - (1)))), .int (h.1 (o + 2) (ix v47))] mi_RX4_32 ow_781 (BX4_join  y52) ⟨by decide, by decide⟩ ⟨Nat.le_refl _, Nat.le_refl _⟩ rfl (Nat.le_of_ble_eq_true rfl) dX4_value_140 (fun r53 f55 y56 => ?_)
              refine oj_iast (A4_2 hA) c49 rfl dX4_value_143 ?_
              refine oj_toph (fun h57 eh57 => ?_)
              have y58 := Lt_at y56 h57 eh57
              obtain ⟨v59, ev59⟩ : ∃ z : Int32, z = x3 + (1) := ⟨_, rfl⟩
              have y60 := Lt_at y58 v59 ev59
              refine oj_iinc (v := v59) (lv' := [(3, .int v59), (2, .int v47), (4, .int v9), (0, .ref o), (1, .ref p1)]) 4 dX4_value_144 rfl (iinc_e ci_1 ev59) (by decide) rfl ?_
              refine oj_goto 4 dX4_value_147 rfl ?_
              refine oj_lv [3, 4, 1, 0] rfl ?_
              exact hk4 _ _ _ y60
          · have y41 := y37.1 c39
            refine oj_iload_n 3 dX4_value_77 rfl rfl ?_
            refine oj_if_le 144 dX4_value_78 rfl (fun c61 => ?_) (fun c61 => ?_)
            · have y62 := y41.1 c61
              obtain ⟨v64, ev64⟩ : ∃ z : Int32, z = x3 + (1) := ⟨_, rfl⟩
              have y65 := Lt_at y62 v64 ev64
              refine oj_iinc (v := v64) (lv' := [(3, .int v64), (4, .int v9), (0, .ref o), (1, .ref p1), (2, .int x2)]) 4 dX4_value_144 rfl (iinc_e ci_1 ev64) (by decide) rfl ?_
              refine oj_goto 4 dX4_value_147 rfl ?_
              refine oj_lv [2, 3, 4, 0] rfl ?_
              exact hk4 _ _ _ y65
            · have y63 := y41.2 c61
              refine oj_aload_n 1 dX4_value_81 rfl rfl ?_
              refine oj_getr (q := (o + 2)) fl_RX4_17 (A4_0 hA) rfl (A4_2 hA) dX4_value_82 ?_
              refine oj_iload_n 3 dX4_value_85 rfl rfl ?_
              refine oj_iconst dX4_value_86 ci_1 ?_
              refine oj_isub dX4_value_87 ?_
              refine oj_aload_n 1 dX4_value_88 rfl rfl ?_
              refine oj_getr (q := (o + 2)) fl_RX4_17 (A4_0 hA) rfl (A4_2 hA) dX4_value_89 ?_
              refine oj_iload_n 3 dX4_value_92 rfl rfl ?_
              refine oj_iconst dX4_value_93 ci_1 ?_
              refine oj_isub dX4_value_94 ?_
              obtain ⟨c66, y67⟩ := y63
              refine oj_iald (A4_2 hA) c66 rfl dX4_value_95 ?_
              refine oj_if_ne 103 dX4_value_96 rfl (fun c68 => ?_) (fun c68 => ?_)
              · have y69 := y67.2 c68
                refine oj_iconst dX4_value_103 ci_0 ?_
                refine oj_lv [1, 2, 3, 4] rfl ?_
                exact BKX4_value_104 hA hp1 hk4 y69
              · have y70 := y67.1 c68
                refine oj_iconst dX4_value_99 ci_1 ?_
                refine oj_goto 104 dX4_value_100 rfl ?_
                refine oj_lv [1, 2, 3, 4] rfl ?_
                exact BKX4_value_104 hA hp1 hk4 y70
        · have y38 := y35.2 c36
          refine oj_lv [1, 2, 3, 4, 0] rfl ?_
          exact BKX4_value_34 hA hp1 hk4 y38
set_option maxRecDepth 100000 in
set_option maxHeartbeats 4000000 in
theorem BX4_value  {o : Nat} {p1 : Nat} (hA : A4 o) (hp1 : ob_is KS NN p1 (0, [6])) {h : ob_H} {Q : Int32 → ob_H → Prop} (y : MX4_value  o p1 h Q) : ob_T yX4_value cX4_value 5 (some .int) (ob_rm 2) KS NN h [.ref o, .ref p1] (ob_g (some .int) (ob_qi Q)) := by
  unfold MX4_value at y
  refine ob_T_gf (by decide +kernel) (Nat.le_of_ble_eq_true rfl) ?_
  show ob_J RX4 cX4_value 5 (ob_rm 2) false none 0 0 KS NN h 0 [(0, .ref o), (1, .ref p1)] [] (ob_g (some .int) (ob_qi Q))
  refine oj_iconst dX4_value_0 ci_0 ?_
  refine oj_istore_n (lv' := [(2, .int (0)), (0, .ref o), (1, .ref p1)]) dX4_value_1 rfl (by decide) rfl ?_
  refine oj_iconst dX4_value_2 ci_0 ?_
  refine oj_istore_n (lv' := [(3, .int (0)), (2, .int (0)), (0, .ref o), (1, .ref p1)]) dX4_value_3 rfl (by decide) rfl ?_
  refine oj_lv [2, 3, 1, 0] rfl ?_
  obtain ⟨n, y77⟩ := y
  exact BLX4_value_4 hA hp1 n _ _ _ y77
-- X6_orderOf
set_option maxRecDepth 100000 in
set_option maxHeartbeats 4000000 in
theorem BX6_orderOf  {o : Nat} {p1 : Int32} {p2 : Int32} (hA : A6 o) {h : ob_H} {Q : Int32 → ob_H → Prop} (y : MX6_orderOf  o p1 p2 h Q) : ob_T yX6_orderOf cX6_orderOf 3 (some .int) (ob_rm 3) KS NN h [.ref o, .int p1, .int p2] (ob_g (some .int) (ob_qi Q)) := by
  unfold MX6_orderOf at y
  refine ob_T_gf (by decide +kernel) (Nat.le_of_ble_eq_true rfl) ?_
  show ob_J RX6 cX6_orderOf 3 (ob_rm 3) false none 0 0 KS NN h 0 [(0, .ref o), (1, .int p1), (2, .int p2)] [] (ob_g (some .int) (ob_qi Q))
  refine oj_aload_n 0 dX6_orderOf_0 rfl rfl ?_
  refine oj_iload_n 1 dX6_orderOf_1 rfl rfl ?_
  refine oj_iload_n 2 dX6_orderOf_2 rfl rfl ?_
  refine oc_Vv [.int p1, .int p2] mi_RX6_57 ow_771 op_21 rfl (A6_0 hA) (BX6_gather hA y) ⟨by decide, by decide⟩ ⟨Nat.le_refl _, Nat.le_refl _⟩ rfl (Nat.le_of_ble_eq_true rfl) dX6_orderOf_3 (fun h2 y4 => ?_)
  refine oj_aload_n 0 dX6_orderOf_6 rfl rfl ?_
  refine oj_getr (q := 20) fl_RX6_38 (A6_0 hA) rfl k_20 dX6_orderOf_7 ?_
  refine oj_getr (q := 28) fl_RX6_61 k_20 rfl k_28 dX6_orderOf_10 ?_
  refine oj_aload_n 0 dX6_orderOf_13 rfl rfl ?_
  refine oj_getr (q := (o + 4)) fl_RX6_35 (A6_0 hA) rfl (A6_4 hA) dX6_orderOf_14 ?_
  refine oc_Vi [.ref (o + 4)] mi_RX6_65 ow_776 ow_777 rfl k_28 (BX4_value AA4_28 (A6_4 hA) y4) ⟨by decide, by decide⟩ ⟨Nat.le_refl _, Nat.le_refl _⟩ rfl (Nat.le_of_ble_eq_true rfl) dX6_orderOf_17 (fun r5 f7 h6 y8 => ?_)
  exact oj_ret (r := some (.int r5)) ⟨trivial, rfl, rfl, r5, rfl, y8⟩ dX6_orderOf_20 (Nat.zero_le _) (Nat.zero_le _)
-- X11_ranks
set_option maxRecDepth 100000 in
set_option maxHeartbeats 4000000 in
theorem BX11_ranks  {p1 : Int32}  {h : ob_H} {Q : Int32 → ob_H → Prop} (y : MX11_ranks  p1 h Q) : ob_T yX11_ranks cX11_ranks 2 (some .int) (ob_rm 4) KS NN h [.ref 0, .int p1] (ob_g (some .int) (ob_qi Q)) := by
  unfold MX11_ranks at y
  refine ob_T_gf (by decide +kernel) (Nat.le_of_ble_eq_true rfl) ?_
  show ob_J RX11 cX11_ranks 2 (ob_rm 4) false none 0 0 KS NN h 0 [(0, .ref 0), (1, .int p1)] [] (ob_g (some .int) (ob_qi Q))
  refine oj_aload_n 0 dX11_ranks_0 rfl rfl ?_
  refine oj_iload_n 1 dX11_ranks_1 rfl rfl ?_
  refine oc_Vpi [.int p1] mi_RX11_169 ow_763 op_20 rfl k_0 (BX11_isWaiting  y) ⟨by decide, by decide⟩ ⟨Nat.le_refl _, Nat.le_refl _⟩ rfl (Nat.le_of_ble_eq_true rfl) dX11_ranks_2 (fun r1 f3 y4 => ?_)
  refine oj_if_eq 28 dX11_ranks_5 rfl (fun c5 => ?_) (fun c5 => ?_)
  · have y6 := y4.1 c5
    refine oj_ldc ow_783 dX11_ranks_28 ?_
    exact oj_ret (r := some (.int (-1000000000))) ⟨trivial, rfl, rfl, (-1000000000), rfl, y6⟩ dX11_ranks_30 (Nat.zero_le _) (Nat.zero_le _)
  · have y7 := y4.2 c5
    refine oj_aload_n 0 dX11_ranks_8 rfl rfl ?_
    refine oj_getr (q := 34) fl_RX11_37 k_0 rfl k_34 dX11_ranks_9 ?_
    refine oj_iload_n 1 dX11_ranks_12 rfl rfl ?_
    refine oj_aload_n 0 dX11_ranks_13 rfl rfl ?_
    refine oj_getr (q := 20) fl_RX11_28 k_0 rfl k_20 dX11_ranks_14 ?_
    refine oj_getr (q := 21) fl_RX11_145 k_20 rfl k_21 dX11_ranks_17 ?_
    refine oj_iload_n 1 dX11_ranks_20 rfl rfl ?_
    obtain ⟨c8, y9⟩ := y7
    refine oj_iald k_21 c8 rfl dX11_ranks_21 ?_
    refine oc_Vi [.int p1, .int (h.1 21 (ix p1))] mi_RX11_172 ow_766 ow_767 rfl k_34 (BX6_orderOf AA6_34 y9) ⟨by decide, by decide⟩ ⟨Nat.le_refl _, Nat.le_refl _⟩ rfl (Nat.le_of_ble_eq_true rfl) dX11_ranks_22 (fun r10 f12 h11 y13 => ?_)
    refine oj_goto 30 dX11_ranks_25 rfl ?_
    exact oj_ret (r := some (.int r10)) ⟨trivial, rfl, rfl, r10, rfl, y13⟩ dX11_ranks_30 (Nat.zero_le _) (Nat.zero_le _)
-- X6_turn
set_option maxRecDepth 100000 in
set_option maxHeartbeats 4000000 in
theorem BLX6_turn_6 {o : Nat} (hA : A6 o) {Q : Int32 → ob_H → Prop} :
    ∀ (n : Nat) (x1 : Int32) (x2 : Int32) (x3 : Int32) (h : ob_H), it4 (FX6_turn_6 o Q) n x1 x2 x3 h → ob_J RX6 cX6_turn 5 (ob_rm 3) false none 0 0 KS NN h 6 [(0, .ref o), (1, .int x1), (2, .int x2), (3, .int x3)] [] (ob_g (some .int) (ob_qi Q)) := by
  intro n
  induction n with
  | zero => intro x1 x2 x3 h y; exact False.elim y
  | succ n hk6 =>
    intro x1 x2 x3 h y
    have y : FX6_turn_6 o Q (it4 (FX6_turn_6 o Q) n) x1 x2 x3 h := y
    unfold FX6_turn_6 at y
    refine oj_iload_n 3 dX6_turn_6 rfl rfl ?_
    refine oj_aload_n 0 dX6_turn_7 rfl rfl ?_
    refine oj_getr (q := 20) fl_RX6_38 (A6_0 hA) rfl k_20 dX6_turn_8 ?_
    refine oj_geti fl_RX6_45 k_20 rfl dX6_turn_11 ?_
    refine oj_icmp_ge 97 dX6_turn_14 rfl (fun c1 => ?_) (fun c1 => ?_)
    · have y2 := y.1 c1
      refine oj_iload_n 1 dX6_turn_97 rfl rfl ?_
      exact oj_ret (r := some (.int x1)) ⟨trivial, rfl, rfl, x1, rfl, y2⟩ dX6_turn_98 (Nat.zero_le _) (Nat.zero_le _)
    · have y3 := y.2 c1
      refine oj_aload_n 0 dX6_turn_17 rfl rfl ?_
      refine oj_iload_n 3 dX6_turn_18 rfl rfl ?_
      refine oc_Vpi [.int x3] mi_RX6_87 ow_750 ow_751 rfl (A6_0 hA) (BX6_waits hA y3) ⟨by decide, by decide⟩ ⟨Nat.le_refl _, Nat.le_refl _⟩ rfl (Nat.le_of_ble_eq_true rfl) dX6_turn_19 (fun r4 f6 y7 => ?_)
      refine oj_if_eq 91 dX6_turn_22 rfl (fun c8 => ?_) (fun c8 => ?_)
      · have y9 := y7.1 c8
        obtain ⟨v11, ev11⟩ : ∃ z : Int32, z = x3 + (1) := ⟨_, rfl⟩
        have y12 := Lt_at y9 v11 ev11
        refine oj_iinc (v := v11) (lv' := [(3, .int v11), (0, .ref o), (1, .int x1), (2, .int x2)]) 3 dX6_turn_91 rfl (iinc_e ci_1 ev11) (by decide) rfl ?_
        refine oj_goto 6 dX6_turn_94 rfl ?_
        refine oj_lv [1, 2, 3, 0] rfl ?_
        exact hk6 _ _ _ _ y12
      · have y10 := y7.2 c8
        refine oj_aload_n 0 dX6_turn_25 rfl rfl ?_
        refine oj_iload_n 3 dX6_turn_26 rfl rfl ?_
        refine oj_aload_n 0 dX6_turn_27 rfl rfl ?_
        refine oj_getr (q := 20) fl_RX6_38 (A6_0 hA) rfl k_20 dX6_turn_28 ?_
        refine oj_getr (q := 21) fl_RX6_69 k_20 rfl k_21 dX6_turn_31 ?_
        refine oj_iload_n 3 dX6_turn_34 rfl rfl ?_
        obtain ⟨c13, y14⟩ := y10
        refine oj_iald k_21 c13 rfl dX6_turn_35 ?_
        refine oc_Vv [.int x3, .int (h.1 21 (ix x3))] mi_RX6_57 ow_771 op_21 rfl (A6_0 hA) (BX6_gather hA y14) ⟨by decide, by decide⟩ ⟨Nat.le_refl _, Nat.le_refl _⟩ rfl (Nat.le_of_ble_eq_true rfl) dX6_turn_36 (fun h16 y18 => ?_)
        refine oj_aload_n 0 dX6_turn_39 rfl rfl ?_
        refine oj_getr (q := 20) fl_RX6_38 (A6_0 hA) rfl k_20 dX6_turn_40 ?_
        refine oj_getr (q := 28) fl_RX6_61 k_20 rfl k_28 dX6_turn_43 ?_
        refine oj_aload_n 0 dX6_turn_46 rfl rfl ?_
        refine oj_getr (q := (o + 4)) fl_RX6_35 (A6_0 hA) rfl (A6_4 hA) dX6_turn_47 ?_
        refine oc_Vi [.ref (o + 4)] mi_RX6_65 ow_776 ow_777 rfl k_28 (BX4_value AA4_28 (A6_4 hA) y18) ⟨by decide, by decide⟩ ⟨Nat.le_refl _, Nat.le_refl _⟩ rfl (Nat.le_of_ble_eq_true rfl) dX6_turn_50 (fun r19 f21 h20 y22 => ?_)
        refine oj_istore (lv' := [(4, .int r19), (0, .ref o), (1, .int x1), (2, .int x2), (3, .int x3)]) dX6_turn_53 (by decide) rfl ?_
        refine oj_iload_n 2 dX6_turn_55 rfl rfl ?_
        refine oj_if_lt 86 dX6_turn_56 rfl (fun c23 => ?_) (fun c23 => ?_)
        · have y24 := y22.1 c23
          refine oj_iload_n 4 dX6_turn_86 rfl rfl ?_
          refine oj_istore_n (lv' := [(1, .int x3), (4, .int r19), (0, .ref o), (2, .int x2), (3, .int x3)]) dX6_turn_87 rfl (by decide) rfl ?_
          refine oj_iload 1 dX6_turn_88 rfl ?_
          refine oj_istore_n (lv' := [(2, .int r19), (1, .int x3), (4, .int r19), (0, .ref o), (3, .int x3)]) dX6_turn_90 rfl (by decide) rfl ?_
          obtain ⟨v26, ev26⟩ : ∃ z : Int32, z = x3 + (1) := ⟨_, rfl⟩
          have y27 := Lt_at y24 v26 ev26
          refine oj_iinc (v := v26) (lv' := [(3, .int v26), (2, .int r19), (1, .int x3), (4, .int r19), (0, .ref o)]) 4 dX6_turn_91 rfl (iinc_e ci_1 ev26) (by decide) rfl ?_
          refine oj_goto 6 dX6_turn_94 rfl ?_
          refine oj_lv [4, 2, 1, 0] rfl ?_
          exact hk6 _ _ _ _ y27
        · have y25 := y22.2 c23
          refine oj_iload 0 dX6_turn_59 rfl ?_
          refine oj_iload_n 3 dX6_turn_61 rfl rfl ?_
          refine oj_icmp_gt 86 dX6_turn_62 rfl (fun c28 => ?_) (fun c28 => ?_)
          · have y29 := y25.1 c28
            refine oj_iload_n 4 dX6_turn_86 rfl rfl ?_
            refine oj_istore_n (lv' := [(1, .int x3), (4, .int r19), (0, .ref o), (2, .int x2), (3, .int x3)]) dX6_turn_87 rfl (by decide) rfl ?_
            refine oj_iload 1 dX6_turn_88 rfl ?_
            refine oj_istore_n (lv' := [(2, .int r19), (1, .int x3), (4, .int r19), (0, .ref o), (3, .int x3)]) dX6_turn_90 rfl (by decide) rfl ?_
            obtain ⟨v31, ev31⟩ : ∃ z : Int32, z = x3 + (1) := ⟨_, rfl⟩
            have y32 := Lt_at y29 v31 ev31
            refine oj_iinc (v := v31) (lv' := [(3, .int v31), (2, .int r19), (1, .int x3), (4, .int r19), (0, .ref o)]) 4 dX6_turn_91 rfl (iinc_e ci_1 ev31) (by decide) rfl ?_
            refine oj_goto 6 dX6_turn_94 rfl ?_
            refine oj_lv [4, 2, 1, 0] rfl ?_
            exact hk6 _ _ _ _ y32
          · have y30 := y25.2 c28
            refine oj_iload 0 dX6_turn_65 rfl ?_
            refine oj_iload_n 3 dX6_turn_67 rfl rfl ?_
            refine oj_icmp_ne 91 dX6_turn_68 rfl (fun c33 => ?_) (fun c33 => ?_)
            · have y34 := y30.2 c33
              obtain ⟨v36, ev36⟩ : ∃ z : Int32, z = x3 + (1) := ⟨_, rfl⟩
              have y37 := Lt_at y34 v36 ev36
              refine oj_iinc (v := v36) (lv' := [(3, .int v36), (4, .int r19), (0, .ref o), (1, .int x1), (2, .int x2)]) 4 dX6_turn_91 rfl (iinc_e ci_1 ev36) (by decide) rfl ?_
              refine oj_goto 6 dX6_turn_94 rfl ?_
              refine oj_lv [2, 3, 4, 0] rfl ?_
              exact hk6 _ _ _ _ y37
            · have y35 := y30.1 c33
              refine oj_aload_n 1 dX6_turn_71 rfl rfl ?_
              refine oj_getr (q := (o + 2)) fl_RX6_17 (A6_0 hA) rfl (A6_2 hA) dX6_turn_72 ?_
              refine oj_iload_n 4 dX6_turn_75 rfl rfl ?_
              refine oj_iald (A6_2 hA) c13 rfl dX6_turn_76 ?_
              refine oj_aload_n 1 dX6_turn_77 rfl rfl ?_
              refine oj_getr (q := (o + 2)) fl_RX6_17 (A6_0 hA) rfl (A6_2 hA) dX6_turn_78 ?_
              refine oj_iload_n 2 dX6_turn_81 rfl rfl ?_
              obtain ⟨c38, y39⟩ := y35
              refine oj_iald (A6_2 hA) c38 rfl dX6_turn_82 ?_
              refine oj_icmp_ge 91 dX6_turn_83 rfl (fun c40 => ?_) (fun c40 => ?_)
              · have y41 := y39.1 c40
                obtain ⟨v43, ev43⟩ : ∃ z : Int32, z = x3 + (1) := ⟨_, rfl⟩
                have y44 := Lt_at y41 v43 ev43
                refine oj_iinc (v := v43) (lv' := [(3, .int v43), (4, .int r19), (0, .ref o), (1, .int x1), (2, .int x2)]) 4 dX6_turn_91 rfl (iinc_e ci_1 ev43) (by decide) rfl ?_
                refine oj_goto 6 dX6_turn_94 rfl ?_
                refine oj_lv [2, 3, 4, 0] rfl ?_
                exact hk6 _ _ _ _ y44
              · have y42 := y39.2 c40
                refine oj_iload_n 4 dX6_turn_86 rfl rfl ?_
                refine oj_istore_n (lv' := [(1, .int x3), (4, .int r19), (0, .ref o), (2, .int x2), (3, .int x3)]) dX6_turn_87 rfl (by decide) rfl ?_
                refine oj_iload 1 dX6_turn_88 rfl ?_
                refine oj_istore_n (lv' := [(2, .int r19), (1, .int x3), (4, .int r19), (0, .ref o), (3, .int x3)]) dX6_turn_90 rfl (by decide) rfl ?_
                obtain ⟨v45, ev45⟩ : ∃ z : Int32, z = x3 + (1) := ⟨_, rfl⟩
                have y46 := Lt_at y42 v45 ev45
                refine oj_iinc (v := v45) (lv' := [(3, .int v45), (2, .int r19), (1, .int x3), (4, .int r19), (0, .ref o)]) 4 dX6_turn_91 rfl (iinc_e ci_1 ev45) (by decide) rfl ?_
                refine oj_goto 6 dX6_turn_94 rfl ?_
                refine oj_lv [4, 2, 1, 0] rfl ?_
                exact hk6 _ _ _ _ y46
set_option maxRecDepth 100000 in
set_option maxHeartbeats 4000000 in
theorem BX6_turn  {o : Nat} (hA : A6 o) {h : ob_H} {Q : Int32 → ob_H → Prop} (y : MX6_turn  o h Q) : ob_T yX6_turn cX6_turn 5 (some .int) (ob_rm 3) KS NN h [.ref o] (ob_g (some .int) (ob_qi Q)) := by
  unfold MX6_turn at y
  refine ob_T_gf (by decide +kernel) (Nat.le_of_ble_eq_true rfl) ?_
  show ob_J RX6 cX6_turn 5 (ob_rm 3) false none 0 0 KS NN h 0 [(0, .ref o)] [] (ob_g (some .int) (ob_qi Q))
  refine oj_iconst dX6_turn_0 ci_m1 ?_
  refine oj_istore_n (lv' := [(1, .int (-1)), (0, .ref o)]) dX6_turn_1 rfl (by decide) rfl ?_
  refine oj_iconst dX6_turn_2 ci_0 ?_
  refine oj_istore_n (lv' := [(2, .int (0)), (1, .int (-1)), (0, .ref o)]) dX6_turn_3 rfl (by decide) rfl ?_
  refine oj_iconst dX6_turn_4 ci_0 ?_
  refine oj_istore_n (lv' := [(3, .int (0)), (2, .int (0)), (1, .int (-1)), (0, .ref o)]) dX6_turn_5 rfl (by decide) rfl ?_
  refine oj_lv [3, 2, 1, 0] rfl ?_
  obtain ⟨n, y47⟩ := y
  exact BLX6_turn_6 hA n _ _ _ _ y47
-- X1_rowOf
set_option maxRecDepth 100000 in
set_option maxHeartbeats 4000000 in
theorem BX1_rowOf  {p1 : Int32}  {h : ob_H} {Q : Int32 → Prop} (y : MX1_rowOf  p1 h Q) : ob_T yX1_rowOf cX1_rowOf 2 (some .int) (ob_rm 1) KS NN h [.ref 95, .int p1] (ob_g (some .int) (ob_pi h Q)) := by
  unfold MX1_rowOf at y
  refine ob_T_gf (by decide +kernel) (Nat.le_of_ble_eq_true rfl) ?_
  show ob_J RX1 cX1_rowOf 2 (ob_rm 1) false none 0 0 KS NN h 0 [(0, .ref 95), (1, .int p1)] [] (ob_g (some .int) (ob_pi h Q))
  refine oj_aload_n 0 dX1_rowOf_0 rfl rfl ?_
  refine oj_geti fl_RX1_24 k_95 rfl dX1_rowOf_1 ?_
  refine oj_iload_n 1 dX1_rowOf_4 rfl rfl ?_
  refine oj_iadd dX1_rowOf_5 ?_
  refine oj_bipush dX1_rowOf_6 cb_41 ?_
  refine oj_irem dX1_rowOf_8 nz_41 ?_
  refine oj_bipush dX1_rowOf_9 cb_24 ?_
  refine oj_imul dX1_rowOf_11 ?_
  exact oj_ret (r := some (.int ((irm ((h.1 95 4) + p1) (41)) * (24)))) ⟨trivial, rfl, rfl, rfl, ((irm ((h.1 95 4) + p1) (41)) * (24)), rfl, y⟩ dX1_rowOf_12 (Nat.zero_le _) (Nat.zero_le _)
-- X6_write
set_option maxRecDepth 100000 in
set_option maxHeartbeats 4000000 in
theorem BX6_write  {o : Nat} {p1 p1N : Nat} {p2 : Int32} (hA : A6 o) (hp1 : ob_is KS NN p1 (0, [p1N])) {h : ob_H} {Q : ob_H → Prop} (y : MX6_write  o p1 p1N p2 h Q) : ob_T yX6_write cX6_write 3 none (ob_rm 1) KS NN h [.ref o, .ref p1, .int p2] (ob_g none (ob_qv Q)) := by
  unfold MX6_write at y
  refine ob_T_gf (by decide +kernel) (Nat.le_of_ble_eq_true rfl) ?_
  show ob_J RX6 cX6_write 3 (ob_rm 1) false none 0 0 KS NN h 0 [(0, .ref o), (1, .ref p1), (2, .int p2)] [] (ob_g none (ob_qv Q))
  refine oj_iload_n 2 dX6_write_0 rfl rfl ?_
  refine oj_if_lt 13 dX6_write_1 rfl (fun c1 => ?_) (fun c1 => ?_)
  · have y2 := y.1 c1
    exact oj_ret (r := none) ⟨trivial, rfl, rfl, rfl, y2⟩ dX6_write_13 (Nat.zero_le _) (Nat.zero_le _)
  · have y3 := y.2 c1
    refine oj_iload_n 2 dX6_write_4 rfl rfl ?_
    refine oj_aload_n 1 dX6_write_5 rfl rfl ?_
    refine oj_alen hp1 (by decide) rfl dX6_write_6 ?_
    refine oj_bipush dX6_write_7 cb_24 ?_
    refine oj_isub dX6_write_9 ?_
    refine oj_icmp_le 14 dX6_write_10 rfl (fun c4 => ?_) (fun c4 => ?_)
    · have y5 := y3.1 c4
      refine oj_aload_n 0 dX6_write_14 rfl rfl ?_
      refine oj_getr (q := (o + 1)) fl_RX6_13 (A6_0 hA) rfl (A6_1 hA) dX6_write_15 ?_
      refine oj_iconst dX6_write_18 ci_0 ?_
      refine oj_aload_n 1 dX6_write_19 rfl rfl ?_
      refine oj_iload_n 2 dX6_write_20 rfl rfl ?_
      refine oj_bipush dX6_write_21 cb_7 ?_
      obtain ⟨c7, y8⟩ := y5
      obtain ⟨c9, y10⟩ := y8
      refine oj_copy (A6_1 hA) hp1 ow_805 ow_715 ow_714 ow_19 nn_0 c7 nn_7 ix_0 rfl ix_7 (by decide) c9 (by decide) (by decide) (Nat.le_of_ble_eq_true rfl) dX6_write_23 ?_
      refine oj_toph (fun h11 eh11 => ?_)
      have y12 := Lt_at y10 h11 eh11
      refine oj_aload_n 0 dX6_write_26 rfl rfl ?_
      refine oj_getr (q := (o + 2)) fl_RX6_17 (A6_0 hA) rfl (A6_2 hA) dX6_write_27 ?_
      refine oj_iconst dX6_write_30 ci_0 ?_
      refine oj_aload_n 1 dX6_write_31 rfl rfl ?_
      refine oj_iload_n 2 dX6_write_32 rfl rfl ?_
      refine oj_bipush dX6_write_33 cb_7 ?_
      refine oj_iadd dX6_write_35 ?_
      refine oj_bipush dX6_write_36 cb_7 ?_
      obtain ⟨c13, y14⟩ := y12
      obtain ⟨c15, y16⟩ := y14
      refine oj_copy (A6_2 hA) hp1 ow_805 ow_715 ow_714 ow_19 nn_0 c13 nn_7 ix_0 rfl ix_7 (by decide) c15 (by decide) (by decide) (Nat.le_of_ble_eq_true rfl) dX6_write_38 ?_
      refine oj_toph (fun h17 eh17 => ?_)
      have y18 := Lt_at y16 h17 eh17
      refine oj_aload_n 0 dX6_write_41 rfl rfl ?_
      refine oj_getr (q := (o + 3)) fl_RX6_20 (A6_0 hA) rfl (A6_3 hA) dX6_write_42 ?_
      refine oj_iconst dX6_write_45 ci_0 ?_
      refine oj_aload_n 1 dX6_write_46 rfl rfl ?_
      refine oj_iload_n 2 dX6_write_47 rfl rfl ?_
      refine oj_bipush dX6_write_48 cb_7 ?_
      refine oj_iadd dX6_write_50 ?_
      refine oj_bipush dX6_write_51 cb_7 ?_
      refine oj_iadd dX6_write_53 ?_
      refine oj_bipush dX6_write_54 cb_7 ?_
      obtain ⟨c19, y20⟩ := y18
      obtain ⟨c21, y22⟩ := y20
      refine oj_copy (A6_3 hA) hp1 ow_805 ow_715 ow_714 ow_19 nn_0 c19 nn_7 ix_0 rfl ix_7 (by decide) c21 (by decide) (by decide) (Nat.le_of_ble_eq_true rfl) dX6_write_56 ?_
      refine oj_toph (fun h23 eh23 => ?_)
      have y24 := Lt_at y22 h23 eh23
      refine oj_aload_n 1 dX6_write_59 rfl rfl ?_
      refine oj_iload_n 2 dX6_write_60 rfl rfl ?_
      refine oj_bipush dX6_write_61 cb_24 ?_
      refine oj_iadd dX6_write_63 ?_
      refine oj_iconst dX6_write_64 ci_3 ?_
      refine oj_isub dX6_write_65 ?_
      refine oj_aload_n 0 dX6_write_66 rfl rfl ?_
      refine oj_geti fl_RX6_23 (A6_0 hA) rfl dX6_write_67 ?_
      obtain ⟨c25, y26⟩ := y24
      refine oj_iast hp1 c25 rfl dX6_write_70 ?_
      refine oj_toph (fun h27 eh27 => ?_)
      have y28 := Lt_at y26 h27 eh27
      refine oj_aload_n 1 dX6_write_71 rfl rfl ?_
      refine oj_iload_n 2 dX6_write_72 rfl rfl ?_
      refine oj_bipush dX6_write_73 cb_24 ?_
      refine oj_iadd dX6_write_75 ?_
      refine oj_iconst dX6_write_76 ci_2 ?_
      refine oj_isub dX6_write_77 ?_
      refine oj_aload_n 0 dX6_write_78 rfl rfl ?_
      refine oj_geti fl_RX6_27 (A6_0 hA) rfl dX6_write_79 ?_
      obtain ⟨c29, y30⟩ := y28
      refine oj_iast hp1 c29 rfl dX6_write_82 ?_
      refine oj_toph (fun h31 eh31 => ?_)
      have y32 := Lt_at y30 h31 eh31
      refine oj_aload_n 1 dX6_write_83 rfl rfl ?_
      refine oj_iload_n 2 dX6_write_84 rfl rfl ?_
      refine oj_bipush dX6_write_85 cb_24 ?_
      refine oj_iadd dX6_write_87 ?_
      refine oj_iconst dX6_write_88 ci_1 ?_
      refine oj_isub dX6_write_89 ?_
      refine oj_aload_n 0 dX6_write_90 rfl rfl ?_
      refine oj_geti fl_RX6_30 (A6_0 hA) rfl dX6_write_91 ?_
      obtain ⟨c33, y34⟩ := y32
      refine oj_iast hp1 c33 rfl dX6_write_94 ?_
      refine oj_toph (fun h35 eh35 => ?_)
      have y36 := Lt_at y34 h35 eh35
      exact oj_ret (r := none) ⟨trivial, rfl, rfl, rfl, y36⟩ dX6_write_95 (Nat.zero_le _) (Nat.zero_le _)
    · have y6 := y3.2 c4
      exact oj_ret (r := none) ⟨trivial, rfl, rfl, rfl, y6⟩ dX6_write_13 (Nat.zero_le _) (Nat.zero_le _)
-- X1_keepAct
set_option maxRecDepth 100000 in
set_option maxHeartbeats 4000000 in
theorem BX1_keepAct    {h : ob_H} {Q : ob_H → Prop} (y : MX1_keepAct   h Q) : ob_T yX1_keepAct cX1_keepAct 1 none (ob_rm 2) KS NN h [.ref 95] (ob_g none (ob_qv Q)) := by
  unfold MX1_keepAct at y
  refine ob_T_gf (by decide +kernel) (Nat.le_of_ble_eq_true rfl) ?_
  show ob_J RX1 cX1_keepAct 1 (ob_rm 2) false none 0 0 KS NN h 0 [(0, .ref 95)] [] (ob_g none (ob_qv Q))
  refine oj_aload_n 0 dX1_keepAct_0 rfl rfl ?_
  refine oj_getr (q := 34) fl_RX1_33 k_95 rfl k_34 dX1_keepAct_1 ?_
  refine oj_aload_n 0 dX1_keepAct_4 rfl rfl ?_
  refine oj_getr (q := 96) fl_RX1_20 k_95 rfl k_96 dX1_keepAct_5 ?_
  refine oj_aload_n 0 dX1_keepAct_8 rfl rfl ?_
  refine oj_aload_n 0 dX1_keepAct_9 rfl rfl ?_
  refine oj_geti fl_RX1_11 k_95 rfl dX1_keepAct_10 ?_
  refine oc_Vpi [.int (h.1 95 0)] mi_RX1_37 ow_799 op_22 rfl k_95 (BX1_rowOf  y) ⟨by decide, by decide⟩ ⟨Nat.le_refl _, Nat.le_refl _⟩ rfl (Nat.le_of_ble_eq_true rfl) dX1_keepAct_13 (fun r1 f3 y4 => ?_)
  refine oc_Vv [.ref 96, .int r1] mi_RX1_41 ow_802 ow_803 rfl k_34 (BX6_write AA6_34 k_96 y4) ⟨by decide, by decide⟩ ⟨Nat.le_refl _, Nat.le_refl _⟩ rfl (Nat.le_of_ble_eq_true rfl) dX1_keepAct_16 (fun h6 y8 => ?_)
  refine oj_aload_n 0 dX1_keepAct_19 rfl rfl ?_
  refine oj_iconst dX1_keepAct_20 ci_0 ?_
  refine oj_puti fl_RX1_15 (Or.inl rfl) k_95 rfl rfl rfl dX1_keepAct_21 ?_
  refine oj_toph (fun h9 eh9 => ?_)
  have y10 := Lt_at y8 h9 eh9
  refine oj_aload_n 0 dX1_keepAct_24 rfl rfl ?_
  refine oj_geti fl_RX1_11 k_95 rfl dX1_keepAct_25 ?_
  refine oj_bipush dX1_keepAct_28 cb_40 ?_
  refine oj_icmp_ge 46 dX1_keepAct_30 rfl (fun c11 => ?_) (fun c11 => ?_)
  · have y12 := y10.1 c11
    refine oj_aload_n 0 dX1_keepAct_46 rfl rfl ?_
    refine oj_aload_n 0 dX1_keepAct_47 rfl rfl ?_
    refine oj_geti fl_RX1_24 k_95 rfl dX1_keepAct_48 ?_
    refine oj_iconst dX1_keepAct_51 ci_1 ?_
    refine oj_iadd dX1_keepAct_52 ?_
    refine oj_bipush dX1_keepAct_53 cb_41 ?_
    refine oj_irem dX1_keepAct_55 nz_41 ?_
    refine oj_puti fl_RX1_24 (Or.inl rfl) k_95 rfl rfl rfl dX1_keepAct_56 ?_
    refine oj_toph (fun h14 eh14 => ?_)
    have y15 := Lt_at y12 h14 eh14
    exact oj_ret (r := none) ⟨trivial, rfl, rfl, rfl, y15⟩ dX1_keepAct_59 (Nat.zero_le _) (Nat.zero_le _)
  · have y13 := y10.2 c11
    refine oj_aload_n 0 dX1_keepAct_33 rfl rfl ?_
    refine oj_dup dX1_keepAct_34 rfl ?_
    refine oj_geti fl_RX1_11 k_95 rfl dX1_keepAct_35 ?_
    refine oj_iconst dX1_keepAct_38 ci_1 ?_
    refine oj_iadd dX1_keepAct_39 ?_
    refine oj_puti fl_RX1_11 (Or.inl rfl) k_95 rfl rfl rfl dX1_keepAct_40 ?_
    refine oj_toph (fun h16 eh16 => ?_)
    have y17 := Lt_at y13 h16 eh16
    refine oj_goto 59 dX1_keepAct_43 rfl ?_
    exact oj_ret (r := none) ⟨trivial, rfl, rfl, rfl, y17⟩ dX1_keepAct_59 (Nat.zero_le _) (Nat.zero_le _)
-- X6_answerOf
set_option maxRecDepth 100000 in
set_option maxHeartbeats 4000000 in
theorem BX6_answerOf  {o : Nat} {p1 : Int32} (hA : A6 o) {h : ob_H} {Q : Int32 → ob_H → Prop} (y : MX6_answerOf  o p1 h Q) : ob_T yX6_answerOf cX6_answerOf 2 (some .int) (ob_rm 3) KS NN h [.ref o, .int p1] (ob_g (some .int) (ob_qi Q)) := by
  unfold MX6_answerOf at y
  refine ob_T_gf (by decide +kernel) (Nat.le_of_ble_eq_true rfl) ?_
  show ob_J RX6 cX6_answerOf 2 (ob_rm 3) false none 0 0 KS NN h 0 [(0, .ref o), (1, .int p1)] [] (ob_g (some .int) (ob_qi Q))
  refine oj_aload_n 0 dX6_answerOf_0 rfl rfl ?_
  refine oj_iload_n 1 dX6_answerOf_1 rfl rfl ?_
  refine oj_aload_n 0 dX6_answerOf_2 rfl rfl ?_
  refine oj_getr (q := 20) fl_RX6_38 (A6_0 hA) rfl k_20 dX6_answerOf_3 ?_
  refine oj_getr (q := 21) fl_RX6_69 k_20 rfl k_21 dX6_answerOf_6 ?_
  refine oj_iload_n 1 dX6_answerOf_9 rfl rfl ?_
  obtain ⟨c1, y2⟩ := y
  refine oj_iald k_21 c1 rfl dX6_answerOf_10 ?_
  refine oc_Vv [.int p1, .int (h.1 21 (ix p1))] mi_RX6_57 ow_771 op_21 rfl (A6_0 hA) (BX6_gather hA y2) ⟨by decide, by decide⟩ ⟨Nat.le_refl _, Nat.le_refl _⟩ rfl (Nat.le_of_ble_eq_true rfl) dX6_answerOf_11 (fun h4 y6 => ?_)
  refine oj_aload_n 0 dX6_answerOf_14 rfl rfl ?_
  refine oj_getr (q := 20) fl_RX6_38 (A6_0 hA) rfl k_20 dX6_answerOf_15 ?_
  refine oj_getr (q := 31) fl_RX6_72 k_20 rfl k_31 dX6_answerOf_18 ?_
  refine oj_aload_n 0 dX6_answerOf_21 rfl rfl ?_
  refine oj_getr (q := (o + 4)) fl_RX6_35 (A6_0 hA) rfl (A6_4 hA) dX6_answerOf_22 ?_
  refine oc_Vi [.ref (o + 4)] mi_RX6_65 ow_776 ow_777 rfl k_31 (BX4_value AA4_31 (A6_4 hA) y6) ⟨by decide, by decide⟩ ⟨Nat.le_refl _, Nat.le_refl _⟩ rfl (Nat.le_of_ble_eq_true rfl) dX6_answerOf_25 (fun r7 f9 h8 y10 => ?_)
  exact oj_ret (r := some (.int r7)) ⟨trivial, rfl, rfl, r7, rfl, y10⟩ dX6_answerOf_28 (Nat.zero_le _) (Nat.zero_le _)
-- X6_move
set_option maxRecDepth 100000 in
set_option maxHeartbeats 4000000 in
theorem BX6_move  {o : Nat} {p1 : Int32} {p2 : Int32} {p3 : Int32} (hA : A6 o) {h : ob_H} {Q : ob_H → Prop} (y : MX6_move  o p1 p2 p3 h Q) : ob_T yX6_move cX6_move 4 none (ob_rm 1) KS NN h [.ref o, .int p1, .int p2, .int p3] (ob_g none (ob_qv Q)) := by
  unfold MX6_move at y
  refine ob_T_gf (by decide +kernel) (Nat.le_of_ble_eq_true rfl) ?_
  show ob_J RX6 cX6_move 4 (ob_rm 1) false none 0 0 KS NN h 0 [(0, .ref o), (1, .int p1), (2, .int p2), (3, .int p3)] [] (ob_g none (ob_qv Q))
  refine oj_aload_n 0 dX6_move_0 rfl rfl ?_
  refine oj_getr (q := (o + 1)) fl_RX6_13 (A6_0 hA) rfl (A6_1 hA) dX6_move_1 ?_
  refine oj_iload_n 2 dX6_move_4 rfl rfl ?_
  refine oj_dup2 dX6_move_5 rfl rfl ?_
  obtain ⟨c1, y2⟩ := y
  refine oj_iald (A6_1 hA) c1 rfl dX6_move_6 ?_
  refine oj_iload_n 1 dX6_move_7 rfl rfl ?_
  refine oj_iconst dX6_move_8 ci_m1 ?_
  refine oj_ixor dX6_move_9 ?_
  refine oj_iand dX6_move_10 ?_
  refine oj_iast (A6_1 hA) c1 rfl dX6_move_11 ?_
  refine oj_toph (fun h3 eh3 => ?_)
  have y4 := Lt_at y2 h3 eh3
  refine oj_aload_n 0 dX6_move_12 rfl rfl ?_
  refine oj_getr (q := (o + 1)) fl_RX6_13 (A6_0 hA) rfl (A6_1 hA) dX6_move_13 ?_
  refine oj_iload_n 3 dX6_move_16 rfl rfl ?_
  refine oj_dup2 dX6_move_17 rfl rfl ?_
  obtain ⟨c5, y6⟩ := y4
  refine oj_iald (A6_1 hA) c5 rfl dX6_move_18 ?_
  refine oj_iload_n 1 dX6_move_19 rfl rfl ?_
  refine oj_ior dX6_move_20 ?_
  refine oj_iast (A6_1 hA) c5 rfl dX6_move_21 ?_
  refine oj_toph (fun h7 eh7 => ?_)
  have y8 := Lt_at y6 h7 eh7
  exact oj_ret (r := none) ⟨trivial, rfl, rfl, rfl, y8⟩ dX6_move_22 (Nat.zero_le _) (Nat.zero_le _)
-- X6_dismiss
set_option maxRecDepth 100000 in
set_option maxHeartbeats 4000000 in
theorem BLX6_dismiss_4 {o : Nat} (hA : A6 o) {h : ob_H} {Q : Int32 → ob_H → Prop} :
    ∀ (n : Nat) (x1 : Int32) (x2 : Int32), it2 (FX6_dismiss_4 o h Q) n x1 x2 → ob_J RX6 cX6_dismiss 3 (ob_rm 2) false none 0 0 KS NN h 4 [(0, .ref o), (1, .int x1), (2, .int x2)] [] (ob_g (some .int) (ob_qi Q)) := by
  intro n
  induction n with
  | zero => intro x1 x2 y; exact False.elim y
  | succ n hk4 =>
    intro x1 x2 y
    have y : FX6_dismiss_4 o h Q (it2 (FX6_dismiss_4 o h Q) n) x1 x2 := y
    unfold FX6_dismiss_4 at y
    refine oj_iload_n 2 dX6_dismiss_4 rfl rfl ?_
    refine oj_aload_n 0 dX6_dismiss_5 rfl rfl ?_
    refine oj_getr (q := 20) fl_RX6_38 (A6_0 hA) rfl k_20 dX6_dismiss_6 ?_
    refine oj_geti fl_RX6_45 k_20 rfl dX6_dismiss_9 ?_
    refine oj_icmp_ge 52 dX6_dismiss_12 rfl (fun c1 => ?_) (fun c1 => ?_)
    · have y2 := y.1 c1
      refine oj_aload_n 0 dX6_dismiss_52 rfl rfl ?_
      refine oj_iload_n 1 dX6_dismiss_53 rfl rfl ?_
      refine oj_iconst dX6_dismiss_54 ci_0 ?_
      refine oj_iconst dX6_dismiss_55 ci_4 ?_
      refine oc_Vv [.int x1, .int (0), .int (4)] mi_RX6_97 ow_819 ow_820 rfl (A6_0 hA) (BX6_move hA y2) ⟨by decide, by decide⟩ ⟨Nat.le_refl _, Nat.le_refl _⟩ rfl (Nat.le_of_ble_eq_true rfl) dX6_dismiss_56 (fun h5 y7 => ?_)
      refine oj_iload_n 1 dX6_dismiss_59 rfl rfl ?_
      refine oc_Spi [.int x1] mi_RX6_82 ow_660 (BJ6_bitCount_0f7a4  y7) ⟨by decide, by decide⟩ ⟨Nat.le_refl _, Nat.le_refl _⟩ rfl (Nat.le_of_ble_eq_true rfl) dX6_dismiss_60 (fun r8 f10 y11 => ?_)
      exact oj_ret (r := some (.int r8)) ⟨trivial, rfl, rfl, r8, rfl, y11⟩ dX6_dismiss_63 (Nat.zero_le _) (Nat.zero_le _)
    · have y3 := y.2 c1
      refine oj_aload_n 0 dX6_dismiss_15 rfl rfl ?_
      refine oj_iload_n 2 dX6_dismiss_16 rfl rfl ?_
      refine oc_Vpi [.int x2] mi_RX6_87 ow_750 ow_751 rfl (A6_0 hA) (BX6_waits hA y3) ⟨by decide, by decide⟩ ⟨Nat.le_refl _, Nat.le_refl _⟩ rfl (Nat.le_of_ble_eq_true rfl) dX6_dismiss_17 (fun r12 f14 y15 => ?_)
      refine oj_if_eq 46 dX6_dismiss_20 rfl (fun c16 => ?_) (fun c16 => ?_)
      · have y17 := y15.1 c16
        obtain ⟨v19, ev19⟩ : ∃ z : Int32, z = x2 + (1) := ⟨_, rfl⟩
        have y20 := Lt_at y17 v19 ev19
        refine oj_iinc (v := v19) (lv' := [(2, .int v19), (0, .ref o), (1, .int x1)]) 2 dX6_dismiss_46 rfl (iinc_e ci_1 ev19) (by decide) rfl ?_
        refine oj_goto 4 dX6_dismiss_49 rfl ?_
        refine oj_lv [1, 2, 0] rfl ?_
        exact hk4 _ _ y20
      · have y18 := y15.2 c16
        refine oj_aload_n 0 dX6_dismiss_23 rfl rfl ?_
        refine oj_iload_n 2 dX6_dismiss_24 rfl rfl ?_
        refine oc_Vpi [.int x2] mi_RX6_78 ow_754 ow_755 rfl (A6_0 hA) (BX6_waited hA y18) ⟨by decide, by decide⟩ ⟨Nat.le_refl _, Nat.le_refl _⟩ rfl (Nat.le_of_ble_eq_true rfl) dX6_dismiss_25 (fun r21 f23 y24 => ?_)
        refine oj_aload_n 0 dX6_dismiss_28 rfl rfl ?_
        refine oj_getr (q := 20) fl_RX6_38 (A6_0 hA) rfl k_20 dX6_dismiss_29 ?_
        refine oj_getr (q := 23) fl_RX6_111 k_20 rfl k_23 dX6_dismiss_32 ?_
        refine oj_iload_n 2 dX6_dismiss_35 rfl rfl ?_
        obtain ⟨c25, y26⟩ := y24
        refine oj_iald k_23 c25 rfl dX6_dismiss_36 ?_
        refine oj_icmp_le 46 dX6_dismiss_37 rfl (fun c27 => ?_) (fun c27 => ?_)
        · have y28 := y26.1 c27
          obtain ⟨v30, ev30⟩ : ∃ z : Int32, z = x2 + (1) := ⟨_, rfl⟩
          have y31 := Lt_at y28 v30 ev30
          refine oj_iinc (v := v30) (lv' := [(2, .int v30), (0, .ref o), (1, .int x1)]) 2 dX6_dismiss_46 rfl (iinc_e ci_1 ev30) (by decide) rfl ?_
          refine oj_goto 4 dX6_dismiss_49 rfl ?_
          refine oj_lv [1, 2, 0] rfl ?_
          exact hk4 _ _ y31
        · have y29 := y26.2 c27
          refine oj_iload_n 1 dX6_dismiss_40 rfl rfl ?_
          refine oj_iconst dX6_dismiss_41 ci_1 ?_
          refine oj_iload_n 2 dX6_dismiss_42 rfl rfl ?_
          refine oj_ishl dX6_dismiss_43 ?_
          refine oj_ior dX6_dismiss_44 ?_
          refine oj_topi (fun v32 ev32 => ?_)
          have y33 := Lt_at y29 v32 ev32
          refine oj_istore_n (lv' := [(1, .int v32), (0, .ref o), (2, .int x2)]) dX6_dismiss_45 rfl (by decide) rfl ?_
          obtain ⟨v34, ev34⟩ : ∃ z : Int32, z = x2 + (1) := ⟨_, rfl⟩
          have y35 := Lt_at y33 v34 ev34
          refine oj_iinc (v := v34) (lv' := [(2, .int v34), (1, .int v32), (0, .ref o)]) 2 dX6_dismiss_46 rfl (iinc_e ci_1 ev34) (by decide) rfl ?_
          refine oj_goto 4 dX6_dismiss_49 rfl ?_
          refine oj_lv [2, 1, 0] rfl ?_
          exact hk4 _ _ y35
set_option maxRecDepth 100000 in
set_option maxHeartbeats 4000000 in
theorem BX6_dismiss  {o : Nat} (hA : A6 o) {h : ob_H} {Q : Int32 → ob_H → Prop} (y : MX6_dismiss  o h Q) : ob_T yX6_dismiss cX6_dismiss 3 (some .int) (ob_rm 2) KS NN h [.ref o] (ob_g (some .int) (ob_qi Q)) := by
  unfold MX6_dismiss at y
  refine ob_T_gf (by decide +kernel) (Nat.le_of_ble_eq_true rfl) ?_
  show ob_J RX6 cX6_dismiss 3 (ob_rm 2) false none 0 0 KS NN h 0 [(0, .ref o)] [] (ob_g (some .int) (ob_qi Q))
  refine oj_iconst dX6_dismiss_0 ci_0 ?_
  refine oj_istore_n (lv' := [(1, .int (0)), (0, .ref o)]) dX6_dismiss_1 rfl (by decide) rfl ?_
  refine oj_iconst dX6_dismiss_2 ci_0 ?_
  refine oj_istore_n (lv' := [(2, .int (0)), (1, .int (0)), (0, .ref o)]) dX6_dismiss_3 rfl (by decide) rfl ?_
  refine oj_lv [2, 1, 0] rfl ?_
  obtain ⟨n, y36⟩ := y
  exact BLX6_dismiss_4 hA n _ _ y36
-- X6_hearAs
set_option maxRecDepth 100000 in
set_option maxHeartbeats 4000000 in
theorem BLX6_hearAs_78 {o : Nat} (hA : A6 o) {x3 : Int32} {Q : ob_H → Prop} :
    ∀ (n : Nat) (x4 : Int32) (h : ob_H), it2 (FX6_hearAs_78 o x3 Q) n x4 h → ob_J RX6 cX6_hearAs 5 (ob_rm 3) false none 0 0 KS NN h 78 [(0, .ref o), (3, .int x3), (4, .int x4)] [] (ob_g none (ob_qv Q)) := by
  intro n
  induction n with
  | zero => intro x4 h y; exact False.elim y
  | succ n hk78 =>
    intro x4 h y
    have y : FX6_hearAs_78 o x3 Q (it2 (FX6_hearAs_78 o x3 Q) n) x4 h := y
    unfold FX6_hearAs_78 at y
    refine oj_iload 2 dX6_hearAs_78 rfl ?_
    refine oj_aload_n 0 dX6_hearAs_80 rfl rfl ?_
    refine oj_getr (q := 20) fl_RX6_38 (A6_0 hA) rfl k_20 dX6_hearAs_81 ?_
    refine oj_geti fl_RX6_45 k_20 rfl dX6_hearAs_84 ?_
    refine oj_icmp_ge 116 dX6_hearAs_87 rfl (fun c19 => ?_) (fun c19 => ?_)
    · have y20 := y.1 c19
      refine oj_aload_n 0 dX6_hearAs_116 rfl rfl ?_
      refine oc_Vi [] mi_RX6_107 ow_824 op_23 rfl (A6_0 hA) (BX6_dismiss hA y20) ⟨by decide, by decide⟩ ⟨Nat.le_refl _, Nat.le_refl _⟩ rfl (Nat.le_of_ble_eq_true rfl) dX6_hearAs_117 (fun r22 f24 h23 y25 => ?_)
      refine oj_pop dX6_hearAs_120 rfl ?_
      exact oj_ret (r := none) ⟨trivial, rfl, rfl, rfl, y25⟩ dX6_hearAs_121 (Nat.zero_le _) (Nat.zero_le _)
    · have y21 := y.2 c19
      refine oj_iload_n 1 dX6_hearAs_90 rfl rfl ?_
      refine oj_iload 2 dX6_hearAs_91 rfl ?_
      refine oj_ishr dX6_hearAs_93 ?_
      refine oj_iconst dX6_hearAs_94 ci_1 ?_
      refine oj_iand dX6_hearAs_95 ?_
      refine oj_if_eq 110 dX6_hearAs_96 rfl (fun c26 => ?_) (fun c26 => ?_)
      · have y27 := y21.1 c26
        obtain ⟨v29, ev29⟩ : ∃ z : Int32, z = x4 + (1) := ⟨_, rfl⟩
        have y30 := Lt_at y27 v29 ev29
        refine oj_iinc (v := v29) (lv' := [(4, .int v29), (0, .ref o), (3, .int x3)]) 2 dX6_hearAs_110 rfl (iinc_e ci_1 ev29) (by decide) rfl ?_
        refine oj_goto 78 dX6_hearAs_113 rfl ?_
        refine oj_lv [1, 2, 0] rfl ?_
        exact hk78 _ _ y30
      · have y28 := y21.2 c26
        refine oj_aload_n 0 dX6_hearAs_99 rfl rfl ?_
        refine oj_getr (q := (o + 3)) fl_RX6_20 (A6_0 hA) rfl (A6_3 hA) dX6_hearAs_100 ?_
        refine oj_iload 2 dX6_hearAs_103 rfl ?_
        refine oj_aload_n 0 dX6_hearAs_105 rfl rfl ?_
        refine oj_geti fl_RX6_23 (A6_0 hA) rfl dX6_hearAs_106 ?_
        obtain ⟨c31, y32⟩ := y28
        refine oj_iast (A6_3 hA) c31 rfl dX6_hearAs_109 ?_
        refine oj_toph (fun h33 eh33 => ?_)
        have y34 := Lt_at y32 h33 eh33
        obtain ⟨v35, ev35⟩ : ∃ z : Int32, z = x4 + (1) := ⟨_, rfl⟩
        have y36 := Lt_at y34 v35 ev35
        refine oj_iinc (v := v35) (lv' := [(4, .int v35), (0, .ref o), (3, .int x3)]) 2 dX6_hearAs_110 rfl (iinc_e ci_1 ev35) (by decide) rfl ?_
        refine oj_goto 78 dX6_hearAs_113 rfl ?_
        refine oj_lv [1, 2, 0] rfl ?_
        exact hk78 _ _ y36
set_option maxRecDepth 100000 in
set_option maxHeartbeats 4000000 in
theorem BX6_hearAs  {o : Nat} {p1 : Int32} {p2 : Int32} (hA : A6 o) {h : ob_H} {Q : ob_H → Prop} (y : MX6_hearAs  o p1 p2 h Q) : ob_T yX6_hearAs cX6_hearAs 5 none (ob_rm 3) KS NN h [.ref o, .int p1, .int p2] (ob_g none (ob_qv Q)) := by
  unfold MX6_hearAs at y
  refine ob_T_gf (by decide +kernel) (Nat.le_of_ble_eq_true rfl) ?_
  show ob_J RX6 cX6_hearAs 5 (ob_rm 3) false none 0 0 KS NN h 0 [(0, .ref o), (1, .int p1), (2, .int p2)] [] (ob_g none (ob_qv Q))
  refine oj_aload_n 0 dX6_hearAs_0 rfl rfl ?_
  refine oj_iconst dX6_hearAs_1 ci_1 ?_
  refine oj_iload_n 1 dX6_hearAs_2 rfl rfl ?_
  refine oj_ishl dX6_hearAs_3 ?_
  refine oj_iconst dX6_hearAs_4 ci_0 ?_
  refine oj_iload_n 2 dX6_hearAs_5 rfl rfl ?_
  refine oc_Vv [.int ((1) <<< (p1 &&& 31)), .int (0), .int p2] mi_RX6_97 ow_819 ow_820 rfl (A6_0 hA) (BX6_move hA y) ⟨by decide, by decide⟩ ⟨Nat.le_refl _, Nat.le_refl _⟩ rfl (Nat.le_of_ble_eq_true rfl) dX6_hearAs_6 (fun h2 y4 => ?_)
  refine oj_aload_n 0 dX6_hearAs_9 rfl rfl ?_
  refine oj_dup dX6_hearAs_10 rfl ?_
  refine oj_geti fl_RX6_23 (A6_0 hA) rfl dX6_hearAs_11 ?_
  refine oj_aload_n 0 dX6_hearAs_14 rfl rfl ?_
  refine oj_getr (q := 20) fl_RX6_38 (A6_0 hA) rfl k_20 dX6_hearAs_15 ?_
  refine oj_getr (q := 22) fl_RX6_75 k_20 rfl k_22 dX6_hearAs_18 ?_
  refine oj_iload_n 1 dX6_hearAs_21 rfl rfl ?_
  obtain ⟨c5, y6⟩ := y4
  refine oj_iald k_22 c5 rfl dX6_hearAs_22 ?_
  refine oj_iadd dX6_hearAs_23 ?_
  refine oj_puti fl_RX6_23 (Or.inl rfl) (A6_0 hA) rfl rfl rfl dX6_hearAs_24 ?_
  refine oj_toph (fun h7 eh7 => ?_)
  have y8 := Lt_at y6 h7 eh7
  refine oj_aload_n 0 dX6_hearAs_27 rfl rfl ?_
  refine oj_aload_n 0 dX6_hearAs_28 rfl rfl ?_
  refine oj_getr (q := 20) fl_RX6_38 (A6_0 hA) rfl k_20 dX6_hearAs_29 ?_
  refine oj_getr (q := 25) fl_RX6_101 k_20 rfl k_25 dX6_hearAs_32 ?_
  refine oj_iload_n 1 dX6_hearAs_35 rfl rfl ?_
  refine oj_iald k_25 c5 rfl dX6_hearAs_36 ?_
  refine oj_aload_n 0 dX6_hearAs_37 rfl rfl ?_
  refine oj_getr (q := (o + 1)) fl_RX6_13 (A6_0 hA) rfl (A6_1 hA) dX6_hearAs_38 ?_
  refine oj_iconst dX6_hearAs_41 ci_0 ?_
  refine oj_iald (A6_1 hA) in_0_7 ix_0 dX6_hearAs_42 ?_
  refine oj_iand dX6_hearAs_43 ?_
  refine oj_iconst dX6_hearAs_44 ci_0 ?_
  refine oj_iconst dX6_hearAs_45 ci_3 ?_
  refine oc_Vv [.int ((h7.1 25 (ix p1)) &&& (h7.1 (o + 1) 0)), .int (0), .int (3)] mi_RX6_97 ow_819 ow_820 rfl (A6_0 hA) (BX6_move hA y8) ⟨by decide, by decide⟩ ⟨Nat.le_refl _, Nat.le_refl _⟩ rfl (Nat.le_of_ble_eq_true rfl) dX6_hearAs_46 (fun h10 y12 => ?_)
  refine oj_aload_n 0 dX6_hearAs_49 rfl rfl ?_
  refine oj_getr (q := 20) fl_RX6_38 (A6_0 hA) rfl k_20 dX6_hearAs_50 ?_
  refine oj_getr (q := 26) fl_RX6_104 k_20 rfl k_26 dX6_hearAs_53 ?_
  refine oj_iload_n 1 dX6_hearAs_56 rfl rfl ?_
  refine oj_iald k_26 c5 rfl dX6_hearAs_57 ?_
  refine oj_aload_n 0 dX6_hearAs_58 rfl rfl ?_
  refine oj_getr (q := (o + 1)) fl_RX6_13 (A6_0 hA) rfl (A6_1 hA) dX6_hearAs_59 ?_
  refine oj_bipush dX6_hearAs_62 cb_6 ?_
  refine oj_iald (A6_1 hA) in_6_7 ix_6 dX6_hearAs_64 ?_
  refine oj_iand dX6_hearAs_65 ?_
  refine oj_topi (fun v13 ev13 => ?_)
  have y14 := Lt_at y12 v13 ev13
  refine oj_istore_n (lv' := [(3, .int v13), (0, .ref o), (1, .int p1), (2, .int p2)]) dX6_hearAs_66 rfl (by decide) rfl ?_
  refine oj_aload_n 1 dX6_hearAs_67 rfl rfl ?_
  refine oj_iload_n 0 dX6_hearAs_68 rfl rfl ?_
  refine oj_bipush dX6_hearAs_69 cb_6 ?_
  refine oj_iconst dX6_hearAs_71 ci_0 ?_
  refine oc_Vv [.int v13, .int (6), .int (0)] mi_RX6_97 ow_819 ow_820 rfl (A6_0 hA) (BX6_move hA y14) ⟨by decide, by decide⟩ ⟨Nat.le_refl _, Nat.le_refl _⟩ rfl (Nat.le_of_ble_eq_true rfl) dX6_hearAs_72 (fun h16 y18 => ?_)
  refine oj_iconst dX6_hearAs_75 ci_0 ?_
  refine oj_istore (lv' := [(4, .int (0)), (3, .int v13), (0, .ref o), (1, .int p1), (2, .int p2)]) dX6_hearAs_76 (by decide) rfl ?_
  refine oj_lv [2, 1, 0] rfl ?_
  obtain ⟨n, y37⟩ := y18
  exact BLX6_hearAs_78 hA n _ _ y37
