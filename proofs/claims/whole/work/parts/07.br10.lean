-- X12_dusk
set_option maxRecDepth 100000 in
set_option maxHeartbeats 4000000 in
theorem BX12_dusk    {h : ob_H} {Q : Int32 → ob_H → Prop} (y : MX12_dusk   h Q) : ob_T yX12_dusk cX12_dusk 1 (some .int) (ob_rm 8) KS NN h [.ref 108] (ob_g (some .int) (ob_qi Q)) := by
  unfold MX12_dusk at y
  refine ob_T_gf (by decide +kernel) (Nat.le_of_ble_eq_true rfl) ?_
  show ob_J RX12 cX12_dusk 1 (ob_rm 8) false none 0 0 KS NN h 0 [(0, .ref 108)] [] (ob_g (some .int) (ob_qi Q))
  refine oj_aload_n 0 dX12_dusk_0 rfl rfl ?_
  refine oc_Vi [] mi_RX12_473 ow_1736 op_88 rfl k_108 (BX12_duskNow  y) ⟨by decide, by decide⟩ ⟨Nat.le_refl _, Nat.le_refl _⟩ rfl (Nat.le_of_ble_eq_true rfl) dX12_dusk_1 (fun r1 f3 h2 y4 => ?_)
  exact oj_ret (r := some (.int r1)) ⟨trivial, rfl, rfl, r1, rfl, y4⟩ dX12_dusk_4 (Nat.zero_le _) (Nat.zero_le _)
-- X12_when
set_option maxRecDepth 100000 in
set_option maxHeartbeats 4000000 in
theorem BLX12_when_17 {x1 : Int32} {h : ob_H} {Q : Int32 → ob_H → Prop} :
    ∀ (n : Nat) (x2 : Int32), it1 (FX12_when_17 x1 h Q) n x2 → ob_J RX12 cX12_when 3 (ob_rm 8) false none 0 0 KS NN h 17 [(0, .ref 108), (1, .int x1), (2, .int x2)] [] (ob_g (some .int) (ob_qi Q)) := by
  intro n
  induction n with
  | zero => intro x2 y; exact False.elim y
  | succ n hk17 =>
    intro x2 y
    have y : FX12_when_17 x1 h Q (it1 (FX12_when_17 x1 h Q) n) x2 := y
    unfold FX12_when_17 at y
    refine oj_iload_n 2 dX12_when_17 rfl rfl ?_
    refine oj_aload_n 0 dX12_when_18 rfl rfl ?_
    refine oj_geti fl_RX12_436 k_108 rfl dX12_when_19 ?_
    refine oj_icmp_ge 48 dX12_when_22 rfl (fun c12 => ?_) (fun c12 => ?_)
    · have y13 := y.1 c12
      refine oj_iconst dX12_when_48 ci_m1 ?_
      exact oj_ret (r := some (.int (-1))) ⟨trivial, rfl, rfl, (-1), rfl, y13⟩ dX12_when_49 (Nat.zero_le _) (Nat.zero_le _)
    · have y14 := y.2 c12
      refine oj_aload_n 0 dX12_when_25 rfl rfl ?_
      refine oj_getr (q := 137) fl_RX12_103 k_108 rfl k_137 dX12_when_26 ?_
      refine oj_iload_n 2 dX12_when_29 rfl rfl ?_
      obtain ⟨c15, y16⟩ := y14
      refine oj_iald k_137 c15 rfl dX12_when_30 ?_
      refine oj_iload_n 1 dX12_when_31 rfl rfl ?_
      refine oj_icmp_ne 42 dX12_when_32 rfl (fun c17 => ?_) (fun c17 => ?_)
      · have y18 := y16.2 c17
        obtain ⟨v20, ev20⟩ : ∃ z : Int32, z = x2 + (1) := ⟨_, rfl⟩
        have y21 := Lt_at y18 v20 ev20
        refine oj_iinc (v := v20) (lv' := [(2, .int v20), (0, .ref 108), (1, .int x1)]) 2 dX12_when_42 rfl (iinc_e ci_1 ev20) (by decide) rfl ?_
        refine oj_goto 17 dX12_when_45 rfl ?_
        refine oj_lv [1, 2, 0] rfl ?_
        exact hk17 _ y21
      · have y19 := y16.1 c17
        refine oj_aload_n 0 dX12_when_35 rfl rfl ?_
        refine oj_getr (q := 138) fl_RX12_106 k_108 rfl k_138 dX12_when_36 ?_
        refine oj_iload_n 2 dX12_when_39 rfl rfl ?_
        refine oj_iald k_138 c15 rfl dX12_when_40 ?_
        exact oj_ret (r := some (.int (h.1 138 (ix x2)))) ⟨trivial, rfl, rfl, (h.1 138 (ix x2)), rfl, y19⟩ dX12_when_41 (Nat.zero_le _) (Nat.zero_le _)
set_option maxRecDepth 100000 in
set_option maxHeartbeats 4000000 in
theorem BX12_when  {p1 : Int32}  {h : ob_H} {Q : Int32 → ob_H → Prop} (y : MX12_when  p1 h Q) : ob_T yX12_when cX12_when 3 (some .int) (ob_rm 8) KS NN h [.ref 108, .int p1] (ob_g (some .int) (ob_qi Q)) := by
  unfold MX12_when at y
  refine ob_T_gf (by decide +kernel) (Nat.le_of_ble_eq_true rfl) ?_
  show ob_J RX12 cX12_when 3 (ob_rm 8) false none 0 0 KS NN h 0 [(0, .ref 108), (1, .int p1)] [] (ob_g (some .int) (ob_qi Q))
  refine oj_aload_n 0 dX12_when_0 rfl rfl ?_
  refine oj_iload_n 1 dX12_when_1 rfl rfl ?_
  refine oc_Vpi [.int p1] mi_RX12_451 ow_1629 op_73 rfl k_108 (BX12_isOne  y) ⟨by decide, by decide⟩ ⟨Nat.le_refl _, Nat.le_refl _⟩ rfl (Nat.le_of_ble_eq_true rfl) dX12_when_2 (fun r1 f3 y4 => ?_)
  refine oj_if_ne 10 dX12_when_5 rfl (fun c5 => ?_) (fun c5 => ?_)
  · have y6 := y4.2 c5
    refine oj_aload_n 0 dX12_when_10 rfl rfl ?_
    refine oc_Vi [] mi_RX12_473 ow_1736 op_88 rfl k_108 (BX12_duskNow  y6) ⟨by decide, by decide⟩ ⟨Nat.le_refl _, Nat.le_refl _⟩ rfl (Nat.le_of_ble_eq_true rfl) dX12_when_11 (fun r8 f10 h9 y11 => ?_)
    refine oj_pop dX12_when_14 rfl ?_
    refine oj_iconst dX12_when_15 ci_0 ?_
    refine oj_istore_n (lv' := [(2, .int (0)), (0, .ref 108), (1, .int p1)]) dX12_when_16 rfl (by decide) rfl ?_
    refine oj_lv [1, 2, 0] rfl ?_
    obtain ⟨n, y22⟩ := y11
    exact BLX12_when_17  n _ y22
  · have y7 := y4.1 c5
    refine oj_iconst dX12_when_8 ci_m1 ?_
    exact oj_ret (r := some (.int (-1))) ⟨trivial, rfl, rfl, (-1), rfl, y7⟩ dX12_when_9 (Nat.zero_le _) (Nat.zero_le _)
-- X12_course
set_option maxRecDepth 100000 in
set_option maxHeartbeats 4000000 in
theorem BLX12_course_7 {Q : Int32 → ob_H → Prop} :
    ∀ (n : Nat) (x1 : Int32) (h : ob_H), it2 (FX12_course_7 Q) n x1 h → ob_J RX12 cX12_course 2 (ob_rm 8) false none 0 0 KS NN h 7 [(0, .ref 108), (1, .int x1)] [] (ob_g (some .int) (ob_qi Q)) := by
  intro n
  induction n with
  | zero => intro x1 h y; exact False.elim y
  | succ n hk7 =>
    intro x1 h y
    have y : FX12_course_7 Q (it2 (FX12_course_7 Q) n) x1 h := y
    unfold FX12_course_7 at y
    refine oj_iload_n 1 dX12_course_7 rfl rfl ?_
    refine oj_aload_n 0 dX12_course_8 rfl rfl ?_
    refine oj_geti fl_RX12_436 k_108 rfl dX12_course_9 ?_
    refine oj_icmp_ge 33 dX12_course_12 rfl (fun c5 => ?_) (fun c5 => ?_)
    · have y6 := y.1 c5
      refine oj_aload_n 0 dX12_course_33 rfl rfl ?_
      refine oj_aload_n 0 dX12_course_34 rfl rfl ?_
      refine oj_geti fl_RX12_436 k_108 rfl dX12_course_35 ?_
      refine oj_puti fl_RX12_415 (Or.inl rfl) k_108 rfl rfl rfl dX12_course_38 ?_
      refine oj_toph (fun h8 eh8 => ?_)
      have y9 := Lt_at y6 h8 eh8
      refine oj_aload_n 0 dX12_course_41 rfl rfl ?_
      refine oj_geti fl_RX12_436 k_108 rfl dX12_course_42 ?_
      exact oj_ret (r := some (.int (h8.1 108 57))) ⟨trivial, rfl, rfl, (h8.1 108 57), rfl, y9⟩ dX12_course_45 (Nat.zero_le _) (Nat.zero_le _)
    · have y7 := y.2 c5
      refine oj_aload_n 0 dX12_course_15 rfl rfl ?_
      refine oj_getr (q := 140) fl_RX12_112 k_108 rfl k_140 dX12_course_16 ?_
      refine oj_iload_n 1 dX12_course_19 rfl rfl ?_
      refine oj_aload_n 0 dX12_course_20 rfl rfl ?_
      refine oj_getr (q := 137) fl_RX12_103 k_108 rfl k_137 dX12_course_21 ?_
      refine oj_iload_n 1 dX12_course_24 rfl rfl ?_
      obtain ⟨c10, y11⟩ := y7
      refine oj_iald k_137 c10 rfl dX12_course_25 ?_
      refine oj_iast k_140 c10 rfl dX12_course_26 ?_
      refine oj_toph (fun h12 eh12 => ?_)
      have y13 := Lt_at y11 h12 eh12
      obtain ⟨v14, ev14⟩ : ∃ z : Int32, z = x1 + (1) := ⟨_, rfl⟩
      have y15 := Lt_at y13 v14 ev14
      refine oj_iinc (v := v14) (lv' := [(1, .int v14), (0, .ref 108)]) 1 dX12_course_27 rfl (iinc_e ci_1 ev14) (by decide) rfl ?_
      refine oj_goto 7 dX12_course_30 rfl ?_
      refine oj_lv [1, 0] rfl ?_
      exact hk7 _ _ y15
set_option maxRecDepth 100000 in
set_option maxHeartbeats 4000000 in
theorem BX12_course    {h : ob_H} {Q : Int32 → ob_H → Prop} (y : MX12_course   h Q) : ob_T yX12_course cX12_course 2 (some .int) (ob_rm 8) KS NN h [.ref 108] (ob_g (some .int) (ob_qi Q)) := by
  unfold MX12_course at y
  refine ob_T_gf (by decide +kernel) (Nat.le_of_ble_eq_true rfl) ?_
  show ob_J RX12 cX12_course 2 (ob_rm 8) false none 0 0 KS NN h 0 [(0, .ref 108)] [] (ob_g (some .int) (ob_qi Q))
  refine oj_aload_n 0 dX12_course_0 rfl rfl ?_
  refine oc_Vi [] mi_RX12_473 ow_1736 op_88 rfl k_108 (BX12_duskNow  y) ⟨by decide, by decide⟩ ⟨Nat.le_refl _, Nat.le_refl _⟩ rfl (Nat.le_of_ble_eq_true rfl) dX12_course_1 (fun r1 f3 h2 y4 => ?_)
  refine oj_pop dX12_course_4 rfl ?_
  refine oj_iconst dX12_course_5 ci_0 ?_
  refine oj_istore_n (lv' := [(1, .int (0)), (0, .ref 108)]) dX12_course_6 rfl (by decide) rfl ?_
  refine oj_lv [1, 0] rfl ?_
  obtain ⟨n, y16⟩ := y4
  exact BLX12_course_7  n _ _ y16
-- X12_leavers
set_option maxRecDepth 100000 in
set_option maxHeartbeats 4000000 in
theorem BX12_leavers    {h : ob_H} {Q : Int32 → ob_H → Prop} (y : MX12_leavers   h Q) : ob_T yX12_leavers cX12_leavers 2 (some .int) (ob_rm 7) KS NN h [.ref 108] (ob_g (some .int) (ob_qi Q)) := by
  unfold MX12_leavers at y
  refine ob_T_gf (by decide +kernel) (Nat.le_of_ble_eq_true rfl) ?_
  show ob_J RX12 cX12_leavers 2 (ob_rm 7) false none 0 0 KS NN h 0 [(0, .ref 108)] [] (ob_g (some .int) (ob_qi Q))
  refine oj_aload_n 0 dX12_leavers_0 rfl rfl ?_
  refine oc_Vv [] mi_RX12_445 ow_1640 op_74 rfl k_108 (BX12_load  y) ⟨by decide, by decide⟩ ⟨Nat.le_refl _, Nat.le_refl _⟩ rfl (Nat.le_of_ble_eq_true rfl) dX12_leavers_1 (fun h2 y4 => ?_)
  refine oj_aload_n 0 dX12_leavers_4 rfl rfl ?_
  refine oj_iconst dX12_leavers_5 ci_0 ?_
  refine oc_Vpi [.int (0)] mi_RX12_470 ow_1728 op_87 rfl k_108 (BX12_thatAre  y4) ⟨by decide, by decide⟩ ⟨Nat.le_refl _, Nat.le_refl _⟩ rfl (Nat.le_of_ble_eq_true rfl) dX12_leavers_6 (fun r5 f7 y8 => ?_)
  refine oj_istore_n (lv' := [(1, .int r5), (0, .ref 108)]) dX12_leavers_9 rfl (by decide) rfl ?_
  refine oj_aload_n 1 dX12_leavers_10 rfl rfl ?_
  refine oc_Vi [] mi_RX12_448 ow_1740 op_89 rfl k_108 (BX12_goOn  y8) ⟨by decide, by decide⟩ ⟨Nat.le_refl _, Nat.le_refl _⟩ rfl (Nat.le_of_ble_eq_true rfl) dX12_leavers_11 (fun r9 f11 h10 y12 => ?_)
  refine oj_pop dX12_leavers_14 rfl ?_
  refine oj_iload_n 0 dX12_leavers_15 rfl rfl ?_
  refine oj_aload_n 1 dX12_leavers_16 rfl rfl ?_
  refine oj_iconst dX12_leavers_17 ci_4 ?_
  refine oc_Vpi [.int (4)] mi_RX12_470 ow_1728 op_87 rfl k_108 (BX12_thatAre  y12) ⟨by decide, by decide⟩ ⟨Nat.le_refl _, Nat.le_refl _⟩ rfl (Nat.le_of_ble_eq_true rfl) dX12_leavers_18 (fun r13 f15 y16 => ?_)
  refine oj_iand dX12_leavers_21 ?_
  exact oj_ret (r := some (.int (r5 &&& r13))) ⟨trivial, rfl, rfl, (r5 &&& r13), rfl, y16⟩ dX12_leavers_22 (Nat.zero_le _) (Nat.zero_le _)
-- X12_putAhead
set_option maxRecDepth 100000 in
set_option maxHeartbeats 4000000 in
theorem BLX12_putAhead_2 {x1 : Int32} {Q : ob_H → Prop} :
    ∀ (n : Nat) (x2 : Int32) (h : ob_H), it2 (FX12_putAhead_2 x1 Q) n x2 h → ob_J RX12 cX12_putAhead 3 (ob_rm 1) false none 0 0 KS NN h 2 [(0, .ref 108), (1, .int x1), (2, .int x2)] [] (ob_g none (ob_qv Q)) := by
  intro n
  induction n with
  | zero => intro x2 h y; exact False.elim y
  | succ n hk2 =>
    intro x2 h y
    have y : FX12_putAhead_2 x1 Q (it2 (FX12_putAhead_2 x1 Q) n) x2 h := y
    unfold FX12_putAhead_2 at y
    refine oj_iload_n 2 dX12_putAhead_2 rfl rfl ?_
    refine oj_bipush dX12_putAhead_3 cb_24 ?_
    refine oj_icmp_ge 31 dX12_putAhead_5 rfl (fun c1 => ?_) (fun c1 => ?_)
    · have y2 := y.1 c1
      exact oj_ret (r := none) ⟨trivial, rfl, rfl, rfl, y2⟩ dX12_putAhead_31 (Nat.zero_le _) (Nat.zero_le _)
    · have y3 := y.2 c1
      refine oj_aload_n 0 dX12_putAhead_8 rfl rfl ?_
      refine oj_getr (q := 142) fl_RX12_118 k_108 rfl k_142 dX12_putAhead_9 ?_
      refine oj_bipush dX12_putAhead_12 cb_24 ?_
      refine oj_iload_n 1 dX12_putAhead_14 rfl rfl ?_
      refine oj_imul dX12_putAhead_15 ?_
      refine oj_iload_n 2 dX12_putAhead_16 rfl rfl ?_
      refine oj_iadd dX12_putAhead_17 ?_
      refine oj_aload_n 0 dX12_putAhead_18 rfl rfl ?_
      refine oj_getr (q := 136) fl_RX12_100 k_108 rfl k_136 dX12_putAhead_19 ?_
      refine oj_iload_n 2 dX12_putAhead_22 rfl rfl ?_
      obtain ⟨c4, y5⟩ := y3
      refine oj_iald k_136 c4 rfl dX12_putAhead_23 ?_
      obtain ⟨c6, y7⟩ := y5
      refine oj_iast k_142 c6 rfl dX12_putAhead_24 ?_
      refine oj_toph (fun h8 eh8 => ?_)
      have y9 := Lt_at y7 h8 eh8
      obtain ⟨v10, ev10⟩ : ∃ z : Int32, z = x2 + (1) := ⟨_, rfl⟩
      have y11 := Lt_at y9 v10 ev10
      refine oj_iinc (v := v10) (lv' := [(2, .int v10), (0, .ref 108), (1, .int x1)]) 2 dX12_putAhead_25 rfl (iinc_e ci_1 ev10) (by decide) rfl ?_
      refine oj_goto 2 dX12_putAhead_28 rfl ?_
      refine oj_lv [1, 2, 0] rfl ?_
      exact hk2 _ _ y11
set_option maxRecDepth 100000 in
set_option maxHeartbeats 4000000 in
theorem BX12_putAhead  {p1 : Int32}  {h : ob_H} {Q : ob_H → Prop} (y : MX12_putAhead  p1 h Q) : ob_T yX12_putAhead cX12_putAhead 3 none (ob_rm 1) KS NN h [.ref 108, .int p1] (ob_g none (ob_qv Q)) := by
  unfold MX12_putAhead at y
  refine ob_T_gf (by decide +kernel) (Nat.le_of_ble_eq_true rfl) ?_
  show ob_J RX12 cX12_putAhead 3 (ob_rm 1) false none 0 0 KS NN h 0 [(0, .ref 108), (1, .int p1)] [] (ob_g none (ob_qv Q))
  refine oj_iconst dX12_putAhead_0 ci_0 ?_
  refine oj_istore_n (lv' := [(2, .int (0)), (0, .ref 108), (1, .int p1)]) dX12_putAhead_1 rfl (by decide) rfl ?_
  refine oj_lv [1, 2, 0] rfl ?_
  obtain ⟨n, y12⟩ := y
  exact BLX12_putAhead_2  n _ _ y12
-- X12_takeAhead
set_option maxRecDepth 100000 in
set_option maxHeartbeats 4000000 in
theorem BLX12_takeAhead_2 {x1 : Int32} {Q : ob_H → Prop} :
    ∀ (n : Nat) (x2 : Int32) (h : ob_H), it2 (FX12_takeAhead_2 x1 Q) n x2 h → ob_J RX12 cX12_takeAhead 3 (ob_rm 1) false none 0 0 KS NN h 2 [(0, .ref 108), (1, .int x1), (2, .int x2)] [] (ob_g none (ob_qv Q)) := by
  intro n
  induction n with
  | zero => intro x2 h y; exact False.elim y
  | succ n hk2 =>
    intro x2 h y
    have y : FX12_takeAhead_2 x1 Q (it2 (FX12_takeAhead_2 x1 Q) n) x2 h := y
    unfold FX12_takeAhead_2 at y
    refine oj_iload_n 2 dX12_takeAhead_2 rfl rfl ?_
    refine oj_bipush dX12_takeAhead_3 cb_24 ?_
    refine oj_icmp_ge 31 dX12_takeAhead_5 rfl (fun c1 => ?_) (fun c1 => ?_)
    · have y2 := y.1 c1
      exact oj_ret (r := none) ⟨trivial, rfl, rfl, rfl, y2⟩ dX12_takeAhead_31 (Nat.zero_le _) (Nat.zero_le _)
    · have y3 := y.2 c1
      refine oj_aload_n 0 dX12_takeAhead_8 rfl rfl ?_
      refine oj_getr (q := 136) fl_RX12_100 k_108 rfl k_136 dX12_takeAhead_9 ?_
      refine oj_iload_n 2 dX12_takeAhead_12 rfl rfl ?_
      refine oj_aload_n 0 dX12_takeAhead_13 rfl rfl ?_
      refine oj_getr (q := 142) fl_RX12_118 k_108 rfl k_142 dX12_takeAhead_14 ?_
      refine oj_bipush dX12_takeAhead_17 cb_24 ?_
      refine oj_iload_n 1 dX12_takeAhead_19 rfl rfl ?_
      refine oj_imul dX12_takeAhead_20 ?_
      refine oj_iload_n 2 dX12_takeAhead_21 rfl rfl ?_
      refine oj_iadd dX12_takeAhead_22 ?_
      obtain ⟨c4, y5⟩ := y3
      refine oj_iald k_142 c4 rfl dX12_takeAhead_23 ?_
      obtain ⟨c6, y7⟩ := y5
      refine oj_iast k_136 c6 rfl dX12_takeAhead_24 ?_
      refine oj_toph (fun h8 eh8 => ?_)
      have y9 := Lt_at y7 h8 eh8
      obtain ⟨v10, ev10⟩ : ∃ z : Int32, z = x2 + (1) := ⟨_, rfl⟩
      have y11 := Lt_at y9 v10 ev10
      refine oj_iinc (v := v10) (lv' := [(2, .int v10), (0, .ref 108), (1, .int x1)]) 2 dX12_takeAhead_25 rfl (iinc_e ci_1 ev10) (by decide) rfl ?_
      refine oj_goto 2 dX12_takeAhead_28 rfl ?_
      refine oj_lv [1, 2, 0] rfl ?_
      exact hk2 _ _ y11
set_option maxRecDepth 100000 in
set_option maxHeartbeats 4000000 in
theorem BX12_takeAhead  {p1 : Int32}  {h : ob_H} {Q : ob_H → Prop} (y : MX12_takeAhead  p1 h Q) : ob_T yX12_takeAhead cX12_takeAhead 3 none (ob_rm 1) KS NN h [.ref 108, .int p1] (ob_g none (ob_qv Q)) := by
  unfold MX12_takeAhead at y
  refine ob_T_gf (by decide +kernel) (Nat.le_of_ble_eq_true rfl) ?_
  show ob_J RX12 cX12_takeAhead 3 (ob_rm 1) false none 0 0 KS NN h 0 [(0, .ref 108), (1, .int p1)] [] (ob_g none (ob_qv Q))
  refine oj_iconst dX12_takeAhead_0 ci_0 ?_
  refine oj_istore_n (lv' := [(2, .int (0)), (0, .ref 108), (1, .int p1)]) dX12_takeAhead_1 rfl (by decide) rfl ?_
  refine oj_lv [1, 2, 0] rfl ?_
  obtain ⟨n, y12⟩ := y
  exact BLX12_takeAhead_2  n _ _ y12
-- X12_soonest
set_option maxRecDepth 100000 in
set_option maxHeartbeats 4000000 in
theorem BKX12_soonest_133 {x1 : Int32} {x2 : Int32} {x3 : Int32} {h : ob_H} {Q : Int32 → ob_H → Prop} {k27 : Int32 → Int32 → ob_H → Prop} (hk27 : ∀ (x1' : Int32) (x2' : Int32) (h' : ob_H), k27 x1' x2' h' → ob_J RX12 cX12_soonest 5 (ob_rm 3) false none 0 0 KS NN h' 27 [(0, .ref 108), (1, .int x1'), (2, .int x2')] [] (ob_g (some .int) (ob_qi Q)))
    (y : KX12_soonest_133 x1 x2 x3 h Q k27) : ob_J RX12 cX12_soonest 5 (ob_rm 3) false none 0 0 KS NN h 133 [(0, .ref 108), (1, .int x1), (2, .int x2), (3, .int x3)] [] (ob_g (some .int) (ob_qi Q)) := by
  unfold KX12_soonest_133 at y
  refine oj_aload_n 0 dX12_soonest_133 rfl rfl ?_
  refine oj_getr (q := 141) fl_RX12_115 k_108 rfl k_141 dX12_soonest_134 ?_
  refine oj_iload_n 2 dX12_soonest_137 rfl rfl ?_
  refine oj_iload_n 3 dX12_soonest_138 rfl rfl ?_
  obtain ⟨c34, y35⟩ := y
  refine oj_iast k_141 c34 rfl dX12_soonest_139 ?_
  refine oj_toph (fun h36 eh36 => ?_)
  have y37 := Lt_at y35 h36 eh36
  refine oj_iload_n 3 dX12_soonest_140 rfl rfl ?_
  refine oj_aload_n 0 dX12_soonest_141 rfl rfl ?_
  refine oj_geti fl_RX12_323 k_108 rfl dX12_soonest_142 ?_
  refine oj_icmp_lt 154 dX12_soonest_145 rfl (fun c38 => ?_) (fun c38 => ?_)
  · have y39 := y37.1 c38
    refine oj_aload_n 0 dX12_soonest_154 rfl rfl ?_
    refine oj_iload_n 3 dX12_soonest_155 rfl rfl ?_
    refine oj_iconst dX12_soonest_156 ci_1 ?_
    refine oc_Vv [.int x3, .int (1)] mi_RX12_442 ow_1684 op_83 rfl k_108 (BX12_goHear  y39) ⟨by decide, by decide⟩ ⟨Nat.le_refl _, Nat.le_refl _⟩ rfl (Nat.le_of_ble_eq_true rfl) dX12_soonest_157 (fun h42 y44 => ?_)
    obtain ⟨v45, ev45⟩ : ∃ z : Int32, z = x2 + (1) := ⟨_, rfl⟩
    have y46 := Lt_at y44 v45 ev45
    refine oj_iinc (v := v45) (lv' := [(2, .int v45), (0, .ref 108), (1, .int x1), (3, .int x3)]) 2 dX12_soonest_160 rfl (iinc_e ci_1 ev45) (by decide) rfl ?_
    refine oj_aload_n 1 dX12_soonest_163 rfl rfl ?_
    refine oj_iload_n 0 dX12_soonest_164 rfl rfl ?_
    refine oc_Vv [.int v45] mi_RX12_477 ow_1761 op_90 rfl k_108 (BX12_putAhead  y46) ⟨by decide, by decide⟩ ⟨Nat.le_refl _, Nat.le_refl _⟩ rfl (Nat.le_of_ble_eq_true rfl) dX12_soonest_165 (fun h48 y50 => ?_)
    refine oj_aload_n 1 dX12_soonest_168 rfl rfl ?_
    refine oj_getr (q := 141) fl_RX12_115 k_108 rfl k_141 dX12_soonest_169 ?_
    refine oj_iload_n 0 dX12_soonest_172 rfl rfl ?_
    refine oj_iconst dX12_soonest_173 ci_m1 ?_
    obtain ⟨c51, y52⟩ := y50
    refine oj_iast k_141 c51 rfl dX12_soonest_174 ?_
    refine oj_toph (fun h53 eh53 => ?_)
    have y54 := Lt_at y52 h53 eh53
    refine oj_goto 27 dX12_soonest_175 rfl ?_
    refine oj_lv [1, 2, 0] rfl ?_
    exact hk27 _ _ _ y54
  · have y40 := y37.2 c38
    obtain ⟨v55, ev55⟩ : ∃ z : Int32, z = x2 + (-1) := ⟨_, rfl⟩
    have y56 := Lt_at y40 v55 ev55
    refine oj_iinc (v := v55) (lv' := [(2, .int v55), (0, .ref 108), (1, .int x1), (3, .int x3)]) 2 dX12_soonest_148 rfl (iinc_e ci_m1 ev55) (by decide) rfl ?_
    refine oj_goto 27 dX12_soonest_151 rfl ?_
    refine oj_lv [1, 2, 0] rfl ?_
    exact hk27 _ _ _ y56
set_option maxRecDepth 100000 in
set_option maxHeartbeats 4000000 in
theorem BLX12_soonest_110 {x1 : Int32} {x2 : Int32} {h : ob_H} {Q : Int32 → ob_H → Prop} {k27 : Int32 → Int32 → ob_H → Prop} (hk27 : ∀ (x1' : Int32) (x2' : Int32) (h' : ob_H), k27 x1' x2' h' → ob_J RX12 cX12_soonest 5 (ob_rm 3) false none 0 0 KS NN h' 27 [(0, .ref 108), (1, .int x1'), (2, .int x2')] [] (ob_g (some .int) (ob_qi Q))) :
    ∀ (n : Nat) (x3 : Int32), it1 (FX12_soonest_110 x1 x2 h Q k27) n x3 → ob_J RX12 cX12_soonest 5 (ob_rm 3) false none 0 0 KS NN h 110 [(0, .ref 108), (1, .int x1), (2, .int x2), (3, .int x3)] [] (ob_g (some .int) (ob_qi Q)) := by
  intro n
  induction n with
  | zero => intro x3 y; exact False.elim y
  | succ n hk110 =>
    intro x3 y
    have y : FX12_soonest_110 x1 x2 h Q k27 (it1 (FX12_soonest_110 x1 x2 h Q k27) n) x3 := y
    unfold FX12_soonest_110 at y
    refine oj_iload_n 3 dX12_soonest_110 rfl rfl ?_
    refine oj_aload_n 0 dX12_soonest_111 rfl rfl ?_
    refine oj_geti fl_RX12_323 k_108 rfl dX12_soonest_112 ?_
    refine oj_icmp_ge 133 dX12_soonest_115 rfl (fun c31 => ?_) (fun c31 => ?_)
    · have y32 := y.1 c31
      refine oj_lv [0, 1, 2, 3] rfl ?_
      exact BKX12_soonest_133 hk27 y32
    · have y33 := y.2 c31
      refine oj_aload_n 0 dX12_soonest_118 rfl rfl ?_
      refine oj_getr (q := 136) fl_RX12_100 k_108 rfl k_136 dX12_soonest_119 ?_
      refine oj_iload_n 3 dX12_soonest_122 rfl rfl ?_
      obtain ⟨c57, y58⟩ := y33
      refine oj_iald k_136 c57 rfl dX12_soonest_123 ?_
      refine oj_if_eq 133 dX12_soonest_124 rfl (fun c59 => ?_) (fun c59 => ?_)
      · have y60 := y58.1 c59
        refine oj_lv [0, 1, 2, 3] rfl ?_
        exact BKX12_soonest_133 hk27 y60
      · have y61 := y58.2 c59
        obtain ⟨v62, ev62⟩ : ∃ z : Int32, z = x3 + (1) := ⟨_, rfl⟩
        have y63 := Lt_at y61 v62 ev62
        refine oj_iinc (v := v62) (lv' := [(3, .int v62), (0, .ref 108), (1, .int x1), (2, .int x2)]) 3 dX12_soonest_127 rfl (iinc_e ci_1 ev62) (by decide) rfl ?_
        refine oj_goto 110 dX12_soonest_130 rfl ?_
        refine oj_lv [1, 2, 3, 0] rfl ?_
        exact hk110 _ y63
set_option maxRecDepth 100000 in
set_option maxHeartbeats 4000000 in
theorem BLX12_soonest_79 {x1 : Int32} {x2 : Int32} {x3 : Int32} {Q : Int32 → ob_H → Prop} {k27 : Int32 → Int32 → ob_H → Prop} (hk27 : ∀ (x1' : Int32) (x2' : Int32) (h' : ob_H), k27 x1' x2' h' → ob_J RX12 cX12_soonest 5 (ob_rm 3) false none 0 0 KS NN h' 27 [(0, .ref 108), (1, .int x1'), (2, .int x2')] [] (ob_g (some .int) (ob_qi Q))) :
    ∀ (n : Nat) (x4 : Int32) (h : ob_H), it2 (FX12_soonest_79 x1 x2 x3 Q k27) n x4 h → ob_J RX12 cX12_soonest 5 (ob_rm 3) false none 0 0 KS NN h 79 [(0, .ref 108), (1, .int x1), (2, .int x2), (3, .int x3), (4, .int x4)] [] (ob_g (some .int) (ob_qi Q)) := by
  intro n
  induction n with
  | zero => intro x4 h y; exact False.elim y
  | succ n hk79 =>
    intro x4 h y
    have y : FX12_soonest_79 x1 x2 x3 Q k27 (it2 (FX12_soonest_79 x1 x2 x3 Q k27) n) x4 h := y
    unfold FX12_soonest_79 at y
    refine oj_iload 4 dX12_soonest_79 rfl ?_
    refine oj_iload_n 2 dX12_soonest_81 rfl rfl ?_
    refine oj_icmp_ge 105 dX12_soonest_82 rfl (fun c75 => ?_) (fun c75 => ?_)
    · have y76 := y.1 c75
      refine oj_aload_n 0 dX12_soonest_105 rfl rfl ?_
      refine oj_iload_n 2 dX12_soonest_106 rfl rfl ?_
      refine oj_puti fl_RX12_415 (Or.inl rfl) k_108 rfl rfl rfl dX12_soonest_107 ?_
      refine oj_toph (fun h78 eh78 => ?_)
      have y79 := Lt_at y76 h78 eh78
      refine oj_lv [0, 1, 2, 3] rfl ?_
      obtain ⟨n, y80⟩ := y79
      exact BLX12_soonest_110 hk27 n _ y80
    · have y77 := y.2 c75
      refine oj_aload_n 0 dX12_soonest_85 rfl rfl ?_
      refine oj_getr (q := 140) fl_RX12_112 k_108 rfl k_140 dX12_soonest_86 ?_
      refine oj_iload 4 dX12_soonest_89 rfl ?_
      refine oj_aload_n 0 dX12_soonest_91 rfl rfl ?_
      refine oj_getr (q := 141) fl_RX12_115 k_108 rfl k_141 dX12_soonest_92 ?_
      refine oj_iload 4 dX12_soonest_95 rfl ?_
      obtain ⟨c81, y82⟩ := y77
      refine oj_iald k_141 c81 rfl dX12_soonest_97 ?_
      obtain ⟨c83, y84⟩ := y82
      refine oj_iast k_140 c83 rfl dX12_soonest_98 ?_
      refine oj_toph (fun h85 eh85 => ?_)
      have y86 := Lt_at y84 h85 eh85
      obtain ⟨v87, ev87⟩ : ∃ z : Int32, z = x4 + (1) := ⟨_, rfl⟩
      have y88 := Lt_at y86 v87 ev87
      refine oj_iinc (v := v87) (lv' := [(4, .int v87), (0, .ref 108), (1, .int x1), (2, .int x2), (3, .int x3)]) 4 dX12_soonest_99 rfl (iinc_e ci_1 ev87) (by decide) rfl ?_
      refine oj_goto 79 dX12_soonest_102 rfl ?_
      refine oj_lv [1, 2, 3, 4, 0] rfl ?_
      exact hk79 _ _ y88
set_option maxRecDepth 100000 in
set_option maxHeartbeats 4000000 in
theorem BLX12_soonest_27 {Q : Int32 → ob_H → Prop} :
    ∀ (n : Nat) (x1 : Int32) (x2 : Int32) (h : ob_H), it3 (FX12_soonest_27 Q) n x1 x2 h → ob_J RX12 cX12_soonest 5 (ob_rm 3) false none 0 0 KS NN h 27 [(0, .ref 108), (1, .int x1), (2, .int x2)] [] (ob_g (some .int) (ob_qi Q)) := by
  intro n
  induction n with
  | zero => intro x1 x2 h y; exact False.elim y
  | succ n hk27 =>
    intro x1 x2 h y
    have y : FX12_soonest_27 Q (it3 (FX12_soonest_27 Q) n) x1 x2 h := y
    unfold FX12_soonest_27 at y
    refine oj_iload_n 2 dX12_soonest_27 rfl rfl ?_
    refine oj_if_lt 178 dX12_soonest_28 rfl (fun c13 => ?_) (fun c13 => ?_)
    · have y14 := y.1 c13
      refine oj_iload_n 1 dX12_soonest_178 rfl rfl ?_
      exact oj_ret (r := some (.int x1)) ⟨trivial, rfl, rfl, x1, rfl, y14⟩ dX12_soonest_179 (Nat.zero_le _) (Nat.zero_le _)
    · have y15 := y.2 c13
      refine oj_aload_n 0 dX12_soonest_31 rfl rfl ?_
      refine oj_iload_n 2 dX12_soonest_32 rfl rfl ?_
      refine oc_Vv [.int x2] mi_RX12_480 ow_1765 op_91 rfl k_108 (BX12_takeAhead  y15) ⟨by decide, by decide⟩ ⟨Nat.le_refl _, Nat.le_refl _⟩ rfl (Nat.le_of_ble_eq_true rfl) dX12_soonest_33 (fun h17 y19 => ?_)
      refine oj_aload_n 0 dX12_soonest_36 rfl rfl ?_
      refine oj_getr (q := 141) fl_RX12_115 k_108 rfl k_141 dX12_soonest_37 ?_
      refine oj_iload_n 2 dX12_soonest_40 rfl rfl ?_
      obtain ⟨c20, y21⟩ := y19
      refine oj_iald k_141 c20 rfl dX12_soonest_41 ?_
      refine oj_iconst dX12_soonest_42 ci_1 ?_
      refine oj_iadd dX12_soonest_43 ?_
      refine oj_topi (fun v22 ev22 => ?_)
      have y23 := Lt_at y21 v22 ev22
      refine oj_istore_n (lv' := [(3, .int v22), (0, .ref 108), (1, .int x1), (2, .int x2)]) dX12_soonest_44 rfl (by decide) rfl ?_
      refine oj_aload_n 1 dX12_soonest_45 rfl rfl ?_
      refine oj_iconst dX12_soonest_46 ci_0 ?_
      refine oc_Vpi [.int (0)] mi_RX12_470 ow_1728 op_87 rfl k_108 (BX12_thatAre  y23) ⟨by decide, by decide⟩ ⟨Nat.le_refl _, Nat.le_refl _⟩ rfl (Nat.le_of_ble_eq_true rfl) dX12_soonest_47 (fun r24 f26 y27 => ?_)
      refine oj_if_ne 110 dX12_soonest_50 rfl (fun c28 => ?_) (fun c28 => ?_)
      · have y29 := y27.2 c28
        refine oj_lv [1, 2, 3, 0] rfl ?_
        obtain ⟨n, y64⟩ := y29
        exact BLX12_soonest_110 hk27 n _ y64
      · have y30 := y27.1 c28
        refine oj_iload_n 0 dX12_soonest_53 rfl rfl ?_
        refine oj_if_ne 110 dX12_soonest_54 rfl (fun c65 => ?_) (fun c65 => ?_)
        · have y66 := y30.2 c65
          refine oj_lv [1, 2, 3, 0] rfl ?_
          obtain ⟨n, y68⟩ := y66
          exact BLX12_soonest_110 hk27 n _ y68
        · have y67 := y30.1 c65
          refine oj_aload_n 1 dX12_soonest_57 rfl rfl ?_
          refine oj_getr (q := 136) fl_RX12_100 k_108 rfl k_136 dX12_soonest_58 ?_
          refine oj_bipush dX12_soonest_61 cb_21 ?_
          refine oj_iald k_136 in_21_24 ix_21 dX12_soonest_63 ?_
          refine oj_iload_n 2 dX12_soonest_64 rfl rfl ?_
          refine oj_icmp_ge 110 dX12_soonest_65 rfl (fun c69 => ?_) (fun c69 => ?_)
          · have y70 := y67.1 c69
            refine oj_lv [1, 2, 3, 0] rfl ?_
            obtain ⟨n, y72⟩ := y70
            exact BLX12_soonest_110 hk27 n _ y72
          · have y71 := y67.2 c69
            refine oj_aload_n 1 dX12_soonest_68 rfl rfl ?_
            refine oj_getr (q := 136) fl_RX12_100 k_108 rfl k_136 dX12_soonest_69 ?_
            refine oj_bipush dX12_soonest_72 cb_21 ?_
            refine oj_iald k_136 in_21_24 ix_21 dX12_soonest_74 ?_
            refine oj_topi (fun v73 ev73 => ?_)
            have y74 := Lt_at y71 v73 ev73
            refine oj_istore_n (lv' := [(1, .int v73), (3, .int v22), (0, .ref 108), (2, .int x2)]) dX12_soonest_75 rfl (by decide) rfl ?_
            refine oj_iconst dX12_soonest_76 ci_0 ?_
            refine oj_istore (lv' := [(4, .int (0)), (1, .int v73), (3, .int v22), (0, .ref 108), (2, .int x2)]) dX12_soonest_77 (by decide) rfl ?_
            refine oj_lv [3, 1, 4, 2, 0] rfl ?_
            obtain ⟨n, y89⟩ := y74
            exact BLX12_soonest_79 hk27 n _ _ y89
set_option maxRecDepth 100000 in
set_option maxHeartbeats 4000000 in
theorem BX12_soonest    {h : ob_H} {Q : Int32 → ob_H → Prop} (y : MX12_soonest   h Q) : ob_T yX12_soonest cX12_soonest 5 (some .int) (ob_rm 3) KS NN h [.ref 108] (ob_g (some .int) (ob_qi Q)) := by
  unfold MX12_soonest at y
  refine ob_T_gf (by decide +kernel) (Nat.le_of_ble_eq_true rfl) ?_
  show ob_J RX12 cX12_soonest 5 (ob_rm 3) false none 0 0 KS NN h 0 [(0, .ref 108)] [] (ob_g (some .int) (ob_qi Q))
  refine oj_aload_n 0 dX12_soonest_0 rfl rfl ?_
  refine oc_Vv [] mi_RX12_445 ow_1640 op_74 rfl k_108 (BX12_load  y) ⟨by decide, by decide⟩ ⟨Nat.le_refl _, Nat.le_refl _⟩ rfl (Nat.le_of_ble_eq_true rfl) dX12_soonest_1 (fun h2 y4 => ?_)
  refine oj_ldcw ow_1758 dX12_soonest_4 ?_
  refine oj_istore_n (lv' := [(1, .int (1000000000)), (0, .ref 108)]) dX12_soonest_7 rfl (by decide) rfl ?_
  refine oj_iconst dX12_soonest_8 ci_0 ?_
  refine oj_istore_n (lv' := [(2, .int (0)), (1, .int (1000000000)), (0, .ref 108)]) dX12_soonest_9 rfl (by decide) rfl ?_
  refine oj_aload_n 2 dX12_soonest_10 rfl rfl ?_
  refine oj_iconst dX12_soonest_11 ci_0 ?_
  refine oj_puti fl_RX12_415 (Or.inl rfl) k_108 rfl rfl rfl dX12_soonest_12 ?_
  refine oj_toph (fun h5 eh5 => ?_)
  have y6 := Lt_at y4 h5 eh5
  refine oj_aload_n 2 dX12_soonest_15 rfl rfl ?_
  refine oj_iconst dX12_soonest_16 ci_0 ?_
  refine oc_Vv [.int (0)] mi_RX12_477 ow_1761 op_90 rfl k_108 (BX12_putAhead  y6) ⟨by decide, by decide⟩ ⟨Nat.le_refl _, Nat.le_refl _⟩ rfl (Nat.le_of_ble_eq_true rfl) dX12_soonest_17 (fun h8 y10 => ?_)
  refine oj_aload_n 2 dX12_soonest_20 rfl rfl ?_
  refine oj_getr (q := 141) fl_RX12_115 k_108 rfl k_141 dX12_soonest_21 ?_
  refine oj_iconst dX12_soonest_24 ci_0 ?_
  refine oj_iconst dX12_soonest_25 ci_m1 ?_
  refine oj_iast k_141 in_0_8 ix_0 dX12_soonest_26 ?_
  refine oj_toph (fun h11 eh11 => ?_)
  have y12 := Lt_at y10 h11 eh11
  refine oj_lv [2, 1, 0] rfl ?_
  obtain ⟨n, y90⟩ := y12
  exact BLX12_soonest_27  n _ _ _ y90
-- X12_first
set_option maxRecDepth 100000 in
set_option maxHeartbeats 4000000 in
theorem BLX12_first_20 {x1 : Int32} {Q : Int32 → ob_H → Prop} :
    ∀ (n : Nat) (x2 : Int32) (x3 : Int32) (x4 : Int32) (h : ob_H), it4 (FX12_first_20 x1 Q) n x2 x3 x4 h → ob_J RX12 cX12_first 6 (ob_rm 7) false none 0 0 KS NN h 20 [(0, .ref 108), (1, .int x1), (2, .int x2), (3, .int x3), (4, .int x4)] [] (ob_g (some .int) (ob_qi Q)) := by
  intro n
  induction n with
  | zero => intro x2 x3 x4 h y; exact False.elim y
  | succ n hk20 =>
    intro x2 x3 x4 h y
    have y : FX12_first_20 x1 Q (it4 (FX12_first_20 x1 Q) n) x2 x3 x4 h := y
    unfold FX12_first_20 at y
    refine oj_iload 4 dX12_first_20 rfl ?_
    refine oj_aload_n 0 dX12_first_22 rfl rfl ?_
    refine oj_geti fl_RX12_323 k_108 rfl dX12_first_23 ?_
    refine oj_icmp_ge 80 dX12_first_26 rfl (fun c8 => ?_) (fun c8 => ?_)
    · have y9 := y.1 c8
      refine oj_iload_n 2 dX12_first_80 rfl rfl ?_
      refine oj_if_ge 88 dX12_first_81 rfl (fun c11 => ?_) (fun c11 => ?_)
      · have y12 := y9.1 c11
        refine oj_iload_n 1 dX12_first_88 rfl rfl ?_
        refine oj_if_ne 96 dX12_first_89 rfl (fun c14 => ?_) (fun c14 => ?_)
        · have y15 := y12.2 c14
          refine oj_iload_n 3 dX12_first_96 rfl rfl ?_
          exact oj_ret (r := some (.int x3)) ⟨trivial, rfl, rfl, x3, rfl, y15⟩ dX12_first_97 (Nat.zero_le _) (Nat.zero_le _)
        · have y16 := y12.1 c14
          refine oj_iload_n 2 dX12_first_92 rfl rfl ?_
          refine oj_goto 97 dX12_first_93 rfl ?_
          exact oj_ret (r := some (.int x2)) ⟨trivial, rfl, rfl, x2, rfl, y16⟩ dX12_first_97 (Nat.zero_le _) (Nat.zero_le _)
      · have y13 := y9.2 c11
        refine oj_iconst dX12_first_84 ci_m1 ?_
        refine oj_goto 97 dX12_first_85 rfl ?_
        exact oj_ret (r := some (.int (-1))) ⟨trivial, rfl, rfl, (-1), rfl, y13⟩ dX12_first_97 (Nat.zero_le _) (Nat.zero_le _)
    · have y10 := y.2 c8
      refine oj_aload_n 0 dX12_first_29 rfl rfl ?_
      refine oj_getr (q := 135) fl_RX12_97 k_108 rfl k_135 dX12_first_30 ?_
      refine oj_iload 4 dX12_first_33 rfl ?_
      obtain ⟨c17, y18⟩ := y10
      refine oj_iald k_135 c17 rfl dX12_first_35 ?_
      refine oj_if_eq 42 dX12_first_36 rfl (fun c19 => ?_) (fun c19 => ?_)
      · have y20 := y18.1 c19
        refine oj_aload_n 0 dX12_first_42 rfl rfl ?_
        refine oc_Vv [] mi_RX12_445 ow_1640 op_74 rfl k_108 (BX12_load  y20) ⟨by decide, by decide⟩ ⟨Nat.le_refl _, Nat.le_refl _⟩ rfl (Nat.le_of_ble_eq_true rfl) dX12_first_43 (fun h23 y25 => ?_)
        refine oj_aload_n 0 dX12_first_46 rfl rfl ?_
        refine oj_iload 4 dX12_first_47 rfl ?_
        refine oj_iconst dX12_first_49 ci_1 ?_
        refine oc_Vv [.int x4, .int (1)] mi_RX12_442 ow_1684 op_83 rfl k_108 (BX12_goHear  y25) ⟨by decide, by decide⟩ ⟨Nat.le_refl _, Nat.le_refl _⟩ rfl (Nat.le_of_ble_eq_true rfl) dX12_first_50 (fun h27 y29 => ?_)
        refine oj_aload_n 0 dX12_first_53 rfl rfl ?_
        refine oc_Vi [] mi_RX12_448 ow_1740 op_89 rfl k_108 (BX12_goOn  y29) ⟨by decide, by decide⟩ ⟨Nat.le_refl _, Nat.le_refl _⟩ rfl (Nat.le_of_ble_eq_true rfl) dX12_first_54 (fun r30 f32 h31 y33 => ?_)
        refine oj_istore (lv' := [(5, .int r30), (0, .ref 108), (1, .int x1), (2, .int x2), (3, .int x3), (4, .int x4)]) dX12_first_57 (by decide) rfl ?_
        refine oj_iload 0 dX12_first_59 rfl ?_
        refine oj_iload_n 4 dX12_first_61 rfl rfl ?_
        refine oj_icmp_lt 68 dX12_first_62 rfl (fun c34 => ?_) (fun c34 => ?_)
        · have y35 := y33.1 c34
          refine oj_iload 0 dX12_first_68 rfl ?_
          refine oj_istore_n (lv' := [(3, .int r30), (5, .int r30), (0, .ref 108), (1, .int x1), (2, .int x2), (4, .int x4)]) dX12_first_70 rfl (by decide) rfl ?_
          refine oj_iload 5 dX12_first_71 rfl ?_
          refine oj_istore_n (lv' := [(2, .int x4), (3, .int r30), (5, .int r30), (0, .ref 108), (1, .int x1), (4, .int x4)]) dX12_first_73 rfl (by decide) rfl ?_
          obtain ⟨v37, ev37⟩ : ∃ z : Int32, z = x4 + (1) := ⟨_, rfl⟩
          have y38 := Lt_at y35 v37 ev37
          refine oj_iinc (v := v37) (lv' := [(4, .int v37), (2, .int x4), (3, .int r30), (5, .int r30), (0, .ref 108), (1, .int x1)]) 5 dX12_first_74 rfl (iinc_e ci_1 ev37) (by decide) rfl ?_
          refine oj_goto 20 dX12_first_77 rfl ?_
          refine oj_lv [4, 5, 1, 2, 0] rfl ?_
          exact hk20 _ _ _ _ y38
        · have y36 := y33.2 c34
          refine oj_goto 74 dX12_first_65 rfl ?_
          obtain ⟨v39, ev39⟩ : ∃ z : Int32, z = x4 + (1) := ⟨_, rfl⟩
          have y40 := Lt_at y36 v39 ev39
          refine oj_iinc (v := v39) (lv' := [(4, .int v39), (5, .int r30), (0, .ref 108), (1, .int x1), (2, .int x2), (3, .int x3)]) 5 dX12_first_74 rfl (iinc_e ci_1 ev39) (by decide) rfl ?_
          refine oj_goto 20 dX12_first_77 rfl ?_
          refine oj_lv [2, 3, 4, 5, 0] rfl ?_
          exact hk20 _ _ _ _ y40
      · have y21 := y18.2 c19
        refine oj_goto 74 dX12_first_39 rfl ?_
        obtain ⟨v41, ev41⟩ : ∃ z : Int32, z = x4 + (1) := ⟨_, rfl⟩
        have y42 := Lt_at y21 v41 ev41
        refine oj_iinc (v := v41) (lv' := [(4, .int v41), (0, .ref 108), (1, .int x1), (2, .int x2), (3, .int x3)]) 4 dX12_first_74 rfl (iinc_e ci_1 ev41) (by decide) rfl ?_
        refine oj_goto 20 dX12_first_77 rfl ?_
        refine oj_lv [1, 2, 3, 4, 0] rfl ?_
        exact hk20 _ _ _ _ y42
set_option maxRecDepth 100000 in
set_option maxHeartbeats 4000000 in
theorem BX12_first  {p1 : Int32}  {h : ob_H} {Q : Int32 → ob_H → Prop} (y : MX12_first  p1 h Q) : ob_T yX12_first cX12_first 6 (some .int) (ob_rm 7) KS NN h [.ref 108, .int p1] (ob_g (some .int) (ob_qi Q)) := by
  unfold MX12_first at y
  refine ob_T_gf (by decide +kernel) (Nat.le_of_ble_eq_true rfl) ?_
  show ob_J RX12 cX12_first 6 (ob_rm 7) false none 0 0 KS NN h 0 [(0, .ref 108), (1, .int p1)] [] (ob_g (some .int) (ob_qi Q))
  refine oj_iload_n 1 dX12_first_0 rfl rfl ?_
  refine oj_iconst dX12_first_1 ci_0 ?_
  refine oj_iconst dX12_first_2 ci_1 ?_
  refine oc_Spi [.int p1, .int (0), .int (1)] mi_RX12_418 ow_1632 (BX12_isIn  y) ⟨by decide, by decide⟩ ⟨Nat.le_refl _, Nat.le_refl _⟩ rfl (Nat.le_of_ble_eq_true rfl) dX12_first_3 (fun r1 f3 y4 => ?_)
  refine oj_if_ne 11 dX12_first_6 rfl (fun c5 => ?_) (fun c5 => ?_)
  · have y6 := y4.2 c5
    refine oj_iconst dX12_first_11 ci_m1 ?_
    refine oj_istore_n (lv' := [(2, .int (-1)), (0, .ref 108), (1, .int p1)]) dX12_first_12 rfl (by decide) rfl ?_
    refine oj_ldcw ow_1758 dX12_first_13 ?_
    refine oj_istore_n (lv' := [(3, .int (1000000000)), (2, .int (-1)), (0, .ref 108), (1, .int p1)]) dX12_first_16 rfl (by decide) rfl ?_
    refine oj_iconst dX12_first_17 ci_0 ?_
    refine oj_istore (lv' := [(4, .int (0)), (3, .int (1000000000)), (2, .int (-1)), (0, .ref 108), (1, .int p1)]) dX12_first_18 (by decide) rfl ?_
    refine oj_lv [3, 4, 2, 1, 0] rfl ?_
    obtain ⟨n, y43⟩ := y6
    exact BLX12_first_20  n _ _ _ _ y43
  · have y7 := y4.1 c5
    refine oj_iconst dX12_first_9 ci_m1 ?_
    exact oj_ret (r := some (.int (-1))) ⟨trivial, rfl, rfl, (-1), rfl, y7⟩ dX12_first_10 (Nat.zero_le _) (Nat.zero_le _)
-- X12_duskWithout
set_option maxRecDepth 100000 in
set_option maxHeartbeats 4000000 in
theorem BLX12_duskWithout_6 {x1 : Int32} {Q : Int32 → ob_H → Prop} :
    ∀ (n : Nat) (x2 : Int32) (h : ob_H), it2 (FX12_duskWithout_6 x1 Q) n x2 h → ob_J RX12 cX12_duskWithout 3 (ob_rm 7) false none 0 0 KS NN h 6 [(0, .ref 108), (1, .int x1), (2, .int x2)] [] (ob_g (some .int) (ob_qi Q)) := by
  intro n
  induction n with
  | zero => intro x2 h y; exact False.elim y
  | succ n hk6 =>
    intro x2 h y
    have y : FX12_duskWithout_6 x1 Q (it2 (FX12_duskWithout_6 x1 Q) n) x2 h := y
    unfold FX12_duskWithout_6 at y
    refine oj_iload_n 2 dX12_duskWithout_6 rfl rfl ?_
    refine oj_aload_n 0 dX12_duskWithout_7 rfl rfl ?_
    refine oj_geti fl_RX12_323 k_108 rfl dX12_duskWithout_8 ?_
    refine oj_icmp_ge 36 dX12_duskWithout_11 rfl (fun c5 => ?_) (fun c5 => ?_)
    · have y6 := y.1 c5
      refine oj_aload_n 0 dX12_duskWithout_36 rfl rfl ?_
      refine oc_Vi [] mi_RX12_448 ow_1740 op_89 rfl k_108 (BX12_goOn  y6) ⟨by decide, by decide⟩ ⟨Nat.le_refl _, Nat.le_refl _⟩ rfl (Nat.le_of_ble_eq_true rfl) dX12_duskWithout_37 (fun r8 f10 h9 y11 => ?_)
      exact oj_ret (r := some (.int r8)) ⟨trivial, rfl, rfl, r8, rfl, y11⟩ dX12_duskWithout_40 (Nat.zero_le _) (Nat.zero_le _)
    · have y7 := y.2 c5
      refine oj_iload_n 1 dX12_duskWithout_14 rfl rfl ?_
      refine oj_iload_n 2 dX12_duskWithout_15 rfl rfl ?_
      refine oj_ishr dX12_duskWithout_16 ?_
      refine oj_iconst dX12_duskWithout_17 ci_1 ?_
      refine oj_iand dX12_duskWithout_18 ?_
      refine oj_iconst dX12_duskWithout_19 ci_1 ?_
      refine oj_icmp_ne 30 dX12_duskWithout_20 rfl (fun c12 => ?_) (fun c12 => ?_)
      · have y13 := y7.2 c12
        obtain ⟨v15, ev15⟩ : ∃ z : Int32, z = x2 + (1) := ⟨_, rfl⟩
        have y16 := Lt_at y13 v15 ev15
        refine oj_iinc (v := v15) (lv' := [(2, .int v15), (0, .ref 108), (1, .int x1)]) 2 dX12_duskWithout_30 rfl (iinc_e ci_1 ev15) (by decide) rfl ?_
        refine oj_goto 6 dX12_duskWithout_33 rfl ?_
        refine oj_lv [1, 2, 0] rfl ?_
        exact hk6 _ _ y16
      · have y14 := y7.1 c12
        refine oj_aload_n 0 dX12_duskWithout_23 rfl rfl ?_
        refine oj_getr (q := 136) fl_RX12_100 k_108 rfl k_136 dX12_duskWithout_24 ?_
        refine oj_iload_n 2 dX12_duskWithout_27 rfl rfl ?_
        refine oj_iconst dX12_duskWithout_28 ci_5 ?_
        obtain ⟨c17, y18⟩ := y14
        refine oj_iast k_136 c17 rfl dX12_duskWithout_29 ?_
        refine oj_toph (fun h19 eh19 => ?_)
        have y20 := Lt_at y18 h19 eh19
        obtain ⟨v21, ev21⟩ : ∃ z : Int32, z = x2 + (1) := ⟨_, rfl⟩
        have y22 := Lt_at y20 v21 ev21
        refine oj_iinc (v := v21) (lv' := [(2, .int v21), (0, .ref 108), (1, .int x1)]) 2 dX12_duskWithout_30 rfl (iinc_e ci_1 ev21) (by decide) rfl ?_
        refine oj_goto 6 dX12_duskWithout_33 rfl ?_
        refine oj_lv [1, 2, 0] rfl ?_
        exact hk6 _ _ y22
set_option maxRecDepth 100000 in
set_option maxHeartbeats 4000000 in
theorem BX12_duskWithout  {p1 : Int32}  {h : ob_H} {Q : Int32 → ob_H → Prop} (y : MX12_duskWithout  p1 h Q) : ob_T yX12_duskWithout cX12_duskWithout 3 (some .int) (ob_rm 7) KS NN h [.ref 108, .int p1] (ob_g (some .int) (ob_qi Q)) := by
  unfold MX12_duskWithout at y
  refine ob_T_gf (by decide +kernel) (Nat.le_of_ble_eq_true rfl) ?_
  show ob_J RX12 cX12_duskWithout 3 (ob_rm 7) false none 0 0 KS NN h 0 [(0, .ref 108), (1, .int p1)] [] (ob_g (some .int) (ob_qi Q))
  refine oj_aload_n 0 dX12_duskWithout_0 rfl rfl ?_
  refine oc_Vv [] mi_RX12_445 ow_1640 op_74 rfl k_108 (BX12_load  y) ⟨by decide, by decide⟩ ⟨Nat.le_refl _, Nat.le_refl _⟩ rfl (Nat.le_of_ble_eq_true rfl) dX12_duskWithout_1 (fun h2 y4 => ?_)
  refine oj_iconst dX12_duskWithout_4 ci_0 ?_
  refine oj_istore_n (lv' := [(2, .int (0)), (0, .ref 108), (1, .int p1)]) dX12_duskWithout_5 rfl (by decide) rfl ?_
  refine oj_lv [1, 2, 0] rfl ?_
  obtain ⟨n, y23⟩ := y4
  exact BLX12_duskWithout_6  n _ _ y23
-- X12_priceOf
set_option maxRecDepth 100000 in
set_option maxHeartbeats 4000000 in
theorem BLX12_priceOf_4 {x1 : Int32} {h : ob_H} {Q : Int32 → Prop} :
    ∀ (n : Nat) (x2 : Int32) (x3 : Int32), it2 (FX12_priceOf_4 x1 h Q) n x2 x3 → ob_J RX12 cX12_priceOf 4 (ob_rm 1) false none 0 0 KS NN h 4 [(0, .ref 108), (1, .int x1), (2, .int x2), (3, .int x3)] [] (ob_g (some .int) (ob_pi h Q)) := by
  intro n
  induction n with
  | zero => intro x2 x3 y; exact False.elim y
  | succ n hk4 =>
    intro x2 x3 y
    have y : FX12_priceOf_4 x1 h Q (it2 (FX12_priceOf_4 x1 h Q) n) x2 x3 := y
    unfold FX12_priceOf_4 at y
    refine oj_iload_n 3 dX12_priceOf_4 rfl rfl ?_
    refine oj_aload_n 0 dX12_priceOf_5 rfl rfl ?_
    refine oj_geti fl_RX12_323 k_108 rfl dX12_priceOf_6 ?_
    refine oj_icmp_ge 40 dX12_priceOf_9 rfl (fun c1 => ?_) (fun c1 => ?_)
    · have y2 := y.1 c1
      refine oj_iload_n 2 dX12_priceOf_40 rfl rfl ?_
      exact oj_ret (r := some (.int x2)) ⟨trivial, rfl, rfl, rfl, x2, rfl, y2⟩ dX12_priceOf_41 (Nat.zero_le _) (Nat.zero_le _)
    · have y3 := y.2 c1
      refine oj_iload_n 2 dX12_priceOf_12 rfl rfl ?_
      refine oj_iload_n 1 dX12_priceOf_13 rfl rfl ?_
      refine oj_iload_n 3 dX12_priceOf_14 rfl rfl ?_
      refine oj_ishr dX12_priceOf_15 ?_
      refine oj_iconst dX12_priceOf_16 ci_1 ?_
      refine oj_iand dX12_priceOf_17 ?_
      refine oj_iconst dX12_priceOf_18 ci_1 ?_
      refine oj_icmp_ne 31 dX12_priceOf_19 rfl (fun c4 => ?_) (fun c4 => ?_)
      · have y5 := y3.2 c4
        refine oj_iconst dX12_priceOf_31 ci_0 ?_
        refine oj_iadd dX12_priceOf_32 ?_
        refine oj_topi (fun v7 ev7 => ?_)
        have y8 := Lt_at y5 v7 ev7
        refine oj_istore_n (lv' := [(2, .int v7), (0, .ref 108), (1, .int x1), (3, .int x3)]) dX12_priceOf_33 rfl (by decide) rfl ?_
        obtain ⟨v9, ev9⟩ : ∃ z : Int32, z = x3 + (1) := ⟨_, rfl⟩
        have y10 := Lt_at y8 v9 ev9
        refine oj_iinc (v := v9) (lv' := [(3, .int v9), (2, .int v7), (0, .ref 108), (1, .int x1)]) 3 dX12_priceOf_34 rfl (iinc_e ci_1 ev9) (by decide) rfl ?_
        refine oj_goto 4 dX12_priceOf_37 rfl ?_
        refine oj_lv [2, 3, 1, 0] rfl ?_
        exact hk4 _ _ y10
      · have y6 := y3.1 c4
        refine oj_aload_n 0 dX12_priceOf_22 rfl rfl ?_
        refine oj_getr (q := 131) fl_RX12_82 k_108 rfl k_131 dX12_priceOf_23 ?_
        refine oj_iload_n 3 dX12_priceOf_26 rfl rfl ?_
        obtain ⟨c11, y12⟩ := y6
        refine oj_iald k_131 c11 rfl dX12_priceOf_27 ?_
        refine oj_goto 32 dX12_priceOf_28 rfl ?_
        refine oj_iadd dX12_priceOf_32 ?_
        refine oj_topi (fun v13 ev13 => ?_)
        have y14 := Lt_at y12 v13 ev13
        refine oj_istore_n (lv' := [(2, .int v13), (0, .ref 108), (1, .int x1), (3, .int x3)]) dX12_priceOf_33 rfl (by decide) rfl ?_
        obtain ⟨v15, ev15⟩ : ∃ z : Int32, z = x3 + (1) := ⟨_, rfl⟩
        have y16 := Lt_at y14 v15 ev15
        refine oj_iinc (v := v15) (lv' := [(3, .int v15), (2, .int v13), (0, .ref 108), (1, .int x1)]) 3 dX12_priceOf_34 rfl (iinc_e ci_1 ev15) (by decide) rfl ?_
        refine oj_goto 4 dX12_priceOf_37 rfl ?_
        refine oj_lv [2, 3, 1, 0] rfl ?_
        exact hk4 _ _ y16
set_option maxRecDepth 100000 in
set_option maxHeartbeats 4000000 in
theorem BX12_priceOf  {p1 : Int32}  {h : ob_H} {Q : Int32 → Prop} (y : MX12_priceOf  p1 h Q) : ob_T yX12_priceOf cX12_priceOf 4 (some .int) (ob_rm 1) KS NN h [.ref 108, .int p1] (ob_g (some .int) (ob_pi h Q)) := by
  unfold MX12_priceOf at y
  refine ob_T_gf (by decide +kernel) (Nat.le_of_ble_eq_true rfl) ?_
  show ob_J RX12 cX12_priceOf 4 (ob_rm 1) false none 0 0 KS NN h 0 [(0, .ref 108), (1, .int p1)] [] (ob_g (some .int) (ob_pi h Q))
  refine oj_iconst dX12_priceOf_0 ci_0 ?_
  refine oj_istore_n (lv' := [(2, .int (0)), (0, .ref 108), (1, .int p1)]) dX12_priceOf_1 rfl (by decide) rfl ?_
  refine oj_iconst dX12_priceOf_2 ci_0 ?_
  refine oj_istore_n (lv' := [(3, .int (0)), (2, .int (0)), (0, .ref 108), (1, .int p1)]) dX12_priceOf_3 rfl (by decide) rfl ?_
  refine oj_lv [2, 3, 1, 0] rfl ?_
  obtain ⟨n, y17⟩ := y
  exact BLX12_priceOf_4  n _ _ y17
-- X12_waitingNow
set_option maxRecDepth 100000 in
set_option maxHeartbeats 4000000 in
theorem BX12_waitingNow    {h : ob_H} {Q : Int32 → ob_H → Prop} (y : MX12_waitingNow   h Q) : ob_T yX12_waitingNow cX12_waitingNow 1 (some .int) (ob_rm 3) KS NN h [.ref 108] (ob_g (some .int) (ob_qi Q)) := by
  unfold MX12_waitingNow at y
  refine ob_T_gf (by decide +kernel) (Nat.le_of_ble_eq_true rfl) ?_
  show ob_J RX12 cX12_waitingNow 1 (ob_rm 3) false none 0 0 KS NN h 0 [(0, .ref 108)] [] (ob_g (some .int) (ob_qi Q))
  refine oj_aload_n 0 dX12_waitingNow_0 rfl rfl ?_
  refine oc_Vv [] mi_RX12_445 ow_1640 op_74 rfl k_108 (BX12_load  y) ⟨by decide, by decide⟩ ⟨Nat.le_refl _, Nat.le_refl _⟩ rfl (Nat.le_of_ble_eq_true rfl) dX12_waitingNow_1 (fun h2 y4 => ?_)
  refine oj_aload_n 0 dX12_waitingNow_4 rfl rfl ?_
  refine oj_iconst dX12_waitingNow_5 ci_0 ?_
  refine oc_Vpi [.int (0)] mi_RX12_470 ow_1728 op_87 rfl k_108 (BX12_thatAre  y4) ⟨by decide, by decide⟩ ⟨Nat.le_refl _, Nat.le_refl _⟩ rfl (Nat.le_of_ble_eq_true rfl) dX12_waitingNow_6 (fun r5 f7 y8 => ?_)
  exact oj_ret (r := some (.int r5)) ⟨trivial, rfl, rfl, r5, rfl, y8⟩ dX12_waitingNow_9 (Nat.zero_le _) (Nat.zero_le _)
-- X12_purchase
set_option maxRecDepth 100000 in
set_option maxHeartbeats 4000000 in
theorem BKX12_purchase_104 {x1 : Int32} {x2 : Int32} {x3 : Int32} {x4 : Int32} {x5 : Int32} {s0 : Int32} {h : ob_H} {Q : Int32 → ob_H → Prop} {k33 : Int32 → Int32 → ob_H → Prop} (hk33 : ∀ (x4' : Int32) (x5' : Int32) (h' : ob_H), k33 x4' x5' h' → ob_J RX12 cX12_purchase 7 (ob_rm 8) false none 0 0 KS NN h' 33 [(0, .ref 108), (1, .int x1), (2, .int x2), (3, .int x3), (4, .int x4'), (5, .int x5')] [] (ob_g (some .int) (ob_qi Q)))
    (y : KX12_purchase_104 x1 x2 x3 x4 x5 s0 h Q k33) : ob_J RX12 cX12_purchase 7 (ob_rm 8) false none 0 0 KS NN h 104 [(0, .ref 108), (1, .int x1), (2, .int x2), (3, .int x3), (4, .int x4), (5, .int x5)] [.int s0] (ob_g (some .int) (ob_qi Q)) := by
  unfold KX12_purchase_104 at y
  refine oj_istore (lv' := [(6, .int s0), (0, .ref 108), (1, .int x1), (2, .int x2), (3, .int x3), (4, .int x4), (5, .int x5)]) dX12_purchase_104 (by decide) rfl ?_
  refine oj_iload 0 dX12_purchase_106 rfl ?_
  refine oj_if_eq 125 dX12_purchase_108 rfl (fun c38 => ?_) (fun c38 => ?_)
  · have y39 := y.1 c38
    obtain ⟨v41, ev41⟩ : ∃ z : Int32, z = x5 + (1) := ⟨_, rfl⟩
    have y42 := Lt_at y39 v41 ev41
    refine oj_iinc (v := v41) (lv' := [(5, .int v41), (6, .int s0), (0, .ref 108), (1, .int x1), (2, .int x2), (3, .int x3), (4, .int x4)]) 6 dX12_purchase_125 rfl (iinc_e ci_1 ev41) (by decide) rfl ?_
    refine oj_goto 33 dX12_purchase_128 rfl ?_
    refine oj_lv [2, 3, 4, 5, 6, 0] rfl ?_
    exact hk33 _ _ _ y42
  · have y40 := y.2 c38
    refine oj_aload_n 1 dX12_purchase_111 rfl rfl ?_
    refine oj_iload 6 dX12_purchase_112 rfl ?_
    refine oc_Vi [.int x5] mi_RX12_492 ow_1788 op_94 rfl k_108 (BX12_duskWithout  y40) ⟨by decide, by decide⟩ ⟨Nat.le_refl _, Nat.le_refl _⟩ rfl (Nat.le_of_ble_eq_true rfl) dX12_purchase_114 (fun r43 f45 h44 y46 => ?_)
    refine oj_iload_n 2 dX12_purchase_117 rfl rfl ?_
    refine oj_icmp_gt 125 dX12_purchase_118 rfl (fun c47 => ?_) (fun c47 => ?_)
    · have y48 := y46.1 c47
      obtain ⟨v50, ev50⟩ : ∃ z : Int32, z = x5 + (1) := ⟨_, rfl⟩
      have y51 := Lt_at y48 v50 ev50
      refine oj_iinc (v := v50) (lv' := [(5, .int v50), (6, .int s0), (0, .ref 108), (1, .int x1), (2, .int x2), (3, .int x3), (4, .int x4)]) 6 dX12_purchase_125 rfl (iinc_e ci_1 ev50) (by decide) rfl ?_
      refine oj_goto 33 dX12_purchase_128 rfl ?_
      refine oj_lv [2, 3, 4, 5, 6, 0] rfl ?_
      exact hk33 _ _ _ y51
    · have y49 := y46.2 c47
      refine oj_iload 6 dX12_purchase_121 rfl ?_
      refine oj_istore (lv' := [(4, .int x5), (6, .int s0), (0, .ref 108), (1, .int x1), (2, .int x2), (3, .int x3), (5, .int x5)]) dX12_purchase_123 (by decide) rfl ?_
      obtain ⟨v52, ev52⟩ : ∃ z : Int32, z = x5 + (1) := ⟨_, rfl⟩
      have y53 := Lt_at y49 v52 ev52
      refine oj_iinc (v := v52) (lv' := [(5, .int v52), (4, .int x5), (6, .int s0), (0, .ref 108), (1, .int x1), (2, .int x2), (3, .int x3)]) 6 dX12_purchase_125 rfl (iinc_e ci_1 ev52) (by decide) rfl ?_
      refine oj_goto 33 dX12_purchase_128 rfl ?_
      refine oj_lv [3, 4, 5, 6, 1, 0] rfl ?_
      exact hk33 _ _ _ y53
set_option maxRecDepth 100000 in
set_option maxHeartbeats 4000000 in
theorem BLX12_purchase_33 {x1 : Int32} {x2 : Int32} {x3 : Int32} {Q : Int32 → ob_H → Prop} :
    ∀ (n : Nat) (x4 : Int32) (x5 : Int32) (h : ob_H), it3 (FX12_purchase_33 x1 x2 x3 Q) n x4 x5 h → ob_J RX12 cX12_purchase 7 (ob_rm 8) false none 0 0 KS NN h 33 [(0, .ref 108), (1, .int x1), (2, .int x2), (3, .int x3), (4, .int x4), (5, .int x5)] [] (ob_g (some .int) (ob_qi Q)) := by
  intro n
  induction n with
  | zero => intro x4 x5 h y; exact False.elim y
  | succ n hk33 =>
    intro x4 x5 h y
    have y : FX12_purchase_33 x1 x2 x3 Q (it3 (FX12_purchase_33 x1 x2 x3 Q) n) x4 x5 h := y
    unfold FX12_purchase_33 at y
    refine oj_iload 5 dX12_purchase_33 rfl ?_
    refine oj_iload_n 3 dX12_purchase_35 rfl rfl ?_
    refine oj_icmp_gt 131 dX12_purchase_36 rfl (fun c19 => ?_) (fun c19 => ?_)
    · have y20 := y.1 c19
      refine oj_iload 4 dX12_purchase_131 rfl ?_
      refine oj_if_ge 140 dX12_purchase_133 rfl (fun c22 => ?_) (fun c22 => ?_)
      · have y23 := y20.1 c22
        refine oj_iload_n 2 dX12_purchase_140 rfl rfl ?_
        refine oj_if_ne 153 dX12_purchase_141 rfl (fun c25 => ?_) (fun c25 => ?_)
        · have y26 := y23.2 c25
          refine oj_iload 4 dX12_purchase_153 rfl ?_
          exact oj_ret (r := some (.int x4)) ⟨trivial, rfl, rfl, x4, rfl, y26⟩ dX12_purchase_155 (Nat.zero_le _) (Nat.zero_le _)
        · have y27 := y23.1 c25
          refine oj_aload_n 0 dX12_purchase_144 rfl rfl ?_
          refine oj_iload 4 dX12_purchase_145 rfl ?_
          refine oc_Vpi [.int x4] mi_RX12_486 ow_1781 op_93 rfl k_108 (BX12_priceOf  y27) ⟨by decide, by decide⟩ ⟨Nat.le_refl _, Nat.le_refl _⟩ rfl (Nat.le_of_ble_eq_true rfl) dX12_purchase_147 (fun r28 f30 y31 => ?_)
          refine oj_goto 155 dX12_purchase_150 rfl ?_
          exact oj_ret (r := some (.int r28)) ⟨trivial, rfl, rfl, r28, rfl, y31⟩ dX12_purchase_155 (Nat.zero_le _) (Nat.zero_le _)
      · have y24 := y20.2 c22
        refine oj_iconst dX12_purchase_136 ci_m1 ?_
        refine oj_goto 155 dX12_purchase_137 rfl ?_
        exact oj_ret (r := some (.int (-1))) ⟨trivial, rfl, rfl, (-1), rfl, y24⟩ dX12_purchase_155 (Nat.zero_le _) (Nat.zero_le _)
    · have y21 := y.2 c19
      refine oj_iload 5 dX12_purchase_39 rfl ?_
      refine oj_iload_n 3 dX12_purchase_41 rfl rfl ?_
      refine oj_iconst dX12_purchase_42 ci_m1 ?_
      refine oj_ixor dX12_purchase_43 ?_
      refine oj_iand dX12_purchase_44 ?_
      refine oj_if_eq 51 dX12_purchase_45 rfl (fun c32 => ?_) (fun c32 => ?_)
      · have y33 := y21.1 c32
        refine oj_iload 4 dX12_purchase_51 rfl ?_
        refine oj_if_lt 99 dX12_purchase_53 rfl (fun c35 => ?_) (fun c35 => ?_)
        · have y36 := y33.1 c35
          refine oj_iconst dX12_purchase_99 ci_1 ?_
          refine oj_goto 104 dX12_purchase_100 rfl ?_
          refine oj_lv [0, 1, 2, 3, 4, 5] rfl ?_
          exact BKX12_purchase_104 hk33 y36
        · have y37 := y33.2 c35
          refine oj_aload_n 0 dX12_purchase_56 rfl rfl ?_
          refine oj_iload 5 dX12_purchase_57 rfl ?_
          refine oc_Vpi [.int x5] mi_RX12_486 ow_1781 op_93 rfl k_108 (BX12_priceOf  y37) ⟨by decide, by decide⟩ ⟨Nat.le_refl _, Nat.le_refl _⟩ rfl (Nat.le_of_ble_eq_true rfl) dX12_purchase_59 (fun r54 f56 y57 => ?_)
          refine oj_aload_n 0 dX12_purchase_62 rfl rfl ?_
          refine oj_iload 4 dX12_purchase_63 rfl ?_
          refine oc_Vpi [.int x4] mi_RX12_486 ow_1781 op_93 rfl k_108 (BX12_priceOf  y57) ⟨by decide, by decide⟩ ⟨Nat.le_refl _, Nat.le_refl _⟩ rfl (Nat.le_of_ble_eq_true rfl) dX12_purchase_65 (fun r58 f60 y61 => ?_)
          refine oj_icmp_lt 99 dX12_purchase_68 rfl (fun c62 => ?_) (fun c62 => ?_)
          · have y63 := y61.1 c62
            refine oj_iconst dX12_purchase_99 ci_1 ?_
            refine oj_goto 104 dX12_purchase_100 rfl ?_
            refine oj_lv [0, 1, 2, 3, 4, 5] rfl ?_
            exact BKX12_purchase_104 hk33 y63
          · have y64 := y61.2 c62
            refine oj_aload_n 0 dX12_purchase_71 rfl rfl ?_
            refine oj_iload 5 dX12_purchase_72 rfl ?_
            refine oc_Vpi [.int x5] mi_RX12_486 ow_1781 op_93 rfl k_108 (BX12_priceOf  y64) ⟨by decide, by decide⟩ ⟨Nat.le_refl _, Nat.le_refl _⟩ rfl (Nat.le_of_ble_eq_true rfl) dX12_purchase_74 (fun r65 f67 y68 => ?_)
            refine oj_aload_n 0 dX12_purchase_77 rfl rfl ?_
            refine oj_iload 4 dX12_purchase_78 rfl ?_
            refine oc_Vpi [.int x4] mi_RX12_486 ow_1781 op_93 rfl k_108 (BX12_priceOf  y68) ⟨by decide, by decide⟩ ⟨Nat.le_refl _, Nat.le_refl _⟩ rfl (Nat.le_of_ble_eq_true rfl) dX12_purchase_80 (fun r69 f71 y72 => ?_)
            refine oj_icmp_ne 103 dX12_purchase_83 rfl (fun c73 => ?_) (fun c73 => ?_)
            · have y74 := y72.2 c73
              refine oj_iconst dX12_purchase_103 ci_0 ?_
              refine oj_lv [0, 1, 2, 3, 4, 5] rfl ?_
              exact BKX12_purchase_104 hk33 y74
            · have y75 := y72.1 c73
              refine oj_iload 5 dX12_purchase_86 rfl ?_
              refine oc_Spi [.int x5] mi_RX12_489 ow_1784 (BX12_members  y75) ⟨by decide, by decide⟩ ⟨Nat.le_refl _, Nat.le_refl _⟩ rfl (Nat.le_of_ble_eq_true rfl) dX12_purchase_88 (fun r76 f78 y79 => ?_)
              refine oj_iload 4 dX12_purchase_91 rfl ?_
              refine oc_Spi [.int x4] mi_RX12_489 ow_1784 (BX12_members  y79) ⟨by decide, by decide⟩ ⟨Nat.le_refl _, Nat.le_refl _⟩ rfl (Nat.le_of_ble_eq_true rfl) dX12_purchase_93 (fun r80 f82 y83 => ?_)
              refine oj_icmp_ge 103 dX12_purchase_96 rfl (fun c84 => ?_) (fun c84 => ?_)
              · have y85 := y83.1 c84
                refine oj_iconst dX12_purchase_103 ci_0 ?_
                refine oj_lv [0, 1, 2, 3, 4, 5] rfl ?_
                exact BKX12_purchase_104 hk33 y85
              · have y86 := y83.2 c84
                refine oj_iconst dX12_purchase_99 ci_1 ?_
                refine oj_goto 104 dX12_purchase_100 rfl ?_
                refine oj_lv [0, 1, 2, 3, 4, 5] rfl ?_
                exact BKX12_purchase_104 hk33 y86
      · have y34 := y21.2 c32
        refine oj_goto 125 dX12_purchase_48 rfl ?_
        obtain ⟨v87, ev87⟩ : ∃ z : Int32, z = x5 + (1) := ⟨_, rfl⟩
        have y88 := Lt_at y34 v87 ev87
        refine oj_iinc (v := v87) (lv' := [(5, .int v87), (0, .ref 108), (1, .int x1), (2, .int x2), (3, .int x3), (4, .int x4)]) 5 dX12_purchase_125 rfl (iinc_e ci_1 ev87) (by decide) rfl ?_
        refine oj_goto 33 dX12_purchase_128 rfl ?_
        refine oj_lv [1, 2, 3, 4, 5, 0] rfl ?_
        exact hk33 _ _ _ y88
set_option maxRecDepth 100000 in
set_option maxHeartbeats 4000000 in
theorem BX12_purchase  {p1 : Int32} {p2 : Int32}  {h : ob_H} {Q : Int32 → ob_H → Prop} (y : MX12_purchase  p1 p2 h Q) : ob_T yX12_purchase cX12_purchase 7 (some .int) (ob_rm 8) KS NN h [.ref 108, .int p1, .int p2] (ob_g (some .int) (ob_qi Q)) := by
  unfold MX12_purchase at y
  refine ob_T_gf (by decide +kernel) (Nat.le_of_ble_eq_true rfl) ?_
  show ob_J RX12 cX12_purchase 7 (ob_rm 8) false none 0 0 KS NN h 0 [(0, .ref 108), (1, .int p1), (2, .int p2)] [] (ob_g (some .int) (ob_qi Q))
  refine oj_iload_n 1 dX12_purchase_0 rfl rfl ?_
  refine oj_iconst dX12_purchase_1 ci_0 ?_
  refine oj_sipush dX12_purchase_2 cs_9999 ?_
  refine oc_Spi [.int p1, .int (0), .int (9999)] mi_RX12_418 ow_1632 (BX12_isIn  y) ⟨by decide, by decide⟩ ⟨Nat.le_refl _, Nat.le_refl _⟩ rfl (Nat.le_of_ble_eq_true rfl) dX12_purchase_5 (fun r1 f3 y4 => ?_)
  refine oj_if_eq 20 dX12_purchase_8 rfl (fun c5 => ?_) (fun c5 => ?_)
  · have y6 := y4.1 c5
    refine oj_iconst dX12_purchase_20 ci_m1 ?_
    exact oj_ret (r := some (.int (-1))) ⟨trivial, rfl, rfl, (-1), rfl, y6⟩ dX12_purchase_21 (Nat.zero_le _) (Nat.zero_le _)
  · have y7 := y4.2 c5
    refine oj_iload_n 2 dX12_purchase_11 rfl rfl ?_
    refine oj_iconst dX12_purchase_12 ci_0 ?_
    refine oj_iconst dX12_purchase_13 ci_1 ?_
    refine oc_Spi [.int p2, .int (0), .int (1)] mi_RX12_418 ow_1632 (BX12_isIn  y7) ⟨by decide, by decide⟩ ⟨Nat.le_refl _, Nat.le_refl _⟩ rfl (Nat.le_of_ble_eq_true rfl) dX12_purchase_14 (fun r8 f10 y11 => ?_)
    refine oj_if_ne 22 dX12_purchase_17 rfl (fun c12 => ?_) (fun c12 => ?_)
    · have y13 := y11.2 c12
      refine oj_aload_n 0 dX12_purchase_22 rfl rfl ?_
      refine oc_Vi [] mi_RX12_483 ow_1777 op_92 rfl k_108 (BX12_waitingNow  y13) ⟨by decide, by decide⟩ ⟨Nat.le_refl _, Nat.le_refl _⟩ rfl (Nat.le_of_ble_eq_true rfl) dX12_purchase_23 (fun r15 f17 h16 y18 => ?_)
      refine oj_istore_n (lv' := [(3, .int r15), (0, .ref 108), (1, .int p1), (2, .int p2)]) dX12_purchase_26 rfl (by decide) rfl ?_
      refine oj_iconst dX12_purchase_27 ci_m1 ?_
      refine oj_istore (lv' := [(4, .int (-1)), (3, .int r15), (0, .ref 108), (1, .int p1), (2, .int p2)]) dX12_purchase_28 (by decide) rfl ?_
      refine oj_iconst dX12_purchase_30 ci_0 ?_
      refine oj_istore (lv' := [(5, .int (0)), (4, .int (-1)), (3, .int r15), (0, .ref 108), (1, .int p1), (2, .int p2)]) dX12_purchase_31 (by decide) rfl ?_
      refine oj_lv [3, 4, 5, 2, 1, 0] rfl ?_
      obtain ⟨n, y89⟩ := y18
      exact BLX12_purchase_33  n _ _ _ y89
    · have y14 := y11.1 c12
      refine oj_iconst dX12_purchase_20 ci_m1 ?_
      exact oj_ret (r := some (.int (-1))) ⟨trivial, rfl, rfl, (-1), rfl, y14⟩ dX12_purchase_21 (Nat.zero_le _) (Nat.zero_le _)
-- X12_boast
set_option maxRecDepth 100000 in
set_option maxHeartbeats 4000000 in
theorem BKX12_boast_97 {x1 : Int32} {x2 : Int32} {x4 : Int32} {h : ob_H} {Q : Int32 → ob_H → Prop} {k16 : Int32 → ob_H → Prop} (hk16 : ∀ (x2' : Int32) (h' : ob_H), k16 x2' h' → ob_J RX12 cX12_boast 6 (ob_rm 5) false none 0 0 KS NN h' 16 [(0, .ref 108), (1, .int x1), (2, .int x2')] [] (ob_g (some .int) (ob_qi Q)))
    (y : KX12_boast_97 x1 x2 x4 h Q k16) : ob_J RX12 cX12_boast 6 (ob_rm 5) false none 0 0 KS NN h 97 [(0, .ref 108), (1, .int x1), (2, .int x2), (4, .int x4)] [] (ob_g (some .int) (ob_qi Q)) := by
  unfold KX12_boast_97 at y
  refine oj_iload 3 dX12_boast_97 rfl ?_
  refine oj_if_eq 104 dX12_boast_99 rfl (fun c22 => ?_) (fun c22 => ?_)
  · have y23 := y.1 c22
    obtain ⟨v25, ev25⟩ : ∃ z : Int32, z = x2 + (1) := ⟨_, rfl⟩
    have y26 := Lt_at y23 v25 ev25
    refine oj_iinc (v := v25) (lv' := [(2, .int v25), (0, .ref 108), (1, .int x1), (4, .int x4)]) 2 dX12_boast_104 rfl (iinc_e ci_1 ev25) (by decide) rfl ?_
    refine oj_goto 16 dX12_boast_107 rfl ?_
    refine oj_lv [1, 2, 0] rfl ?_
    exact hk16 _ _ y26
  · have y24 := y.2 c22
    refine oj_iload_n 2 dX12_boast_102 rfl rfl ?_
    exact oj_ret (r := some (.int x2)) ⟨trivial, rfl, rfl, x2, rfl, y24⟩ dX12_boast_103 (Nat.zero_le _) (Nat.zero_le _)
set_option maxRecDepth 100000 in
set_option maxHeartbeats 4000000 in
theorem BLX12_boast_37 {x1 : Int32} {x2 : Int32} {x3 : Int32} {Q : Int32 → ob_H → Prop} {k16 : Int32 → ob_H → Prop} (hk16 : ∀ (x2' : Int32) (h' : ob_H), k16 x2' h' → ob_J RX12 cX12_boast 6 (ob_rm 5) false none 0 0 KS NN h' 16 [(0, .ref 108), (1, .int x1), (2, .int x2')] [] (ob_g (some .int) (ob_qi Q))) :
    ∀ (n : Nat) (x4 : Int32) (x5 : Int32) (h : ob_H), it3 (FX12_boast_37 x1 x2 x3 Q k16) n x4 x5 h → ob_J RX12 cX12_boast 6 (ob_rm 5) false none 0 0 KS NN h 37 [(0, .ref 108), (1, .int x1), (2, .int x2), (3, .int x3), (4, .int x4), (5, .int x5)] [] (ob_g (some .int) (ob_qi Q)) := by
  intro n
  induction n with
  | zero => intro x4 x5 h y; exact False.elim y
  | succ n hk37 =>
    intro x4 x5 h y
    have y : FX12_boast_37 x1 x2 x3 Q k16 (it3 (FX12_boast_37 x1 x2 x3 Q k16) n) x4 x5 h := y
    unfold FX12_boast_37 at y
    refine oj_iload 5 dX12_boast_37 rfl ?_
    refine oj_aload_n 0 dX12_boast_39 rfl rfl ?_
    refine oj_geti fl_RX12_323 k_108 rfl dX12_boast_40 ?_
    refine oj_icmp_ge 97 dX12_boast_43 rfl (fun c19 => ?_) (fun c19 => ?_)
    · have y20 := y.1 c19
      refine oj_lv [0, 1, 2, 4] rfl ?_
      exact BKX12_boast_97 hk16 y20
    · have y21 := y.2 c19
      refine oj_iload 4 dX12_boast_46 rfl ?_
      refine oj_if_eq 97 dX12_boast_48 rfl (fun c27 => ?_) (fun c27 => ?_)
      · have y28 := y21.1 c27
        refine oj_lv [0, 1, 2, 4] rfl ?_
        exact BKX12_boast_97 hk16 y28
      · have y29 := y21.2 c27
        refine oj_iload 5 dX12_boast_51 rfl ?_
        refine oj_iload_n 1 dX12_boast_53 rfl rfl ?_
        refine oj_icmp_eq 84 dX12_boast_54 rfl (fun c30 => ?_) (fun c30 => ?_)
        · have y31 := y29.1 c30
          refine oj_iconst dX12_boast_84 ci_1 ?_
          refine oj_goto 89 dX12_boast_85 rfl ?_
          refine oj_istore (lv' := [(4, .int (1)), (0, .ref 108), (1, .int x1), (2, .int x2), (3, .int x3), (5, .int x5)]) dX12_boast_89 (by decide) rfl ?_
          obtain ⟨v33, ev33⟩ : ∃ z : Int32, z = x5 + (1) := ⟨_, rfl⟩
          have y34 := Lt_at y31 v33 ev33
          refine oj_iinc (v := v33) (lv' := [(5, .int v33), (4, .int (1)), (0, .ref 108), (1, .int x1), (2, .int x2), (3, .int x3)]) 5 dX12_boast_91 rfl (iinc_e ci_1 ev33) (by decide) rfl ?_
          refine oj_goto 37 dX12_boast_94 rfl ?_
          refine oj_lv [2, 3, 4, 5, 1, 0] rfl ?_
          exact hk37 _ _ _ y34
        · have y32 := y29.2 c30
          refine oj_aload_n 0 dX12_boast_57 rfl rfl ?_
          refine oj_getr (q := 136) fl_RX12_100 k_108 rfl k_136 dX12_boast_58 ?_
          refine oj_iload 5 dX12_boast_61 rfl ?_
          obtain ⟨c35, y36⟩ := y32
          refine oj_iald k_136 c35 rfl dX12_boast_63 ?_
          refine oj_if_ne 84 dX12_boast_64 rfl (fun c37 => ?_) (fun c37 => ?_)
          · have y38 := y36.2 c37
            refine oj_iconst dX12_boast_84 ci_1 ?_
            refine oj_goto 89 dX12_boast_85 rfl ?_
            refine oj_istore (lv' := [(4, .int (1)), (0, .ref 108), (1, .int x1), (2, .int x2), (3, .int x3), (5, .int x5)]) dX12_boast_89 (by decide) rfl ?_
            obtain ⟨v40, ev40⟩ : ∃ z : Int32, z = x5 + (1) := ⟨_, rfl⟩
            have y41 := Lt_at y38 v40 ev40
            refine oj_iinc (v := v40) (lv' := [(5, .int v40), (4, .int (1)), (0, .ref 108), (1, .int x1), (2, .int x2), (3, .int x3)]) 5 dX12_boast_91 rfl (iinc_e ci_1 ev40) (by decide) rfl ?_
            refine oj_goto 37 dX12_boast_94 rfl ?_
            refine oj_lv [2, 3, 4, 5, 1, 0] rfl ?_
            exact hk37 _ _ _ y41
          · have y39 := y36.1 c37
            refine oj_aload_n 0 dX12_boast_67 rfl rfl ?_
            refine oj_iload_n 1 dX12_boast_68 rfl rfl ?_
            refine oj_iload_n 3 dX12_boast_69 rfl rfl ?_
            refine oj_iload 5 dX12_boast_70 rfl ?_
            refine oj_aload_n 0 dX12_boast_72 rfl rfl ?_
            refine oj_iload 5 dX12_boast_73 rfl ?_
            refine oc_Vi [.int x5] mi_RX12_426 ow_1648 op_76 rfl k_108 (BX12_rankOf  y39) ⟨by decide, by decide⟩ ⟨Nat.le_refl _, Nat.le_refl _⟩ rfl (Nat.le_of_ble_eq_true rfl) dX12_boast_75 (fun r42 f44 h43 y45 => ?_)
            refine oc_Vpi [.int x1, .int x3, .int x5, .int r42] mi_RX12_429 ow_1672 op_80 rfl k_108 (BX12_isAhead  y45) ⟨by decide, by decide⟩ ⟨Nat.le_refl _, Nat.le_refl _⟩ rfl (Nat.le_of_ble_eq_true rfl) dX12_boast_78 (fun r46 f48 y49 => ?_)
            refine oj_if_eq 88 dX12_boast_81 rfl (fun c50 => ?_) (fun c50 => ?_)
            · have y51 := y49.1 c50
              refine oj_iconst dX12_boast_88 ci_0 ?_
              refine oj_istore (lv' := [(4, .int (0)), (0, .ref 108), (1, .int x1), (2, .int x2), (3, .int x3), (5, .int x5)]) dX12_boast_89 (by decide) rfl ?_
              obtain ⟨v53, ev53⟩ : ∃ z : Int32, z = x5 + (1) := ⟨_, rfl⟩
              have y54 := Lt_at y51 v53 ev53
              refine oj_iinc (v := v53) (lv' := [(5, .int v53), (4, .int (0)), (0, .ref 108), (1, .int x1), (2, .int x2), (3, .int x3)]) 5 dX12_boast_91 rfl (iinc_e ci_1 ev53) (by decide) rfl ?_
              refine oj_goto 37 dX12_boast_94 rfl ?_
              refine oj_lv [2, 3, 4, 5, 1, 0] rfl ?_
              exact hk37 _ _ _ y54
            · have y52 := y49.2 c50
              refine oj_iconst dX12_boast_84 ci_1 ?_
              refine oj_goto 89 dX12_boast_85 rfl ?_
              refine oj_istore (lv' := [(4, .int (1)), (0, .ref 108), (1, .int x1), (2, .int x2), (3, .int x3), (5, .int x5)]) dX12_boast_89 (by decide) rfl ?_
              obtain ⟨v55, ev55⟩ : ∃ z : Int32, z = x5 + (1) := ⟨_, rfl⟩
              have y56 := Lt_at y52 v55 ev55
              refine oj_iinc (v := v55) (lv' := [(5, .int v55), (4, .int (1)), (0, .ref 108), (1, .int x1), (2, .int x2), (3, .int x3)]) 5 dX12_boast_91 rfl (iinc_e ci_1 ev55) (by decide) rfl ?_
              refine oj_goto 37 dX12_boast_94 rfl ?_
              refine oj_lv [2, 3, 4, 5, 1, 0] rfl ?_
              exact hk37 _ _ _ y56
set_option maxRecDepth 100000 in
set_option maxHeartbeats 4000000 in
theorem BLX12_boast_16 {x1 : Int32} {Q : Int32 → ob_H → Prop} :
    ∀ (n : Nat) (x2 : Int32) (h : ob_H), it2 (FX12_boast_16 x1 Q) n x2 h → ob_J RX12 cX12_boast 6 (ob_rm 5) false none 0 0 KS NN h 16 [(0, .ref 108), (1, .int x1), (2, .int x2)] [] (ob_g (some .int) (ob_qi Q)) := by
  intro n
  induction n with
  | zero => intro x2 h y; exact False.elim y
  | succ n hk16 =>
    intro x2 h y
    have y : FX12_boast_16 x1 Q (it2 (FX12_boast_16 x1 Q) n) x2 h := y
    unfold FX12_boast_16 at y
    refine oj_iload_n 2 dX12_boast_16 rfl rfl ?_
    refine oj_bipush dX12_boast_17 cb_99 ?_
    refine oj_icmp_gt 110 dX12_boast_19 rfl (fun c12 => ?_) (fun c12 => ?_)
    · have y13 := y.1 c12
      refine oj_iconst dX12_boast_110 ci_m1 ?_
      exact oj_ret (r := some (.int (-1))) ⟨trivial, rfl, rfl, (-1), rfl, y13⟩ dX12_boast_111 (Nat.zero_le _) (Nat.zero_le _)
    · have y14 := y.2 c12
      refine oj_aload_n 0 dX12_boast_22 rfl rfl ?_
      refine oj_iconst dX12_boast_23 ci_0 ?_
      refine oj_iload_n 1 dX12_boast_24 rfl rfl ?_
      refine oj_iload_n 2 dX12_boast_25 rfl rfl ?_
      refine oj_iload_n 2 dX12_boast_26 rfl rfl ?_
      refine oc_Vi [.int (0), .int x1, .int x2, .int x2] mi_RX12_422 ow_1652 op_77 rfl k_108 (BX12_worked  y14) ⟨by decide, by decide⟩ ⟨Nat.le_refl _, Nat.le_refl _⟩ rfl (Nat.le_of_ble_eq_true rfl) dX12_boast_27 (fun r15 f17 h16 y18 => ?_)
      refine oj_istore_n (lv' := [(3, .int r15), (0, .ref 108), (1, .int x1), (2, .int x2)]) dX12_boast_30 rfl (by decide) rfl ?_
      refine oj_iconst dX12_boast_31 ci_1 ?_
      refine oj_istore (lv' := [(4, .int (1)), (3, .int r15), (0, .ref 108), (1, .int x1), (2, .int x2)]) dX12_boast_32 (by decide) rfl ?_
      refine oj_iconst dX12_boast_34 ci_0 ?_
      refine oj_istore (lv' := [(5, .int (0)), (4, .int (1)), (3, .int r15), (0, .ref 108), (1, .int x1), (2, .int x2)]) dX12_boast_35 (by decide) rfl ?_
      refine oj_lv [3, 4, 5, 2, 1, 0] rfl ?_
      obtain ⟨n, y57⟩ := y18
      exact BLX12_boast_37 hk16 n _ _ _ y57
set_option maxRecDepth 100000 in
set_option maxHeartbeats 4000000 in
theorem BX12_boast  {p1 : Int32}  {h : ob_H} {Q : Int32 → ob_H → Prop} (y : MX12_boast  p1 h Q) : ob_T yX12_boast cX12_boast 6 (some .int) (ob_rm 5) KS NN h [.ref 108, .int p1] (ob_g (some .int) (ob_qi Q)) := by
  unfold MX12_boast at y
  refine ob_T_gf (by decide +kernel) (Nat.le_of_ble_eq_true rfl) ?_
  show ob_J RX12 cX12_boast 6 (ob_rm 5) false none 0 0 KS NN h 0 [(0, .ref 108), (1, .int p1)] [] (ob_g (some .int) (ob_qi Q))
  refine oj_aload_n 0 dX12_boast_0 rfl rfl ?_
  refine oj_iload_n 1 dX12_boast_1 rfl rfl ?_
  refine oc_Vpi [.int p1] mi_RX12_454 ow_1644 op_75 rfl k_108 (BX12_isWaiting  y) ⟨by decide, by decide⟩ ⟨Nat.le_refl _, Nat.le_refl _⟩ rfl (Nat.le_of_ble_eq_true rfl) dX12_boast_2 (fun r1 f3 y4 => ?_)
  refine oj_if_ne 10 dX12_boast_5 rfl (fun c5 => ?_) (fun c5 => ?_)
  · have y6 := y4.2 c5
    refine oj_aload_n 0 dX12_boast_10 rfl rfl ?_
    refine oc_Vv [] mi_RX12_445 ow_1640 op_74 rfl k_108 (BX12_load  y6) ⟨by decide, by decide⟩ ⟨Nat.le_refl _, Nat.le_refl _⟩ rfl (Nat.le_of_ble_eq_true rfl) dX12_boast_11 (fun h9 y11 => ?_)
    refine oj_iconst dX12_boast_14 ci_0 ?_
    refine oj_istore_n (lv' := [(2, .int (0)), (0, .ref 108), (1, .int p1)]) dX12_boast_15 rfl (by decide) rfl ?_
    refine oj_lv [1, 2, 0] rfl ?_
    obtain ⟨n, y58⟩ := y11
    exact BLX12_boast_16  n _ _ y58
  · have y7 := y4.1 c5
    refine oj_iconst dX12_boast_8 ci_m1 ?_
    exact oj_ret (r := some (.int (-1))) ⟨trivial, rfl, rfl, (-1), rfl, y7⟩ dX12_boast_9 (Nat.zero_le _) (Nat.zero_le _)
-- X12_weightOf
set_option maxRecDepth 100000 in
set_option maxHeartbeats 4000000 in
theorem BLX12_weightOf_35 {x1 : Int32} {x3 : Int32} {h : ob_H} {Q : Int32 → Prop} {k4 : Int32 → Int32 → Prop} (hk4 : ∀ (x2' : Int32) (x3' : Int32), k4 x2' x3' → ob_J RX12 cX12_weightOf 5 (ob_rm 1) false none 0 0 KS NN h 4 [(0, .ref 108), (1, .int x1), (2, .int x2'), (3, .int x3')] [] (ob_g (some .int) (ob_pi h Q))) :
    ∀ (n : Nat) (x2 : Int32) (x4 : Int32), it2 (FX12_weightOf_35 x1 x3 h Q k4) n x2 x4 → ob_J RX12 cX12_weightOf 5 (ob_rm 1) false none 0 0 KS NN h 35 [(0, .ref 108), (1, .int x1), (2, .int x2), (3, .int x3), (4, .int x4)] [] (ob_g (some .int) (ob_pi h Q)) := by
  intro n
  induction n with
  | zero => intro x2 x4 y; exact False.elim y
  | succ n hk35 =>
    intro x2 x4 y
    have y : FX12_weightOf_35 x1 x3 h Q k4 (it2 (FX12_weightOf_35 x1 x3 h Q k4) n) x2 x4 := y
    unfold FX12_weightOf_35 at y
    refine oj_iload 4 dX12_weightOf_35 rfl ?_
    refine oj_iload_n 3 dX12_weightOf_37 rfl rfl ?_
    refine oj_icmp_ge 76 dX12_weightOf_38 rfl (fun c11 => ?_) (fun c11 => ?_)
    · have y12 := y.1 c11
      obtain ⟨v14, ev14⟩ : ∃ z : Int32, z = x3 + (1) := ⟨_, rfl⟩
      have y15 := Lt_at y12 v14 ev14
      refine oj_iinc (v := v14) (lv' := [(3, .int v14), (0, .ref 108), (1, .int x1), (2, .int x2), (4, .int x4)]) 3 dX12_weightOf_76 rfl (iinc_e ci_1 ev14) (by decide) rfl ?_
      refine oj_goto 4 dX12_weightOf_79 rfl ?_
      refine oj_lv [1, 2, 3, 0] rfl ?_
      exact hk4 _ _ y15
    · have y13 := y.2 c11
      refine oj_iload_n 2 dX12_weightOf_41 rfl rfl ?_
      refine oj_iload_n 1 dX12_weightOf_42 rfl rfl ?_
      refine oj_iload 4 dX12_weightOf_43 rfl ?_
      refine oj_ishr dX12_weightOf_45 ?_
      refine oj_iconst dX12_weightOf_46 ci_1 ?_
      refine oj_iand dX12_weightOf_47 ?_
      refine oj_iconst dX12_weightOf_48 ci_1 ?_
      refine oj_icmp_ne 67 dX12_weightOf_49 rfl (fun c16 => ?_) (fun c16 => ?_)
      · have y17 := y13.2 c16
        refine oj_iconst dX12_weightOf_67 ci_0 ?_
        refine oj_iadd dX12_weightOf_68 ?_
        refine oj_topi (fun v19 ev19 => ?_)
        have y20 := Lt_at y17 v19 ev19
        refine oj_istore_n (lv' := [(2, .int v19), (0, .ref 108), (1, .int x1), (3, .int x3), (4, .int x4)]) dX12_weightOf_69 rfl (by decide) rfl ?_
        obtain ⟨v21, ev21⟩ : ∃ z : Int32, z = x4 + (1) := ⟨_, rfl⟩
        have y22 := Lt_at y20 v21 ev21
        refine oj_iinc (v := v21) (lv' := [(4, .int v21), (2, .int v19), (0, .ref 108), (1, .int x1), (3, .int x3)]) 4 dX12_weightOf_70 rfl (iinc_e ci_1 ev21) (by decide) rfl ?_
        refine oj_goto 35 dX12_weightOf_73 rfl ?_
        refine oj_lv [2, 3, 1, 4, 0] rfl ?_
        exact hk35 _ _ y22
      · have y18 := y13.1 c16
        refine oj_aload_n 0 dX12_weightOf_52 rfl rfl ?_
        refine oj_getr (q := 134) fl_RX12_91 k_108 rfl k_134 dX12_weightOf_53 ?_
        refine oj_bipush dX12_weightOf_56 cb_7 ?_
        refine oj_iload_n 3 dX12_weightOf_58 rfl rfl ?_
        refine oj_imul dX12_weightOf_59 ?_
        refine oj_iload 4 dX12_weightOf_60 rfl ?_
        refine oj_iadd dX12_weightOf_62 ?_
        obtain ⟨c23, y24⟩ := y18
        refine oj_iald k_134 c23 rfl dX12_weightOf_63 ?_
        refine oj_goto 68 dX12_weightOf_64 rfl ?_
        refine oj_iadd dX12_weightOf_68 ?_
        refine oj_topi (fun v25 ev25 => ?_)
        have y26 := Lt_at y24 v25 ev25
        refine oj_istore_n (lv' := [(2, .int v25), (0, .ref 108), (1, .int x1), (3, .int x3), (4, .int x4)]) dX12_weightOf_69 rfl (by decide) rfl ?_
        obtain ⟨v27, ev27⟩ : ∃ z : Int32, z = x4 + (1) := ⟨_, rfl⟩
        have y28 := Lt_at y26 v27 ev27
        refine oj_iinc (v := v27) (lv' := [(4, .int v27), (2, .int v25), (0, .ref 108), (1, .int x1), (3, .int x3)]) 4 dX12_weightOf_70 rfl (iinc_e ci_1 ev27) (by decide) rfl ?_
        refine oj_goto 35 dX12_weightOf_73 rfl ?_
        refine oj_lv [2, 3, 1, 4, 0] rfl ?_
        exact hk35 _ _ y28
set_option maxRecDepth 100000 in
set_option maxHeartbeats 4000000 in
theorem BLX12_weightOf_4 {x1 : Int32} {h : ob_H} {Q : Int32 → Prop} :
    ∀ (n : Nat) (x2 : Int32) (x3 : Int32), it2 (FX12_weightOf_4 x1 h Q) n x2 x3 → ob_J RX12 cX12_weightOf 5 (ob_rm 1) false none 0 0 KS NN h 4 [(0, .ref 108), (1, .int x1), (2, .int x2), (3, .int x3)] [] (ob_g (some .int) (ob_pi h Q)) := by
  intro n
  induction n with
  | zero => intro x2 x3 y; exact False.elim y
  | succ n hk4 =>
    intro x2 x3 y
    have y : FX12_weightOf_4 x1 h Q (it2 (FX12_weightOf_4 x1 h Q) n) x2 x3 := y
    unfold FX12_weightOf_4 at y
    refine oj_iload_n 3 dX12_weightOf_4 rfl rfl ?_
    refine oj_aload_n 0 dX12_weightOf_5 rfl rfl ?_
    refine oj_geti fl_RX12_323 k_108 rfl dX12_weightOf_6 ?_
    refine oj_icmp_ge 82 dX12_weightOf_9 rfl (fun c1 => ?_) (fun c1 => ?_)
    · have y2 := y.1 c1
      refine oj_iload_n 2 dX12_weightOf_82 rfl rfl ?_
      exact oj_ret (r := some (.int x2)) ⟨trivial, rfl, rfl, rfl, x2, rfl, y2⟩ dX12_weightOf_83 (Nat.zero_le _) (Nat.zero_le _)
    · have y3 := y.2 c1
      refine oj_iload_n 1 dX12_weightOf_12 rfl rfl ?_
      refine oj_iload_n 3 dX12_weightOf_13 rfl rfl ?_
      refine oj_ishr dX12_weightOf_14 ?_
      refine oj_iconst dX12_weightOf_15 ci_1 ?_
      refine oj_iand dX12_weightOf_16 ?_
      refine oj_if_ne 23 dX12_weightOf_17 rfl (fun c4 => ?_) (fun c4 => ?_)
      · have y5 := y3.2 c4
        refine oj_iload_n 2 dX12_weightOf_23 rfl rfl ?_
        refine oj_aload_n 0 dX12_weightOf_24 rfl rfl ?_
        refine oj_getr (q := 128) fl_RX12_73 k_108 rfl k_128 dX12_weightOf_25 ?_
        refine oj_iload_n 3 dX12_weightOf_28 rfl rfl ?_
        obtain ⟨c7, y8⟩ := y5
        refine oj_iald k_128 c7 rfl dX12_weightOf_29 ?_
        refine oj_iadd dX12_weightOf_30 ?_
        refine oj_topi (fun v9 ev9 => ?_)
        have y10 := Lt_at y8 v9 ev9
        refine oj_istore_n (lv' := [(2, .int v9), (0, .ref 108), (1, .int x1), (3, .int x3)]) dX12_weightOf_31 rfl (by decide) rfl ?_
        refine oj_iconst dX12_weightOf_32 ci_0 ?_
        refine oj_istore (lv' := [(4, .int (0)), (2, .int v9), (0, .ref 108), (1, .int x1), (3, .int x3)]) dX12_weightOf_33 (by decide) rfl ?_
        refine oj_lv [2, 3, 1, 4, 0] rfl ?_
        obtain ⟨n, y29⟩ := y10
        exact BLX12_weightOf_35 hk4 n _ _ y29
      · have y6 := y3.1 c4
        refine oj_goto 76 dX12_weightOf_20 rfl ?_
        obtain ⟨v30, ev30⟩ : ∃ z : Int32, z = x3 + (1) := ⟨_, rfl⟩
        have y31 := Lt_at y6 v30 ev30
        refine oj_iinc (v := v30) (lv' := [(3, .int v30), (0, .ref 108), (1, .int x1), (2, .int x2)]) 3 dX12_weightOf_76 rfl (iinc_e ci_1 ev30) (by decide) rfl ?_
        refine oj_goto 4 dX12_weightOf_79 rfl ?_
        refine oj_lv [1, 2, 3, 0] rfl ?_
        exact hk4 _ _ y31
set_option maxRecDepth 100000 in
set_option maxHeartbeats 4000000 in
theorem BX12_weightOf  {p1 : Int32}  {h : ob_H} {Q : Int32 → Prop} (y : MX12_weightOf  p1 h Q) : ob_T yX12_weightOf cX12_weightOf 5 (some .int) (ob_rm 1) KS NN h [.ref 108, .int p1] (ob_g (some .int) (ob_pi h Q)) := by
  unfold MX12_weightOf at y
  refine ob_T_gf (by decide +kernel) (Nat.le_of_ble_eq_true rfl) ?_
  show ob_J RX12 cX12_weightOf 5 (ob_rm 1) false none 0 0 KS NN h 0 [(0, .ref 108), (1, .int p1)] [] (ob_g (some .int) (ob_pi h Q))
  refine oj_iconst dX12_weightOf_0 ci_0 ?_
  refine oj_istore_n (lv' := [(2, .int (0)), (0, .ref 108), (1, .int p1)]) dX12_weightOf_1 rfl (by decide) rfl ?_
  refine oj_iconst dX12_weightOf_2 ci_0 ?_
  refine oj_istore_n (lv' := [(3, .int (0)), (2, .int (0)), (0, .ref 108), (1, .int p1)]) dX12_weightOf_3 rfl (by decide) rfl ?_
  refine oj_lv [2, 3, 1, 0] rfl ?_
  obtain ⟨n, y32⟩ := y
  exact BLX12_weightOf_4  n _ _ y32
-- X12_standing
set_option maxRecDepth 100000 in
set_option maxHeartbeats 4000000 in
theorem BX12_standing    {h : ob_H} {Q : Int32 → ob_H → Prop} (y : MX12_standing   h Q) : ob_T yX12_standing cX12_standing 1 (some .int) (ob_rm 3) KS NN h [.ref 108] (ob_g (some .int) (ob_qi Q)) := by
  unfold MX12_standing at y
  refine ob_T_gf (by decide +kernel) (Nat.le_of_ble_eq_true rfl) ?_
  show ob_J RX12 cX12_standing 1 (ob_rm 3) false none 0 0 KS NN h 0 [(0, .ref 108)] [] (ob_g (some .int) (ob_qi Q))
  refine oj_aload_n 0 dX12_standing_0 rfl rfl ?_
  refine oc_Vv [] mi_RX12_445 ow_1640 op_74 rfl k_108 (BX12_load  y) ⟨by decide, by decide⟩ ⟨Nat.le_refl _, Nat.le_refl _⟩ rfl (Nat.le_of_ble_eq_true rfl) dX12_standing_1 (fun h2 y4 => ?_)
  refine oj_aload_n 0 dX12_standing_4 rfl rfl ?_
  refine oj_iconst dX12_standing_5 ci_2 ?_
  refine oc_Vpi [.int (2)] mi_RX12_470 ow_1728 op_87 rfl k_108 (BX12_thatAre  y4) ⟨by decide, by decide⟩ ⟨Nat.le_refl _, Nat.le_refl _⟩ rfl (Nat.le_of_ble_eq_true rfl) dX12_standing_6 (fun r5 f7 y8 => ?_)
  exact oj_ret (r := some (.int r5)) ⟨trivial, rfl, rfl, r5, rfl, y8⟩ dX12_standing_9 (Nat.zero_le _) (Nat.zero_le _)
-- X12_isBarred
set_option maxRecDepth 100000 in
set_option maxHeartbeats 4000000 in
theorem BX12_isBarred  {p1 : Int32}  {h : ob_H} {Q : Int32 → Prop} (y : MX12_isBarred  p1 h Q) : ob_T yX12_isBarred cX12_isBarred 2 (some .boolean) (ob_rm 2) KS NN h [.ref 108, .int p1] (ob_g (some .boolean) (ob_pi h Q)) := by
  unfold MX12_isBarred at y
  refine ob_T_gf (by decide +kernel) (Nat.le_of_ble_eq_true rfl) ?_
  show ob_J RX12 cX12_isBarred 2 (ob_rm 2) false none 0 0 KS NN h 0 [(0, .ref 108), (1, .int p1)] [] (ob_g (some .boolean) (ob_pi h Q))
  refine oj_aload_n 0 dX12_isBarred_0 rfl rfl ?_
  refine oj_iload_n 1 dX12_isBarred_1 rfl rfl ?_
  refine oc_Vpi [.int p1] mi_RX12_495 ow_1804 op_96 rfl k_108 (BX12_weightOf  y) ⟨by decide, by decide⟩ ⟨Nat.le_refl _, Nat.le_refl _⟩ rfl (Nat.le_of_ble_eq_true rfl) dX12_isBarred_2 (fun r1 f3 y4 => ?_)
  refine oj_aload_n 0 dX12_isBarred_5 rfl rfl ?_
  refine oj_geti fl_RX12_94 k_108 rfl dX12_isBarred_6 ?_
  refine oj_icmp_lt 16 dX12_isBarred_9 rfl (fun c5 => ?_) (fun c5 => ?_)
  · have y6 := y4.1 c5
    refine oj_iconst dX12_isBarred_16 ci_0 ?_
    exact oj_ret (r := some (.int (0))) ⟨rfl, rfl, rfl, rfl, (0), rfl, y6⟩ dX12_isBarred_17 (Nat.zero_le _) (Nat.zero_le _)
  · have y7 := y4.2 c5
    refine oj_iconst dX12_isBarred_12 ci_1 ?_
    refine oj_goto 17 dX12_isBarred_13 rfl ?_
    exact oj_ret (r := some (.int (1))) ⟨rfl, rfl, rfl, rfl, (1), rfl, y7⟩ dX12_isBarred_17 (Nat.zero_le _) (Nat.zero_le _)
-- X12_weight
set_option maxRecDepth 100000 in
set_option maxHeartbeats 4000000 in
theorem BX12_weight    {h : ob_H} {Q : Int32 → ob_H → Prop} (y : MX12_weight   h Q) : ob_T yX12_weight cX12_weight 1 (some .int) (ob_rm 4) KS NN h [.ref 108] (ob_g (some .int) (ob_qi Q)) := by
  unfold MX12_weight at y
  refine ob_T_gf (by decide +kernel) (Nat.le_of_ble_eq_true rfl) ?_
  show ob_J RX12 cX12_weight 1 (ob_rm 4) false none 0 0 KS NN h 0 [(0, .ref 108)] [] (ob_g (some .int) (ob_qi Q))
  refine oj_aload_n 0 dX12_weight_0 rfl rfl ?_
  refine oj_aload_n 0 dX12_weight_1 rfl rfl ?_
  refine oc_Vi [] mi_RX12_498 ow_1800 op_95 rfl k_108 (BX12_standing  y) ⟨by decide, by decide⟩ ⟨Nat.le_refl _, Nat.le_refl _⟩ rfl (Nat.le_of_ble_eq_true rfl) dX12_weight_2 (fun r1 f3 h2 y4 => ?_)
  refine oc_Vpi [.int r1] mi_RX12_495 ow_1804 op_96 rfl k_108 (BX12_weightOf  y4) ⟨by decide, by decide⟩ ⟨Nat.le_refl _, Nat.le_refl _⟩ rfl (Nat.le_of_ble_eq_true rfl) dX12_weight_5 (fun r5 f7 y8 => ?_)
  exact oj_ret (r := some (.int r5)) ⟨trivial, rfl, rfl, r5, rfl, y8⟩ dX12_weight_8 (Nat.zero_le _) (Nat.zero_le _)
-- X12_threat
set_option maxRecDepth 100000 in
set_option maxHeartbeats 4000000 in
theorem BKX12_threat_60 {x1 : Int32} {x2 : Int32} {x3 : Int32} {x4 : Int32} {x5 : Int32} {h : ob_H} {Q : Int32 → ob_H → Prop} {k27 : Int32 → Int32 → Prop} (hk27 : ∀ (x4' : Int32) (x5' : Int32), k27 x4' x5' → ob_J RX12 cX12_threat 6 (ob_rm 4) false none 0 0 KS NN h 27 [(0, .ref 108), (1, .int x1), (2, .int x2), (3, .int x3), (4, .int x4'), (5, .int x5')] [] (ob_g (some .int) (ob_qi Q)))
    (y : KX12_threat_60 x1 x2 x3 x4 x5 h Q k27) : ob_J RX12 cX12_threat 6 (ob_rm 4) false none 0 0 KS NN h 60 [(0, .ref 108), (1, .int x1), (2, .int x2), (3, .int x3), (4, .int x4), (5, .int x5)] [] (ob_g (some .int) (ob_qi Q)) := by
  unfold KX12_threat_60 at y
  refine oj_aload_n 0 dX12_threat_60 rfl rfl ?_
  refine oj_iload_n 3 dX12_threat_61 rfl rfl ?_
  refine oj_iload 5 dX12_threat_62 rfl ?_
  refine oj_ior dX12_threat_64 ?_
  refine oc_Vpi [.int (x3 ||| x5)] mi_RX12_501 ow_1812 op_97 rfl k_108 (BX12_isBarred  y) ⟨by decide, by decide⟩ ⟨Nat.le_refl _, Nat.le_refl _⟩ rfl (Nat.le_of_ble_eq_true rfl) dX12_threat_65 (fun r37 f39 y40 => ?_)
  refine oj_if_eq 75 dX12_threat_68 rfl (fun c41 => ?_) (fun c41 => ?_)
  · have y42 := y40.1 c41
    obtain ⟨v44, ev44⟩ : ∃ z : Int32, z = x5 + (1) := ⟨_, rfl⟩
    have y45 := Lt_at y42 v44 ev44
    refine oj_iinc (v := v44) (lv' := [(5, .int v44), (0, .ref 108), (1, .int x1), (2, .int x2), (3, .int x3), (4, .int x4)]) 5 dX12_threat_75 rfl (iinc_e ci_1 ev44) (by decide) rfl ?_
    refine oj_goto 27 dX12_threat_78 rfl ?_
    refine oj_lv [1, 2, 3, 4, 5, 0] rfl ?_
    exact hk27 _ _ y45
  · have y43 := y40.2 c41
    refine oj_iload 5 dX12_threat_71 rfl ?_
    refine oj_istore (lv' := [(4, .int x5), (0, .ref 108), (1, .int x1), (2, .int x2), (3, .int x3), (5, .int x5)]) dX12_threat_73 (by decide) rfl ?_
    obtain ⟨v46, ev46⟩ : ∃ z : Int32, z = x5 + (1) := ⟨_, rfl⟩
    have y47 := Lt_at y43 v46 ev46
    refine oj_iinc (v := v46) (lv' := [(5, .int v46), (4, .int x5), (0, .ref 108), (1, .int x1), (2, .int x2), (3, .int x3)]) 5 dX12_threat_75 rfl (iinc_e ci_1 ev46) (by decide) rfl ?_
    refine oj_goto 27 dX12_threat_78 rfl ?_
    refine oj_lv [2, 3, 4, 5, 1, 0] rfl ?_
    exact hk27 _ _ y47
set_option maxRecDepth 100000 in
set_option maxHeartbeats 4000000 in
theorem BLX12_threat_27 {x1 : Int32} {x2 : Int32} {x3 : Int32} {h : ob_H} {Q : Int32 → ob_H → Prop} :
    ∀ (n : Nat) (x4 : Int32) (x5 : Int32), it2 (FX12_threat_27 x1 x2 x3 h Q) n x4 x5 → ob_J RX12 cX12_threat 6 (ob_rm 4) false none 0 0 KS NN h 27 [(0, .ref 108), (1, .int x1), (2, .int x2), (3, .int x3), (4, .int x4), (5, .int x5)] [] (ob_g (some .int) (ob_qi Q)) := by
  intro n
  induction n with
  | zero => intro x4 x5 y; exact False.elim y
  | succ n hk27 =>
    intro x4 x5 y
    have y : FX12_threat_27 x1 x2 x3 h Q (it2 (FX12_threat_27 x1 x2 x3 h Q) n) x4 x5 := y
    unfold FX12_threat_27 at y
    refine oj_iload 5 dX12_threat_27 rfl ?_
    refine oj_iload_n 2 dX12_threat_29 rfl rfl ?_
    refine oj_icmp_gt 81 dX12_threat_30 rfl (fun c16 => ?_) (fun c16 => ?_)
    · have y17 := y.1 c16
      refine oj_iload 4 dX12_threat_81 rfl ?_
      refine oj_if_ge 90 dX12_threat_83 rfl (fun c19 => ?_) (fun c19 => ?_)
      · have y20 := y17.1 c19
        refine oj_iload_n 1 dX12_threat_90 rfl rfl ?_
        refine oj_if_ne 102 dX12_threat_91 rfl (fun c22 => ?_) (fun c22 => ?_)
        · have y23 := y20.2 c22
          refine oj_iload 4 dX12_threat_102 rfl ?_
          exact oj_ret (r := some (.int x4)) ⟨trivial, rfl, rfl, x4, rfl, y23⟩ dX12_threat_104 (Nat.zero_le _) (Nat.zero_le _)
        · have y24 := y20.1 c22
          refine oj_iload 4 dX12_threat_94 rfl ?_
          refine oc_Spi [.int x4] mi_RX12_489 ow_1784 (BX12_members  y24) ⟨by decide, by decide⟩ ⟨Nat.le_refl _, Nat.le_refl _⟩ rfl (Nat.le_of_ble_eq_true rfl) dX12_threat_96 (fun r25 f27 y28 => ?_)
          refine oj_goto 104 dX12_threat_99 rfl ?_
          exact oj_ret (r := some (.int r25)) ⟨trivial, rfl, rfl, r25, rfl, y28⟩ dX12_threat_104 (Nat.zero_le _) (Nat.zero_le _)
      · have y21 := y17.2 c19
        refine oj_iconst dX12_threat_86 ci_m1 ?_
        refine oj_goto 104 dX12_threat_87 rfl ?_
        exact oj_ret (r := some (.int (-1))) ⟨trivial, rfl, rfl, (-1), rfl, y21⟩ dX12_threat_104 (Nat.zero_le _) (Nat.zero_le _)
    · have y18 := y.2 c16
      refine oj_iload 5 dX12_threat_33 rfl ?_
      refine oj_iload_n 2 dX12_threat_35 rfl rfl ?_
      refine oj_iconst dX12_threat_36 ci_m1 ?_
      refine oj_ixor dX12_threat_37 ?_
      refine oj_iand dX12_threat_38 ?_
      refine oj_if_ne 75 dX12_threat_39 rfl (fun c29 => ?_) (fun c29 => ?_)
      · have y30 := y18.2 c29
        obtain ⟨v32, ev32⟩ : ∃ z : Int32, z = x5 + (1) := ⟨_, rfl⟩
        have y33 := Lt_at y30 v32 ev32
        refine oj_iinc (v := v32) (lv' := [(5, .int v32), (0, .ref 108), (1, .int x1), (2, .int x2), (3, .int x3), (4, .int x4)]) 5 dX12_threat_75 rfl (iinc_e ci_1 ev32) (by decide) rfl ?_
        refine oj_goto 27 dX12_threat_78 rfl ?_
        refine oj_lv [1, 2, 3, 4, 5, 0] rfl ?_
        exact hk27 _ _ y33
      · have y31 := y18.1 c29
        refine oj_iload 4 dX12_threat_42 rfl ?_
        refine oj_if_lt 60 dX12_threat_44 rfl (fun c34 => ?_) (fun c34 => ?_)
        · have y35 := y31.1 c34
          refine oj_lv [0, 1, 2, 3, 4, 5] rfl ?_
          exact BKX12_threat_60 hk27 y35
        · have y36 := y31.2 c34
          refine oj_iload 5 dX12_threat_47 rfl ?_
          refine oc_Spi [.int x5] mi_RX12_489 ow_1784 (BX12_members  y36) ⟨by decide, by decide⟩ ⟨Nat.le_refl _, Nat.le_refl _⟩ rfl (Nat.le_of_ble_eq_true rfl) dX12_threat_49 (fun r48 f50 y51 => ?_)
          refine oj_iload 4 dX12_threat_52 rfl ?_
          refine oc_Spi [.int x4] mi_RX12_489 ow_1784 (BX12_members  y51) ⟨by decide, by decide⟩ ⟨Nat.le_refl _, Nat.le_refl _⟩ rfl (Nat.le_of_ble_eq_true rfl) dX12_threat_54 (fun r52 f54 y55 => ?_)
          refine oj_icmp_ge 75 dX12_threat_57 rfl (fun c56 => ?_) (fun c56 => ?_)
          · have y57 := y55.1 c56
            obtain ⟨v59, ev59⟩ : ∃ z : Int32, z = x5 + (1) := ⟨_, rfl⟩
            have y60 := Lt_at y57 v59 ev59
            refine oj_iinc (v := v59) (lv' := [(5, .int v59), (0, .ref 108), (1, .int x1), (2, .int x2), (3, .int x3), (4, .int x4)]) 5 dX12_threat_75 rfl (iinc_e ci_1 ev59) (by decide) rfl ?_
            refine oj_goto 27 dX12_threat_78 rfl ?_
            refine oj_lv [1, 2, 3, 4, 5, 0] rfl ?_
            exact hk27 _ _ y60
          · have y58 := y55.2 c56
            refine oj_lv [0, 1, 2, 3, 4, 5] rfl ?_
            exact BKX12_threat_60 hk27 y58
set_option maxRecDepth 100000 in
set_option maxHeartbeats 4000000 in
theorem BX12_threat  {p1 : Int32}  {h : ob_H} {Q : Int32 → ob_H → Prop} (y : MX12_threat  p1 h Q) : ob_T yX12_threat cX12_threat 6 (some .int) (ob_rm 4) KS NN h [.ref 108, .int p1] (ob_g (some .int) (ob_qi Q)) := by
  unfold MX12_threat at y
  refine ob_T_gf (by decide +kernel) (Nat.le_of_ble_eq_true rfl) ?_
  show ob_J RX12 cX12_threat 6 (ob_rm 4) false none 0 0 KS NN h 0 [(0, .ref 108), (1, .int p1)] [] (ob_g (some .int) (ob_qi Q))
  refine oj_iload_n 1 dX12_threat_0 rfl rfl ?_
  refine oj_iconst dX12_threat_1 ci_0 ?_
  refine oj_iconst dX12_threat_2 ci_1 ?_
  refine oc_Spi [.int p1, .int (0), .int (1)] mi_RX12_418 ow_1632 (BX12_isIn  y) ⟨by decide, by decide⟩ ⟨Nat.le_refl _, Nat.le_refl _⟩ rfl (Nat.le_of_ble_eq_true rfl) dX12_threat_3 (fun r1 f3 y4 => ?_)
  refine oj_if_ne 11 dX12_threat_6 rfl (fun c5 => ?_) (fun c5 => ?_)
  · have y6 := y4.2 c5
    refine oj_aload_n 0 dX12_threat_11 rfl rfl ?_
    refine oc_Vi [] mi_RX12_483 ow_1777 op_92 rfl k_108 (BX12_waitingNow  y6) ⟨by decide, by decide⟩ ⟨Nat.le_refl _, Nat.le_refl _⟩ rfl (Nat.le_of_ble_eq_true rfl) dX12_threat_12 (fun r8 f10 h9 y11 => ?_)
    refine oj_istore_n (lv' := [(2, .int r8), (0, .ref 108), (1, .int p1)]) dX12_threat_15 rfl (by decide) rfl ?_
    refine oj_aload_n 1 dX12_threat_16 rfl rfl ?_
    refine oc_Vi [] mi_RX12_498 ow_1800 op_95 rfl k_108 (BX12_standing  y11) ⟨by decide, by decide⟩ ⟨Nat.le_refl _, Nat.le_refl _⟩ rfl (Nat.le_of_ble_eq_true rfl) dX12_threat_17 (fun r12 f14 h13 y15 => ?_)
    refine oj_istore_n (lv' := [(3, .int r12), (2, .int r8), (0, .ref 108), (1, .int p1)]) dX12_threat_20 rfl (by decide) rfl ?_
    refine oj_iconst dX12_threat_21 ci_m1 ?_
    refine oj_istore (lv' := [(4, .int (-1)), (3, .int r12), (2, .int r8), (0, .ref 108), (1, .int p1)]) dX12_threat_22 (by decide) rfl ?_
    refine oj_iconst dX12_threat_24 ci_0 ?_
    refine oj_istore (lv' := [(5, .int (0)), (4, .int (-1)), (3, .int r12), (2, .int r8), (0, .ref 108), (1, .int p1)]) dX12_threat_25 (by decide) rfl ?_
    refine oj_lv [4, 5, 3, 2, 1, 0] rfl ?_
    obtain ⟨n, y61⟩ := y15
    exact BLX12_threat_27  n _ _ y61
  · have y7 := y4.1 c5
    refine oj_iconst dX12_threat_9 ci_m1 ?_
    exact oj_ret (r := some (.int (-1))) ⟨trivial, rfl, rfl, (-1), rfl, y7⟩ dX12_threat_10 (Nat.zero_le _) (Nat.zero_le _)
-- X12_bars
set_option maxRecDepth 100000 in
set_option maxHeartbeats 4000000 in
theorem BKX12_bars_47 {x1 : Int32} {x2 : Int32} {x4 : Int32} {s0 : Int32} {s1 : Int32} {h : ob_H} {Q : Int32 → ob_H → Prop} {k15 : Int32 → Int32 → Prop} (hk15 : ∀ (x3' : Int32) (x4' : Int32), k15 x3' x4' → ob_J RX12 cX12_bars 5 (ob_rm 4) false none 0 0 KS NN h 15 [(0, .ref 108), (1, .int x1), (2, .int x2), (3, .int x3'), (4, .int x4')] [] (ob_g (some .int) (ob_qi Q)))
    (y : KX12_bars_47 x1 x2 x4 s0 s1 h Q k15) : ob_J RX12 cX12_bars 5 (ob_rm 4) false none 0 0 KS NN h 47 [(0, .ref 108), (1, .int x1), (2, .int x2), (4, .int x4)] [.int s0, .int s1] (ob_g (some .int) (ob_qi Q)) := by
  unfold KX12_bars_47 at y
  refine oc_Spi [.int s0] mi_RX12_319 ow_1534 (BX12_truth  y) ⟨by decide, by decide⟩ ⟨Nat.le_refl _, Nat.le_refl _⟩ rfl (Nat.le_of_ble_eq_true rfl) dX12_bars_47 (fun r15 f17 y18 => ?_)
  refine oj_iadd dX12_bars_50 ?_
  refine oj_topi (fun v19 ev19 => ?_)
  have y20 := Lt_at y18 v19 ev19
  refine oj_istore_n (lv' := [(3, .int v19), (0, .ref 108), (1, .int x1), (2, .int x2), (4, .int x4)]) dX12_bars_51 rfl (by decide) rfl ?_
  obtain ⟨v21, ev21⟩ : ∃ z : Int32, z = x4 + (1) := ⟨_, rfl⟩
  have y22 := Lt_at y20 v21 ev21
  refine oj_iinc (v := v21) (lv' := [(4, .int v21), (3, .int v19), (0, .ref 108), (1, .int x1), (2, .int x2)]) 4 dX12_bars_52 rfl (iinc_e ci_1 ev21) (by decide) rfl ?_
  refine oj_goto 15 dX12_bars_55 rfl ?_
  refine oj_lv [2, 3, 4, 1, 0] rfl ?_
  exact hk15 _ _ y22
set_option maxRecDepth 100000 in
set_option maxHeartbeats 4000000 in
theorem BLX12_bars_15 {x1 : Int32} {x2 : Int32} {h : ob_H} {Q : Int32 → ob_H → Prop} :
    ∀ (n : Nat) (x3 : Int32) (x4 : Int32), it2 (FX12_bars_15 x1 x2 h Q) n x3 x4 → ob_J RX12 cX12_bars 5 (ob_rm 4) false none 0 0 KS NN h 15 [(0, .ref 108), (1, .int x1), (2, .int x2), (3, .int x3), (4, .int x4)] [] (ob_g (some .int) (ob_qi Q)) := by
  intro n
  induction n with
  | zero => intro x3 x4 y; exact False.elim y
  | succ n hk15 =>
    intro x3 x4 y
    have y : FX12_bars_15 x1 x2 h Q (it2 (FX12_bars_15 x1 x2 h Q) n) x3 x4 := y
    unfold FX12_bars_15 at y
    refine oj_iload 4 dX12_bars_15 rfl ?_
    refine oj_iload_n 1 dX12_bars_17 rfl rfl ?_
    refine oj_icmp_gt 58 dX12_bars_18 rfl (fun c9 => ?_) (fun c9 => ?_)
    · have y10 := y.1 c9
      refine oj_iload_n 3 dX12_bars_58 rfl rfl ?_
      exact oj_ret (r := some (.int x3)) ⟨trivial, rfl, rfl, x3, rfl, y10⟩ dX12_bars_59 (Nat.zero_le _) (Nat.zero_le _)
    · have y11 := y.2 c9
      refine oj_iload_n 3 dX12_bars_21 rfl rfl ?_
      refine oj_iload 4 dX12_bars_22 rfl ?_
      refine oj_iload_n 1 dX12_bars_24 rfl rfl ?_
      refine oj_iconst dX12_bars_25 ci_m1 ?_
      refine oj_ixor dX12_bars_26 ?_
      refine oj_iand dX12_bars_27 ?_
      refine oj_if_ne 46 dX12_bars_28 rfl (fun c12 => ?_) (fun c12 => ?_)
      · have y13 := y11.2 c12
        refine oj_iconst dX12_bars_46 ci_0 ?_
        refine oj_lv [0, 1, 2, 4] rfl ?_
        exact BKX12_bars_47 hk15 y13
      · have y14 := y11.1 c12
        refine oj_aload_n 0 dX12_bars_31 rfl rfl ?_
        refine oj_iload_n 2 dX12_bars_32 rfl rfl ?_
        refine oj_iload 4 dX12_bars_33 rfl ?_
        refine oj_ior dX12_bars_35 ?_
        refine oc_Vpi [.int (x2 ||| x4)] mi_RX12_501 ow_1812 op_97 rfl k_108 (BX12_isBarred  y14) ⟨by decide, by decide⟩ ⟨Nat.le_refl _, Nat.le_refl _⟩ rfl (Nat.le_of_ble_eq_true rfl) dX12_bars_36 (fun r23 f25 y26 => ?_)
        refine oj_if_eq 46 dX12_bars_39 rfl (fun c27 => ?_) (fun c27 => ?_)
        · have y28 := y26.1 c27
          refine oj_iconst dX12_bars_46 ci_0 ?_
          refine oj_lv [0, 1, 2, 4] rfl ?_
          exact BKX12_bars_47 hk15 y28
        · have y29 := y26.2 c27
          refine oj_iconst dX12_bars_42 ci_1 ?_
          refine oj_goto 47 dX12_bars_43 rfl ?_
          refine oj_lv [0, 1, 2, 4] rfl ?_
          exact BKX12_bars_47 hk15 y29
set_option maxRecDepth 100000 in
set_option maxHeartbeats 4000000 in
theorem BX12_bars    {h : ob_H} {Q : Int32 → ob_H → Prop} (y : MX12_bars   h Q) : ob_T yX12_bars cX12_bars 5 (some .int) (ob_rm 4) KS NN h [.ref 108] (ob_g (some .int) (ob_qi Q)) := by
  unfold MX12_bars at y
  refine ob_T_gf (by decide +kernel) (Nat.le_of_ble_eq_true rfl) ?_
  show ob_J RX12 cX12_bars 5 (ob_rm 4) false none 0 0 KS NN h 0 [(0, .ref 108)] [] (ob_g (some .int) (ob_qi Q))
  refine oj_aload_n 0 dX12_bars_0 rfl rfl ?_
  refine oc_Vi [] mi_RX12_483 ow_1777 op_92 rfl k_108 (BX12_waitingNow  y) ⟨by decide, by decide⟩ ⟨Nat.le_refl _, Nat.le_refl _⟩ rfl (Nat.le_of_ble_eq_true rfl) dX12_bars_1 (fun r1 f3 h2 y4 => ?_)
  refine oj_istore_n (lv' := [(1, .int r1), (0, .ref 108)]) dX12_bars_4 rfl (by decide) rfl ?_
  refine oj_aload_n 1 dX12_bars_5 rfl rfl ?_
  refine oc_Vi [] mi_RX12_498 ow_1800 op_95 rfl k_108 (BX12_standing  y4) ⟨by decide, by decide⟩ ⟨Nat.le_refl _, Nat.le_refl _⟩ rfl (Nat.le_of_ble_eq_true rfl) dX12_bars_6 (fun r5 f7 h6 y8 => ?_)
  refine oj_istore_n (lv' := [(2, .int r5), (1, .int r1), (0, .ref 108)]) dX12_bars_9 rfl (by decide) rfl ?_
  refine oj_iconst dX12_bars_10 ci_0 ?_
  refine oj_istore_n (lv' := [(3, .int (0)), (2, .int r5), (1, .int r1), (0, .ref 108)]) dX12_bars_11 rfl (by decide) rfl ?_
  refine oj_iconst dX12_bars_12 ci_0 ?_
  refine oj_istore (lv' := [(4, .int (0)), (3, .int (0)), (2, .int r5), (1, .int r1), (0, .ref 108)]) dX12_bars_13 (by decide) rfl ?_
  refine oj_lv [4, 3, 2, 1, 0] rfl ?_
  obtain ⟨n, y30⟩ := y8
  exact BLX12_bars_15  n _ _ y30
