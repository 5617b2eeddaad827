-- X12_gain
set_option maxRecDepth 100000 in
set_option maxHeartbeats 4000000 in
theorem BX12_gain  {p1 : Int32}  {h : ob_H} {Q : Int32 → ob_H → Prop} (y : MX12_gain  p1 h Q) : ob_T yX12_gain cX12_gain 2 (some .int) (ob_rm 8) KS NN h [.ref 108, .int p1] (ob_g (some .int) (ob_qi Q)) := by
  unfold MX12_gain at y
  refine ob_T_gf (by decide +kernel) (Nat.le_of_ble_eq_true rfl) ?_
  show ob_J RX12 cX12_gain 2 (ob_rm 8) false none 0 0 KS NN h 0 [(0, .ref 108), (1, .int p1)] [] (ob_g (some .int) (ob_qi Q))
  refine oj_aload_n 0 dX12_gain_0 rfl rfl ?_
  refine oj_iload_n 1 dX12_gain_1 rfl rfl ?_
  refine oc_Vpi [.int p1] mi_RX12_454 ow_1644 op_75 rfl k_108 (BX12_isWaiting  y) ⟨by decide, by decide⟩ ⟨Nat.le_refl _, Nat.le_refl _⟩ rfl (Nat.le_of_ble_eq_true rfl) dX12_gain_2 (fun r1 f3 y4 => ?_)
  refine oj_if_eq 23 dX12_gain_5 rfl (fun c5 => ?_) (fun c5 => ?_)
  · have y6 := y4.1 c5
    refine oj_ldcw ow_1661 dX12_gain_23 ?_
    exact oj_ret (r := some (.int (-1000000000))) ⟨trivial, rfl, rfl, (-1000000000), rfl, y6⟩ dX12_gain_26 (Nat.zero_le _) (Nat.zero_le _)
  · have y7 := y4.2 c5
    refine oj_aload_n 0 dX12_gain_8 rfl rfl ?_
    refine oc_Vi [] mi_RX12_473 ow_1736 op_88 rfl k_108 (BX12_duskNow  y7) ⟨by decide, by decide⟩ ⟨Nat.le_refl _, Nat.le_refl _⟩ rfl (Nat.le_of_ble_eq_true rfl) dX12_gain_9 (fun r8 f10 h9 y11 => ?_)
    refine oj_aload_n 0 dX12_gain_12 rfl rfl ?_
    refine oj_iconst dX12_gain_13 ci_1 ?_
    refine oj_iload_n 1 dX12_gain_14 rfl rfl ?_
    refine oj_ishl dX12_gain_15 ?_
    refine oc_Vi [.int ((1) <<< (p1 &&& 31))] mi_RX12_492 ow_1788 op_94 rfl k_108 (BX12_duskWithout  y11) ⟨by decide, by decide⟩ ⟨Nat.le_refl _, Nat.le_refl _⟩ rfl (Nat.le_of_ble_eq_true rfl) dX12_gain_16 (fun r12 f14 h13 y15 => ?_)
    refine oj_isub dX12_gain_19 ?_
    refine oj_goto 26 dX12_gain_20 rfl ?_
    exact oj_ret (r := some (.int (r8 - r12))) ⟨trivial, rfl, rfl, (r8 - r12), rfl, y15⟩ dX12_gain_26 (Nat.zero_le _) (Nat.zero_le _)
-- X12_crowd
set_option maxRecDepth 100000 in
set_option maxHeartbeats 4000000 in
theorem BLX12_crowd_25 {x3 : Int32} {h : ob_H} {Q : Int32 → Prop} {k16 : Int32 → Int32 → Prop} (hk16 : ∀ (x2' : Int32) (x3' : Int32), k16 x2' x3' → ob_J RX12 cX12_crowd 5 (ob_rm 3) false none 0 0 KS NN h 16 [(0, .ref 108), (2, .int x2'), (3, .int x3')] [] (ob_g (some .int) (ob_pi h Q))) :
    ∀ (n : Nat) (x2 : Int32) (x4 : Int32), it2 (FX12_crowd_25 x3 h Q k16) n x2 x4 → ob_J RX12 cX12_crowd 5 (ob_rm 3) false none 0 0 KS NN h 25 [(0, .ref 108), (2, .int x2), (3, .int x3), (4, .int x4)] [] (ob_g (some .int) (ob_pi h Q)) := by
  intro n
  induction n with
  | zero => intro x2 x4 y; exact False.elim y
  | succ n hk25 =>
    intro x2 x4 y
    have y : FX12_crowd_25 x3 h Q k16 (it2 (FX12_crowd_25 x3 h Q k16) n) x2 x4 := y
    unfold FX12_crowd_25 at y
    refine oj_iload 3 dX12_crowd_25 rfl ?_
    refine oj_aload_n 0 dX12_crowd_27 rfl rfl ?_
    refine oj_geti fl_RX12_323 k_108 rfl dX12_crowd_28 ?_
    refine oj_icmp_ge 64 dX12_crowd_31 rfl (fun c13 => ?_) (fun c13 => ?_)
    · have y14 := y.1 c13
      obtain ⟨v16, ev16⟩ : ∃ z : Int32, z = x3 + (1) := ⟨_, rfl⟩
      have y17 := Lt_at y14 v16 ev16
      refine oj_iinc (v := v16) (lv' := [(3, .int v16), (0, .ref 108), (2, .int x2), (4, .int x4)]) 2 dX12_crowd_64 rfl (iinc_e ci_1 ev16) (by decide) rfl ?_
      refine oj_goto 16 dX12_crowd_67 rfl ?_
      refine oj_lv [1, 2, 0] rfl ?_
      exact hk16 _ _ y17
    · have y15 := y.2 c13
      refine oj_iload_n 1 dX12_crowd_34 rfl rfl ?_
      refine oj_iload_n 1 dX12_crowd_35 rfl rfl ?_
      refine oj_iload 3 dX12_crowd_36 rfl ?_
      refine oj_ishr dX12_crowd_38 ?_
      refine oj_iconst dX12_crowd_39 ci_1 ?_
      refine oj_iand dX12_crowd_40 ?_
      refine oj_iconst dX12_crowd_41 ci_1 ?_
      refine oj_icmp_ne 55 dX12_crowd_42 rfl (fun c18 => ?_) (fun c18 => ?_)
      · have y19 := y15.2 c18
        refine oj_iconst dX12_crowd_55 ci_0 ?_
        refine oj_ior dX12_crowd_56 ?_
        refine oj_topi (fun v21 ev21 => ?_)
        have y22 := Lt_at y19 v21 ev21
        refine oj_istore_n (lv' := [(2, .int v21), (0, .ref 108), (3, .int x3), (4, .int x4)]) dX12_crowd_57 rfl (by decide) rfl ?_
        obtain ⟨v23, ev23⟩ : ∃ z : Int32, z = x4 + (1) := ⟨_, rfl⟩
        have y24 := Lt_at y22 v23 ev23
        refine oj_iinc (v := v23) (lv' := [(4, .int v23), (2, .int v21), (0, .ref 108), (3, .int x3)]) 3 dX12_crowd_58 rfl (iinc_e ci_1 ev23) (by decide) rfl ?_
        refine oj_goto 25 dX12_crowd_61 rfl ?_
        refine oj_lv [2, 1, 3, 0] rfl ?_
        exact hk25 _ _ y24
      · have y20 := y15.1 c18
        refine oj_aload_n 0 dX12_crowd_45 rfl rfl ?_
        refine oj_getr (q := 133) fl_RX12_88 k_108 rfl k_133 dX12_crowd_46 ?_
        refine oj_iload 3 dX12_crowd_49 rfl ?_
        obtain ⟨c25, y26⟩ := y20
        refine oj_iald k_133 c25 rfl dX12_crowd_51 ?_
        refine oj_goto 56 dX12_crowd_52 rfl ?_
        refine oj_ior dX12_crowd_56 ?_
        refine oj_topi (fun v27 ev27 => ?_)
        have y28 := Lt_at y26 v27 ev27
        refine oj_istore_n (lv' := [(2, .int v27), (0, .ref 108), (3, .int x3), (4, .int x4)]) dX12_crowd_57 rfl (by decide) rfl ?_
        obtain ⟨v29, ev29⟩ : ∃ z : Int32, z = x4 + (1) := ⟨_, rfl⟩
        have y30 := Lt_at y28 v29 ev29
        refine oj_iinc (v := v29) (lv' := [(4, .int v29), (2, .int v27), (0, .ref 108), (3, .int x3)]) 3 dX12_crowd_58 rfl (iinc_e ci_1 ev29) (by decide) rfl ?_
        refine oj_goto 25 dX12_crowd_61 rfl ?_
        refine oj_lv [2, 1, 3, 0] rfl ?_
        exact hk25 _ _ y30
set_option maxRecDepth 100000 in
set_option maxHeartbeats 4000000 in
theorem BLX12_crowd_16 {h : ob_H} {Q : Int32 → Prop} :
    ∀ (n : Nat) (x2 : Int32) (x3 : Int32), it2 (FX12_crowd_16 h Q) n x2 x3 → ob_J RX12 cX12_crowd 5 (ob_rm 3) false none 0 0 KS NN h 16 [(0, .ref 108), (2, .int x2), (3, .int x3)] [] (ob_g (some .int) (ob_pi h Q)) := by
  intro n
  induction n with
  | zero => intro x2 x3 y; exact False.elim y
  | succ n hk16 =>
    intro x2 x3 y
    have y : FX12_crowd_16 h Q (it2 (FX12_crowd_16 h Q) n) x2 x3 := y
    unfold FX12_crowd_16 at y
    refine oj_iload_n 2 dX12_crowd_16 rfl rfl ?_
    refine oj_bipush dX12_crowd_17 cb_7 ?_
    refine oj_icmp_ge 70 dX12_crowd_19 rfl (fun c10 => ?_) (fun c10 => ?_)
    · have y11 := y.1 c10
      refine oj_iload_n 1 dX12_crowd_70 rfl rfl ?_
      exact oj_ret (r := some (.int x2)) ⟨trivial, rfl, rfl, rfl, x2, rfl, y11⟩ dX12_crowd_71 (Nat.zero_le _) (Nat.zero_le _)
    · have y12 := y.2 c10
      refine oj_iconst dX12_crowd_22 ci_0 ?_
      refine oj_istore (lv' := [(4, .int (0)), (0, .ref 108), (2, .int x2), (3, .int x3)]) dX12_crowd_23 (by decide) rfl ?_
      refine oj_lv [1, 2, 3, 0] rfl ?_
      obtain ⟨n, y31⟩ := y12
      exact BLX12_crowd_25 hk16 n _ _ y31
set_option maxRecDepth 100000 in
set_option maxHeartbeats 4000000 in
theorem BX12_crowd  {p1 : Int32}  {h : ob_H} {Q : Int32 → Prop} (y : MX12_crowd  p1 h Q) : ob_T yX12_crowd cX12_crowd 5 (some .int) (ob_rm 3) KS NN h [.ref 108, .int p1] (ob_g (some .int) (ob_pi h Q)) := by
  unfold MX12_crowd at y
  refine ob_T_gf (by decide +kernel) (Nat.le_of_ble_eq_true rfl) ?_
  show ob_J RX12 cX12_crowd 5 (ob_rm 3) false none 0 0 KS NN h 0 [(0, .ref 108), (1, .int p1)] [] (ob_g (some .int) (ob_pi h Q))
  refine oj_aload_n 0 dX12_crowd_0 rfl rfl ?_
  refine oj_iload_n 1 dX12_crowd_1 rfl rfl ?_
  refine oc_Vpi [.int p1] mi_RX12_451 ow_1629 op_73 rfl k_108 (BX12_isOne  y) ⟨by decide, by decide⟩ ⟨Nat.le_refl _, Nat.le_refl _⟩ rfl (Nat.le_of_ble_eq_true rfl) dX12_crowd_2 (fun r1 f3 y4 => ?_)
  refine oj_if_ne 10 dX12_crowd_5 rfl (fun c5 => ?_) (fun c5 => ?_)
  · have y6 := y4.2 c5
    refine oj_iconst dX12_crowd_10 ci_1 ?_
    refine oj_iload_n 1 dX12_crowd_11 rfl rfl ?_
    refine oj_ishl dX12_crowd_12 ?_
    refine oj_topi (fun v8 ev8 => ?_)
    have y9 := Lt_at y6 v8 ev8
    refine oj_istore_n (lv' := [(2, .int v8), (0, .ref 108), (1, .int p1)]) dX12_crowd_13 rfl (by decide) rfl ?_
    refine oj_iconst dX12_crowd_14 ci_0 ?_
    refine oj_istore_n (lv' := [(3, .int (0)), (2, .int v8), (0, .ref 108), (1, .int p1)]) dX12_crowd_15 rfl (by decide) rfl ?_
    refine oj_lv [2, 1, 0] rfl ?_
    obtain ⟨n, y32⟩ := y9
    exact BLX12_crowd_16  n _ _ y32
  · have y7 := y4.1 c5
    refine oj_iconst dX12_crowd_8 ci_m1 ?_
    exact oj_ret (r := some (.int (-1))) ⟨trivial, rfl, rfl, rfl, (-1), rfl, y7⟩ dX12_crowd_9 (Nat.zero_le _) (Nat.zero_le _)
-- X12_divisor
set_option maxRecDepth 100000 in
set_option maxHeartbeats 4000000 in
theorem BLX12_divisor_4 {h : ob_H} {Q : Int32 → Prop} :
    ∀ (n : Nat) (x2 : Int32) (x3 : Int32), it2 (FX12_divisor_4 h Q) n x2 x3 → ob_J RX12 cX12_divisor 5 (ob_rm 1) false none 0 0 KS NN h 4 [(2, .int x2), (3, .int x3)] [] (ob_g (some .int) (ob_pi h Q)) := by
  intro n
  induction n with
  | zero => intro x2 x3 y; exact False.elim y
  | succ n hk4 =>
    intro x2 x3 y
    have y : FX12_divisor_4 h Q (it2 (FX12_divisor_4 h Q) n) x2 x3 := y
    unfold FX12_divisor_4 at y
    refine oj_iload_n 1 dX12_divisor_4 rfl rfl ?_
    refine oj_if_le 21 dX12_divisor_5 rfl (fun c1 => ?_) (fun c1 => ?_)
    · have y2 := y.1 c1
      refine oj_iload_n 0 dX12_divisor_21 rfl rfl ?_
      exact oj_ret (r := some (.int x2)) ⟨trivial, rfl, rfl, rfl, x2, rfl, y2⟩ dX12_divisor_22 (Nat.zero_le _) (Nat.zero_le _)
    · have y3 := y.2 c1
      refine oj_iload_n 0 dX12_divisor_8 rfl rfl ?_
      refine oj_iload_n 1 dX12_divisor_9 rfl rfl ?_
      obtain ⟨c4, y5⟩ := y3
      refine oj_irem dX12_divisor_10 c4 ?_
      refine oj_topi (fun v6 ev6 => ?_)
      have y7 := Lt_at y5 v6 ev6
      refine oj_istore (lv' := [(4, .int v6), (2, .int x2), (3, .int x3)]) dX12_divisor_11 (by decide) rfl ?_
      refine oj_iload_n 2 dX12_divisor_13 rfl rfl ?_
      refine oj_istore_n (lv' := [(2, .int x3), (4, .int v6), (3, .int x3)]) dX12_divisor_14 rfl (by decide) rfl ?_
      refine oj_iload 1 dX12_divisor_15 rfl ?_
      refine oj_istore_n (lv' := [(3, .int v6), (2, .int x3), (4, .int v6)]) dX12_divisor_17 rfl (by decide) rfl ?_
      refine oj_goto 4 dX12_divisor_18 rfl ?_
      refine oj_lv [1, 0] rfl ?_
      exact hk4 _ _ y7
set_option maxRecDepth 100000 in
set_option maxHeartbeats 4000000 in
theorem BX12_divisor  {p0 : Int32} {p1 : Int32}  {h : ob_H} {Q : Int32 → Prop} (y : MX12_divisor  p0 p1 h Q) : ob_T yX12_divisor cX12_divisor 5 (some .int) (ob_rm 1) KS NN h [.int p0, .int p1] (ob_g (some .int) (ob_pi h Q)) := by
  unfold MX12_divisor at y
  refine ob_T_gf (by decide +kernel) (Nat.le_of_ble_eq_true rfl) ?_
  show ob_J RX12 cX12_divisor 5 (ob_rm 1) false none 0 0 KS NN h 0 [(0, .int p0), (1, .int p1)] [] (ob_g (some .int) (ob_pi h Q))
  refine oj_iload_n 0 dX12_divisor_0 rfl rfl ?_
  refine oj_istore_n (lv' := [(2, .int p0), (0, .int p0), (1, .int p1)]) dX12_divisor_1 rfl (by decide) rfl ?_
  refine oj_iload_n 2 dX12_divisor_2 rfl rfl ?_
  refine oj_istore_n (lv' := [(3, .int p1), (2, .int p0), (0, .int p0), (1, .int p1)]) dX12_divisor_3 rfl (by decide) rfl ?_
  refine oj_lv [1, 0] rfl ?_
  obtain ⟨n, y8⟩ := y
  exact BLX12_divisor_4  n _ _ y8
-- X12_power
set_option maxRecDepth 100000 in
set_option maxHeartbeats 4000000 in
theorem BLX12_power_4 {x0 : Int32} {x1 : Int32} {h : ob_H} {Q : Int32 → Prop} :
    ∀ (n : Nat) (x2 : Int32) (x3 : Int32), it2 (FX12_power_4 x0 x1 h Q) n x2 x3 → ob_J RX12 cX12_power 4 (ob_rm 1) false none 0 0 KS NN h 4 [(0, .int x0), (1, .int x1), (2, .int x2), (3, .int x3)] [] (ob_g (some .int) (ob_pi h Q)) := by
  intro n
  induction n with
  | zero => intro x2 x3 y; exact False.elim y
  | succ n hk4 =>
    intro x2 x3 y
    have y : FX12_power_4 x0 x1 h Q (it2 (FX12_power_4 x0 x1 h Q) n) x2 x3 := y
    unfold FX12_power_4 at y
    refine oj_iload_n 3 dX12_power_4 rfl rfl ?_
    refine oj_iload_n 1 dX12_power_5 rfl rfl ?_
    refine oj_icmp_ge 19 dX12_power_6 rfl (fun c1 => ?_) (fun c1 => ?_)
    · have y2 := y.1 c1
      refine oj_iload_n 2 dX12_power_19 rfl rfl ?_
      exact oj_ret (r := some (.int x2)) ⟨trivial, rfl, rfl, rfl, x2, rfl, y2⟩ dX12_power_20 (Nat.zero_le _) (Nat.zero_le _)
    · have y3 := y.2 c1
      refine oj_iload_n 2 dX12_power_9 rfl rfl ?_
      refine oj_iload_n 0 dX12_power_10 rfl rfl ?_
      refine oj_imul dX12_power_11 ?_
      refine oj_topi (fun v4 ev4 => ?_)
      have y5 := Lt_at y3 v4 ev4
      refine oj_istore_n (lv' := [(2, .int v4), (0, .int x0), (1, .int x1), (3, .int x3)]) dX12_power_12 rfl (by decide) rfl ?_
      obtain ⟨v6, ev6⟩ : ∃ z : Int32, z = x3 + (1) := ⟨_, rfl⟩
      have y7 := Lt_at y5 v6 ev6
      refine oj_iinc (v := v6) (lv' := [(3, .int v6), (2, .int v4), (0, .int x0), (1, .int x1)]) 3 dX12_power_13 rfl (iinc_e ci_1 ev6) (by decide) rfl ?_
      refine oj_goto 4 dX12_power_16 rfl ?_
      refine oj_lv [2, 3, 1, 0] rfl ?_
      exact hk4 _ _ y7
set_option maxRecDepth 100000 in
set_option maxHeartbeats 4000000 in
theorem BX12_power  {p0 : Int32} {p1 : Int32}  {h : ob_H} {Q : Int32 → Prop} (y : MX12_power  p0 p1 h Q) : ob_T yX12_power cX12_power 4 (some .int) (ob_rm 1) KS NN h [.int p0, .int p1] (ob_g (some .int) (ob_pi h Q)) := by
  unfold MX12_power at y
  refine ob_T_gf (by decide +kernel) (Nat.le_of_ble_eq_true rfl) ?_
  show ob_J RX12 cX12_power 4 (ob_rm 1) false none 0 0 KS NN h 0 [(0, .int p0), (1, .int p1)] [] (ob_g (some .int) (ob_pi h Q))
  refine oj_iconst dX12_power_0 ci_1 ?_
  refine oj_istore_n (lv' := [(2, .int (1)), (0, .int p0), (1, .int p1)]) dX12_power_1 rfl (by decide) rfl ?_
  refine oj_iconst dX12_power_2 ci_0 ?_
  refine oj_istore_n (lv' := [(3, .int (0)), (2, .int (1)), (0, .int p0), (1, .int p1)]) dX12_power_3 rfl (by decide) rfl ?_
  refine oj_lv [2, 3, 1, 0] rfl ?_
  obtain ⟨n, y8⟩ := y
  exact BLX12_power_4  n _ _ y8
-- X12_hundredths
set_option maxRecDepth 100000 in
set_option maxHeartbeats 4000000 in
theorem BX12_hundredths  {p1 : Int32}  {h : ob_H} {Q : Int32 → ob_H → Prop} (y : MX12_hundredths  p1 h Q) : ob_T yX12_hundredths cX12_hundredths 3 (some .int) (ob_rm 5) KS NN h [.ref 108, .int p1] (ob_g (some .int) (ob_qi Q)) := by
  unfold MX12_hundredths at y
  refine ob_T_gf (by decide +kernel) (Nat.le_of_ble_eq_true rfl) ?_
  show ob_J RX12 cX12_hundredths 3 (ob_rm 5) false none 0 0 KS NN h 0 [(0, .ref 108), (1, .int p1)] [] (ob_g (some .int) (ob_qi Q))
  refine oj_aload_n 0 dX12_hundredths_0 rfl rfl ?_
  refine oj_iload_n 1 dX12_hundredths_1 rfl rfl ?_
  refine oc_Vi [.int p1] mi_RX12_461 ow_1680 op_82 rfl k_108 (BX12_answerOf  y) ⟨by decide, by decide⟩ ⟨Nat.le_refl _, Nat.le_refl _⟩ rfl (Nat.le_of_ble_eq_true rfl) dX12_hundredths_2 (fun r1 f3 h2 y4 => ?_)
  refine oj_istore_n (lv' := [(2, .int r1), (0, .ref 108), (1, .int p1)]) dX12_hundredths_5 rfl (by decide) rfl ?_
  refine oj_iload_n 0 dX12_hundredths_6 rfl rfl ?_
  refine oj_if_ge 14 dX12_hundredths_7 rfl (fun c5 => ?_) (fun c5 => ?_)
  · have y6 := y4.1 c5
    refine oj_iload_n 0 dX12_hundredths_14 rfl rfl ?_
    refine oj_bipush dX12_hundredths_15 cb_100 ?_
    refine oj_icmp_le 25 dX12_hundredths_17 rfl (fun c8 => ?_) (fun c8 => ?_)
    · have y9 := y6.1 c8
      refine oj_iload_n 0 dX12_hundredths_25 rfl rfl ?_
      exact oj_ret (r := some (.int r1)) ⟨trivial, rfl, rfl, r1, rfl, y9⟩ dX12_hundredths_26 (Nat.zero_le _) (Nat.zero_le _)
    · have y10 := y6.2 c8
      refine oj_bipush dX12_hundredths_20 cb_100 ?_
      refine oj_goto 26 dX12_hundredths_22 rfl ?_
      exact oj_ret (r := some (.int (100))) ⟨trivial, rfl, rfl, (100), rfl, y10⟩ dX12_hundredths_26 (Nat.zero_le _) (Nat.zero_le _)
  · have y7 := y4.2 c5
    refine oj_iconst dX12_hundredths_10 ci_0 ?_
    refine oj_goto 26 dX12_hundredths_11 rfl ?_
    exact oj_ret (r := some (.int (0))) ⟨trivial, rfl, rfl, (0), rfl, y7⟩ dX12_hundredths_26 (Nat.zero_le _) (Nat.zero_le _)
-- X12_shareOf
set_option maxRecDepth 100000 in
set_option maxHeartbeats 4000000 in
theorem BLX12_shareOf_5 {x1 : Int32} {x2 : Int32} {Q : Int32 → ob_H → Prop} :
    ∀ (n : Nat) (x3 : Int32) (x4 : Int32) (h : ob_H), it3 (FX12_shareOf_5 x1 x2 Q) n x3 x4 h → ob_J RX12 cX12_shareOf 5 (ob_rm 6) false none 0 0 KS NN h 5 [(0, .ref 108), (1, .int x1), (2, .int x2), (3, .int x3), (4, .int x4)] [] (ob_g (some .int) (ob_qi Q)) := by
  intro n
  induction n with
  | zero => intro x3 x4 h y; exact False.elim y
  | succ n hk5 =>
    intro x3 x4 h y
    have y : FX12_shareOf_5 x1 x2 Q (it3 (FX12_shareOf_5 x1 x2 Q) n) x3 x4 h := y
    unfold FX12_shareOf_5 at y
    refine oj_iload 4 dX12_shareOf_5 rfl ?_
    refine oj_aload_n 0 dX12_shareOf_7 rfl rfl ?_
    refine oj_geti fl_RX12_323 k_108 rfl dX12_shareOf_8 ?_
    refine oj_icmp_ge 61 dX12_shareOf_11 rfl (fun c1 => ?_) (fun c1 => ?_)
    · have y2 := y.1 c1
      refine oj_iload_n 3 dX12_shareOf_61 rfl rfl ?_
      exact oj_ret (r := some (.int x3)) ⟨trivial, rfl, rfl, x3, rfl, y2⟩ dX12_shareOf_62 (Nat.zero_le _) (Nat.zero_le _)
    · have y3 := y.2 c1
      refine oj_iload_n 1 dX12_shareOf_14 rfl rfl ?_
      refine oj_iload 4 dX12_shareOf_15 rfl ?_
      refine oj_ishr dX12_shareOf_17 ?_
      refine oj_iconst dX12_shareOf_18 ci_1 ?_
      refine oj_iand dX12_shareOf_19 ?_
      refine oj_iconst dX12_shareOf_20 ci_1 ?_
      refine oj_icmp_ne 55 dX12_shareOf_21 rfl (fun c4 => ?_) (fun c4 => ?_)
      · have y5 := y3.2 c4
        obtain ⟨v7, ev7⟩ : ∃ z : Int32, z = x4 + (1) := ⟨_, rfl⟩
        have y8 := Lt_at y5 v7 ev7
        refine oj_iinc (v := v7) (lv' := [(4, .int v7), (0, .ref 108), (1, .int x1), (2, .int x2), (3, .int x3)]) 4 dX12_shareOf_55 rfl (iinc_e ci_1 ev7) (by decide) rfl ?_
        refine oj_goto 5 dX12_shareOf_58 rfl ?_
        refine oj_lv [1, 2, 3, 4, 0] rfl ?_
        exact hk5 _ _ _ y8
      · have y6 := y3.1 c4
        refine oj_iload_n 3 dX12_shareOf_24 rfl rfl ?_
        refine oj_iload_n 2 dX12_shareOf_25 rfl rfl ?_
        refine oj_iload 4 dX12_shareOf_26 rfl ?_
        refine oj_ishr dX12_shareOf_28 ?_
        refine oj_iconst dX12_shareOf_29 ci_1 ?_
        refine oj_iand dX12_shareOf_30 ?_
        refine oj_iconst dX12_shareOf_31 ci_1 ?_
        refine oj_icmp_ne 44 dX12_shareOf_32 rfl (fun c9 => ?_) (fun c9 => ?_)
        · have y10 := y6.2 c9
          refine oj_bipush dX12_shareOf_44 cb_100 ?_
          refine oj_aload_n 0 dX12_shareOf_46 rfl rfl ?_
          refine oj_iload 4 dX12_shareOf_47 rfl ?_
          refine oc_Vi [.int x4] mi_RX12_504 ow_1844 op_101 rfl k_108 (BX12_hundredths  y10) ⟨by decide, by decide⟩ ⟨Nat.le_refl _, Nat.le_refl _⟩ rfl (Nat.le_of_ble_eq_true rfl) dX12_shareOf_49 (fun r12 f14 h13 y15 => ?_)
          refine oj_isub dX12_shareOf_52 ?_
          refine oj_imul dX12_shareOf_53 ?_
          refine oj_topi (fun v16 ev16 => ?_)
          have y17 := Lt_at y15 v16 ev16
          refine oj_istore_n (lv' := [(3, .int v16), (0, .ref 108), (1, .int x1), (2, .int x2), (4, .int x4)]) dX12_shareOf_54 rfl (by decide) rfl ?_
          obtain ⟨v18, ev18⟩ : ∃ z : Int32, z = x4 + (1) := ⟨_, rfl⟩
          have y19 := Lt_at y17 v18 ev18
          refine oj_iinc (v := v18) (lv' := [(4, .int v18), (3, .int v16), (0, .ref 108), (1, .int x1), (2, .int x2)]) 4 dX12_shareOf_55 rfl (iinc_e ci_1 ev18) (by decide) rfl ?_
          refine oj_goto 5 dX12_shareOf_58 rfl ?_
          refine oj_lv [2, 3, 4, 1, 0] rfl ?_
          exact hk5 _ _ _ y19
        · have y11 := y6.1 c9
          refine oj_aload_n 0 dX12_shareOf_35 rfl rfl ?_
          refine oj_iload 4 dX12_shareOf_36 rfl ?_
          refine oc_Vi [.int x4] mi_RX12_504 ow_1844 op_101 rfl k_108 (BX12_hundredths  y11) ⟨by decide, by decide⟩ ⟨Nat.le_refl _, Nat.le_refl _⟩ rfl (Nat.le_of_ble_eq_true rfl) dX12_shareOf_38 (fun r20 f22 h21 y23 => ?_)
          refine oj_goto 53 dX12_shareOf_41 rfl ?_
          refine oj_imul dX12_shareOf_53 ?_
          refine oj_topi (fun v24 ev24 => ?_)
          have y25 := Lt_at y23 v24 ev24
          refine oj_istore_n (lv' := [(3, .int v24), (0, .ref 108), (1, .int x1), (2, .int x2), (4, .int x4)]) dX12_shareOf_54 rfl (by decide) rfl ?_
          obtain ⟨v26, ev26⟩ : ∃ z : Int32, z = x4 + (1) := ⟨_, rfl⟩
          have y27 := Lt_at y25 v26 ev26
          refine oj_iinc (v := v26) (lv' := [(4, .int v26), (3, .int v24), (0, .ref 108), (1, .int x1), (2, .int x2)]) 4 dX12_shareOf_55 rfl (iinc_e ci_1 ev26) (by decide) rfl ?_
          refine oj_goto 5 dX12_shareOf_58 rfl ?_
          refine oj_lv [2, 3, 4, 1, 0] rfl ?_
          exact hk5 _ _ _ y27
set_option maxRecDepth 100000 in
set_option maxHeartbeats 4000000 in
theorem BX12_shareOf  {p1 : Int32} {p2 : Int32}  {h : ob_H} {Q : Int32 → ob_H → Prop} (y : MX12_shareOf  p1 p2 h Q) : ob_T yX12_shareOf cX12_shareOf 5 (some .int) (ob_rm 6) KS NN h [.ref 108, .int p1, .int p2] (ob_g (some .int) (ob_qi Q)) := by
  unfold MX12_shareOf at y
  refine ob_T_gf (by decide +kernel) (Nat.le_of_ble_eq_true rfl) ?_
  show ob_J RX12 cX12_shareOf 5 (ob_rm 6) false none 0 0 KS NN h 0 [(0, .ref 108), (1, .int p1), (2, .int p2)] [] (ob_g (some .int) (ob_qi Q))
  refine oj_iconst dX12_shareOf_0 ci_1 ?_
  refine oj_istore_n (lv' := [(3, .int (1)), (0, .ref 108), (1, .int p1), (2, .int p2)]) dX12_shareOf_1 rfl (by decide) rfl ?_
  refine oj_iconst dX12_shareOf_2 ci_0 ?_
  refine oj_istore (lv' := [(4, .int (0)), (3, .int (1)), (0, .ref 108), (1, .int p1), (2, .int p2)]) dX12_shareOf_3 (by decide) rfl ?_
  refine oj_lv [2, 3, 4, 1, 0] rfl ?_
  obtain ⟨n, y28⟩ := y
  exact BLX12_shareOf_5  n _ _ _ y28
-- X12_canAsk
set_option maxRecDepth 100000 in
set_option maxHeartbeats 4000000 in
theorem BX12_canAsk  {p1 : Int32} {p2 : Int32}  {h : ob_H} {Q : Int32 → ob_H → Prop} (y : MX12_canAsk  p1 p2 h Q) : ob_T yX12_canAsk cX12_canAsk 3 (some .boolean) (ob_rm 4) KS NN h [.ref 108, .int p1, .int p2] (ob_g (some .boolean) (ob_qi Q)) := by
  unfold MX12_canAsk at y
  refine ob_T_gf (by decide +kernel) (Nat.le_of_ble_eq_true rfl) ?_
  show ob_J RX12 cX12_canAsk 3 (ob_rm 4) false none 0 0 KS NN h 0 [(0, .ref 108), (1, .int p1), (2, .int p2)] [] (ob_g (some .boolean) (ob_qi Q))
  refine oj_iload_n 1 dX12_canAsk_0 rfl rfl ?_
  refine oj_iconst dX12_canAsk_1 ci_0 ?_
  refine oj_aload_n 0 dX12_canAsk_2 rfl rfl ?_
  refine oc_Vpi [] mi_RX12_507 ow_1836 op_99 rfl k_108 (BX12_all  y) ⟨by decide, by decide⟩ ⟨Nat.le_refl _, Nat.le_refl _⟩ rfl (Nat.le_of_ble_eq_true rfl) dX12_canAsk_3 (fun r1 f3 y4 => ?_)
  refine oc_Spi [.int p1, .int (0), .int r1] mi_RX12_418 ow_1632 (BX12_isIn  y4) ⟨by decide, by decide⟩ ⟨Nat.le_refl _, Nat.le_refl _⟩ rfl (Nat.le_of_ble_eq_true rfl) dX12_canAsk_6 (fun r5 f7 y8 => ?_)
  refine oj_if_eq 44 dX12_canAsk_9 rfl (fun c9 => ?_) (fun c9 => ?_)
  · have y10 := y8.1 c9
    refine oj_iconst dX12_canAsk_44 ci_0 ?_
    exact oj_ret (r := some (.int (0))) ⟨rfl, rfl, rfl, (0), rfl, y10⟩ dX12_canAsk_45 (Nat.zero_le _) (Nat.zero_le _)
  · have y11 := y8.2 c9
    refine oj_iload_n 1 dX12_canAsk_12 rfl rfl ?_
    refine oj_aload_n 0 dX12_canAsk_13 rfl rfl ?_
    refine oc_Vi [] mi_RX12_483 ow_1777 op_92 rfl k_108 (BX12_waitingNow  y11) ⟨by decide, by decide⟩ ⟨Nat.le_refl _, Nat.le_refl _⟩ rfl (Nat.le_of_ble_eq_true rfl) dX12_canAsk_14 (fun r12 f14 h13 y15 => ?_)
    refine oj_iconst dX12_canAsk_17 ci_m1 ?_
    refine oj_ixor dX12_canAsk_18 ?_
    refine oj_iand dX12_canAsk_19 ?_
    refine oj_if_ne 44 dX12_canAsk_20 rfl (fun c16 => ?_) (fun c16 => ?_)
    · have y17 := y15.2 c16
      refine oj_iconst dX12_canAsk_44 ci_0 ?_
      exact oj_ret (r := some (.int (0))) ⟨rfl, rfl, rfl, (0), rfl, y17⟩ dX12_canAsk_45 (Nat.zero_le _) (Nat.zero_le _)
    · have y18 := y15.1 c16
      refine oj_iload_n 1 dX12_canAsk_23 rfl rfl ?_
      refine oc_Spi [.int p1] mi_RX12_489 ow_1784 (BX12_members  y18) ⟨by decide, by decide⟩ ⟨Nat.le_refl _, Nat.le_refl _⟩ rfl (Nat.le_of_ble_eq_true rfl) dX12_canAsk_24 (fun r19 f21 y22 => ?_)
      refine oj_iconst dX12_canAsk_27 ci_4 ?_
      refine oj_icmp_gt 44 dX12_canAsk_28 rfl (fun c23 => ?_) (fun c23 => ?_)
      · have y24 := y22.1 c23
        refine oj_iconst dX12_canAsk_44 ci_0 ?_
        exact oj_ret (r := some (.int (0))) ⟨rfl, rfl, rfl, (0), rfl, y24⟩ dX12_canAsk_45 (Nat.zero_le _) (Nat.zero_le _)
      · have y25 := y22.2 c23
        refine oj_iload_n 2 dX12_canAsk_31 rfl rfl ?_
        refine oj_iconst dX12_canAsk_32 ci_0 ?_
        refine oj_iconst dX12_canAsk_33 ci_1 ?_
        refine oc_Spi [.int p2, .int (0), .int (1)] mi_RX12_418 ow_1632 (BX12_isIn  y25) ⟨by decide, by decide⟩ ⟨Nat.le_refl _, Nat.le_refl _⟩ rfl (Nat.le_of_ble_eq_true rfl) dX12_canAsk_34 (fun r26 f28 y29 => ?_)
        refine oj_if_eq 44 dX12_canAsk_37 rfl (fun c30 => ?_) (fun c30 => ?_)
        · have y31 := y29.1 c30
          refine oj_iconst dX12_canAsk_44 ci_0 ?_
          exact oj_ret (r := some (.int (0))) ⟨rfl, rfl, rfl, (0), rfl, y31⟩ dX12_canAsk_45 (Nat.zero_le _) (Nat.zero_le _)
        · have y32 := y29.2 c30
          refine oj_iconst dX12_canAsk_40 ci_1 ?_
          refine oj_goto 45 dX12_canAsk_41 rfl ?_
          exact oj_ret (r := some (.int (1))) ⟨rfl, rfl, rfl, (1), rfl, y32⟩ dX12_canAsk_45 (Nat.zero_le _) (Nat.zero_le _)
-- X12_partOf
set_option maxRecDepth 100000 in
set_option maxHeartbeats 4000000 in
theorem BX12_partOf  {p0 : Int32} {p1 : Int32} {p2 : Int32}  {h : ob_H} {Q : Int32 → Prop} (y : MX12_partOf  p0 p1 p2 h Q) : ob_T yX12_partOf cX12_partOf 4 (some .int) (ob_rm 2) KS NN h [.int p0, .int p1, .int p2] (ob_g (some .int) (ob_pi h Q)) := by
  unfold MX12_partOf at y
  refine ob_T_gf (by decide +kernel) (Nat.le_of_ble_eq_true rfl) ?_
  show ob_J RX12 cX12_partOf 4 (ob_rm 2) false none 0 0 KS NN h 0 [(0, .int p0), (1, .int p1), (2, .int p2)] [] (ob_g (some .int) (ob_pi h Q))
  refine oj_iload_n 1 dX12_partOf_0 rfl rfl ?_
  refine oj_iload_n 0 dX12_partOf_1 rfl rfl ?_
  refine oc_Spi [.int p1, .int p0] mi_RX12_510 ow_1853 (BX12_divisor  y) ⟨by decide, by decide⟩ ⟨Nat.le_refl _, Nat.le_refl _⟩ rfl (Nat.le_of_ble_eq_true rfl) dX12_partOf_2 (fun r1 f3 y4 => ?_)
  refine oj_istore_n (lv' := [(3, .int r1), (0, .int p0), (1, .int p1), (2, .int p2)]) dX12_partOf_5 rfl (by decide) rfl ?_
  refine oj_iload_n 3 dX12_partOf_6 rfl rfl ?_
  refine oj_if_ne 16 dX12_partOf_7 rfl (fun c5 => ?_) (fun c5 => ?_)
  · have y6 := y4.2 c5
    refine oj_iload_n 2 dX12_partOf_16 rfl rfl ?_
    refine oj_iload_n 0 dX12_partOf_17 rfl rfl ?_
    obtain ⟨c8, y9⟩ := y6
    refine oj_idiv dX12_partOf_18 c8 ?_
    exact oj_ret (r := some (.int (p1 / r1))) ⟨trivial, rfl, rfl, rfl, (p1 / r1), rfl, y9⟩ dX12_partOf_19 (Nat.zero_le _) (Nat.zero_le _)
  · have y7 := y4.1 c5
    refine oj_iload_n 1 dX12_partOf_10 rfl rfl ?_
    refine oj_iload_n 0 dX12_partOf_11 rfl rfl ?_
    obtain ⟨c10, y11⟩ := y7
    refine oj_idiv dX12_partOf_12 c10 ?_
    refine oj_goto 19 dX12_partOf_13 rfl ?_
    exact oj_ret (r := some (.int (p0 / r1))) ⟨trivial, rfl, rfl, rfl, (p0 / r1), rfl, y11⟩ dX12_partOf_19 (Nat.zero_le _) (Nat.zero_le _)
-- X12_odds
set_option maxRecDepth 100000 in
set_option maxHeartbeats 4000000 in
theorem BX12_odds  {p1 : Int32} {p2 : Int32}  {h : ob_H} {Q : Int32 → ob_H → Prop} (y : MX12_odds  p1 p2 h Q) : ob_T yX12_odds cX12_odds 3 (some .int) (ob_rm 7) KS NN h [.ref 108, .int p1, .int p2] (ob_g (some .int) (ob_qi Q)) := by
  unfold MX12_odds at y
  refine ob_T_gf (by decide +kernel) (Nat.le_of_ble_eq_true rfl) ?_
  show ob_J RX12 cX12_odds 3 (ob_rm 7) false none 0 0 KS NN h 0 [(0, .ref 108), (1, .int p1), (2, .int p2)] [] (ob_g (some .int) (ob_qi Q))
  refine oj_aload_n 0 dX12_odds_0 rfl rfl ?_
  refine oj_iload_n 1 dX12_odds_1 rfl rfl ?_
  refine oj_iload_n 2 dX12_odds_2 rfl rfl ?_
  refine oc_Vi [.int p1, .int p2] mi_RX12_513 ow_1832 op_98 rfl k_108 (BX12_canAsk  y) ⟨by decide, by decide⟩ ⟨Nat.le_refl _, Nat.le_refl _⟩ rfl (Nat.le_of_ble_eq_true rfl) dX12_odds_3 (fun r1 f3 h2 y4 => ?_)
  refine oj_if_ne 11 dX12_odds_6 rfl (fun c5 => ?_) (fun c5 => ?_)
  · have y6 := y4.2 c5
    refine oj_aload_n 0 dX12_odds_11 rfl rfl ?_
    refine oc_Vv [] mi_RX12_445 ow_1640 op_74 rfl k_108 (BX12_load  y6) ⟨by decide, by decide⟩ ⟨Nat.le_refl _, Nat.le_refl _⟩ rfl (Nat.le_of_ble_eq_true rfl) dX12_odds_12 (fun h9 y11 => ?_)
    refine oj_aload_n 0 dX12_odds_15 rfl rfl ?_
    refine oj_iload_n 1 dX12_odds_16 rfl rfl ?_
    refine oj_iload_n 1 dX12_odds_17 rfl rfl ?_
    refine oc_Vi [.int p1, .int p1] mi_RX12_517 ow_1840 op_100 rfl k_108 (BX12_shareOf  y11) ⟨by decide, by decide⟩ ⟨Nat.le_refl _, Nat.le_refl _⟩ rfl (Nat.le_of_ble_eq_true rfl) dX12_odds_18 (fun r12 f14 h13 y15 => ?_)
    refine oj_bipush dX12_odds_21 cb_100 ?_
    refine oj_iload_n 1 dX12_odds_23 rfl rfl ?_
    refine oc_Spi [.int p1] mi_RX12_489 ow_1784 (BX12_members  y15) ⟨by decide, by decide⟩ ⟨Nat.le_refl _, Nat.le_refl _⟩ rfl (Nat.le_of_ble_eq_true rfl) dX12_odds_24 (fun r16 f18 y19 => ?_)
    refine oc_Spi [.int (100), .int r16] mi_RX12_520 ow_1847 (BX12_power  y19) ⟨by decide, by decide⟩ ⟨Nat.le_refl _, Nat.le_refl _⟩ rfl (Nat.le_of_ble_eq_true rfl) dX12_odds_27 (fun r20 f22 y23 => ?_)
    refine oj_iload_n 2 dX12_odds_30 rfl rfl ?_
    refine oc_Spi [.int r12, .int r20, .int p2] mi_RX12_523 ow_1850 (BX12_partOf  y23) ⟨by decide, by decide⟩ ⟨Nat.le_refl _, Nat.le_refl _⟩ rfl (Nat.le_of_ble_eq_true rfl) dX12_odds_31 (fun r24 f26 y27 => ?_)
    exact oj_ret (r := some (.int r24)) ⟨trivial, rfl, rfl, r24, rfl, y27⟩ dX12_odds_34 (Nat.zero_le _) (Nat.zero_le _)
  · have y7 := y4.1 c5
    refine oj_iconst dX12_odds_9 ci_m1 ?_
    exact oj_ret (r := some (.int (-1))) ⟨trivial, rfl, rfl, (-1), rfl, y7⟩ dX12_odds_10 (Nat.zero_le _) (Nat.zero_le _)
-- X12_peril
set_option maxRecDepth 100000 in
set_option maxHeartbeats 4000000 in
theorem BLX12_peril_22 {x1 : Int32} {x2 : Int32} {x3 : Int32} {Q : Int32 → ob_H → Prop} :
    ∀ (n : Nat) (x4 : Int32) (x5 : Int32) (h : ob_H), it3 (FX12_peril_22 x1 x2 x3 Q) n x4 x5 h → ob_J RX12 cX12_peril 6 (ob_rm 7) false none 0 0 KS NN h 22 [(0, .ref 108), (1, .int x1), (2, .int x2), (3, .int x3), (4, .int x4), (5, .int x5)] [] (ob_g (some .int) (ob_qi Q)) := by
  intro n
  induction n with
  | zero => intro x4 x5 h y; exact False.elim y
  | succ n hk22 =>
    intro x4 x5 h y
    have y : FX12_peril_22 x1 x2 x3 Q (it3 (FX12_peril_22 x1 x2 x3 Q) n) x4 x5 h := y
    unfold FX12_peril_22 at y
    refine oj_iload 5 dX12_peril_22 rfl ?_
    refine oj_iload_n 1 dX12_peril_24 rfl rfl ?_
    refine oj_icmp_gt 70 dX12_peril_25 rfl (fun c12 => ?_) (fun c12 => ?_)
    · have y13 := y.1 c12
      refine oj_iload 4 dX12_peril_70 rfl ?_
      refine oj_bipush dX12_peril_72 cb_100 ?_
      refine oj_iload_n 1 dX12_peril_74 rfl rfl ?_
      refine oc_Spi [.int x1] mi_RX12_489 ow_1784 (BX12_members  y13) ⟨by decide, by decide⟩ ⟨Nat.le_refl _, Nat.le_refl _⟩ rfl (Nat.le_of_ble_eq_true rfl) dX12_peril_75 (fun r15 f17 y18 => ?_)
      refine oc_Spi [.int (100), .int r15] mi_RX12_520 ow_1847 (BX12_power  y18) ⟨by decide, by decide⟩ ⟨Nat.le_refl _, Nat.le_refl _⟩ rfl (Nat.le_of_ble_eq_true rfl) dX12_peril_78 (fun r19 f21 y22 => ?_)
      refine oj_iload_n 2 dX12_peril_81 rfl rfl ?_
      refine oc_Spi [.int x4, .int r19, .int x2] mi_RX12_523 ow_1850 (BX12_partOf  y22) ⟨by decide, by decide⟩ ⟨Nat.le_refl _, Nat.le_refl _⟩ rfl (Nat.le_of_ble_eq_true rfl) dX12_peril_82 (fun r23 f25 y26 => ?_)
      exact oj_ret (r := some (.int r23)) ⟨trivial, rfl, rfl, r23, rfl, y26⟩ dX12_peril_85 (Nat.zero_le _) (Nat.zero_le _)
    · have y14 := y.2 c12
      refine oj_iload 5 dX12_peril_28 rfl ?_
      refine oj_iload_n 1 dX12_peril_30 rfl rfl ?_
      refine oj_iconst dX12_peril_31 ci_m1 ?_
      refine oj_ixor dX12_peril_32 ?_
      refine oj_iand dX12_peril_33 ?_
      refine oj_if_ne 64 dX12_peril_34 rfl (fun c27 => ?_) (fun c27 => ?_)
      · have y28 := y14.2 c27
        obtain ⟨v30, ev30⟩ : ∃ z : Int32, z = x5 + (1) := ⟨_, rfl⟩
        have y31 := Lt_at y28 v30 ev30
        refine oj_iinc (v := v30) (lv' := [(5, .int v30), (0, .ref 108), (1, .int x1), (2, .int x2), (3, .int x3), (4, .int x4)]) 5 dX12_peril_64 rfl (iinc_e ci_1 ev30) (by decide) rfl ?_
        refine oj_goto 22 dX12_peril_67 rfl ?_
        refine oj_lv [1, 2, 3, 4, 5, 0] rfl ?_
        exact hk22 _ _ _ y31
      · have y29 := y14.1 c27
        refine oj_aload_n 0 dX12_peril_37 rfl rfl ?_
        refine oj_iload_n 3 dX12_peril_38 rfl rfl ?_
        refine oj_iload_n 1 dX12_peril_39 rfl rfl ?_
        refine oj_iload 5 dX12_peril_40 rfl ?_
        refine oj_iconst dX12_peril_42 ci_m1 ?_
        refine oj_ixor dX12_peril_43 ?_
        refine oj_iand dX12_peril_44 ?_
        refine oj_ior dX12_peril_45 ?_
        refine oc_Vpi [.int (x3 ||| (x1 &&& (x5 ^^^ (-1))))] mi_RX12_501 ow_1812 op_97 rfl k_108 (BX12_isBarred  y29) ⟨by decide, by decide⟩ ⟨Nat.le_refl _, Nat.le_refl _⟩ rfl (Nat.le_of_ble_eq_true rfl) dX12_peril_46 (fun r32 f34 y35 => ?_)
        refine oj_if_eq 64 dX12_peril_49 rfl (fun c36 => ?_) (fun c36 => ?_)
        · have y37 := y35.1 c36
          obtain ⟨v39, ev39⟩ : ∃ z : Int32, z = x5 + (1) := ⟨_, rfl⟩
          have y40 := Lt_at y37 v39 ev39
          refine oj_iinc (v := v39) (lv' := [(5, .int v39), (0, .ref 108), (1, .int x1), (2, .int x2), (3, .int x3), (4, .int x4)]) 5 dX12_peril_64 rfl (iinc_e ci_1 ev39) (by decide) rfl ?_
          refine oj_goto 22 dX12_peril_67 rfl ?_
          refine oj_lv [1, 2, 3, 4, 5, 0] rfl ?_
          exact hk22 _ _ _ y40
        · have y38 := y35.2 c36
          refine oj_iload 4 dX12_peril_52 rfl ?_
          refine oj_aload_n 0 dX12_peril_54 rfl rfl ?_
          refine oj_iload_n 1 dX12_peril_55 rfl rfl ?_
          refine oj_iload 5 dX12_peril_56 rfl ?_
          refine oc_Vi [.int x1, .int x5] mi_RX12_517 ow_1840 op_100 rfl k_108 (BX12_shareOf  y38) ⟨by decide, by decide⟩ ⟨Nat.le_refl _, Nat.le_refl _⟩ rfl (Nat.le_of_ble_eq_true rfl) dX12_peril_58 (fun r41 f43 h42 y44 => ?_)
          refine oj_iadd dX12_peril_61 ?_
          refine oj_topi (fun v45 ev45 => ?_)
          have y46 := Lt_at y44 v45 ev45
          refine oj_istore (lv' := [(4, .int v45), (0, .ref 108), (1, .int x1), (2, .int x2), (3, .int x3), (5, .int x5)]) dX12_peril_62 (by decide) rfl ?_
          obtain ⟨v47, ev47⟩ : ∃ z : Int32, z = x5 + (1) := ⟨_, rfl⟩
          have y48 := Lt_at y46 v47 ev47
          refine oj_iinc (v := v47) (lv' := [(5, .int v47), (4, .int v45), (0, .ref 108), (1, .int x1), (2, .int x2), (3, .int x3)]) 5 dX12_peril_64 rfl (iinc_e ci_1 ev47) (by decide) rfl ?_
          refine oj_goto 22 dX12_peril_67 rfl ?_
          refine oj_lv [2, 3, 4, 5, 1, 0] rfl ?_
          exact hk22 _ _ _ y48
set_option maxRecDepth 100000 in
set_option maxHeartbeats 4000000 in
theorem BX12_peril  {p1 : Int32} {p2 : Int32}  {h : ob_H} {Q : Int32 → ob_H → Prop} (y : MX12_peril  p1 p2 h Q) : ob_T yX12_peril cX12_peril 6 (some .int) (ob_rm 7) KS NN h [.ref 108, .int p1, .int p2] (ob_g (some .int) (ob_qi Q)) := by
  unfold MX12_peril at y
  refine ob_T_gf (by decide +kernel) (Nat.le_of_ble_eq_true rfl) ?_
  show ob_J RX12 cX12_peril 6 (ob_rm 7) false none 0 0 KS NN h 0 [(0, .ref 108), (1, .int p1), (2, .int p2)] [] (ob_g (some .int) (ob_qi Q))
  refine oj_aload_n 0 dX12_peril_0 rfl rfl ?_
  refine oj_iload_n 1 dX12_peril_1 rfl rfl ?_
  refine oj_iload_n 2 dX12_peril_2 rfl rfl ?_
  refine oc_Vi [.int p1, .int p2] mi_RX12_513 ow_1832 op_98 rfl k_108 (BX12_canAsk  y) ⟨by decide, by decide⟩ ⟨Nat.le_refl _, Nat.le_refl _⟩ rfl (Nat.le_of_ble_eq_true rfl) dX12_peril_3 (fun r1 f3 h2 y4 => ?_)
  refine oj_if_ne 11 dX12_peril_6 rfl (fun c5 => ?_) (fun c5 => ?_)
  · have y6 := y4.2 c5
    refine oj_aload_n 0 dX12_peril_11 rfl rfl ?_
    refine oc_Vi [] mi_RX12_498 ow_1800 op_95 rfl k_108 (BX12_standing  y6) ⟨by decide, by decide⟩ ⟨Nat.le_refl _, Nat.le_refl _⟩ rfl (Nat.le_of_ble_eq_true rfl) dX12_peril_12 (fun r8 f10 h9 y11 => ?_)
    refine oj_istore_n (lv' := [(3, .int r8), (0, .ref 108), (1, .int p1), (2, .int p2)]) dX12_peril_15 rfl (by decide) rfl ?_
    refine oj_iconst dX12_peril_16 ci_0 ?_
    refine oj_istore (lv' := [(4, .int (0)), (3, .int r8), (0, .ref 108), (1, .int p1), (2, .int p2)]) dX12_peril_17 (by decide) rfl ?_
    refine oj_iconst dX12_peril_19 ci_0 ?_
    refine oj_istore (lv' := [(5, .int (0)), (4, .int (0)), (3, .int r8), (0, .ref 108), (1, .int p1), (2, .int p2)]) dX12_peril_20 (by decide) rfl ?_
    refine oj_lv [3, 4, 5, 2, 1, 0] rfl ?_
    obtain ⟨n, y49⟩ := y11
    exact BLX12_peril_22  n _ _ _ y49
  · have y7 := y4.1 c5
    refine oj_iconst dX12_peril_9 ci_m1 ?_
    exact oj_ret (r := some (.int (-1))) ⟨trivial, rfl, rfl, (-1), rfl, y7⟩ dX12_peril_10 (Nat.zero_le _) (Nat.zero_le _)
-- X12_tarry
set_option maxRecDepth 100000 in
set_option maxHeartbeats 4000000 in
theorem BLX12_tarry_21 {x1 : Int32} {Q : Int32 → ob_H → Prop} :
    ∀ (n : Nat) (x2 : Int32) (x3 : Int32) (x4 : Int32) (h : ob_H), it4 (FX12_tarry_21 x1 Q) n x2 x3 x4 h → ob_J RX12 cX12_tarry 6 (ob_rm 8) false none 0 0 KS NN h 21 [(0, .ref 108), (1, .int x1), (2, .int x2), (3, .int x3), (4, .int x4)] [] (ob_g (some .int) (ob_qi Q)) := by
  intro n
  induction n with
  | zero => intro x2 x3 x4 h y; exact False.elim y
  | succ n hk21 =>
    intro x2 x3 x4 h y
    have y : FX12_tarry_21 x1 Q (it4 (FX12_tarry_21 x1 Q) n) x2 x3 x4 h := y
    unfold FX12_tarry_21 at y
    refine oj_iload 4 dX12_tarry_21 rfl ?_
    refine oj_bipush dX12_tarry_23 cb_60 ?_
    refine oj_icmp_gt 76 dX12_tarry_25 rfl (fun c12 => ?_) (fun c12 => ?_)
    · have y13 := y.1 c12
      refine oj_iload_n 1 dX12_tarry_76 rfl rfl ?_
      refine oj_if_ne 84 dX12_tarry_77 rfl (fun c15 => ?_) (fun c15 => ?_)
      · have y16 := y13.2 c15
        refine oj_iload_n 3 dX12_tarry_84 rfl rfl ?_
        exact oj_ret (r := some (.int x3)) ⟨trivial, rfl, rfl, x3, rfl, y16⟩ dX12_tarry_85 (Nat.zero_le _) (Nat.zero_le _)
      · have y17 := y13.1 c15
        refine oj_iload_n 2 dX12_tarry_80 rfl rfl ?_
        refine oj_goto 85 dX12_tarry_81 rfl ?_
        exact oj_ret (r := some (.int x2)) ⟨trivial, rfl, rfl, x2, rfl, y17⟩ dX12_tarry_85 (Nat.zero_le _) (Nat.zero_le _)
    · have y14 := y.2 c12
      refine oj_aload_n 0 dX12_tarry_28 rfl rfl ?_
      refine oc_Vv [] mi_RX12_445 ow_1640 op_74 rfl k_108 (BX12_load  y14) ⟨by decide, by decide⟩ ⟨Nat.le_refl _, Nat.le_refl _⟩ rfl (Nat.le_of_ble_eq_true rfl) dX12_tarry_29 (fun h19 y21 => ?_)
      refine oj_aload_n 0 dX12_tarry_32 rfl rfl ?_
      refine oj_getr (q := 136) fl_RX12_100 k_108 rfl k_136 dX12_tarry_33 ?_
      refine oj_bipush dX12_tarry_36 cb_21 ?_
      refine oj_dup2 dX12_tarry_38 rfl rfl ?_
      refine oj_iald k_136 in_21_24 ix_21 dX12_tarry_39 ?_
      refine oj_iload 4 dX12_tarry_40 rfl ?_
      refine oj_iadd dX12_tarry_42 ?_
      refine oj_iast k_136 in_21_24 ix_21 dX12_tarry_43 ?_
      refine oj_toph (fun h22 eh22 => ?_)
      have y23 := Lt_at y21 h22 eh22
      refine oj_aload_n 0 dX12_tarry_44 rfl rfl ?_
      refine oc_Vi [] mi_RX12_433 ow_1688 op_84 rfl k_108 (BX12_leave  y23) ⟨by decide, by decide⟩ ⟨Nat.le_refl _, Nat.le_refl _⟩ rfl (Nat.le_of_ble_eq_true rfl) dX12_tarry_45 (fun r24 f26 h25 y27 => ?_)
      refine oj_pop dX12_tarry_48 rfl ?_
      refine oj_aload_n 0 dX12_tarry_49 rfl rfl ?_
      refine oc_Vi [] mi_RX12_448 ow_1740 op_89 rfl k_108 (BX12_goOn  y27) ⟨by decide, by decide⟩ ⟨Nat.le_refl _, Nat.le_refl _⟩ rfl (Nat.le_of_ble_eq_true rfl) dX12_tarry_50 (fun r28 f30 h29 y31 => ?_)
      refine oj_istore (lv' := [(5, .int r28), (0, .ref 108), (1, .int x1), (2, .int x2), (3, .int x3), (4, .int x4)]) dX12_tarry_53 (by decide) rfl ?_
      refine oj_iload 0 dX12_tarry_55 rfl ?_
      refine oj_iload_n 4 dX12_tarry_57 rfl rfl ?_
      refine oj_icmp_lt 64 dX12_tarry_58 rfl (fun c32 => ?_) (fun c32 => ?_)
      · have y33 := y31.1 c32
        refine oj_iload 0 dX12_tarry_64 rfl ?_
        refine oj_istore_n (lv' := [(3, .int r28), (5, .int r28), (0, .ref 108), (1, .int x1), (2, .int x2), (4, .int x4)]) dX12_tarry_66 rfl (by decide) rfl ?_
        refine oj_iload 5 dX12_tarry_67 rfl ?_
        refine oj_istore_n (lv' := [(2, .int x4), (3, .int r28), (5, .int r28), (0, .ref 108), (1, .int x1), (4, .int x4)]) dX12_tarry_69 rfl (by decide) rfl ?_
        obtain ⟨v35, ev35⟩ : ∃ z : Int32, z = x4 + (1) := ⟨_, rfl⟩
        have y36 := Lt_at y33 v35 ev35
        refine oj_iinc (v := v35) (lv' := [(4, .int v35), (2, .int x4), (3, .int r28), (5, .int r28), (0, .ref 108), (1, .int x1)]) 5 dX12_tarry_70 rfl (iinc_e ci_1 ev35) (by decide) rfl ?_
        refine oj_goto 21 dX12_tarry_73 rfl ?_
        refine oj_lv [4, 5, 1, 2, 0] rfl ?_
        exact hk21 _ _ _ _ y36
      · have y34 := y31.2 c32
        refine oj_goto 70 dX12_tarry_61 rfl ?_
        obtain ⟨v37, ev37⟩ : ∃ z : Int32, z = x4 + (1) := ⟨_, rfl⟩
        have y38 := Lt_at y34 v37 ev37
        refine oj_iinc (v := v37) (lv' := [(4, .int v37), (5, .int r28), (0, .ref 108), (1, .int x1), (2, .int x2), (3, .int x3)]) 5 dX12_tarry_70 rfl (iinc_e ci_1 ev37) (by decide) rfl ?_
        refine oj_goto 21 dX12_tarry_73 rfl ?_
        refine oj_lv [2, 3, 4, 5, 0] rfl ?_
        exact hk21 _ _ _ _ y38
set_option maxRecDepth 100000 in
set_option maxHeartbeats 4000000 in
theorem BX12_tarry  {p1 : Int32}  {h : ob_H} {Q : Int32 → ob_H → Prop} (y : MX12_tarry  p1 h Q) : ob_T yX12_tarry cX12_tarry 6 (some .int) (ob_rm 8) KS NN h [.ref 108, .int p1] (ob_g (some .int) (ob_qi Q)) := by
  unfold MX12_tarry at y
  refine ob_T_gf (by decide +kernel) (Nat.le_of_ble_eq_true rfl) ?_
  show ob_J RX12 cX12_tarry 6 (ob_rm 8) false none 0 0 KS NN h 0 [(0, .ref 108), (1, .int p1)] [] (ob_g (some .int) (ob_qi Q))
  refine oj_iload_n 1 dX12_tarry_0 rfl rfl ?_
  refine oj_iconst dX12_tarry_1 ci_0 ?_
  refine oj_iconst dX12_tarry_2 ci_1 ?_
  refine oc_Spi [.int p1, .int (0), .int (1)] mi_RX12_418 ow_1632 (BX12_isIn  y) ⟨by decide, by decide⟩ ⟨Nat.le_refl _, Nat.le_refl _⟩ rfl (Nat.le_of_ble_eq_true rfl) dX12_tarry_3 (fun r1 f3 y4 => ?_)
  refine oj_if_ne 11 dX12_tarry_6 rfl (fun c5 => ?_) (fun c5 => ?_)
  · have y6 := y4.2 c5
    refine oj_iconst dX12_tarry_11 ci_0 ?_
    refine oj_istore_n (lv' := [(2, .int (0)), (0, .ref 108), (1, .int p1)]) dX12_tarry_12 rfl (by decide) rfl ?_
    refine oj_aload_n 1 dX12_tarry_13 rfl rfl ?_
    refine oc_Vi [] mi_RX12_473 ow_1736 op_88 rfl k_108 (BX12_duskNow  y6) ⟨by decide, by decide⟩ ⟨Nat.le_refl _, Nat.le_refl _⟩ rfl (Nat.le_of_ble_eq_true rfl) dX12_tarry_14 (fun r8 f10 h9 y11 => ?_)
    refine oj_istore_n (lv' := [(3, .int r8), (2, .int (0)), (0, .ref 108), (1, .int p1)]) dX12_tarry_17 rfl (by decide) rfl ?_
    refine oj_iconst dX12_tarry_18 ci_1 ?_
    refine oj_istore (lv' := [(4, .int (1)), (3, .int r8), (2, .int (0)), (0, .ref 108), (1, .int p1)]) dX12_tarry_19 (by decide) rfl ?_
    refine oj_lv [3, 4, 2, 1, 0] rfl ?_
    obtain ⟨n, y39⟩ := y11
    exact BLX12_tarry_21  n _ _ _ _ y39
  · have y7 := y4.1 c5
    refine oj_iconst dX12_tarry_9 ci_m1 ?_
    exact oj_ret (r := some (.int (-1))) ⟨trivial, rfl, rfl, (-1), rfl, y7⟩ dX12_tarry_10 (Nat.zero_le _) (Nat.zero_le _)
-- X12_swap
set_option maxRecDepth 100000 in
set_option maxHeartbeats 4000000 in
theorem BLX12_swap_36 {x1 : Int32} {x4 : Int32} {Q : Int32 → ob_H → Prop} {k21 : Int32 → Int32 → Int32 → ob_H → Prop} (hk21 : ∀ (x2' : Int32) (x3' : Int32) (x4' : Int32) (h' : ob_H), k21 x2' x3' x4' h' → ob_J RX12 cX12_swap 7 (ob_rm 8) false none 0 0 KS NN h' 21 [(0, .ref 108), (1, .int x1), (2, .int x2'), (3, .int x3'), (4, .int x4')] [] (ob_g (some .int) (ob_qi Q))) :
    ∀ (n : Nat) (x2 : Int32) (x3 : Int32) (x5 : Int32) (h : ob_H), it4 (FX12_swap_36 x1 x4 Q k21) n x2 x3 x5 h → ob_J RX12 cX12_swap 7 (ob_rm 8) false none 0 0 KS NN h 36 [(0, .ref 108), (1, .int x1), (2, .int x2), (3, .int x3), (4, .int x4), (5, .int x5)] [] (ob_g (some .int) (ob_qi Q)) := by
  intro n
  induction n with
  | zero => intro x2 x3 x5 h y; exact False.elim y
  | succ n hk36 =>
    intro x2 x3 x5 h y
    have y : FX12_swap_36 x1 x4 Q k21 (it4 (FX12_swap_36 x1 x4 Q k21) n) x2 x3 x5 h := y
    unfold FX12_swap_36 at y
    refine oj_iload 5 dX12_swap_36 rfl ?_
    refine oj_aload_n 0 dX12_swap_38 rfl rfl ?_
    refine oj_geti fl_RX12_323 k_108 rfl dX12_swap_39 ?_
    refine oj_icmp_ge 113 dX12_swap_42 rfl (fun c26 => ?_) (fun c26 => ?_)
    · have y27 := y.1 c26
      obtain ⟨v29, ev29⟩ : ∃ z : Int32, z = x4 + (1) := ⟨_, rfl⟩
      have y30 := Lt_at y27 v29 ev29
      refine oj_iinc (v := v29) (lv' := [(4, .int v29), (0, .ref 108), (1, .int x1), (2, .int x2), (3, .int x3), (5, .int x5)]) 4 dX12_swap_113 rfl (iinc_e ci_1 ev29) (by decide) rfl ?_
      refine oj_goto 21 dX12_swap_116 rfl ?_
      refine oj_lv [1, 2, 3, 4, 0] rfl ?_
      exact hk21 _ _ _ _ y30
    · have y28 := y.2 c26
      refine oj_aload_n 0 dX12_swap_45 rfl rfl ?_
      refine oj_getr (q := 135) fl_RX12_97 k_108 rfl k_135 dX12_swap_46 ?_
      refine oj_iload 4 dX12_swap_49 rfl ?_
      obtain ⟨c31, y32⟩ := y28
      refine oj_iald k_135 c31 rfl dX12_swap_51 ?_
      refine oj_if_ne 107 dX12_swap_52 rfl (fun c33 => ?_) (fun c33 => ?_)
      · have y34 := y32.2 c33
        obtain ⟨v36, ev36⟩ : ∃ z : Int32, z = x5 + (1) := ⟨_, rfl⟩
        have y37 := Lt_at y34 v36 ev36
        refine oj_iinc (v := v36) (lv' := [(5, .int v36), (0, .ref 108), (1, .int x1), (2, .int x2), (3, .int x3), (4, .int x4)]) 5 dX12_swap_107 rfl (iinc_e ci_1 ev36) (by decide) rfl ?_
        refine oj_goto 36 dX12_swap_110 rfl ?_
        refine oj_lv [1, 2, 3, 4, 5, 0] rfl ?_
        exact hk36 _ _ _ _ y37
      · have y35 := y32.1 c33
        refine oj_aload_n 0 dX12_swap_55 rfl rfl ?_
        refine oj_getr (q := 135) fl_RX12_97 k_108 rfl k_135 dX12_swap_56 ?_
        refine oj_iload 5 dX12_swap_59 rfl ?_
        obtain ⟨c38, y39⟩ := y35
        refine oj_iald k_135 c38 rfl dX12_swap_61 ?_
        refine oj_if_eq 68 dX12_swap_62 rfl (fun c40 => ?_) (fun c40 => ?_)
        · have y41 := y39.1 c40
          refine oj_aload_n 0 dX12_swap_68 rfl rfl ?_
          refine oc_Vv [] mi_RX12_445 ow_1640 op_74 rfl k_108 (BX12_load  y41) ⟨by decide, by decide⟩ ⟨Nat.le_refl _, Nat.le_refl _⟩ rfl (Nat.le_of_ble_eq_true rfl) dX12_swap_69 (fun h44 y46 => ?_)
          refine oj_aload_n 0 dX12_swap_72 rfl rfl ?_
          refine oj_iload 4 dX12_swap_73 rfl ?_
          refine oj_iload 5 dX12_swap_75 rfl ?_
          refine oc_Vv [.int x4, .int x5] mi_RX12_464 ow_1704 op_85 rfl k_108 (BX12_changeNumbers  y46) ⟨by decide, by decide⟩ ⟨Nat.le_refl _, Nat.le_refl _⟩ rfl (Nat.le_of_ble_eq_true rfl) dX12_swap_77 (fun h48 y50 => ?_)
          refine oj_aload_n 0 dX12_swap_80 rfl rfl ?_
          refine oc_Vi [] mi_RX12_448 ow_1740 op_89 rfl k_108 (BX12_goOn  y50) ⟨by decide, by decide⟩ ⟨Nat.le_refl _, Nat.le_refl _⟩ rfl (Nat.le_of_ble_eq_true rfl) dX12_swap_81 (fun r51 f53 h52 y54 => ?_)
          refine oj_istore (lv' := [(6, .int r51), (0, .ref 108), (1, .int x1), (2, .int x2), (3, .int x3), (4, .int x4), (5, .int x5)]) dX12_swap_84 (by decide) rfl ?_
          refine oj_iload 0 dX12_swap_86 rfl ?_
          refine oj_iload_n 3 dX12_swap_88 rfl rfl ?_
          refine oj_icmp_lt 95 dX12_swap_89 rfl (fun c55 => ?_) (fun c55 => ?_)
          · have y56 := y54.1 c55
            refine oj_iload 0 dX12_swap_95 rfl ?_
            refine oj_istore_n (lv' := [(2, .int r51), (6, .int r51), (0, .ref 108), (1, .int x1), (3, .int x3), (4, .int x4), (5, .int x5)]) dX12_swap_97 rfl (by decide) rfl ?_
            refine oj_bipush dX12_swap_98 cb_7 ?_
            refine oj_iload 5 dX12_swap_100 rfl ?_
            refine oj_imul dX12_swap_102 ?_
            refine oj_iload 6 dX12_swap_103 rfl ?_
            refine oj_iadd dX12_swap_105 ?_
            refine oj_topi (fun v58 ev58 => ?_)
            have y59 := Lt_at y56 v58 ev58
            refine oj_istore_n (lv' := [(3, .int v58), (2, .int r51), (6, .int r51), (0, .ref 108), (1, .int x1), (4, .int x4), (5, .int x5)]) dX12_swap_106 rfl (by decide) rfl ?_
            obtain ⟨v60, ev60⟩ : ∃ z : Int32, z = x5 + (1) := ⟨_, rfl⟩
            have y61 := Lt_at y59 v60 ev60
            refine oj_iinc (v := v60) (lv' := [(5, .int v60), (3, .int v58), (2, .int r51), (6, .int r51), (0, .ref 108), (1, .int x1), (4, .int x4)]) 6 dX12_swap_107 rfl (iinc_e ci_1 ev60) (by decide) rfl ?_
            refine oj_goto 36 dX12_swap_110 rfl ?_
            refine oj_lv [4, 5, 2, 1, 6, 0] rfl ?_
            exact hk36 _ _ _ _ y61
          · have y57 := y54.2 c55
            refine oj_goto 107 dX12_swap_92 rfl ?_
            obtain ⟨v62, ev62⟩ : ∃ z : Int32, z = x5 + (1) := ⟨_, rfl⟩
            have y63 := Lt_at y57 v62 ev62
            refine oj_iinc (v := v62) (lv' := [(5, .int v62), (6, .int r51), (0, .ref 108), (1, .int x1), (2, .int x2), (3, .int x3), (4, .int x4)]) 6 dX12_swap_107 rfl (iinc_e ci_1 ev62) (by decide) rfl ?_
            refine oj_goto 36 dX12_swap_110 rfl ?_
            refine oj_lv [2, 3, 4, 5, 6, 0] rfl ?_
            exact hk36 _ _ _ _ y63
        · have y42 := y39.2 c40
          refine oj_goto 107 dX12_swap_65 rfl ?_
          obtain ⟨v64, ev64⟩ : ∃ z : Int32, z = x5 + (1) := ⟨_, rfl⟩
          have y65 := Lt_at y42 v64 ev64
          refine oj_iinc (v := v64) (lv' := [(5, .int v64), (0, .ref 108), (1, .int x1), (2, .int x2), (3, .int x3), (4, .int x4)]) 5 dX12_swap_107 rfl (iinc_e ci_1 ev64) (by decide) rfl ?_
          refine oj_goto 36 dX12_swap_110 rfl ?_
          refine oj_lv [1, 2, 3, 4, 5, 0] rfl ?_
          exact hk36 _ _ _ _ y65
set_option maxRecDepth 100000 in
set_option maxHeartbeats 4000000 in
theorem BLX12_swap_21 {x1 : Int32} {Q : Int32 → ob_H → Prop} :
    ∀ (n : Nat) (x2 : Int32) (x3 : Int32) (x4 : Int32) (h : ob_H), it4 (FX12_swap_21 x1 Q) n x2 x3 x4 h → ob_J RX12 cX12_swap 7 (ob_rm 8) false none 0 0 KS NN h 21 [(0, .ref 108), (1, .int x1), (2, .int x2), (3, .int x3), (4, .int x4)] [] (ob_g (some .int) (ob_qi Q)) := by
  intro n
  induction n with
  | zero => intro x2 x3 x4 h y; exact False.elim y
  | succ n hk21 =>
    intro x2 x3 x4 h y
    have y : FX12_swap_21 x1 Q (it4 (FX12_swap_21 x1 Q) n) x2 x3 x4 h := y
    unfold FX12_swap_21 at y
    refine oj_iload 4 dX12_swap_21 rfl ?_
    refine oj_aload_n 0 dX12_swap_23 rfl rfl ?_
    refine oj_geti fl_RX12_323 k_108 rfl dX12_swap_24 ?_
    refine oj_icmp_ge 119 dX12_swap_27 rfl (fun c12 => ?_) (fun c12 => ?_)
    · have y13 := y.1 c12
      refine oj_iload_n 3 dX12_swap_119 rfl rfl ?_
      refine oj_if_ge 127 dX12_swap_120 rfl (fun c15 => ?_) (fun c15 => ?_)
      · have y16 := y13.1 c15
        refine oj_iload_n 1 dX12_swap_127 rfl rfl ?_
        refine oj_if_ne 138 dX12_swap_128 rfl (fun c18 => ?_) (fun c18 => ?_)
        · have y19 := y16.2 c18
          refine oj_iload_n 1 dX12_swap_138 rfl rfl ?_
          refine oj_iconst dX12_swap_139 ci_1 ?_
          refine oj_icmp_ne 150 dX12_swap_140 rfl (fun c21 => ?_) (fun c21 => ?_)
          · have y22 := y19.2 c21
            refine oj_iload_n 2 dX12_swap_150 rfl rfl ?_
            exact oj_ret (r := some (.int x2)) ⟨trivial, rfl, rfl, x2, rfl, y22⟩ dX12_swap_151 (Nat.zero_le _) (Nat.zero_le _)
          · have y23 := y19.1 c21
            refine oj_iload_n 3 dX12_swap_143 rfl rfl ?_
            refine oj_bipush dX12_swap_144 cb_7 ?_
            refine oj_irem dX12_swap_146 nz_7 ?_
            refine oj_goto 151 dX12_swap_147 rfl ?_
            exact oj_ret (r := some (.int (irm x3 (7)))) ⟨trivial, rfl, rfl, (irm x3 (7)), rfl, y23⟩ dX12_swap_151 (Nat.zero_le _) (Nat.zero_le _)
        · have y20 := y16.1 c18
          refine oj_iload_n 3 dX12_swap_131 rfl rfl ?_
          refine oj_bipush dX12_swap_132 cb_7 ?_
          refine oj_idiv dX12_swap_134 nz_7 ?_
          refine oj_goto 151 dX12_swap_135 rfl ?_
          exact oj_ret (r := some (.int (x3 / (7)))) ⟨trivial, rfl, rfl, (x3 / (7)), rfl, y20⟩ dX12_swap_151 (Nat.zero_le _) (Nat.zero_le _)
      · have y17 := y13.2 c15
        refine oj_iconst dX12_swap_123 ci_m1 ?_
        refine oj_goto 151 dX12_swap_124 rfl ?_
        exact oj_ret (r := some (.int (-1))) ⟨trivial, rfl, rfl, (-1), rfl, y17⟩ dX12_swap_151 (Nat.zero_le _) (Nat.zero_le _)
    · have y14 := y.2 c12
      refine oj_iload 4 dX12_swap_30 rfl ?_
      refine oj_iconst dX12_swap_32 ci_1 ?_
      refine oj_iadd dX12_swap_33 ?_
      refine oj_topi (fun v24 ev24 => ?_)
      have y25 := Lt_at y14 v24 ev24
      refine oj_istore (lv' := [(5, .int v24), (0, .ref 108), (1, .int x1), (2, .int x2), (3, .int x3), (4, .int x4)]) dX12_swap_34 (by decide) rfl ?_
      refine oj_lv [1, 2, 3, 4, 5, 0] rfl ?_
      obtain ⟨n, y66⟩ := y25
      exact BLX12_swap_36 hk21 n _ _ _ _ y66
set_option maxRecDepth 100000 in
set_option maxHeartbeats 4000000 in
theorem BX12_swap  {p1 : Int32}  {h : ob_H} {Q : Int32 → ob_H → Prop} (y : MX12_swap  p1 h Q) : ob_T yX12_swap cX12_swap 7 (some .int) (ob_rm 8) KS NN h [.ref 108, .int p1] (ob_g (some .int) (ob_qi Q)) := by
  unfold MX12_swap at y
  refine ob_T_gf (by decide +kernel) (Nat.le_of_ble_eq_true rfl) ?_
  show ob_J RX12 cX12_swap 7 (ob_rm 8) false none 0 0 KS NN h 0 [(0, .ref 108), (1, .int p1)] [] (ob_g (some .int) (ob_qi Q))
  refine oj_iload_n 1 dX12_swap_0 rfl rfl ?_
  refine oj_iconst dX12_swap_1 ci_0 ?_
  refine oj_iconst dX12_swap_2 ci_2 ?_
  refine oc_Spi [.int p1, .int (0), .int (2)] mi_RX12_418 ow_1632 (BX12_isIn  y) ⟨by decide, by decide⟩ ⟨Nat.le_refl _, Nat.le_refl _⟩ rfl (Nat.le_of_ble_eq_true rfl) dX12_swap_3 (fun r1 f3 y4 => ?_)
  refine oj_if_ne 11 dX12_swap_6 rfl (fun c5 => ?_) (fun c5 => ?_)
  · have y6 := y4.2 c5
    refine oj_aload_n 0 dX12_swap_11 rfl rfl ?_
    refine oc_Vi [] mi_RX12_473 ow_1736 op_88 rfl k_108 (BX12_duskNow  y6) ⟨by decide, by decide⟩ ⟨Nat.le_refl _, Nat.le_refl _⟩ rfl (Nat.le_of_ble_eq_true rfl) dX12_swap_12 (fun r8 f10 h9 y11 => ?_)
    refine oj_istore_n (lv' := [(2, .int r8), (0, .ref 108), (1, .int p1)]) dX12_swap_15 rfl (by decide) rfl ?_
    refine oj_iconst dX12_swap_16 ci_m1 ?_
    refine oj_istore_n (lv' := [(3, .int (-1)), (2, .int r8), (0, .ref 108), (1, .int p1)]) dX12_swap_17 rfl (by decide) rfl ?_
    refine oj_iconst dX12_swap_18 ci_0 ?_
    refine oj_istore (lv' := [(4, .int (0)), (3, .int (-1)), (2, .int r8), (0, .ref 108), (1, .int p1)]) dX12_swap_19 (by decide) rfl ?_
    refine oj_lv [3, 4, 2, 1, 0] rfl ?_
    obtain ⟨n, y67⟩ := y11
    exact BLX12_swap_21  n _ _ _ _ y67
  · have y7 := y4.1 c5
    refine oj_iconst dX12_swap_9 ci_m1 ?_
    exact oj_ret (r := some (.int (-1))) ⟨trivial, rfl, rfl, (-1), rfl, y7⟩ dX12_swap_10 (Nat.zero_le _) (Nat.zero_le _)
-- X12_by
set_option maxRecDepth 100000 in
set_option maxHeartbeats 4000000 in
theorem BKX12_by_46 {x1 : Int32} {x3 : Int32} {s0 : Int32} {s1 : Int32} {h : ob_H} {Q : Int32 → ob_H → Prop} {k22 : Int32 → Int32 → Prop} (hk22 : ∀ (x2' : Int32) (x3' : Int32), k22 x2' x3' → ob_J RX12 cX12_by 4 (ob_rm 8) false none 0 0 KS NN h 22 [(0, .ref 108), (1, .int x1), (2, .int x2'), (3, .int x3')] [] (ob_g (some .int) (ob_qi Q)))
    (y : KX12_by_46 x1 x3 s0 s1 h Q k22) : ob_J RX12 cX12_by 4 (ob_rm 8) false none 0 0 KS NN h 46 [(0, .ref 108), (1, .int x1), (3, .int x3)] [.int s0, .int s1] (ob_g (some .int) (ob_qi Q)) := by
  unfold KX12_by_46 at y
  refine oc_Spi [.int s0] mi_RX12_319 ow_1534 (BX12_truth  y) ⟨by decide, by decide⟩ ⟨Nat.le_refl _, Nat.le_refl _⟩ rfl (Nat.le_of_ble_eq_true rfl) dX12_by_46 (fun r20 f22 y23 => ?_)
  refine oj_iadd dX12_by_49 ?_
  refine oj_topi (fun v24 ev24 => ?_)
  have y25 := Lt_at y23 v24 ev24
  refine oj_istore_n (lv' := [(2, .int v24), (0, .ref 108), (1, .int x1), (3, .int x3)]) dX12_by_50 rfl (by decide) rfl ?_
  obtain ⟨v26, ev26⟩ : ∃ z : Int32, z = x3 + (1) := ⟨_, rfl⟩
  have y27 := Lt_at y25 v26 ev26
  refine oj_iinc (v := v26) (lv' := [(3, .int v26), (2, .int v24), (0, .ref 108), (1, .int x1)]) 3 dX12_by_51 rfl (iinc_e ci_1 ev26) (by decide) rfl ?_
  refine oj_goto 22 dX12_by_54 rfl ?_
  refine oj_lv [2, 3, 1, 0] rfl ?_
  exact hk22 _ _ y27
set_option maxRecDepth 100000 in
set_option maxHeartbeats 4000000 in
theorem BLX12_by_22 {x1 : Int32} {h : ob_H} {Q : Int32 → ob_H → Prop} :
    ∀ (n : Nat) (x2 : Int32) (x3 : Int32), it2 (FX12_by_22 x1 h Q) n x2 x3 → ob_J RX12 cX12_by 4 (ob_rm 8) false none 0 0 KS NN h 22 [(0, .ref 108), (1, .int x1), (2, .int x2), (3, .int x3)] [] (ob_g (some .int) (ob_qi Q)) := by
  intro n
  induction n with
  | zero => intro x2 x3 y; exact False.elim y
  | succ n hk22 =>
    intro x2 x3 y
    have y : FX12_by_22 x1 h Q (it2 (FX12_by_22 x1 h Q) n) x2 x3 := y
    unfold FX12_by_22 at y
    refine oj_iload_n 3 dX12_by_22 rfl rfl ?_
    refine oj_aload_n 0 dX12_by_23 rfl rfl ?_
    refine oj_geti fl_RX12_436 k_108 rfl dX12_by_24 ?_
    refine oj_icmp_ge 57 dX12_by_27 rfl (fun c12 => ?_) (fun c12 => ?_)
    · have y13 := y.1 c12
      refine oj_iload_n 2 dX12_by_57 rfl rfl ?_
      exact oj_ret (r := some (.int x2)) ⟨trivial, rfl, rfl, x2, rfl, y13⟩ dX12_by_58 (Nat.zero_le _) (Nat.zero_le _)
    · have y14 := y.2 c12
      refine oj_iload_n 2 dX12_by_30 rfl rfl ?_
      refine oj_aload_n 0 dX12_by_31 rfl rfl ?_
      refine oj_getr (q := 138) fl_RX12_106 k_108 rfl k_138 dX12_by_32 ?_
      refine oj_iload_n 3 dX12_by_35 rfl rfl ?_
      obtain ⟨c15, y16⟩ := y14
      refine oj_iald k_138 c15 rfl dX12_by_36 ?_
      refine oj_iload_n 1 dX12_by_37 rfl rfl ?_
      refine oj_icmp_gt 45 dX12_by_38 rfl (fun c17 => ?_) (fun c17 => ?_)
      · have y18 := y16.1 c17
        refine oj_iconst dX12_by_45 ci_0 ?_
        refine oj_lv [0, 1, 3] rfl ?_
        exact BKX12_by_46 hk22 y18
      · have y19 := y16.2 c17
        refine oj_iconst dX12_by_41 ci_1 ?_
        refine oj_goto 46 dX12_by_42 rfl ?_
        refine oj_lv [0, 1, 3] rfl ?_
        exact BKX12_by_46 hk22 y19
set_option maxRecDepth 100000 in
set_option maxHeartbeats 4000000 in
theorem BX12_by  {p1 : Int32}  {h : ob_H} {Q : Int32 → ob_H → Prop} (y : MX12_by  p1 h Q) : ob_T yX12_by cX12_by 4 (some .int) (ob_rm 8) KS NN h [.ref 108, .int p1] (ob_g (some .int) (ob_qi Q)) := by
  unfold MX12_by at y
  refine ob_T_gf (by decide +kernel) (Nat.le_of_ble_eq_true rfl) ?_
  show ob_J RX12 cX12_by 4 (ob_rm 8) false none 0 0 KS NN h 0 [(0, .ref 108), (1, .int p1)] [] (ob_g (some .int) (ob_qi Q))
  refine oj_iload_n 1 dX12_by_0 rfl rfl ?_
  refine oj_iconst dX12_by_1 ci_0 ?_
  refine oj_sipush dX12_by_2 cs_9999 ?_
  refine oc_Spi [.int p1, .int (0), .int (9999)] mi_RX12_418 ow_1632 (BX12_isIn  y) ⟨by decide, by decide⟩ ⟨Nat.le_refl _, Nat.le_refl _⟩ rfl (Nat.le_of_ble_eq_true rfl) dX12_by_5 (fun r1 f3 y4 => ?_)
  refine oj_if_ne 13 dX12_by_8 rfl (fun c5 => ?_) (fun c5 => ?_)
  · have y6 := y4.2 c5
    refine oj_aload_n 0 dX12_by_13 rfl rfl ?_
    refine oc_Vi [] mi_RX12_473 ow_1736 op_88 rfl k_108 (BX12_duskNow  y6) ⟨by decide, by decide⟩ ⟨Nat.le_refl _, Nat.le_refl _⟩ rfl (Nat.le_of_ble_eq_true rfl) dX12_by_14 (fun r8 f10 h9 y11 => ?_)
    refine oj_pop dX12_by_17 rfl ?_
    refine oj_iconst dX12_by_18 ci_0 ?_
    refine oj_istore_n (lv' := [(2, .int (0)), (0, .ref 108), (1, .int p1)]) dX12_by_19 rfl (by decide) rfl ?_
    refine oj_iconst dX12_by_20 ci_0 ?_
    refine oj_istore_n (lv' := [(3, .int (0)), (2, .int (0)), (0, .ref 108), (1, .int p1)]) dX12_by_21 rfl (by decide) rfl ?_
    refine oj_lv [2, 3, 1, 0] rfl ?_
    obtain ⟨n, y28⟩ := y11
    exact BLX12_by_22  n _ _ y28
  · have y7 := y4.1 c5
    refine oj_iconst dX12_by_11 ci_m1 ?_
    exact oj_ret (r := some (.int (-1))) ⟨trivial, rfl, rfl, (-1), rfl, y7⟩ dX12_by_12 (Nat.zero_le _) (Nat.zero_le _)
-- X12_upset
set_option maxRecDepth 100000 in
set_option maxHeartbeats 4000000 in
theorem BKX12_upset_50 {x2 : Int32} {s0 : Int32} {s1 : Int32} {h : ob_H} {Q : Int32 → ob_H → Prop} {k9 : Int32 → Int32 → Prop} (hk9 : ∀ (x1' : Int32) (x2' : Int32), k9 x1' x2' → ob_J RX12 cX12_upset 3 (ob_rm 8) false none 0 0 KS NN h 9 [(0, .ref 108), (1, .int x1'), (2, .int x2')] [] (ob_g (some .int) (ob_qi Q)))
    (y : KX12_upset_50 x2 s0 s1 h Q k9) : ob_J RX12 cX12_upset 3 (ob_rm 8) false none 0 0 KS NN h 50 [(0, .ref 108), (2, .int x2)] [.int s0, .int s1] (ob_g (some .int) (ob_qi Q)) := by
  unfold KX12_upset_50 at y
  refine oc_Spi [.int s0] mi_RX12_319 ow_1534 (BX12_truth  y) ⟨by decide, by decide⟩ ⟨Nat.le_refl _, Nat.le_refl _⟩ rfl (Nat.le_of_ble_eq_true rfl) dX12_upset_50 (fun r19 f21 y22 => ?_)
  refine oj_iadd dX12_upset_53 ?_
  refine oj_topi (fun v23 ev23 => ?_)
  have y24 := Lt_at y22 v23 ev23
  refine oj_istore_n (lv' := [(1, .int v23), (0, .ref 108), (2, .int x2)]) dX12_upset_54 rfl (by decide) rfl ?_
  obtain ⟨v25, ev25⟩ : ∃ z : Int32, z = x2 + (1) := ⟨_, rfl⟩
  have y26 := Lt_at y24 v25 ev25
  refine oj_iinc (v := v25) (lv' := [(2, .int v25), (1, .int v23), (0, .ref 108)]) 2 dX12_upset_55 rfl (iinc_e ci_1 ev25) (by decide) rfl ?_
  refine oj_goto 9 dX12_upset_58 rfl ?_
  refine oj_lv [2, 1, 0] rfl ?_
  exact hk9 _ _ y26
set_option maxRecDepth 100000 in
set_option maxHeartbeats 4000000 in
theorem BLX12_upset_9 {h : ob_H} {Q : Int32 → ob_H → Prop} :
    ∀ (n : Nat) (x1 : Int32) (x2 : Int32), it2 (FX12_upset_9 h Q) n x1 x2 → ob_J RX12 cX12_upset 3 (ob_rm 8) false none 0 0 KS NN h 9 [(0, .ref 108), (1, .int x1), (2, .int x2)] [] (ob_g (some .int) (ob_qi Q)) := by
  intro n
  induction n with
  | zero => intro x1 x2 y; exact False.elim y
  | succ n hk9 =>
    intro x1 x2 y
    have y : FX12_upset_9 h Q (it2 (FX12_upset_9 h Q) n) x1 x2 := y
    unfold FX12_upset_9 at y
    refine oj_iload_n 2 dX12_upset_9 rfl rfl ?_
    refine oj_aload_n 0 dX12_upset_10 rfl rfl ?_
    refine oj_geti fl_RX12_436 k_108 rfl dX12_upset_11 ?_
    refine oj_icmp_ge 61 dX12_upset_14 rfl (fun c5 => ?_) (fun c5 => ?_)
    · have y6 := y.1 c5
      refine oj_iload_n 1 dX12_upset_61 rfl rfl ?_
      exact oj_ret (r := some (.int x1)) ⟨trivial, rfl, rfl, x1, rfl, y6⟩ dX12_upset_62 (Nat.zero_le _) (Nat.zero_le _)
    · have y7 := y.2 c5
      refine oj_iload_n 1 dX12_upset_17 rfl rfl ?_
      refine oj_aload_n 0 dX12_upset_18 rfl rfl ?_
      refine oj_getr (q := 128) fl_RX12_73 k_108 rfl k_128 dX12_upset_19 ?_
      refine oj_aload_n 0 dX12_upset_22 rfl rfl ?_
      refine oj_getr (q := 137) fl_RX12_103 k_108 rfl k_137 dX12_upset_23 ?_
      refine oj_iload_n 2 dX12_upset_26 rfl rfl ?_
      refine oj_iconst dX12_upset_27 ci_1 ?_
      refine oj_isub dX12_upset_28 ?_
      obtain ⟨c8, y9⟩ := y7
      refine oj_iald k_137 c8 rfl dX12_upset_29 ?_
      obtain ⟨c10, y11⟩ := y9
      refine oj_iald k_128 c10 rfl dX12_upset_30 ?_
      refine oj_aload_n 0 dX12_upset_31 rfl rfl ?_
      refine oj_getr (q := 128) fl_RX12_73 k_108 rfl k_128 dX12_upset_32 ?_
      refine oj_aload_n 0 dX12_upset_35 rfl rfl ?_
      refine oj_getr (q := 137) fl_RX12_103 k_108 rfl k_137 dX12_upset_36 ?_
      refine oj_iload_n 2 dX12_upset_39 rfl rfl ?_
      obtain ⟨c12, y13⟩ := y11
      refine oj_iald k_137 c12 rfl dX12_upset_40 ?_
      obtain ⟨c14, y15⟩ := y13
      refine oj_iald k_128 c14 rfl dX12_upset_41 ?_
      refine oj_icmp_ge 49 dX12_upset_42 rfl (fun c16 => ?_) (fun c16 => ?_)
      · have y17 := y15.1 c16
        refine oj_iconst dX12_upset_49 ci_0 ?_
        refine oj_lv [0, 2] rfl ?_
        exact BKX12_upset_50 hk9 y17
      · have y18 := y15.2 c16
        refine oj_iconst dX12_upset_45 ci_1 ?_
        refine oj_goto 50 dX12_upset_46 rfl ?_
        refine oj_lv [0, 2] rfl ?_
        exact BKX12_upset_50 hk9 y18
set_option maxRecDepth 100000 in
set_option maxHeartbeats 4000000 in
theorem BX12_upset    {h : ob_H} {Q : Int32 → ob_H → Prop} (y : MX12_upset   h Q) : ob_T yX12_upset cX12_upset 3 (some .int) (ob_rm 8) KS NN h [.ref 108] (ob_g (some .int) (ob_qi Q)) := by
  unfold MX12_upset at y
  refine ob_T_gf (by decide +kernel) (Nat.le_of_ble_eq_true rfl) ?_
  show ob_J RX12 cX12_upset 3 (ob_rm 8) false none 0 0 KS NN h 0 [(0, .ref 108)] [] (ob_g (some .int) (ob_qi Q))
  refine oj_aload_n 0 dX12_upset_0 rfl rfl ?_
  refine oc_Vi [] mi_RX12_473 ow_1736 op_88 rfl k_108 (BX12_duskNow  y) ⟨by decide, by decide⟩ ⟨Nat.le_refl _, Nat.le_refl _⟩ rfl (Nat.le_of_ble_eq_true rfl) dX12_upset_1 (fun r1 f3 h2 y4 => ?_)
  refine oj_pop dX12_upset_4 rfl ?_
  refine oj_iconst dX12_upset_5 ci_0 ?_
  refine oj_istore_n (lv' := [(1, .int (0)), (0, .ref 108)]) dX12_upset_6 rfl (by decide) rfl ?_
  refine oj_iconst dX12_upset_7 ci_1 ?_
  refine oj_istore_n (lv' := [(2, .int (1)), (1, .int (0)), (0, .ref 108)]) dX12_upset_8 rfl (by decide) rfl ?_
  refine oj_lv [2, 1, 0] rfl ?_
  obtain ⟨n, y27⟩ := y4
  exact BLX12_upset_9  n _ _ y27
-- X12_lies
set_option maxRecDepth 100000 in
set_option maxHeartbeats 4000000 in
theorem BX12_lies  {p1 : Int32}  {h : ob_H} {Q : Int32 → Prop} (y : MX12_lies  p1 h Q) : ob_T yX12_lies cX12_lies 2 (some .int) (ob_rm 2) KS NN h [.ref 108, .int p1] (ob_g (some .int) (ob_pi h Q)) := by
  unfold MX12_lies at y
  refine ob_T_gf (by decide +kernel) (Nat.le_of_ble_eq_true rfl) ?_
  show ob_J RX12 cX12_lies 2 (ob_rm 2) false none 0 0 KS NN h 0 [(0, .ref 108), (1, .int p1)] [] (ob_g (some .int) (ob_pi h Q))
  refine oj_iload_n 1 dX12_lies_0 rfl rfl ?_
  refine oj_iconst dX12_lies_1 ci_0 ?_
  refine oj_aload_n 0 dX12_lies_2 rfl rfl ?_
  refine oj_geti fl_RX12_415 k_108 rfl dX12_lies_3 ?_
  refine oj_iconst dX12_lies_6 ci_1 ?_
  refine oj_isub dX12_lies_7 ?_
  refine oc_Spi [.int p1, .int (0), .int ((h.1 108 62) - (1))] mi_RX12_418 ow_1632 (BX12_isIn  y) ⟨by decide, by decide⟩ ⟨Nat.le_refl _, Nat.le_refl _⟩ rfl (Nat.le_of_ble_eq_true rfl) dX12_lies_8 (fun r1 f3 y4 => ?_)
  refine oj_if_eq 23 dX12_lies_11 rfl (fun c5 => ?_) (fun c5 => ?_)
  · have y6 := y4.1 c5
    refine oj_iconst dX12_lies_23 ci_m1 ?_
    exact oj_ret (r := some (.int (-1))) ⟨trivial, rfl, rfl, rfl, (-1), rfl, y6⟩ dX12_lies_24 (Nat.zero_le _) (Nat.zero_le _)
  · have y7 := y4.2 c5
    refine oj_aload_n 0 dX12_lies_14 rfl rfl ?_
    refine oj_getr (q := 140) fl_RX12_112 k_108 rfl k_140 dX12_lies_15 ?_
    refine oj_iload_n 1 dX12_lies_18 rfl rfl ?_
    obtain ⟨c8, y9⟩ := y7
    refine oj_iald k_140 c8 rfl dX12_lies_19 ?_
    refine oj_goto 24 dX12_lies_20 rfl ?_
    exact oj_ret (r := some (.int (h.1 140 (ix p1)))) ⟨trivial, rfl, rfl, rfl, (h.1 140 (ix p1)), rfl, y9⟩ dX12_lies_24 (Nat.zero_le _) (Nat.zero_le _)
-- X12_seen
set_option maxRecDepth 100000 in
set_option maxHeartbeats 4000000 in
theorem BX12_seen  {p1 : Int32} {p2 : Int32} {p3 : Int32}  {h : ob_H} {Q : Int32 → ob_H → Prop} (y : MX12_seen  p1 p2 p3 h Q) : ob_T yX12_seen cX12_seen 4 (some .int) (ob_rm 3) KS NN h [.ref 108, .int p1, .int p2, .int p3] (ob_g (some .int) (ob_qi Q)) := by
  unfold MX12_seen at y
  refine ob_T_gf (by decide +kernel) (Nat.le_of_ble_eq_true rfl) ?_
  show ob_J RX12 cX12_seen 4 (ob_rm 3) false none 0 0 KS NN h 0 [(0, .ref 108), (1, .int p1), (2, .int p2), (3, .int p3)] [] (ob_g (some .int) (ob_qi Q))
  refine oj_iload_n 1 dX12_seen_0 rfl rfl ?_
  refine oj_iconst dX12_seen_1 ci_1 ?_
  refine oj_bipush dX12_seen_2 cb_7 ?_
  refine oc_Spi [.int p1, .int (1), .int (7)] mi_RX12_418 ow_1632 (BX12_isIn  y) ⟨by decide, by decide⟩ ⟨Nat.le_refl _, Nat.le_refl _⟩ rfl (Nat.le_of_ble_eq_true rfl) dX12_seen_4 (fun r1 f3 y4 => ?_)
  refine oj_if_eq 27 dX12_seen_7 rfl (fun c5 => ?_) (fun c5 => ?_)
  · have y6 := y4.1 c5
    refine oj_iconst dX12_seen_27 ci_m1 ?_
    exact oj_ret (r := some (.int (-1))) ⟨trivial, rfl, rfl, (-1), rfl, y6⟩ dX12_seen_28 (Nat.zero_le _) (Nat.zero_le _)
  · have y7 := y4.2 c5
    refine oj_aload_n 0 dX12_seen_10 rfl rfl ?_
    refine oj_iload_n 2 dX12_seen_11 rfl rfl ?_
    refine oc_Vpi [.int p2] mi_RX12_451 ow_1629 op_73 rfl k_108 (BX12_isOne  y7) ⟨by decide, by decide⟩ ⟨Nat.le_refl _, Nat.le_refl _⟩ rfl (Nat.le_of_ble_eq_true rfl) dX12_seen_12 (fun r8 f10 y11 => ?_)
    refine oj_if_eq 27 dX12_seen_15 rfl (fun c12 => ?_) (fun c12 => ?_)
    · have y13 := y11.1 c12
      refine oj_iconst dX12_seen_27 ci_m1 ?_
      exact oj_ret (r := some (.int (-1))) ⟨trivial, rfl, rfl, (-1), rfl, y13⟩ dX12_seen_28 (Nat.zero_le _) (Nat.zero_le _)
    · have y14 := y11.2 c12
      refine oj_aload_n 0 dX12_seen_18 rfl rfl ?_
      refine oj_geti fl_RX12_412 k_108 rfl dX12_seen_19 ?_
      refine oj_bipush dX12_seen_22 cb_30 ?_
      refine oj_icmp_ne 29 dX12_seen_24 rfl (fun c15 => ?_) (fun c15 => ?_)
      · have y16 := y14.2 c15
        refine oj_aload_n 0 dX12_seen_29 rfl rfl ?_
        refine oj_getr (q := 143) fl_RX12_121 k_108 rfl k_143 dX12_seen_30 ?_
        refine oj_aload_n 0 dX12_seen_33 rfl rfl ?_
        refine oj_geti fl_RX12_412 k_108 rfl dX12_seen_34 ?_
        refine oj_iload_n 1 dX12_seen_37 rfl rfl ?_
        obtain ⟨c18, y19⟩ := y16
        refine oj_iast k_143 c18 rfl dX12_seen_38 ?_
        refine oj_toph (fun h20 eh20 => ?_)
        have y21 := Lt_at y19 h20 eh20
        refine oj_aload_n 0 dX12_seen_39 rfl rfl ?_
        refine oj_getr (q := 144) fl_RX12_124 k_108 rfl k_144 dX12_seen_40 ?_
        refine oj_aload_n 0 dX12_seen_43 rfl rfl ?_
        refine oj_geti fl_RX12_412 k_108 rfl dX12_seen_44 ?_
        refine oj_iload_n 2 dX12_seen_47 rfl rfl ?_
        obtain ⟨c22, y23⟩ := y21
        refine oj_iast k_144 c22 rfl dX12_seen_48 ?_
        refine oj_toph (fun h24 eh24 => ?_)
        have y25 := Lt_at y23 h24 eh24
        refine oj_aload_n 0 dX12_seen_49 rfl rfl ?_
        refine oj_getr (q := 147) fl_RX12_133 k_108 rfl k_147 dX12_seen_50 ?_
        refine oj_aload_n 0 dX12_seen_53 rfl rfl ?_
        refine oj_geti fl_RX12_412 k_108 rfl dX12_seen_54 ?_
        refine oj_iload_n 3 dX12_seen_57 rfl rfl ?_
        obtain ⟨c26, y27⟩ := y25
        refine oj_zast k_147 c26 rfl dX12_seen_58 ?_
        refine oj_toph (fun h28 eh28 => ?_)
        have y29 := Lt_at y27 h28 eh28
        refine oj_aload_n 0 dX12_seen_59 rfl rfl ?_
        refine oj_getr (q := 145) fl_RX12_127 k_108 rfl k_145 dX12_seen_60 ?_
        refine oj_aload_n 0 dX12_seen_63 rfl rfl ?_
        refine oj_geti fl_RX12_412 k_108 rfl dX12_seen_64 ?_
        refine oj_aload_n 0 dX12_seen_67 rfl rfl ?_
        refine oj_geti fl_RX12_526 k_108 rfl dX12_seen_68 ?_
        obtain ⟨c30, y31⟩ := y29
        refine oj_iast k_145 c30 rfl dX12_seen_71 ?_
        refine oj_toph (fun h32 eh32 => ?_)
        have y33 := Lt_at y31 h32 eh32
        refine oj_aload_n 0 dX12_seen_72 rfl rfl ?_
        refine oj_getr (q := 146) fl_RX12_130 k_108 rfl k_146 dX12_seen_73 ?_
        refine oj_aload_n 0 dX12_seen_76 rfl rfl ?_
        refine oj_geti fl_RX12_412 k_108 rfl dX12_seen_77 ?_
        refine oj_iconst dX12_seen_80 ci_m1 ?_
        obtain ⟨c34, y35⟩ := y33
        refine oj_iast k_146 c34 rfl dX12_seen_81 ?_
        refine oj_toph (fun h36 eh36 => ?_)
        have y37 := Lt_at y35 h36 eh36
        refine oj_aload_n 0 dX12_seen_82 rfl rfl ?_
        refine oj_dup dX12_seen_83 rfl ?_
        refine oj_geti fl_RX12_412 k_108 rfl dX12_seen_84 ?_
        refine oj_iconst dX12_seen_87 ci_1 ?_
        refine oj_iadd dX12_seen_88 ?_
        refine oj_puti fl_RX12_412 (Or.inl rfl) k_108 rfl rfl rfl dX12_seen_89 ?_
        refine oj_toph (fun h38 eh38 => ?_)
        have y39 := Lt_at y37 h38 eh38
        refine oj_aload_n 0 dX12_seen_92 rfl rfl ?_
        refine oj_geti fl_RX12_412 k_108 rfl dX12_seen_93 ?_
        refine oj_iconst dX12_seen_96 ci_1 ?_
        refine oj_isub dX12_seen_97 ?_
        exact oj_ret (r := some (.int ((h38.1 108 70) - (1)))) ⟨trivial, rfl, rfl, ((h38.1 108 70) - (1)), rfl, y39⟩ dX12_seen_98 (Nat.zero_le _) (Nat.zero_le _)
      · have y17 := y14.1 c15
        refine oj_iconst dX12_seen_27 ci_m1 ?_
        exact oj_ret (r := some (.int (-1))) ⟨trivial, rfl, rfl, (-1), rfl, y17⟩ dX12_seen_28 (Nat.zero_le _) (Nat.zero_le _)
-- X12_untell
set_option maxRecDepth 100000 in
set_option maxHeartbeats 4000000 in
theorem BX12_untell  {p1 : Int32}  {h : ob_H} {Q : Int32 → ob_H → Prop} (y : MX12_untell  p1 h Q) : ob_T yX12_untell cX12_untell 2 (some .boolean) (ob_rm 2) KS NN h [.ref 108, .int p1] (ob_g (some .boolean) (ob_qi Q)) := by
  unfold MX12_untell at y
  refine ob_T_gf (by decide +kernel) (Nat.le_of_ble_eq_true rfl) ?_
  show ob_J RX12 cX12_untell 2 (ob_rm 2) false none 0 0 KS NN h 0 [(0, .ref 108), (1, .int p1)] [] (ob_g (some .boolean) (ob_qi Q))
  refine oj_iload_n 1 dX12_untell_0 rfl rfl ?_
  refine oj_iconst dX12_untell_1 ci_0 ?_
  refine oj_aload_n 0 dX12_untell_2 rfl rfl ?_
  refine oj_geti fl_RX12_412 k_108 rfl dX12_untell_3 ?_
  refine oj_iconst dX12_untell_6 ci_1 ?_
  refine oj_isub dX12_untell_7 ?_
  refine oc_Spi [.int p1, .int (0), .int ((h.1 108 70) - (1))] mi_RX12_418 ow_1632 (BX12_isIn  y) ⟨by decide, by decide⟩ ⟨Nat.le_refl _, Nat.le_refl _⟩ rfl (Nat.le_of_ble_eq_true rfl) dX12_untell_8 (fun r1 f3 y4 => ?_)
  refine oj_if_eq 23 dX12_untell_11 rfl (fun c5 => ?_) (fun c5 => ?_)
  · have y6 := y4.1 c5
    refine oj_iconst dX12_untell_23 ci_0 ?_
    exact oj_ret (r := some (.int (0))) ⟨rfl, rfl, rfl, (0), rfl, y6⟩ dX12_untell_24 (Nat.zero_le _) (Nat.zero_le _)
  · have y7 := y4.2 c5
    refine oj_aload_n 0 dX12_untell_14 rfl rfl ?_
    refine oj_getr (q := 146) fl_RX12_130 k_108 rfl k_146 dX12_untell_15 ?_
    refine oj_iload_n 1 dX12_untell_18 rfl rfl ?_
    obtain ⟨c8, y9⟩ := y7
    refine oj_iald k_146 c8 rfl dX12_untell_19 ?_
    refine oj_if_lt 25 dX12_untell_20 rfl (fun c10 => ?_) (fun c10 => ?_)
    · have y11 := y9.1 c10
      refine oj_aload_n 0 dX12_untell_25 rfl rfl ?_
      refine oj_getr (q := 146) fl_RX12_130 k_108 rfl k_146 dX12_untell_26 ?_
      refine oj_iload_n 1 dX12_untell_29 rfl rfl ?_
      refine oj_aload_n 0 dX12_untell_30 rfl rfl ?_
      refine oj_geti fl_RX12_526 k_108 rfl dX12_untell_31 ?_
      refine oj_iast k_146 c8 rfl dX12_untell_34 ?_
      refine oj_toph (fun h13 eh13 => ?_)
      have y14 := Lt_at y11 h13 eh13
      refine oj_iconst dX12_untell_35 ci_1 ?_
      exact oj_ret (r := some (.int (1))) ⟨rfl, rfl, rfl, (1), rfl, y14⟩ dX12_untell_36 (Nat.zero_le _) (Nat.zero_le _)
    · have y12 := y9.2 c10
      refine oj_iconst dX12_untell_23 ci_0 ?_
      exact oj_ret (r := some (.int (0))) ⟨rfl, rfl, rfl, (0), rfl, y12⟩ dX12_untell_24 (Nat.zero_le _) (Nat.zero_le _)
-- X12_later
set_option maxRecDepth 100000 in
set_option maxHeartbeats 4000000 in
theorem BX12_later  {p1 : Int32}  {h : ob_H} {Q : Int32 → ob_H → Prop} (y : MX12_later  p1 h Q) : ob_T yX12_later cX12_later 2 (some .int) (ob_rm 1) KS NN h [.ref 108, .int p1] (ob_g (some .int) (ob_qi Q)) := by
  unfold MX12_later at y
  refine ob_T_gf (by decide +kernel) (Nat.le_of_ble_eq_true rfl) ?_
  show ob_J RX12 cX12_later 2 (ob_rm 1) false none 0 0 KS NN h 0 [(0, .ref 108), (1, .int p1)] [] (ob_g (some .int) (ob_qi Q))
  refine oj_iload_n 1 dX12_later_0 rfl rfl ?_
  refine oj_if_lt 23 dX12_later_1 rfl (fun c1 => ?_) (fun c1 => ?_)
  · have y2 := y.1 c1
    refine oj_iconst dX12_later_23 ci_m1 ?_
    exact oj_ret (r := some (.int (-1))) ⟨trivial, rfl, rfl, (-1), rfl, y2⟩ dX12_later_24 (Nat.zero_le _) (Nat.zero_le _)
  · have y3 := y.2 c1
    refine oj_iload_n 1 dX12_later_4 rfl rfl ?_
    refine oj_sipush dX12_later_5 cs_1000 ?_
    refine oj_icmp_gt 23 dX12_later_8 rfl (fun c4 => ?_) (fun c4 => ?_)
    · have y5 := y3.1 c4
      refine oj_iconst dX12_later_23 ci_m1 ?_
      exact oj_ret (r := some (.int (-1))) ⟨trivial, rfl, rfl, (-1), rfl, y5⟩ dX12_later_24 (Nat.zero_le _) (Nat.zero_le _)
    · have y6 := y3.2 c4
      refine oj_aload_n 0 dX12_later_11 rfl rfl ?_
      refine oj_geti fl_RX12_526 k_108 rfl dX12_later_12 ?_
      refine oj_iload_n 1 dX12_later_15 rfl rfl ?_
      refine oj_iadd dX12_later_16 ?_
      refine oj_ldcw ow_1891 dX12_later_17 ?_
      refine oj_icmp_le 25 dX12_later_20 rfl (fun c7 => ?_) (fun c7 => ?_)
      · have y8 := y6.1 c7
        refine oj_aload_n 0 dX12_later_25 rfl rfl ?_
        refine oj_dup dX12_later_26 rfl ?_
        refine oj_geti fl_RX12_526 k_108 rfl dX12_later_27 ?_
        refine oj_iload_n 1 dX12_later_30 rfl rfl ?_
        refine oj_iadd dX12_later_31 ?_
        refine oj_puti fl_RX12_526 (Or.inl rfl) k_108 rfl rfl rfl dX12_later_32 ?_
        refine oj_toph (fun h10 eh10 => ?_)
        have y11 := Lt_at y8 h10 eh10
        refine oj_aload_n 0 dX12_later_35 rfl rfl ?_
        refine oj_geti fl_RX12_526 k_108 rfl dX12_later_36 ?_
        exact oj_ret (r := some (.int (h10.1 108 71))) ⟨trivial, rfl, rfl, (h10.1 108 71), rfl, y11⟩ dX12_later_39 (Nat.zero_le _) (Nat.zero_le _)
      · have y9 := y6.2 c7
        refine oj_iconst dX12_later_23 ci_m1 ?_
        exact oj_ret (r := some (.int (-1))) ⟨trivial, rfl, rfl, (-1), rfl, y9⟩ dX12_later_24 (Nat.zero_le _) (Nat.zero_le _)
-- X12_fitsGrave
set_option maxRecDepth 100000 in
set_option maxHeartbeats 4000000 in
theorem BKX12_fitsGrave_87 {x1 : Int32} {x2 : Int32} {x4 : Int32} {s0 : Int32} {h : ob_H} {Q : Int32 → Prop} {k5 : Int32 → Int32 → Prop} (hk5 : ∀ (x3' : Int32) (x4' : Int32), k5 x3' x4' → ob_J RX12 cX12_fitsGrave 5 (ob_rm 1) false none 0 0 KS NN h 5 [(0, .ref 108), (1, .int x1), (2, .int x2), (3, .int x3'), (4, .int x4')] [] (ob_g (some .boolean) (ob_pi h Q)))
    (y : KX12_fitsGrave_87 x1 x2 x4 s0 h Q k5) : ob_J RX12 cX12_fitsGrave 5 (ob_rm 1) false none 0 0 KS NN h 87 [(0, .ref 108), (1, .int x1), (2, .int x2), (4, .int x4)] [.int s0] (ob_g (some .boolean) (ob_pi h Q)) := by
  unfold KX12_fitsGrave_87 at y
  refine oj_aload_n 0 dX12_fitsGrave_87 rfl rfl ?_
  refine oj_getr (q := 147) fl_RX12_133 k_108 rfl k_147 dX12_fitsGrave_88 ?_
  refine oj_iload 3 dX12_fitsGrave_91 rfl ?_
  obtain ⟨c28, y29⟩ := y
  refine oj_zald k_147 c28 rfl dX12_fitsGrave_93 ?_
  refine oj_icmp_ne 101 dX12_fitsGrave_94 rfl (fun c30 => ?_) (fun c30 => ?_)
  · have y31 := y29.2 c30
    refine oj_iconst dX12_fitsGrave_101 ci_0 ?_
    refine oj_istore_n (lv' := [(3, .int (0)), (0, .ref 108), (1, .int x1), (2, .int x2), (4, .int x4)]) dX12_fitsGrave_102 rfl (by decide) rfl ?_
    obtain ⟨v33, ev33⟩ : ∃ z : Int32, z = x4 + (1) := ⟨_, rfl⟩
    have y34 := Lt_at y31 v33 ev33
    refine oj_iinc (v := v33) (lv' := [(4, .int v33), (3, .int (0)), (0, .ref 108), (1, .int x1), (2, .int x2)]) 4 dX12_fitsGrave_103 rfl (iinc_e ci_1 ev33) (by decide) rfl ?_
    refine oj_goto 5 dX12_fitsGrave_106 rfl ?_
    refine oj_lv [2, 3, 4, 1, 0] rfl ?_
    exact hk5 _ _ y34
  · have y32 := y29.1 c30
    refine oj_iconst dX12_fitsGrave_97 ci_1 ?_
    refine oj_goto 102 dX12_fitsGrave_98 rfl ?_
    refine oj_istore_n (lv' := [(3, .int (1)), (0, .ref 108), (1, .int x1), (2, .int x2), (4, .int x4)]) dX12_fitsGrave_102 rfl (by decide) rfl ?_
    obtain ⟨v35, ev35⟩ : ∃ z : Int32, z = x4 + (1) := ⟨_, rfl⟩
    have y36 := Lt_at y32 v35 ev35
    refine oj_iinc (v := v35) (lv' := [(4, .int v35), (3, .int (1)), (0, .ref 108), (1, .int x1), (2, .int x2)]) 4 dX12_fitsGrave_103 rfl (iinc_e ci_1 ev35) (by decide) rfl ?_
    refine oj_goto 5 dX12_fitsGrave_106 rfl ?_
    refine oj_lv [2, 3, 4, 1, 0] rfl ?_
    exact hk5 _ _ y36
set_option maxRecDepth 100000 in
set_option maxHeartbeats 4000000 in
theorem BKX12_fitsGrave_53 {x1 : Int32} {x2 : Int32} {x4 : Int32} {h : ob_H} {Q : Int32 → Prop} {k5 : Int32 → Int32 → Prop} (hk5 : ∀ (x3' : Int32) (x4' : Int32), k5 x3' x4' → ob_J RX12 cX12_fitsGrave 5 (ob_rm 1) false none 0 0 KS NN h 5 [(0, .ref 108), (1, .int x1), (2, .int x2), (3, .int x3'), (4, .int x4')] [] (ob_g (some .boolean) (ob_pi h Q)))
    (y : KX12_fitsGrave_53 x1 x2 x4 h Q k5) : ob_J RX12 cX12_fitsGrave 5 (ob_rm 1) false none 0 0 KS NN h 53 [(0, .ref 108), (1, .int x1), (2, .int x2), (4, .int x4)] [] (ob_g (some .boolean) (ob_pi h Q)) := by
  unfold KX12_fitsGrave_53 at y
  refine oj_aload_n 0 dX12_fitsGrave_53 rfl rfl ?_
  refine oj_getr (q := 148) fl_RX12_136 k_108 rfl k_148 dX12_fitsGrave_54 ?_
  refine oj_bipush dX12_fitsGrave_57 cb_7 ?_
  refine oj_iload_n 1 dX12_fitsGrave_59 rfl rfl ?_
  refine oj_imul dX12_fitsGrave_60 ?_
  refine oj_aload_n 0 dX12_fitsGrave_61 rfl rfl ?_
  refine oj_getr (q := 143) fl_RX12_121 k_108 rfl k_143 dX12_fitsGrave_62 ?_
  refine oj_iload 3 dX12_fitsGrave_65 rfl ?_
  obtain ⟨c21, y22⟩ := y
  refine oj_iald k_143 c21 rfl dX12_fitsGrave_67 ?_
  refine oj_iadd dX12_fitsGrave_68 ?_
  refine oj_iconst dX12_fitsGrave_69 ci_1 ?_
  refine oj_isub dX12_fitsGrave_70 ?_
  obtain ⟨c23, y24⟩ := y22
  refine oj_iald k_148 c23 rfl dX12_fitsGrave_71 ?_
  refine oj_aload_n 0 dX12_fitsGrave_72 rfl rfl ?_
  refine oj_getr (q := 144) fl_RX12_124 k_108 rfl k_144 dX12_fitsGrave_73 ?_
  refine oj_iload 3 dX12_fitsGrave_76 rfl ?_
  refine oj_iald k_144 c21 rfl dX12_fitsGrave_78 ?_
  refine oj_icmp_ne 86 dX12_fitsGrave_79 rfl (fun c25 => ?_) (fun c25 => ?_)
  · have y26 := y24.2 c25
    refine oj_iconst dX12_fitsGrave_86 ci_0 ?_
    refine oj_lv [0, 1, 2, 3] rfl ?_
    exact BKX12_fitsGrave_87 hk5 y26
  · have y27 := y24.1 c25
    refine oj_iconst dX12_fitsGrave_82 ci_1 ?_
    refine oj_goto 87 dX12_fitsGrave_83 rfl ?_
    refine oj_lv [0, 1, 2, 3] rfl ?_
    exact BKX12_fitsGrave_87 hk5 y27
set_option maxRecDepth 100000 in
set_option maxHeartbeats 4000000 in
theorem BLX12_fitsGrave_5 {x1 : Int32} {x2 : Int32} {h : ob_H} {Q : Int32 → Prop} :
    ∀ (n : Nat) (x3 : Int32) (x4 : Int32), it2 (FX12_fitsGrave_5 x1 x2 h Q) n x3 x4 → ob_J RX12 cX12_fitsGrave 5 (ob_rm 1) false none 0 0 KS NN h 5 [(0, .ref 108), (1, .int x1), (2, .int x2), (3, .int x3), (4, .int x4)] [] (ob_g (some .boolean) (ob_pi h Q)) := by
  intro n
  induction n with
  | zero => intro x3 x4 y; exact False.elim y
  | succ n hk5 =>
    intro x3 x4 y
    have y : FX12_fitsGrave_5 x1 x2 h Q (it2 (FX12_fitsGrave_5 x1 x2 h Q) n) x3 x4 := y
    unfold FX12_fitsGrave_5 at y
    refine oj_iload 4 dX12_fitsGrave_5 rfl ?_
    refine oj_aload_n 0 dX12_fitsGrave_7 rfl rfl ?_
    refine oj_geti fl_RX12_412 k_108 rfl dX12_fitsGrave_8 ?_
    refine oj_icmp_ge 109 dX12_fitsGrave_11 rfl (fun c1 => ?_) (fun c1 => ?_)
    · have y2 := y.1 c1
      refine oj_iload_n 3 dX12_fitsGrave_109 rfl rfl ?_
      obtain ⟨c4, y5⟩ := y2
      exact oj_ret (r := some (.int x3)) ⟨c4, rfl, rfl, rfl, x3, rfl, y5⟩ dX12_fitsGrave_110 (Nat.zero_le _) (Nat.zero_le _)
    · have y3 := y.2 c1
      refine oj_iload_n 3 dX12_fitsGrave_14 rfl rfl ?_
      refine oj_if_eq 109 dX12_fitsGrave_15 rfl (fun c6 => ?_) (fun c6 => ?_)
      · have y7 := y3.1 c6
        refine oj_iload_n 3 dX12_fitsGrave_109 rfl rfl ?_
        obtain ⟨c9, y10⟩ := y7
        exact oj_ret (r := some (.int x3)) ⟨c9, rfl, rfl, rfl, x3, rfl, y10⟩ dX12_fitsGrave_110 (Nat.zero_le _) (Nat.zero_le _)
      · have y8 := y3.2 c6
        refine oj_aload_n 0 dX12_fitsGrave_18 rfl rfl ?_
        refine oj_getr (q := 145) fl_RX12_127 k_108 rfl k_145 dX12_fitsGrave_19 ?_
        refine oj_iload 4 dX12_fitsGrave_22 rfl ?_
        obtain ⟨c11, y12⟩ := y8
        refine oj_iald k_145 c11 rfl dX12_fitsGrave_24 ?_
        refine oj_iload_n 2 dX12_fitsGrave_25 rfl rfl ?_
        refine oj_icmp_gt 103 dX12_fitsGrave_26 rfl (fun c13 => ?_) (fun c13 => ?_)
        · have y14 := y12.1 c13
          obtain ⟨v16, ev16⟩ : ∃ z : Int32, z = x4 + (1) := ⟨_, rfl⟩
          have y17 := Lt_at y14 v16 ev16
          refine oj_iinc (v := v16) (lv' := [(4, .int v16), (0, .ref 108), (1, .int x1), (2, .int x2), (3, .int x3)]) 4 dX12_fitsGrave_103 rfl (iinc_e ci_1 ev16) (by decide) rfl ?_
          refine oj_goto 5 dX12_fitsGrave_106 rfl ?_
          refine oj_lv [1, 2, 3, 4, 0] rfl ?_
          exact hk5 _ _ y17
        · have y15 := y12.2 c13
          refine oj_aload_n 0 dX12_fitsGrave_29 rfl rfl ?_
          refine oj_getr (q := 146) fl_RX12_130 k_108 rfl k_146 dX12_fitsGrave_30 ?_
          refine oj_iload 4 dX12_fitsGrave_33 rfl ?_
          refine oj_iald k_146 c11 rfl dX12_fitsGrave_35 ?_
          refine oj_if_lt 53 dX12_fitsGrave_36 rfl (fun c18 => ?_) (fun c18 => ?_)
          · have y19 := y15.1 c18
            refine oj_lv [0, 1, 2, 4] rfl ?_
            exact BKX12_fitsGrave_53 hk5 y19
          · have y20 := y15.2 c18
            refine oj_aload_n 0 dX12_fitsGrave_39 rfl rfl ?_
            refine oj_getr (q := 146) fl_RX12_130 k_108 rfl k_146 dX12_fitsGrave_40 ?_
            refine oj_iload 4 dX12_fitsGrave_43 rfl ?_
            refine oj_iald k_146 c11 rfl dX12_fitsGrave_45 ?_
            refine oj_iload_n 2 dX12_fitsGrave_46 rfl rfl ?_
            refine oj_icmp_gt 53 dX12_fitsGrave_47 rfl (fun c37 => ?_) (fun c37 => ?_)
            · have y38 := y20.1 c37
              refine oj_lv [0, 1, 2, 4] rfl ?_
              exact BKX12_fitsGrave_53 hk5 y38
            · have y39 := y20.2 c37
              refine oj_goto 103 dX12_fitsGrave_50 rfl ?_
              obtain ⟨v40, ev40⟩ : ∃ z : Int32, z = x4 + (1) := ⟨_, rfl⟩
              have y41 := Lt_at y39 v40 ev40
              refine oj_iinc (v := v40) (lv' := [(4, .int v40), (0, .ref 108), (1, .int x1), (2, .int x2), (3, .int x3)]) 4 dX12_fitsGrave_103 rfl (iinc_e ci_1 ev40) (by decide) rfl ?_
              refine oj_goto 5 dX12_fitsGrave_106 rfl ?_
              refine oj_lv [1, 2, 3, 4, 0] rfl ?_
              exact hk5 _ _ y41
set_option maxRecDepth 100000 in
set_option maxHeartbeats 4000000 in
theorem BX12_fitsGrave  {p1 : Int32} {p2 : Int32}  {h : ob_H} {Q : Int32 → Prop} (y : MX12_fitsGrave  p1 p2 h Q) : ob_T yX12_fitsGrave cX12_fitsGrave 5 (some .boolean) (ob_rm 1) KS NN h [.ref 108, .int p1, .int p2] (ob_g (some .boolean) (ob_pi h Q)) := by
  unfold MX12_fitsGrave at y
  refine ob_T_gf (by decide +kernel) (Nat.le_of_ble_eq_true rfl) ?_
  show ob_J RX12 cX12_fitsGrave 5 (ob_rm 1) false none 0 0 KS NN h 0 [(0, .ref 108), (1, .int p1), (2, .int p2)] [] (ob_g (some .boolean) (ob_pi h Q))
  refine oj_iconst dX12_fitsGrave_0 ci_1 ?_
  refine oj_istore_n (lv' := [(3, .int (1)), (0, .ref 108), (1, .int p1), (2, .int p2)]) dX12_fitsGrave_1 rfl (by decide) rfl ?_
  refine oj_iconst dX12_fitsGrave_2 ci_0 ?_
  refine oj_istore (lv' := [(4, .int (0)), (3, .int (1)), (0, .ref 108), (1, .int p1), (2, .int p2)]) dX12_fitsGrave_3 (by decide) rfl ?_
  refine oj_lv [2, 3, 4, 1, 0] rfl ?_
  obtain ⟨n, y42⟩ := y
  exact BLX12_fitsGrave_5  n _ _ y42
-- X12_layFits
set_option maxRecDepth 100000 in
set_option maxHeartbeats 4000000 in
theorem BKX12_layFits_95 {x1 : Int32} {x2 : Int32} {x3 : Int32} {x4 : Int32} {x5 : Int32} {x6 : Int32} {s0 : Int32} {s1 : Int32} {h : ob_H} {Q : Int32 → ob_H → Prop} {k29 : Int32 → Int32 → ob_H → Prop} {k56 : Int32 → ob_H → Prop} (hk29 : ∀ (x4' : Int32) (x5' : Int32) (h' : ob_H), k29 x4' x5' h' → ob_J RX12 cX12_layFits 7 (ob_rm 7) false none 0 0 KS NN h' 29 [(0, .ref 108), (1, .int x1), (2, .int x2), (3, .int x3), (4, .int x4'), (5, .int x5')] [] (ob_g (some .int) (ob_qi Q))) (hk56 : ∀ (x6' : Int32) (h' : ob_H), k56 x6' h' → ob_J RX12 cX12_layFits 7 (ob_rm 7) false none 0 0 KS NN h' 56 [(0, .ref 108), (1, .int x1), (2, .int x2), (3, .int x3), (4, .int x4), (5, .int x5), (6, .int x6')] [] (ob_g (some .int) (ob_qi Q)))
    (y : KX12_layFits_95 x1 x2 x3 x4 x5 x6 s0 s1 h Q k29 k56) : ob_J RX12 cX12_layFits 7 (ob_rm 7) false none 0 0 KS NN h 95 [(0, .ref 108), (1, .int x1), (2, .int x2), (3, .int x3), (4, .int x4), (5, .int x5), (6, .int x6)] [.int s0, .int s1, .ref 148] (ob_g (some .int) (ob_qi Q)) := by
  unfold KX12_layFits_95 at y
  obtain ⟨c51, y52⟩ := y
  refine oj_iast k_148 c51 rfl dX12_layFits_95 ?_
  refine oj_toph (fun h53 eh53 => ?_)
  have y54 := Lt_at y52 h53 eh53
  obtain ⟨v55, ev55⟩ : ∃ z : Int32, z = x6 + (1) := ⟨_, rfl⟩
  have y56 := Lt_at y54 v55 ev55
  refine oj_iinc (v := v55) (lv' := [(6, .int v55), (0, .ref 108), (1, .int x1), (2, .int x2), (3, .int x3), (4, .int x4), (5, .int x5)]) 6 dX12_layFits_96 rfl (iinc_e ci_1 ev55) (by decide) rfl ?_
  refine oj_goto 56 dX12_layFits_99 rfl ?_
  refine oj_lv [1, 2, 3, 4, 5, 6, 0] rfl ?_
  exact hk56 _ _ y56
set_option maxRecDepth 100000 in
set_option maxHeartbeats 4000000 in
theorem BLX12_layFits_56 {x1 : Int32} {x2 : Int32} {x3 : Int32} {x4 : Int32} {x5 : Int32} {Q : Int32 → ob_H → Prop} {k29 : Int32 → Int32 → ob_H → Prop} (hk29 : ∀ (x4' : Int32) (x5' : Int32) (h' : ob_H), k29 x4' x5' h' → ob_J RX12 cX12_layFits 7 (ob_rm 7) false none 0 0 KS NN h' 29 [(0, .ref 108), (1, .int x1), (2, .int x2), (3, .int x3), (4, .int x4'), (5, .int x5')] [] (ob_g (some .int) (ob_qi Q))) :
    ∀ (n : Nat) (x6 : Int32) (h : ob_H), it2 (FX12_layFits_56 x1 x2 x3 x4 x5 Q k29) n x6 h → ob_J RX12 cX12_layFits 7 (ob_rm 7) false none 0 0 KS NN h 56 [(0, .ref 108), (1, .int x1), (2, .int x2), (3, .int x3), (4, .int x4), (5, .int x5), (6, .int x6)] [] (ob_g (some .int) (ob_qi Q)) := by
  intro n
  induction n with
  | zero => intro x6 h y; exact False.elim y
  | succ n hk56 =>
    intro x6 h y
    have y : FX12_layFits_56 x1 x2 x3 x4 x5 Q k29 (it2 (FX12_layFits_56 x1 x2 x3 x4 x5 Q k29) n) x6 h := y
    unfold FX12_layFits_56 at y
    refine oj_iload 6 dX12_layFits_56 rfl ?_
    refine oj_bipush dX12_layFits_58 cb_7 ?_
    refine oj_icmp_ge 102 dX12_layFits_60 rfl (fun c29 => ?_) (fun c29 => ?_)
    · have y30 := y.1 c29
      refine oj_aload_n 0 dX12_layFits_102 rfl rfl ?_
      refine oj_getr (q := 149) fl_RX12_139 k_108 rfl k_149 dX12_layFits_103 ?_
      refine oj_iload 5 dX12_layFits_106 rfl ?_
      refine oj_aload_n 0 dX12_layFits_108 rfl rfl ?_
      refine oj_iload 5 dX12_layFits_109 rfl ?_
      refine oj_iload_n 1 dX12_layFits_111 rfl rfl ?_
      refine oc_Vpi [.int x5, .int x1] mi_RX12_530 ow_1902 op_103 rfl k_108 (BX12_fitsGrave  y30) ⟨by decide, by decide⟩ ⟨Nat.le_refl _, Nat.le_refl _⟩ rfl (Nat.le_of_ble_eq_true rfl) dX12_layFits_112 (fun r32 f34 y35 => ?_)
      obtain ⟨c36, y37⟩ := y35
      refine oj_zast k_149 c36 rfl dX12_layFits_115 ?_
      refine oj_toph (fun h38 eh38 => ?_)
      have y39 := Lt_at y37 h38 eh38
      refine oj_iload 4 dX12_layFits_116 rfl ?_
      refine oj_aload_n 0 dX12_layFits_118 rfl rfl ?_
      refine oj_getr (q := 149) fl_RX12_139 k_108 rfl k_149 dX12_layFits_119 ?_
      refine oj_iload 5 dX12_layFits_122 rfl ?_
      refine oj_zald k_149 c36 rfl dX12_layFits_124 ?_
      refine oc_Spi [.int (h38.1 149 (ix x5))] mi_RX12_319 ow_1534 (BX12_truth  y39) ⟨by decide, by decide⟩ ⟨Nat.le_refl _, Nat.le_refl _⟩ rfl (Nat.le_of_ble_eq_true rfl) dX12_layFits_125 (fun r40 f42 y43 => ?_)
      refine oj_iadd dX12_layFits_128 ?_
      refine oj_topi (fun v44 ev44 => ?_)
      have y45 := Lt_at y43 v44 ev44
      refine oj_istore (lv' := [(4, .int v44), (0, .ref 108), (1, .int x1), (2, .int x2), (3, .int x3), (5, .int x5), (6, .int x6)]) dX12_layFits_129 (by decide) rfl ?_
      obtain ⟨v46, ev46⟩ : ∃ z : Int32, z = x5 + (1) := ⟨_, rfl⟩
      have y47 := Lt_at y45 v46 ev46
      refine oj_iinc (v := v46) (lv' := [(5, .int v46), (4, .int v44), (0, .ref 108), (1, .int x1), (2, .int x2), (3, .int x3), (6, .int x6)]) 5 dX12_layFits_131 rfl (iinc_e ci_1 ev46) (by decide) rfl ?_
      refine oj_goto 29 dX12_layFits_134 rfl ?_
      refine oj_lv [2, 3, 4, 5, 1, 0] rfl ?_
      exact hk29 _ _ _ y47
    · have y31 := y.2 c29
      refine oj_aload_n 0 dX12_layFits_63 rfl rfl ?_
      refine oj_getr (q := 148) fl_RX12_136 k_108 rfl k_148 dX12_layFits_64 ?_
      refine oj_bipush dX12_layFits_67 cb_7 ?_
      refine oj_iload 5 dX12_layFits_69 rfl ?_
      refine oj_imul dX12_layFits_71 ?_
      refine oj_iload 6 dX12_layFits_72 rfl ?_
      refine oj_iadd dX12_layFits_74 ?_
      refine oj_iload 6 dX12_layFits_75 rfl ?_
      refine oj_aload_n 0 dX12_layFits_77 rfl rfl ?_
      refine oj_geti fl_RX12_436 k_108 rfl dX12_layFits_78 ?_
      refine oj_icmp_ge 94 dX12_layFits_81 rfl (fun c48 => ?_) (fun c48 => ?_)
      · have y49 := y31.1 c48
        refine oj_iconst dX12_layFits_94 ci_m1 ?_
        refine oj_lv [0, 1, 2, 3, 4, 5, 6] rfl ?_
        exact BKX12_layFits_95 hk29 hk56 y49
      · have y50 := y31.2 c48
        refine oj_aload_n 0 dX12_layFits_84 rfl rfl ?_
        refine oj_getr (q := 137) fl_RX12_103 k_108 rfl k_137 dX12_layFits_85 ?_
        refine oj_iload 6 dX12_layFits_88 rfl ?_
        obtain ⟨c57, y58⟩ := y50
        refine oj_iald k_137 c57 rfl dX12_layFits_90 ?_
        refine oj_goto 95 dX12_layFits_91 rfl ?_
        refine oj_lv [0, 1, 2, 3, 4, 5, 6] rfl ?_
        exact BKX12_layFits_95 hk29 hk56 y58
set_option maxRecDepth 100000 in
set_option maxHeartbeats 4000000 in
theorem BLX12_layFits_29 {x1 : Int32} {x2 : Int32} {x3 : Int32} {Q : Int32 → ob_H → Prop} :
    ∀ (n : Nat) (x4 : Int32) (x5 : Int32) (h : ob_H), it3 (FX12_layFits_29 x1 x2 x3 Q) n x4 x5 h → ob_J RX12 cX12_layFits 7 (ob_rm 7) false none 0 0 KS NN h 29 [(0, .ref 108), (1, .int x1), (2, .int x2), (3, .int x3), (4, .int x4), (5, .int x5)] [] (ob_g (some .int) (ob_qi Q)) := by
  intro n
  induction n with
  | zero => intro x4 x5 h y; exact False.elim y
  | succ n hk29 =>
    intro x4 x5 h y
    have y : FX12_layFits_29 x1 x2 x3 Q (it3 (FX12_layFits_29 x1 x2 x3 Q) n) x4 x5 h := y
    unfold FX12_layFits_29 at y
    refine oj_iload 5 dX12_layFits_29 rfl ?_
    refine oj_bipush dX12_layFits_31 cb_99 ?_
    refine oj_icmp_gt 137 dX12_layFits_33 rfl (fun c10 => ?_) (fun c10 => ?_)
    · have y11 := y.1 c10
      refine oj_aload_n 0 dX12_layFits_137 rfl rfl ?_
      refine oj_getr (q := 128) fl_RX12_73 k_108 rfl k_128 dX12_layFits_138 ?_
      refine oj_iload_n 2 dX12_layFits_141 rfl rfl ?_
      refine oj_iload_n 3 dX12_layFits_142 rfl rfl ?_
      obtain ⟨c13, y14⟩ := y11
      refine oj_iast k_128 c13 rfl dX12_layFits_143 ?_
      refine oj_toph (fun h15 eh15 => ?_)
      have y16 := Lt_at y14 h15 eh15
      refine oj_iload 4 dX12_layFits_144 rfl ?_
      exact oj_ret (r := some (.int x4)) ⟨trivial, rfl, rfl, x4, rfl, y16⟩ dX12_layFits_146 (Nat.zero_le _) (Nat.zero_le _)
    · have y12 := y.2 c10
      refine oj_aload_n 0 dX12_layFits_36 rfl rfl ?_
      refine oj_getr (q := 128) fl_RX12_73 k_108 rfl k_128 dX12_layFits_37 ?_
      refine oj_iload_n 2 dX12_layFits_40 rfl rfl ?_
      refine oj_iload 5 dX12_layFits_41 rfl ?_
      obtain ⟨c17, y18⟩ := y12
      refine oj_iast k_128 c17 rfl dX12_layFits_43 ?_
      refine oj_toph (fun h19 eh19 => ?_)
      have y20 := Lt_at y18 h19 eh19
      refine oj_aload_n 0 dX12_layFits_44 rfl rfl ?_
      refine oc_Vv [] mi_RX12_400 ow_1613 op_71 rfl k_108 (BX12_begin  y20) ⟨by decide, by decide⟩ ⟨Nat.le_refl _, Nat.le_refl _⟩ rfl (Nat.le_of_ble_eq_true rfl) dX12_layFits_45 (fun h22 y24 => ?_)
      refine oj_aload_n 0 dX12_layFits_48 rfl rfl ?_
      refine oc_Vi [] mi_RX12_448 ow_1740 op_89 rfl k_108 (BX12_goOn  y24) ⟨by decide, by decide⟩ ⟨Nat.le_refl _, Nat.le_refl _⟩ rfl (Nat.le_of_ble_eq_true rfl) dX12_layFits_49 (fun r25 f27 h26 y28 => ?_)
      refine oj_pop dX12_layFits_52 rfl ?_
      refine oj_iconst dX12_layFits_53 ci_0 ?_
      refine oj_istore (lv' := [(6, .int (0)), (0, .ref 108), (1, .int x1), (2, .int x2), (3, .int x3), (4, .int x4), (5, .int x5)]) dX12_layFits_54 (by decide) rfl ?_
      refine oj_lv [1, 2, 3, 4, 5, 6, 0] rfl ?_
      obtain ⟨n, y59⟩ := y28
      exact BLX12_layFits_56 hk29 n _ _ y59
set_option maxRecDepth 100000 in
set_option maxHeartbeats 4000000 in
theorem BX12_layFits  {p1 : Int32}  {h : ob_H} {Q : Int32 → ob_H → Prop} (y : MX12_layFits  p1 h Q) : ob_T yX12_layFits cX12_layFits 7 (some .int) (ob_rm 7) KS NN h [.ref 108, .int p1] (ob_g (some .int) (ob_qi Q)) := by
  unfold MX12_layFits at y
  refine ob_T_gf (by decide +kernel) (Nat.le_of_ble_eq_true rfl) ?_
  show ob_J RX12 cX12_layFits 7 (ob_rm 7) false none 0 0 KS NN h 0 [(0, .ref 108), (1, .int p1)] [] (ob_g (some .int) (ob_qi Q))
  refine oj_aload_n 0 dX12_layFits_0 rfl rfl ?_
  refine oj_geti fl_RX12_323 k_108 rfl dX12_layFits_1 ?_
  refine oj_if_ne 9 dX12_layFits_4 rfl (fun c1 => ?_) (fun c1 => ?_)
  · have y2 := y.2 c1
    refine oj_aload_n 0 dX12_layFits_9 rfl rfl ?_
    refine oj_geti fl_RX12_323 k_108 rfl dX12_layFits_10 ?_
    refine oj_iconst dX12_layFits_13 ci_1 ?_
    refine oj_isub dX12_layFits_14 ?_
    refine oj_topi (fun v4 ev4 => ?_)
    have y5 := Lt_at y2 v4 ev4
    refine oj_istore_n (lv' := [(2, .int v4), (0, .ref 108), (1, .int p1)]) dX12_layFits_15 rfl (by decide) rfl ?_
    refine oj_aload_n 1 dX12_layFits_16 rfl rfl ?_
    refine oj_getr (q := 128) fl_RX12_73 k_108 rfl k_128 dX12_layFits_17 ?_
    refine oj_iload_n 0 dX12_layFits_20 rfl rfl ?_
    obtain ⟨c6, y7⟩ := y5
    refine oj_iald k_128 c6 rfl dX12_layFits_21 ?_
    refine oj_topi (fun v8 ev8 => ?_)
    have y9 := Lt_at y7 v8 ev8
    refine oj_istore_n (lv' := [(3, .int v8), (2, .int v4), (0, .ref 108), (1, .int p1)]) dX12_layFits_22 rfl (by decide) rfl ?_
    refine oj_iconst dX12_layFits_23 ci_0 ?_
    refine oj_istore (lv' := [(4, .int (0)), (3, .int v8), (2, .int v4), (0, .ref 108), (1, .int p1)]) dX12_layFits_24 (by decide) rfl ?_
    refine oj_iconst dX12_layFits_26 ci_0 ?_
    refine oj_istore (lv' := [(5, .int (0)), (4, .int (0)), (3, .int v8), (2, .int v4), (0, .ref 108), (1, .int p1)]) dX12_layFits_27 (by decide) rfl ?_
    refine oj_lv [4, 5, 3, 2, 1, 0] rfl ?_
    obtain ⟨n, y60⟩ := y9
    exact BLX12_layFits_29  n _ _ _ y60
  · have y3 := y.1 c1
    refine oj_iconst dX12_layFits_7 ci_0 ?_
    exact oj_ret (r := some (.int (0))) ⟨trivial, rfl, rfl, (0), rfl, y3⟩ dX12_layFits_8 (Nat.zero_le _) (Nat.zero_le _)
