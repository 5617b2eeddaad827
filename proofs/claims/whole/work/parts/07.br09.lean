-- X12_fault
set_option maxRecDepth 100000 in
set_option maxHeartbeats 4000000 in
theorem BX12_fault  {p1 : Int32}  {h : ob_H} {Q : Int32 → Prop} (y : MX12_fault  p1 h Q) : ob_T yX12_fault cX12_fault 2 (some .int) (ob_rm 1) KS NN h [.ref 108, .int p1] (ob_g (some .int) (ob_pi h Q)) := by
  unfold MX12_fault at y
  refine ob_T_gf (by decide +kernel) (Nat.le_of_ble_eq_true rfl) ?_
  show ob_J RX12 cX12_fault 2 (ob_rm 1) false none 0 0 KS NN h 0 [(0, .ref 108), (1, .int p1)] [] (ob_g (some .int) (ob_pi h Q))
  refine oj_iload_n 1 dX12_fault_0 rfl rfl ?_
  refine oj_if_ne 11 dX12_fault_1 rfl (fun c1 => ?_) (fun c1 => ?_)
  · have y2 := y.2 c1
    refine oj_iload_n 1 dX12_fault_11 rfl rfl ?_
    refine oj_iconst dX12_fault_12 ci_1 ?_
    refine oj_icmp_ne 23 dX12_fault_13 rfl (fun c4 => ?_) (fun c4 => ?_)
    · have y5 := y2.2 c4
      refine oj_iconst dX12_fault_23 ci_m1 ?_
      exact oj_ret (r := some (.int (-1))) ⟨trivial, rfl, rfl, rfl, (-1), rfl, y5⟩ dX12_fault_24 (Nat.zero_le _) (Nat.zero_le _)
    · have y6 := y2.1 c4
      refine oj_aload_n 0 dX12_fault_16 rfl rfl ?_
      refine oj_geti fl_RX12_13 k_108 rfl dX12_fault_17 ?_
      refine oj_goto 24 dX12_fault_20 rfl ?_
      exact oj_ret (r := some (.int (h.1 108 3))) ⟨trivial, rfl, rfl, rfl, (h.1 108 3), rfl, y6⟩ dX12_fault_24 (Nat.zero_le _) (Nat.zero_le _)
  · have y3 := y.1 c1
    refine oj_aload_n 0 dX12_fault_4 rfl rfl ?_
    refine oj_geti fl_RX12_188 k_108 rfl dX12_fault_5 ?_
    refine oj_goto 24 dX12_fault_8 rfl ?_
    exact oj_ret (r := some (.int (h.1 108 2))) ⟨trivial, rfl, rfl, rfl, (h.1 108 2), rfl, y3⟩ dX12_fault_24 (Nat.zero_le _) (Nat.zero_le _)
-- X12_isIn
set_option maxRecDepth 100000 in
set_option maxHeartbeats 4000000 in
theorem BX12_isIn  {p0 : Int32} {p1 : Int32} {p2 : Int32}  {h : ob_H} {Q : Int32 → Prop} (y : MX12_isIn  p0 p1 p2 h Q) : ob_T yX12_isIn cX12_isIn 3 (some .boolean) (ob_rm 1) KS NN h [.int p0, .int p1, .int p2] (ob_g (some .boolean) (ob_pi h Q)) := by
  unfold MX12_isIn at y
  refine ob_T_gf (by decide +kernel) (Nat.le_of_ble_eq_true rfl) ?_
  show ob_J RX12 cX12_isIn 3 (ob_rm 1) false none 0 0 KS NN h 0 [(0, .int p0), (1, .int p1), (2, .int p2)] [] (ob_g (some .boolean) (ob_pi h Q))
  refine oj_iload_n 0 dX12_isIn_0 rfl rfl ?_
  refine oj_iload_n 1 dX12_isIn_1 rfl rfl ?_
  refine oj_icmp_lt 14 dX12_isIn_2 rfl (fun c1 => ?_) (fun c1 => ?_)
  · have y2 := y.1 c1
    refine oj_iconst dX12_isIn_14 ci_0 ?_
    exact oj_ret (r := some (.int (0))) ⟨rfl, rfl, rfl, rfl, (0), rfl, y2⟩ dX12_isIn_15 (Nat.zero_le _) (Nat.zero_le _)
  · have y3 := y.2 c1
    refine oj_iload_n 0 dX12_isIn_5 rfl rfl ?_
    refine oj_iload_n 2 dX12_isIn_6 rfl rfl ?_
    refine oj_icmp_gt 14 dX12_isIn_7 rfl (fun c4 => ?_) (fun c4 => ?_)
    · have y5 := y3.1 c4
      refine oj_iconst dX12_isIn_14 ci_0 ?_
      exact oj_ret (r := some (.int (0))) ⟨rfl, rfl, rfl, rfl, (0), rfl, y5⟩ dX12_isIn_15 (Nat.zero_le _) (Nat.zero_le _)
    · have y6 := y3.2 c4
      refine oj_iconst dX12_isIn_10 ci_1 ?_
      refine oj_goto 15 dX12_isIn_11 rfl ?_
      exact oj_ret (r := some (.int (1))) ⟨rfl, rfl, rfl, rfl, (1), rfl, y6⟩ dX12_isIn_15 (Nat.zero_le _) (Nat.zero_le _)
-- X12_isOne
set_option maxRecDepth 100000 in
set_option maxHeartbeats 4000000 in
theorem BX12_isOne  {p1 : Int32}  {h : ob_H} {Q : Int32 → Prop} (y : MX12_isOne  p1 h Q) : ob_T yX12_isOne cX12_isOne 2 (some .boolean) (ob_rm 2) KS NN h [.ref 108, .int p1] (ob_g (some .boolean) (ob_pi h Q)) := by
  unfold MX12_isOne at y
  refine ob_T_gf (by decide +kernel) (Nat.le_of_ble_eq_true rfl) ?_
  show ob_J RX12 cX12_isOne 2 (ob_rm 2) false none 0 0 KS NN h 0 [(0, .ref 108), (1, .int p1)] [] (ob_g (some .boolean) (ob_pi h Q))
  refine oj_iload_n 1 dX12_isOne_0 rfl rfl ?_
  refine oj_iconst dX12_isOne_1 ci_0 ?_
  refine oj_aload_n 0 dX12_isOne_2 rfl rfl ?_
  refine oj_geti fl_RX12_323 k_108 rfl dX12_isOne_3 ?_
  refine oj_iconst dX12_isOne_6 ci_1 ?_
  refine oj_isub dX12_isOne_7 ?_
  refine oc_Spi [.int p1, .int (0), .int ((h.1 108 48) - (1))] mi_RX12_418 ow_1632 (BX12_isIn  y) ⟨by decide, by decide⟩ ⟨Nat.le_refl _, Nat.le_refl _⟩ rfl (Nat.le_of_ble_eq_true rfl) dX12_isOne_8 (fun r1 f3 y4 => ?_)
  exact oj_ret (r := some (.int r1)) ⟨f3, rfl, rfl, rfl, r1, rfl, y4⟩ dX12_isOne_11 (Nat.zero_le _) (Nat.zero_le _)
-- X12_all
set_option maxRecDepth 100000 in
set_option maxHeartbeats 4000000 in
theorem BX12_all    {h : ob_H} {Q : Int32 → Prop} (y : MX12_all   h Q) : ob_T yX12_all cX12_all 1 (some .int) (ob_rm 1) KS NN h [.ref 108] (ob_g (some .int) (ob_pi h Q)) := by
  unfold MX12_all at y
  refine ob_T_gf (by decide +kernel) (Nat.le_of_ble_eq_true rfl) ?_
  show ob_J RX12 cX12_all 1 (ob_rm 1) false none 0 0 KS NN h 0 [(0, .ref 108)] [] (ob_g (some .int) (ob_pi h Q))
  refine oj_iconst dX12_all_0 ci_1 ?_
  refine oj_aload_n 0 dX12_all_1 rfl rfl ?_
  refine oj_geti fl_RX12_323 k_108 rfl dX12_all_2 ?_
  refine oj_ishl dX12_all_5 ?_
  refine oj_iconst dX12_all_6 ci_1 ?_
  refine oj_isub dX12_all_7 ?_
  exact oj_ret (r := some (.int (((1) <<< ((h.1 108 48) &&& 31)) - (1)))) ⟨trivial, rfl, rfl, rfl, (((1) <<< ((h.1 108 48) &&& 31)) - (1)), rfl, y⟩ dX12_all_8 (Nat.zero_le _) (Nat.zero_le _)
-- X12_members
set_option maxRecDepth 100000 in
set_option maxHeartbeats 4000000 in
theorem BLX12_members_4 {x0 : Int32} {h : ob_H} {Q : Int32 → Prop} :
    ∀ (n : Nat) (x1 : Int32) (x2 : Int32), it2 (FX12_members_4 x0 h Q) n x1 x2 → ob_J RX12 cX12_members 3 (ob_rm 1) false none 0 0 KS NN h 4 [(0, .int x0), (1, .int x1), (2, .int x2)] [] (ob_g (some .int) (ob_pi h Q)) := by
  intro n
  induction n with
  | zero => intro x1 x2 y; exact False.elim y
  | succ n hk4 =>
    intro x1 x2 y
    have y : FX12_members_4 x0 h Q (it2 (FX12_members_4 x0 h Q) n) x1 x2 := y
    unfold FX12_members_4 at y
    refine oj_iload_n 2 dX12_members_4 rfl rfl ?_
    refine oj_bipush dX12_members_5 cb_7 ?_
    refine oj_icmp_ge 24 dX12_members_7 rfl (fun c1 => ?_) (fun c1 => ?_)
    · have y2 := y.1 c1
      refine oj_iload_n 1 dX12_members_24 rfl rfl ?_
      exact oj_ret (r := some (.int x1)) ⟨trivial, rfl, rfl, rfl, x1, rfl, y2⟩ dX12_members_25 (Nat.zero_le _) (Nat.zero_le _)
    · have y3 := y.2 c1
      refine oj_iload_n 1 dX12_members_10 rfl rfl ?_
      refine oj_iload_n 0 dX12_members_11 rfl rfl ?_
      refine oj_iload_n 2 dX12_members_12 rfl rfl ?_
      refine oj_ishr dX12_members_13 ?_
      refine oj_iconst dX12_members_14 ci_1 ?_
      refine oj_iand dX12_members_15 ?_
      refine oj_iadd dX12_members_16 ?_
      refine oj_topi (fun v4 ev4 => ?_)
      have y5 := Lt_at y3 v4 ev4
      refine oj_istore_n (lv' := [(1, .int v4), (0, .int x0), (2, .int x2)]) dX12_members_17 rfl (by decide) rfl ?_
      obtain ⟨v6, ev6⟩ : ∃ z : Int32, z = x2 + (1) := ⟨_, rfl⟩
      have y7 := Lt_at y5 v6 ev6
      refine oj_iinc (v := v6) (lv' := [(2, .int v6), (1, .int v4), (0, .int x0)]) 2 dX12_members_18 rfl (iinc_e ci_1 ev6) (by decide) rfl ?_
      refine oj_goto 4 dX12_members_21 rfl ?_
      refine oj_lv [2, 1, 0] rfl ?_
      exact hk4 _ _ y7
set_option maxRecDepth 100000 in
set_option maxHeartbeats 4000000 in
theorem BX12_members  {p0 : Int32}  {h : ob_H} {Q : Int32 → Prop} (y : MX12_members  p0 h Q) : ob_T yX12_members cX12_members 3 (some .int) (ob_rm 1) KS NN h [.int p0] (ob_g (some .int) (ob_pi h Q)) := by
  unfold MX12_members at y
  refine ob_T_gf (by decide +kernel) (Nat.le_of_ble_eq_true rfl) ?_
  show ob_J RX12 cX12_members 3 (ob_rm 1) false none 0 0 KS NN h 0 [(0, .int p0)] [] (ob_g (some .int) (ob_pi h Q))
  refine oj_iconst dX12_members_0 ci_0 ?_
  refine oj_istore_n (lv' := [(1, .int (0)), (0, .int p0)]) dX12_members_1 rfl (by decide) rfl ?_
  refine oj_iconst dX12_members_2 ci_0 ?_
  refine oj_istore_n (lv' := [(2, .int (0)), (1, .int (0)), (0, .int p0)]) dX12_members_3 rfl (by decide) rfl ?_
  refine oj_lv [2, 1, 0] rfl ?_
  obtain ⟨n, y8⟩ := y
  exact BLX12_members_4  n _ _ y8
-- X12_load
set_option maxRecDepth 100000 in
set_option maxHeartbeats 4000000 in
theorem BLX12_load_2 {Q : ob_H → Prop} :
    ∀ (n : Nat) (x1 : Int32) (h : ob_H), it2 (FX12_load_2 Q) n x1 h → ob_J RX12 cX12_load 2 (ob_rm 1) false none 0 0 KS NN h 2 [(0, .ref 108), (1, .int x1)] [] (ob_g none (ob_qv Q)) := by
  intro n
  induction n with
  | zero => intro x1 h y; exact False.elim y
  | succ n hk2 =>
    intro x1 h y
    have y : FX12_load_2 Q (it2 (FX12_load_2 Q) n) x1 h := y
    unfold FX12_load_2 at y
    refine oj_iload_n 1 dX12_load_2 rfl rfl ?_
    refine oj_bipush dX12_load_3 cb_24 ?_
    refine oj_icmp_ge 26 dX12_load_5 rfl (fun c1 => ?_) (fun c1 => ?_)
    · have y2 := y.1 c1
      exact oj_ret (r := none) ⟨trivial, rfl, rfl, rfl, y2⟩ dX12_load_26 (Nat.zero_le _) (Nat.zero_le _)
    · have y3 := y.2 c1
      refine oj_aload_n 0 dX12_load_8 rfl rfl ?_
      refine oj_getr (q := 136) fl_RX12_100 k_108 rfl k_136 dX12_load_9 ?_
      refine oj_iload_n 1 dX12_load_12 rfl rfl ?_
      refine oj_aload_n 0 dX12_load_13 rfl rfl ?_
      refine oj_getr (q := 135) fl_RX12_97 k_108 rfl k_135 dX12_load_14 ?_
      refine oj_iload_n 1 dX12_load_17 rfl rfl ?_
      obtain ⟨c4, y5⟩ := y3
      refine oj_iald k_135 c4 rfl dX12_load_18 ?_
      refine oj_iast k_136 c4 rfl dX12_load_19 ?_
      refine oj_toph (fun h6 eh6 => ?_)
      have y7 := Lt_at y5 h6 eh6
      obtain ⟨v8, ev8⟩ : ∃ z : Int32, z = x1 + (1) := ⟨_, rfl⟩
      have y9 := Lt_at y7 v8 ev8
      refine oj_iinc (v := v8) (lv' := [(1, .int v8), (0, .ref 108)]) 1 dX12_load_20 rfl (iinc_e ci_1 ev8) (by decide) rfl ?_
      refine oj_goto 2 dX12_load_23 rfl ?_
      refine oj_lv [1, 0] rfl ?_
      exact hk2 _ _ y9
set_option maxRecDepth 100000 in
set_option maxHeartbeats 4000000 in
theorem BX12_load    {h : ob_H} {Q : ob_H → Prop} (y : MX12_load   h Q) : ob_T yX12_load cX12_load 2 none (ob_rm 1) KS NN h [.ref 108] (ob_g none (ob_qv Q)) := by
  unfold MX12_load at y
  refine ob_T_gf (by decide +kernel) (Nat.le_of_ble_eq_true rfl) ?_
  show ob_J RX12 cX12_load 2 (ob_rm 1) false none 0 0 KS NN h 0 [(0, .ref 108)] [] (ob_g none (ob_qv Q))
  refine oj_iconst dX12_load_0 ci_0 ?_
  refine oj_istore_n (lv' := [(1, .int (0)), (0, .ref 108)]) dX12_load_1 rfl (by decide) rfl ?_
  refine oj_lv [1, 0] rfl ?_
  obtain ⟨n, y10⟩ := y
  exact BLX12_load_2  n _ _ y10
-- X12_thatAre
set_option maxRecDepth 100000 in
set_option maxHeartbeats 4000000 in
theorem BKX12_thatAre_28 {x1 : Int32} {x3 : Int32} {s0 : Int32} {s1 : Int32} {h : ob_H} {Q : Int32 → Prop} {k4 : Int32 → Int32 → Prop} (hk4 : ∀ (x2' : Int32) (x3' : Int32), k4 x2' x3' → ob_J RX12 cX12_thatAre 4 (ob_rm 2) false none 0 0 KS NN h 4 [(0, .ref 108), (1, .int x1), (2, .int x2'), (3, .int x3')] [] (ob_g (some .int) (ob_pi h Q)))
    (y : KX12_thatAre_28 x1 x3 s0 s1 h Q k4) : ob_J RX12 cX12_thatAre 4 (ob_rm 2) false none 0 0 KS NN h 28 [(0, .ref 108), (1, .int x1), (3, .int x3)] [.int s0, .int s1] (ob_g (some .int) (ob_pi h Q)) := by
  unfold KX12_thatAre_28 at y
  refine oc_Spi [.int s0] mi_RX12_319 ow_1534 (BX12_truth  y) ⟨by decide, by decide⟩ ⟨Nat.le_refl _, Nat.le_refl _⟩ rfl (Nat.le_of_ble_eq_true rfl) dX12_thatAre_28 (fun r9 f11 y12 => ?_)
  refine oj_iload_n 2 dX12_thatAre_31 rfl rfl ?_
  refine oj_ishl dX12_thatAre_32 ?_
  refine oj_ior dX12_thatAre_33 ?_
  refine oj_topi (fun v13 ev13 => ?_)
  have y14 := Lt_at y12 v13 ev13
  refine oj_istore_n (lv' := [(2, .int v13), (0, .ref 108), (1, .int x1), (3, .int x3)]) dX12_thatAre_34 rfl (by decide) rfl ?_
  obtain ⟨v15, ev15⟩ : ∃ z : Int32, z = x3 + (1) := ⟨_, rfl⟩
  have y16 := Lt_at y14 v15 ev15
  refine oj_iinc (v := v15) (lv' := [(3, .int v15), (2, .int v13), (0, .ref 108), (1, .int x1)]) 3 dX12_thatAre_35 rfl (iinc_e ci_1 ev15) (by decide) rfl ?_
  refine oj_goto 4 dX12_thatAre_38 rfl ?_
  refine oj_lv [2, 3, 1, 0] rfl ?_
  exact hk4 _ _ y16
set_option maxRecDepth 100000 in
set_option maxHeartbeats 4000000 in
theorem BLX12_thatAre_4 {x1 : Int32} {h : ob_H} {Q : Int32 → Prop} :
    ∀ (n : Nat) (x2 : Int32) (x3 : Int32), it2 (FX12_thatAre_4 x1 h Q) n x2 x3 → ob_J RX12 cX12_thatAre 4 (ob_rm 2) false none 0 0 KS NN h 4 [(0, .ref 108), (1, .int x1), (2, .int x2), (3, .int x3)] [] (ob_g (some .int) (ob_pi h Q)) := by
  intro n
  induction n with
  | zero => intro x2 x3 y; exact False.elim y
  | succ n hk4 =>
    intro x2 x3 y
    have y : FX12_thatAre_4 x1 h Q (it2 (FX12_thatAre_4 x1 h Q) n) x2 x3 := y
    unfold FX12_thatAre_4 at y
    refine oj_iload_n 3 dX12_thatAre_4 rfl rfl ?_
    refine oj_aload_n 0 dX12_thatAre_5 rfl rfl ?_
    refine oj_geti fl_RX12_323 k_108 rfl dX12_thatAre_6 ?_
    refine oj_icmp_ge 41 dX12_thatAre_9 rfl (fun c1 => ?_) (fun c1 => ?_)
    · have y2 := y.1 c1
      refine oj_iload_n 2 dX12_thatAre_41 rfl rfl ?_
      exact oj_ret (r := some (.int x2)) ⟨trivial, rfl, rfl, rfl, x2, rfl, y2⟩ dX12_thatAre_42 (Nat.zero_le _) (Nat.zero_le _)
    · have y3 := y.2 c1
      refine oj_iload_n 2 dX12_thatAre_12 rfl rfl ?_
      refine oj_aload_n 0 dX12_thatAre_13 rfl rfl ?_
      refine oj_getr (q := 136) fl_RX12_100 k_108 rfl k_136 dX12_thatAre_14 ?_
      refine oj_iload_n 3 dX12_thatAre_17 rfl rfl ?_
      obtain ⟨c4, y5⟩ := y3
      refine oj_iald k_136 c4 rfl dX12_thatAre_18 ?_
      refine oj_iload_n 1 dX12_thatAre_19 rfl rfl ?_
      refine oj_icmp_ne 27 dX12_thatAre_20 rfl (fun c6 => ?_) (fun c6 => ?_)
      · have y7 := y5.2 c6
        refine oj_iconst dX12_thatAre_27 ci_0 ?_
        refine oj_lv [0, 1, 3] rfl ?_
        exact BKX12_thatAre_28 hk4 y7
      · have y8 := y5.1 c6
        refine oj_iconst dX12_thatAre_23 ci_1 ?_
        refine oj_goto 28 dX12_thatAre_24 rfl ?_
        refine oj_lv [0, 1, 3] rfl ?_
        exact BKX12_thatAre_28 hk4 y8
set_option maxRecDepth 100000 in
set_option maxHeartbeats 4000000 in
theorem BX12_thatAre  {p1 : Int32}  {h : ob_H} {Q : Int32 → Prop} (y : MX12_thatAre  p1 h Q) : ob_T yX12_thatAre cX12_thatAre 4 (some .int) (ob_rm 2) KS NN h [.ref 108, .int p1] (ob_g (some .int) (ob_pi h Q)) := by
  unfold MX12_thatAre at y
  refine ob_T_gf (by decide +kernel) (Nat.le_of_ble_eq_true rfl) ?_
  show ob_J RX12 cX12_thatAre 4 (ob_rm 2) false none 0 0 KS NN h 0 [(0, .ref 108), (1, .int p1)] [] (ob_g (some .int) (ob_pi h Q))
  refine oj_iconst dX12_thatAre_0 ci_0 ?_
  refine oj_istore_n (lv' := [(2, .int (0)), (0, .ref 108), (1, .int p1)]) dX12_thatAre_1 rfl (by decide) rfl ?_
  refine oj_iconst dX12_thatAre_2 ci_0 ?_
  refine oj_istore_n (lv' := [(3, .int (0)), (2, .int (0)), (0, .ref 108), (1, .int p1)]) dX12_thatAre_3 rfl (by decide) rfl ?_
  refine oj_lv [2, 3, 1, 0] rfl ?_
  obtain ⟨n, y17⟩ := y
  exact BLX12_thatAre_4  n _ _ y17
-- X12_rankOf
set_option maxRecDepth 100000 in
set_option maxHeartbeats 4000000 in
theorem BX12_rankOf  {p1 : Int32}  {h : ob_H} {Q : Int32 → ob_H → Prop} (y : MX12_rankOf  p1 h Q) : ob_T yX12_rankOf cX12_rankOf 2 (some .int) (ob_rm 4) KS NN h [.ref 108, .int p1] (ob_g (some .int) (ob_qi Q)) := by
  unfold MX12_rankOf at y
  refine ob_T_gf (by decide +kernel) (Nat.le_of_ble_eq_true rfl) ?_
  show ob_J RX12 cX12_rankOf 2 (ob_rm 4) false none 0 0 KS NN h 0 [(0, .ref 108), (1, .int p1)] [] (ob_g (some .int) (ob_qi Q))
  refine oj_aload_n 0 dX12_rankOf_0 rfl rfl ?_
  refine oj_iconst dX12_rankOf_1 ci_0 ?_
  refine oj_iload_n 1 dX12_rankOf_2 rfl rfl ?_
  refine oj_aload_n 0 dX12_rankOf_3 rfl rfl ?_
  refine oj_getr (q := 128) fl_RX12_73 k_108 rfl k_128 dX12_rankOf_4 ?_
  refine oj_iload_n 1 dX12_rankOf_7 rfl rfl ?_
  obtain ⟨c1, y2⟩ := y
  refine oj_iald k_128 c1 rfl dX12_rankOf_8 ?_
  refine oj_aload_n 0 dX12_rankOf_9 rfl rfl ?_
  refine oj_getr (q := 128) fl_RX12_73 k_108 rfl k_128 dX12_rankOf_10 ?_
  refine oj_iload_n 1 dX12_rankOf_13 rfl rfl ?_
  refine oj_iald k_128 c1 rfl dX12_rankOf_14 ?_
  refine oc_Vi [.int (0), .int p1, .int (h.1 128 (ix p1)), .int (h.1 128 (ix p1))] mi_RX12_422 ow_1652 op_77 rfl k_108 (BX12_worked  y2) ⟨by decide, by decide⟩ ⟨Nat.le_refl _, Nat.le_refl _⟩ rfl (Nat.le_of_ble_eq_true rfl) dX12_rankOf_15 (fun r3 f5 h4 y6 => ?_)
  exact oj_ret (r := some (.int r3)) ⟨trivial, rfl, rfl, r3, rfl, y6⟩ dX12_rankOf_18 (Nat.zero_le _) (Nat.zero_le _)
-- X12_isAhead
set_option maxRecDepth 100000 in
set_option maxHeartbeats 4000000 in
theorem BX12_isAhead  {p1 : Int32} {p2 : Int32} {p3 : Int32} {p4 : Int32}  {h : ob_H} {Q : Int32 → Prop} (y : MX12_isAhead  p1 p2 p3 p4 h Q) : ob_T yX12_isAhead cX12_isAhead 5 (some .boolean) (ob_rm 1) KS NN h [.ref 108, .int p1, .int p2, .int p3, .int p4] (ob_g (some .boolean) (ob_pi h Q)) := by
  unfold MX12_isAhead at y
  refine ob_T_gf (by decide +kernel) (Nat.le_of_ble_eq_true rfl) ?_
  show ob_J RX12 cX12_isAhead 5 (ob_rm 1) false none 0 0 KS NN h 0 [(0, .ref 108), (1, .int p1), (2, .int p2), (3, .int p3), (4, .int p4)] [] (ob_g (some .boolean) (ob_pi h Q))
  refine oj_iload_n 2 dX12_isAhead_0 rfl rfl ?_
  refine oj_iload 4 dX12_isAhead_1 rfl ?_
  refine oj_icmp_gt 33 dX12_isAhead_3 rfl (fun c1 => ?_) (fun c1 => ?_)
  · have y2 := y.1 c1
    refine oj_iconst dX12_isAhead_33 ci_1 ?_
    refine oj_goto 38 dX12_isAhead_34 rfl ?_
    exact oj_ret (r := some (.int (1))) ⟨rfl, rfl, rfl, rfl, (1), rfl, y2⟩ dX12_isAhead_38 (Nat.zero_le _) (Nat.zero_le _)
  · have y3 := y.2 c1
    refine oj_iload_n 2 dX12_isAhead_6 rfl rfl ?_
    refine oj_iload 4 dX12_isAhead_7 rfl ?_
    refine oj_icmp_ne 37 dX12_isAhead_9 rfl (fun c4 => ?_) (fun c4 => ?_)
    · have y5 := y3.2 c4
      refine oj_iconst dX12_isAhead_37 ci_0 ?_
      exact oj_ret (r := some (.int (0))) ⟨rfl, rfl, rfl, rfl, (0), rfl, y5⟩ dX12_isAhead_38 (Nat.zero_le _) (Nat.zero_le _)
    · have y6 := y3.1 c4
      refine oj_aload_n 0 dX12_isAhead_12 rfl rfl ?_
      refine oj_getr (q := 136) fl_RX12_100 k_108 rfl k_136 dX12_isAhead_13 ?_
      refine oj_bipush dX12_isAhead_16 cb_14 ?_
      refine oj_iload_n 1 dX12_isAhead_18 rfl rfl ?_
      refine oj_iadd dX12_isAhead_19 ?_
      obtain ⟨c7, y8⟩ := y6
      refine oj_iald k_136 c7 rfl dX12_isAhead_20 ?_
      refine oj_aload_n 0 dX12_isAhead_21 rfl rfl ?_
      refine oj_getr (q := 136) fl_RX12_100 k_108 rfl k_136 dX12_isAhead_22 ?_
      refine oj_bipush dX12_isAhead_25 cb_14 ?_
      refine oj_iload_n 3 dX12_isAhead_27 rfl rfl ?_
      refine oj_iadd dX12_isAhead_28 ?_
      obtain ⟨c9, y10⟩ := y8
      refine oj_iald k_136 c9 rfl dX12_isAhead_29 ?_
      refine oj_icmp_ge 37 dX12_isAhead_30 rfl (fun c11 => ?_) (fun c11 => ?_)
      · have y12 := y10.1 c11
        refine oj_iconst dX12_isAhead_37 ci_0 ?_
        exact oj_ret (r := some (.int (0))) ⟨rfl, rfl, rfl, rfl, (0), rfl, y12⟩ dX12_isAhead_38 (Nat.zero_le _) (Nat.zero_le _)
      · have y13 := y10.2 c11
        refine oj_iconst dX12_isAhead_33 ci_1 ?_
        refine oj_goto 38 dX12_isAhead_34 rfl ?_
        exact oj_ret (r := some (.int (1))) ⟨rfl, rfl, rfl, rfl, (1), rfl, y13⟩ dX12_isAhead_38 (Nat.zero_le _) (Nat.zero_le _)
-- X12_turnOf
set_option maxRecDepth 100000 in
set_option maxHeartbeats 4000000 in
theorem BLX12_turnOf_4 {Q : Int32 → ob_H → Prop} :
    ∀ (n : Nat) (x1 : Int32) (x2 : Int32) (h : ob_H), it3 (FX12_turnOf_4 Q) n x1 x2 h → ob_J RX12 cX12_turnOf 3 (ob_rm 5) false none 0 0 KS NN h 4 [(0, .ref 108), (1, .int x1), (2, .int x2)] [] (ob_g (some .int) (ob_qi Q)) := by
  intro n
  induction n with
  | zero => intro x1 x2 h y; exact False.elim y
  | succ n hk4 =>
    intro x1 x2 h y
    have y : FX12_turnOf_4 Q (it3 (FX12_turnOf_4 Q) n) x1 x2 h := y
    unfold FX12_turnOf_4 at y
    refine oj_iload_n 2 dX12_turnOf_4 rfl rfl ?_
    refine oj_aload_n 0 dX12_turnOf_5 rfl rfl ?_
    refine oj_geti fl_RX12_323 k_108 rfl dX12_turnOf_6 ?_
    refine oj_icmp_ge 52 dX12_turnOf_9 rfl (fun c1 => ?_) (fun c1 => ?_)
    · have y2 := y.1 c1
      refine oj_iload_n 1 dX12_turnOf_52 rfl rfl ?_
      exact oj_ret (r := some (.int x1)) ⟨trivial, rfl, rfl, x1, rfl, y2⟩ dX12_turnOf_53 (Nat.zero_le _) (Nat.zero_le _)
    · have y3 := y.2 c1
      refine oj_aload_n 0 dX12_turnOf_12 rfl rfl ?_
      refine oj_getr (q := 136) fl_RX12_100 k_108 rfl k_136 dX12_turnOf_13 ?_
      refine oj_iload_n 2 dX12_turnOf_16 rfl rfl ?_
      obtain ⟨c4, y5⟩ := y3
      refine oj_iald k_136 c4 rfl dX12_turnOf_17 ?_
      refine oj_if_ne 46 dX12_turnOf_18 rfl (fun c6 => ?_) (fun c6 => ?_)
      · have y7 := y5.2 c6
        obtain ⟨v9, ev9⟩ : ∃ z : Int32, z = x2 + (1) := ⟨_, rfl⟩
        have y10 := Lt_at y7 v9 ev9
        refine oj_iinc (v := v9) (lv' := [(2, .int v9), (0, .ref 108), (1, .int x1)]) 2 dX12_turnOf_46 rfl (iinc_e ci_1 ev9) (by decide) rfl ?_
        refine oj_goto 4 dX12_turnOf_49 rfl ?_
        refine oj_lv [1, 2, 0] rfl ?_
        exact hk4 _ _ _ y10
      · have y8 := y5.1 c6
        refine oj_iload_n 1 dX12_turnOf_21 rfl rfl ?_
        refine oj_if_lt 44 dX12_turnOf_22 rfl (fun c11 => ?_) (fun c11 => ?_)
        · have y12 := y8.1 c11
          refine oj_iload_n 2 dX12_turnOf_44 rfl rfl ?_
          refine oj_istore_n (lv' := [(1, .int x2), (0, .ref 108), (2, .int x2)]) dX12_turnOf_45 rfl (by decide) rfl ?_
          obtain ⟨v14, ev14⟩ : ∃ z : Int32, z = x2 + (1) := ⟨_, rfl⟩
          have y15 := Lt_at y12 v14 ev14
          refine oj_iinc (v := v14) (lv' := [(2, .int v14), (1, .int x2), (0, .ref 108)]) 2 dX12_turnOf_46 rfl (iinc_e ci_1 ev14) (by decide) rfl ?_
          refine oj_goto 4 dX12_turnOf_49 rfl ?_
          refine oj_lv [2, 1, 0] rfl ?_
          exact hk4 _ _ _ y15
        · have y13 := y8.2 c11
          refine oj_aload_n 0 dX12_turnOf_25 rfl rfl ?_
          refine oj_iload_n 2 dX12_turnOf_26 rfl rfl ?_
          refine oj_aload_n 0 dX12_turnOf_27 rfl rfl ?_
          refine oj_iload_n 2 dX12_turnOf_28 rfl rfl ?_
          refine oc_Vi [.int x2] mi_RX12_426 ow_1648 op_76 rfl k_108 (BX12_rankOf  y13) ⟨by decide, by decide⟩ ⟨Nat.le_refl _, Nat.le_refl _⟩ rfl (Nat.le_of_ble_eq_true rfl) dX12_turnOf_29 (fun r16 f18 h17 y19 => ?_)
          refine oj_iload_n 1 dX12_turnOf_32 rfl rfl ?_
          refine oj_aload_n 0 dX12_turnOf_33 rfl rfl ?_
          refine oj_iload_n 1 dX12_turnOf_34 rfl rfl ?_
          refine oc_Vi [.int x1] mi_RX12_426 ow_1648 op_76 rfl k_108 (BX12_rankOf  y19) ⟨by decide, by decide⟩ ⟨Nat.le_refl _, Nat.le_refl _⟩ rfl (Nat.le_of_ble_eq_true rfl) dX12_turnOf_35 (fun r20 f22 h21 y23 => ?_)
          refine oc_Vpi [.int x2, .int r16, .int x1, .int r20] mi_RX12_429 ow_1672 op_80 rfl k_108 (BX12_isAhead  y23) ⟨by decide, by decide⟩ ⟨Nat.le_refl _, Nat.le_refl _⟩ rfl (Nat.le_of_ble_eq_true rfl) dX12_turnOf_38 (fun r24 f26 y27 => ?_)
          refine oj_if_eq 46 dX12_turnOf_41 rfl (fun c28 => ?_) (fun c28 => ?_)
          · have y29 := y27.1 c28
            obtain ⟨v31, ev31⟩ : ∃ z : Int32, z = x2 + (1) := ⟨_, rfl⟩
            have y32 := Lt_at y29 v31 ev31
            refine oj_iinc (v := v31) (lv' := [(2, .int v31), (0, .ref 108), (1, .int x1)]) 2 dX12_turnOf_46 rfl (iinc_e ci_1 ev31) (by decide) rfl ?_
            refine oj_goto 4 dX12_turnOf_49 rfl ?_
            refine oj_lv [1, 2, 0] rfl ?_
            exact hk4 _ _ _ y32
          · have y30 := y27.2 c28
            refine oj_iload_n 2 dX12_turnOf_44 rfl rfl ?_
            refine oj_istore_n (lv' := [(1, .int x2), (0, .ref 108), (2, .int x2)]) dX12_turnOf_45 rfl (by decide) rfl ?_
            obtain ⟨v33, ev33⟩ : ∃ z : Int32, z = x2 + (1) := ⟨_, rfl⟩
            have y34 := Lt_at y30 v33 ev33
            refine oj_iinc (v := v33) (lv' := [(2, .int v33), (1, .int x2), (0, .ref 108)]) 2 dX12_turnOf_46 rfl (iinc_e ci_1 ev33) (by decide) rfl ?_
            refine oj_goto 4 dX12_turnOf_49 rfl ?_
            refine oj_lv [2, 1, 0] rfl ?_
            exact hk4 _ _ _ y34
set_option maxRecDepth 100000 in
set_option maxHeartbeats 4000000 in
theorem BX12_turnOf    {h : ob_H} {Q : Int32 → ob_H → Prop} (y : MX12_turnOf   h Q) : ob_T yX12_turnOf cX12_turnOf 3 (some .int) (ob_rm 5) KS NN h [.ref 108] (ob_g (some .int) (ob_qi Q)) := by
  unfold MX12_turnOf at y
  refine ob_T_gf (by decide +kernel) (Nat.le_of_ble_eq_true rfl) ?_
  show ob_J RX12 cX12_turnOf 3 (ob_rm 5) false none 0 0 KS NN h 0 [(0, .ref 108)] [] (ob_g (some .int) (ob_qi Q))
  refine oj_iconst dX12_turnOf_0 ci_m1 ?_
  refine oj_istore_n (lv' := [(1, .int (-1)), (0, .ref 108)]) dX12_turnOf_1 rfl (by decide) rfl ?_
  refine oj_iconst dX12_turnOf_2 ci_0 ?_
  refine oj_istore_n (lv' := [(2, .int (0)), (1, .int (-1)), (0, .ref 108)]) dX12_turnOf_3 rfl (by decide) rfl ?_
  refine oj_lv [2, 1, 0] rfl ?_
  obtain ⟨n, y35⟩ := y
  exact BLX12_turnOf_4  n _ _ _ y35
-- X12_leave
set_option maxRecDepth 100000 in
set_option maxHeartbeats 4000000 in
theorem BLX12_leave_4 {Q : Int32 → ob_H → Prop} :
    ∀ (n : Nat) (x1 : Int32) (x2 : Int32) (h : ob_H), it3 (FX12_leave_4 Q) n x1 x2 h → ob_J RX12 cX12_leave 3 (ob_rm 1) false none 0 0 KS NN h 4 [(0, .ref 108), (1, .int x1), (2, .int x2)] [] (ob_g (some .int) (ob_qi Q)) := by
  intro n
  induction n with
  | zero => intro x1 x2 h y; exact False.elim y
  | succ n hk4 =>
    intro x1 x2 h y
    have y : FX12_leave_4 Q (it3 (FX12_leave_4 Q) n) x1 x2 h := y
    unfold FX12_leave_4 at y
    refine oj_iload_n 2 dX12_leave_4 rfl rfl ?_
    refine oj_aload_n 0 dX12_leave_5 rfl rfl ?_
    refine oj_geti fl_RX12_323 k_108 rfl dX12_leave_6 ?_
    refine oj_icmp_ge 66 dX12_leave_9 rfl (fun c1 => ?_) (fun c1 => ?_)
    · have y2 := y.1 c1
      refine oj_iload_n 1 dX12_leave_66 rfl rfl ?_
      exact oj_ret (r := some (.int x1)) ⟨trivial, rfl, rfl, x1, rfl, y2⟩ dX12_leave_67 (Nat.zero_le _) (Nat.zero_le _)
    · have y3 := y.2 c1
      refine oj_aload_n 0 dX12_leave_12 rfl rfl ?_
      refine oj_getr (q := 136) fl_RX12_100 k_108 rfl k_136 dX12_leave_13 ?_
      refine oj_iload_n 2 dX12_leave_16 rfl rfl ?_
      obtain ⟨c4, y5⟩ := y3
      refine oj_iald k_136 c4 rfl dX12_leave_17 ?_
      refine oj_if_ne 60 dX12_leave_18 rfl (fun c6 => ?_) (fun c6 => ?_)
      · have y7 := y5.2 c6
        obtain ⟨v9, ev9⟩ : ∃ z : Int32, z = x2 + (1) := ⟨_, rfl⟩
        have y10 := Lt_at y7 v9 ev9
        refine oj_iinc (v := v9) (lv' := [(2, .int v9), (0, .ref 108), (1, .int x1)]) 2 dX12_leave_60 rfl (iinc_e ci_1 ev9) (by decide) rfl ?_
        refine oj_goto 4 dX12_leave_63 rfl ?_
        refine oj_lv [1, 2, 0] rfl ?_
        exact hk4 _ _ _ y10
      · have y8 := y5.1 c6
        refine oj_aload_n 0 dX12_leave_21 rfl rfl ?_
        refine oj_getr (q := 136) fl_RX12_100 k_108 rfl k_136 dX12_leave_22 ?_
        refine oj_bipush dX12_leave_25 cb_21 ?_
        refine oj_iald k_136 in_21_24 ix_21 dX12_leave_27 ?_
        refine oj_aload_n 0 dX12_leave_28 rfl rfl ?_
        refine oj_getr (q := 136) fl_RX12_100 k_108 rfl k_136 dX12_leave_29 ?_
        refine oj_bipush dX12_leave_32 cb_7 ?_
        refine oj_iload_n 2 dX12_leave_34 rfl rfl ?_
        refine oj_iadd dX12_leave_35 ?_
        obtain ⟨c11, y12⟩ := y8
        refine oj_iald k_136 c11 rfl dX12_leave_36 ?_
        refine oj_isub dX12_leave_37 ?_
        refine oj_aload_n 0 dX12_leave_38 rfl rfl ?_
        refine oj_getr (q := 130) fl_RX12_79 k_108 rfl k_130 dX12_leave_39 ?_
        refine oj_iload_n 2 dX12_leave_42 rfl rfl ?_
        obtain ⟨c13, y14⟩ := y12
        refine oj_iald k_130 c13 rfl dX12_leave_43 ?_
        refine oj_icmp_gt 50 dX12_leave_44 rfl (fun c15 => ?_) (fun c15 => ?_)
        · have y16 := y14.1 c15
          refine oj_aload_n 0 dX12_leave_50 rfl rfl ?_
          refine oj_getr (q := 136) fl_RX12_100 k_108 rfl k_136 dX12_leave_51 ?_
          refine oj_iload_n 2 dX12_leave_54 rfl rfl ?_
          refine oj_iconst dX12_leave_55 ci_4 ?_
          refine oj_iast k_136 c4 rfl dX12_leave_56 ?_
          refine oj_toph (fun h18 eh18 => ?_)
          have y19 := Lt_at y16 h18 eh18
          obtain ⟨v20, ev20⟩ : ∃ z : Int32, z = x1 + (1) := ⟨_, rfl⟩
          have y21 := Lt_at y19 v20 ev20
          refine oj_iinc (v := v20) (lv' := [(1, .int v20), (0, .ref 108), (2, .int x2)]) 1 dX12_leave_57 rfl (iinc_e ci_1 ev20) (by decide) rfl ?_
          obtain ⟨v22, ev22⟩ : ∃ z : Int32, z = x2 + (1) := ⟨_, rfl⟩
          have y23 := Lt_at y21 v22 ev22
          refine oj_iinc (v := v22) (lv' := [(2, .int v22), (1, .int v20), (0, .ref 108)]) 2 dX12_leave_60 rfl (iinc_e ci_1 ev22) (by decide) rfl ?_
          refine oj_goto 4 dX12_leave_63 rfl ?_
          refine oj_lv [2, 1, 0] rfl ?_
          exact hk4 _ _ _ y23
        · have y17 := y14.2 c15
          refine oj_goto 60 dX12_leave_47 rfl ?_
          obtain ⟨v24, ev24⟩ : ∃ z : Int32, z = x2 + (1) := ⟨_, rfl⟩
          have y25 := Lt_at y17 v24 ev24
          refine oj_iinc (v := v24) (lv' := [(2, .int v24), (0, .ref 108), (1, .int x1)]) 2 dX12_leave_60 rfl (iinc_e ci_1 ev24) (by decide) rfl ?_
          refine oj_goto 4 dX12_leave_63 rfl ?_
          refine oj_lv [1, 2, 0] rfl ?_
          exact hk4 _ _ _ y25
set_option maxRecDepth 100000 in
set_option maxHeartbeats 4000000 in
theorem BX12_leave    {h : ob_H} {Q : Int32 → ob_H → Prop} (y : MX12_leave   h Q) : ob_T yX12_leave cX12_leave 3 (some .int) (ob_rm 1) KS NN h [.ref 108] (ob_g (some .int) (ob_qi Q)) := by
  unfold MX12_leave at y
  refine ob_T_gf (by decide +kernel) (Nat.le_of_ble_eq_true rfl) ?_
  show ob_J RX12 cX12_leave 3 (ob_rm 1) false none 0 0 KS NN h 0 [(0, .ref 108)] [] (ob_g (some .int) (ob_qi Q))
  refine oj_iconst dX12_leave_0 ci_0 ?_
  refine oj_istore_n (lv' := [(1, .int (0)), (0, .ref 108)]) dX12_leave_1 rfl (by decide) rfl ?_
  refine oj_iconst dX12_leave_2 ci_0 ?_
  refine oj_istore_n (lv' := [(2, .int (0)), (1, .int (0)), (0, .ref 108)]) dX12_leave_3 rfl (by decide) rfl ?_
  refine oj_lv [2, 1, 0] rfl ?_
  obtain ⟨n, y26⟩ := y
  exact BLX12_leave_4  n _ _ _ y26
-- X12_goHear
set_option maxRecDepth 100000 in
set_option maxHeartbeats 4000000 in
theorem BLX12_goHear_71 {x1 : Int32} {Q : ob_H → Prop} :
    ∀ (n : Nat) (x3 : Int32) (h : ob_H), it2 (FX12_goHear_71 x1 Q) n x3 h → ob_J RX12 cX12_goHear 4 (ob_rm 2) false none 0 0 KS NN h 71 [(0, .ref 108), (1, .int x1), (3, .int x3)] [] (ob_g none (ob_qv Q)) := by
  intro n
  induction n with
  | zero => intro x3 h y; exact False.elim y
  | succ n hk71 =>
    intro x3 h y
    have y : FX12_goHear_71 x1 Q (it2 (FX12_goHear_71 x1 Q) n) x3 h := y
    unfold FX12_goHear_71 at y
    refine oj_iload_n 2 dX12_goHear_71 rfl rfl ?_
    refine oj_aload_n 0 dX12_goHear_72 rfl rfl ?_
    refine oj_geti fl_RX12_323 k_108 rfl dX12_goHear_73 ?_
    refine oj_icmp_ge 135 dX12_goHear_76 rfl (fun c12 => ?_) (fun c12 => ?_)
    · have y13 := y.1 c12
      refine oj_aload_n 0 dX12_goHear_135 rfl rfl ?_
      refine oc_Vi [] mi_RX12_433 ow_1688 op_84 rfl k_108 (BX12_leave  y13) ⟨by decide, by decide⟩ ⟨Nat.le_refl _, Nat.le_refl _⟩ rfl (Nat.le_of_ble_eq_true rfl) dX12_goHear_136 (fun r15 f17 h16 y18 => ?_)
      refine oj_pop dX12_goHear_139 rfl ?_
      exact oj_ret (r := none) ⟨trivial, rfl, rfl, rfl, y18⟩ dX12_goHear_140 (Nat.zero_le _) (Nat.zero_le _)
    · have y14 := y.2 c12
      refine oj_aload_n 0 dX12_goHear_79 rfl rfl ?_
      refine oj_getr (q := 133) fl_RX12_88 k_108 rfl k_133 dX12_goHear_80 ?_
      refine oj_iload_n 1 dX12_goHear_83 rfl rfl ?_
      obtain ⟨c19, y20⟩ := y14
      refine oj_iald k_133 c19 rfl dX12_goHear_84 ?_
      refine oj_iload_n 2 dX12_goHear_85 rfl rfl ?_
      refine oj_ishr dX12_goHear_86 ?_
      refine oj_iconst dX12_goHear_87 ci_1 ?_
      refine oj_iand dX12_goHear_88 ?_
      refine oj_if_eq 129 dX12_goHear_89 rfl (fun c21 => ?_) (fun c21 => ?_)
      · have y22 := y20.1 c21
        obtain ⟨v24, ev24⟩ : ∃ z : Int32, z = x3 + (1) := ⟨_, rfl⟩
        have y25 := Lt_at y22 v24 ev24
        refine oj_iinc (v := v24) (lv' := [(3, .int v24), (0, .ref 108), (1, .int x1)]) 2 dX12_goHear_129 rfl (iinc_e ci_1 ev24) (by decide) rfl ?_
        refine oj_goto 71 dX12_goHear_132 rfl ?_
        refine oj_lv [1, 2, 0] rfl ?_
        exact hk71 _ _ y25
      · have y23 := y20.2 c21
        refine oj_aload_n 0 dX12_goHear_92 rfl rfl ?_
        refine oj_getr (q := 136) fl_RX12_100 k_108 rfl k_136 dX12_goHear_93 ?_
        refine oj_iload_n 2 dX12_goHear_96 rfl rfl ?_
        obtain ⟨c26, y27⟩ := y23
        refine oj_iald k_136 c26 rfl dX12_goHear_97 ?_
        refine oj_bipush dX12_goHear_98 cb_6 ?_
        refine oj_icmp_eq 106 dX12_goHear_100 rfl (fun c28 => ?_) (fun c28 => ?_)
        · have y29 := y27.1 c28
          refine oj_aload_n 0 dX12_goHear_106 rfl rfl ?_
          refine oj_getr (q := 136) fl_RX12_100 k_108 rfl k_136 dX12_goHear_107 ?_
          refine oj_iload_n 2 dX12_goHear_110 rfl rfl ?_
          refine oj_iconst dX12_goHear_111 ci_0 ?_
          refine oj_iast k_136 c26 rfl dX12_goHear_112 ?_
          refine oj_toph (fun h31 eh31 => ?_)
          have y32 := Lt_at y29 h31 eh31
          refine oj_aload_n 0 dX12_goHear_113 rfl rfl ?_
          refine oj_getr (q := 136) fl_RX12_100 k_108 rfl k_136 dX12_goHear_114 ?_
          refine oj_bipush dX12_goHear_117 cb_7 ?_
          refine oj_iload_n 2 dX12_goHear_119 rfl rfl ?_
          refine oj_iadd dX12_goHear_120 ?_
          refine oj_aload_n 0 dX12_goHear_121 rfl rfl ?_
          refine oj_getr (q := 136) fl_RX12_100 k_108 rfl k_136 dX12_goHear_122 ?_
          refine oj_bipush dX12_goHear_125 cb_21 ?_
          refine oj_iald k_136 in_21_24 ix_21 dX12_goHear_127 ?_
          obtain ⟨c33, y34⟩ := y32
          refine oj_iast k_136 c33 rfl dX12_goHear_128 ?_
          refine oj_toph (fun h35 eh35 => ?_)
          have y36 := Lt_at y34 h35 eh35
          obtain ⟨v37, ev37⟩ : ∃ z : Int32, z = x3 + (1) := ⟨_, rfl⟩
          have y38 := Lt_at y36 v37 ev37
          refine oj_iinc (v := v37) (lv' := [(3, .int v37), (0, .ref 108), (1, .int x1)]) 2 dX12_goHear_129 rfl (iinc_e ci_1 ev37) (by decide) rfl ?_
          refine oj_goto 71 dX12_goHear_132 rfl ?_
          refine oj_lv [1, 2, 0] rfl ?_
          exact hk71 _ _ y38
        · have y30 := y27.2 c28
          refine oj_goto 129 dX12_goHear_103 rfl ?_
          obtain ⟨v39, ev39⟩ : ∃ z : Int32, z = x3 + (1) := ⟨_, rfl⟩
          have y40 := Lt_at y30 v39 ev39
          refine oj_iinc (v := v39) (lv' := [(3, .int v39), (0, .ref 108), (1, .int x1)]) 2 dX12_goHear_129 rfl (iinc_e ci_1 ev39) (by decide) rfl ?_
          refine oj_goto 71 dX12_goHear_132 rfl ?_
          refine oj_lv [1, 2, 0] rfl ?_
          exact hk71 _ _ y40
set_option maxRecDepth 100000 in
set_option maxHeartbeats 4000000 in
theorem BLX12_goHear_25 {x1 : Int32} {Q : ob_H → Prop} :
    ∀ (n : Nat) (x3 : Int32) (h : ob_H), it2 (FX12_goHear_25 x1 Q) n x3 h → ob_J RX12 cX12_goHear 4 (ob_rm 2) false none 0 0 KS NN h 25 [(0, .ref 108), (1, .int x1), (3, .int x3)] [] (ob_g none (ob_qv Q)) := by
  intro n
  induction n with
  | zero => intro x3 h y; exact False.elim y
  | succ n hk25 =>
    intro x3 h y
    have y : FX12_goHear_25 x1 Q (it2 (FX12_goHear_25 x1 Q) n) x3 h := y
    unfold FX12_goHear_25 at y
    refine oj_iload_n 2 dX12_goHear_25 rfl rfl ?_
    refine oj_aload_n 0 dX12_goHear_26 rfl rfl ?_
    refine oj_geti fl_RX12_323 k_108 rfl dX12_goHear_27 ?_
    refine oj_icmp_ge 69 dX12_goHear_30 rfl (fun c9 => ?_) (fun c9 => ?_)
    · have y10 := y.1 c9
      refine oj_iconst dX12_goHear_69 ci_0 ?_
      refine oj_istore_n (lv' := [(3, .int (0)), (0, .ref 108), (1, .int x1)]) dX12_goHear_70 rfl (by decide) rfl ?_
      refine oj_lv [1, 2, 0] rfl ?_
      obtain ⟨n, y41⟩ := y10
      exact BLX12_goHear_71  n _ _ y41
    · have y11 := y.2 c9
      refine oj_aload_n 0 dX12_goHear_33 rfl rfl ?_
      refine oj_getr (q := 132) fl_RX12_85 k_108 rfl k_132 dX12_goHear_34 ?_
      refine oj_iload_n 1 dX12_goHear_37 rfl rfl ?_
      obtain ⟨c42, y43⟩ := y11
      refine oj_iald k_132 c42 rfl dX12_goHear_38 ?_
      refine oj_iload_n 2 dX12_goHear_39 rfl rfl ?_
      refine oj_ishr dX12_goHear_40 ?_
      refine oj_iconst dX12_goHear_41 ci_1 ?_
      refine oj_iand dX12_goHear_42 ?_
      refine oj_iconst dX12_goHear_43 ci_1 ?_
      refine oj_icmp_ne 63 dX12_goHear_44 rfl (fun c44 => ?_) (fun c44 => ?_)
      · have y45 := y43.2 c44
        obtain ⟨v47, ev47⟩ : ∃ z : Int32, z = x3 + (1) := ⟨_, rfl⟩
        have y48 := Lt_at y45 v47 ev47
        refine oj_iinc (v := v47) (lv' := [(3, .int v47), (0, .ref 108), (1, .int x1)]) 2 dX12_goHear_63 rfl (iinc_e ci_1 ev47) (by decide) rfl ?_
        refine oj_goto 25 dX12_goHear_66 rfl ?_
        refine oj_lv [1, 2, 0] rfl ?_
        exact hk25 _ _ y48
      · have y46 := y43.1 c44
        refine oj_aload_n 0 dX12_goHear_47 rfl rfl ?_
        refine oj_getr (q := 136) fl_RX12_100 k_108 rfl k_136 dX12_goHear_48 ?_
        refine oj_iload_n 2 dX12_goHear_51 rfl rfl ?_
        obtain ⟨c49, y50⟩ := y46
        refine oj_iald k_136 c49 rfl dX12_goHear_52 ?_
        refine oj_if_ne 63 dX12_goHear_53 rfl (fun c51 => ?_) (fun c51 => ?_)
        · have y52 := y50.2 c51
          obtain ⟨v54, ev54⟩ : ∃ z : Int32, z = x3 + (1) := ⟨_, rfl⟩
          have y55 := Lt_at y52 v54 ev54
          refine oj_iinc (v := v54) (lv' := [(3, .int v54), (0, .ref 108), (1, .int x1)]) 2 dX12_goHear_63 rfl (iinc_e ci_1 ev54) (by decide) rfl ?_
          refine oj_goto 25 dX12_goHear_66 rfl ?_
          refine oj_lv [1, 2, 0] rfl ?_
          exact hk25 _ _ y55
        · have y53 := y50.1 c51
          refine oj_aload_n 0 dX12_goHear_56 rfl rfl ?_
          refine oj_getr (q := 136) fl_RX12_100 k_108 rfl k_136 dX12_goHear_57 ?_
          refine oj_iload_n 2 dX12_goHear_60 rfl rfl ?_
          refine oj_iconst dX12_goHear_61 ci_3 ?_
          refine oj_iast k_136 c49 rfl dX12_goHear_62 ?_
          refine oj_toph (fun h56 eh56 => ?_)
          have y57 := Lt_at y53 h56 eh56
          obtain ⟨v58, ev58⟩ : ∃ z : Int32, z = x3 + (1) := ⟨_, rfl⟩
          have y59 := Lt_at y57 v58 ev58
          refine oj_iinc (v := v58) (lv' := [(3, .int v58), (0, .ref 108), (1, .int x1)]) 2 dX12_goHear_63 rfl (iinc_e ci_1 ev58) (by decide) rfl ?_
          refine oj_goto 25 dX12_goHear_66 rfl ?_
          refine oj_lv [1, 2, 0] rfl ?_
          exact hk25 _ _ y59
set_option maxRecDepth 100000 in
set_option maxHeartbeats 4000000 in
theorem BX12_goHear  {p1 : Int32} {p2 : Int32}  {h : ob_H} {Q : ob_H → Prop} (y : MX12_goHear  p1 p2 h Q) : ob_T yX12_goHear cX12_goHear 4 none (ob_rm 2) KS NN h [.ref 108, .int p1, .int p2] (ob_g none (ob_qv Q)) := by
  unfold MX12_goHear at y
  refine ob_T_gf (by decide +kernel) (Nat.le_of_ble_eq_true rfl) ?_
  show ob_J RX12 cX12_goHear 4 (ob_rm 2) false none 0 0 KS NN h 0 [(0, .ref 108), (1, .int p1), (2, .int p2)] [] (ob_g none (ob_qv Q))
  refine oj_aload_n 0 dX12_goHear_0 rfl rfl ?_
  refine oj_getr (q := 136) fl_RX12_100 k_108 rfl k_136 dX12_goHear_1 ?_
  refine oj_bipush dX12_goHear_4 cb_21 ?_
  refine oj_dup2 dX12_goHear_6 rfl rfl ?_
  refine oj_iald k_136 in_21_24 ix_21 dX12_goHear_7 ?_
  refine oj_aload_n 0 dX12_goHear_8 rfl rfl ?_
  refine oj_getr (q := 129) fl_RX12_76 k_108 rfl k_129 dX12_goHear_9 ?_
  refine oj_iload_n 1 dX12_goHear_12 rfl rfl ?_
  obtain ⟨c1, y2⟩ := y
  refine oj_iald k_129 c1 rfl dX12_goHear_13 ?_
  refine oj_iadd dX12_goHear_14 ?_
  refine oj_iast k_136 in_21_24 ix_21 dX12_goHear_15 ?_
  refine oj_toph (fun h3 eh3 => ?_)
  have y4 := Lt_at y2 h3 eh3
  refine oj_aload_n 0 dX12_goHear_16 rfl rfl ?_
  refine oj_getr (q := 136) fl_RX12_100 k_108 rfl k_136 dX12_goHear_17 ?_
  refine oj_iload_n 1 dX12_goHear_20 rfl rfl ?_
  refine oj_iload_n 2 dX12_goHear_21 rfl rfl ?_
  obtain ⟨c5, y6⟩ := y4
  refine oj_iast k_136 c5 rfl dX12_goHear_22 ?_
  refine oj_toph (fun h7 eh7 => ?_)
  have y8 := Lt_at y6 h7 eh7
  refine oj_iconst dX12_goHear_23 ci_0 ?_
  refine oj_istore_n (lv' := [(3, .int (0)), (0, .ref 108), (1, .int p1), (2, .int p2)]) dX12_goHear_24 rfl (by decide) rfl ?_
  refine oj_lv [1, 2, 0] rfl ?_
  obtain ⟨n, y60⟩ := y8
  exact BLX12_goHear_25  n _ _ y60
-- X12_goOn
set_option maxRecDepth 100000 in
set_option maxHeartbeats 4000000 in
theorem BLX12_goOn_10 {Q : Int32 → ob_H → Prop} :
    ∀ (n : Nat) (x1 : Int32) (h : ob_H), it2 (FX12_goOn_10 Q) n x1 h → ob_J RX12 cX12_goOn 2 (ob_rm 6) false none 0 0 KS NN h 10 [(0, .ref 108), (1, .int x1)] [] (ob_g (some .int) (ob_qi Q)) := by
  intro n
  induction n with
  | zero => intro x1 h y; exact False.elim y
  | succ n hk10 =>
    intro x1 h y
    have y : FX12_goOn_10 Q (it2 (FX12_goOn_10 Q) n) x1 h := y
    unfold FX12_goOn_10 at y
    refine oj_iload_n 1 dX12_goOn_10 rfl rfl ?_
    refine oj_if_lt 64 dX12_goOn_11 rfl (fun c7 => ?_) (fun c7 => ?_)
    · have y8 := y.1 c7
      refine oj_aload_n 0 dX12_goOn_64 rfl rfl ?_
      refine oj_getr (q := 136) fl_RX12_100 k_108 rfl k_136 dX12_goOn_65 ?_
      refine oj_bipush dX12_goOn_68 cb_21 ?_
      refine oj_iald k_136 in_21_24 ix_21 dX12_goOn_70 ?_
      exact oj_ret (r := some (.int (h.1 136 21))) ⟨trivial, rfl, rfl, (h.1 136 21), rfl, y8⟩ dX12_goOn_71 (Nat.zero_le _) (Nat.zero_le _)
    · have y9 := y.2 c7
      refine oj_aload_n 0 dX12_goOn_14 rfl rfl ?_
      refine oj_getr (q := 137) fl_RX12_103 k_108 rfl k_137 dX12_goOn_15 ?_
      refine oj_aload_n 0 dX12_goOn_18 rfl rfl ?_
      refine oj_geti fl_RX12_436 k_108 rfl dX12_goOn_19 ?_
      refine oj_iload_n 1 dX12_goOn_22 rfl rfl ?_
      obtain ⟨c10, y11⟩ := y9
      refine oj_iast k_137 c10 rfl dX12_goOn_23 ?_
      refine oj_toph (fun h12 eh12 => ?_)
      have y13 := Lt_at y11 h12 eh12
      refine oj_aload_n 0 dX12_goOn_24 rfl rfl ?_
      refine oj_getr (q := 138) fl_RX12_106 k_108 rfl k_138 dX12_goOn_25 ?_
      refine oj_aload_n 0 dX12_goOn_28 rfl rfl ?_
      refine oj_geti fl_RX12_436 k_108 rfl dX12_goOn_29 ?_
      refine oj_aload_n 0 dX12_goOn_32 rfl rfl ?_
      refine oj_getr (q := 136) fl_RX12_100 k_108 rfl k_136 dX12_goOn_33 ?_
      refine oj_bipush dX12_goOn_36 cb_21 ?_
      refine oj_iald k_136 in_21_24 ix_21 dX12_goOn_38 ?_
      obtain ⟨c14, y15⟩ := y13
      refine oj_iast k_138 c14 rfl dX12_goOn_39 ?_
      refine oj_toph (fun h16 eh16 => ?_)
      have y17 := Lt_at y15 h16 eh16
      refine oj_aload_n 0 dX12_goOn_40 rfl rfl ?_
      refine oj_dup dX12_goOn_41 rfl ?_
      refine oj_geti fl_RX12_436 k_108 rfl dX12_goOn_42 ?_
      refine oj_iconst dX12_goOn_45 ci_1 ?_
      refine oj_iadd dX12_goOn_46 ?_
      refine oj_puti fl_RX12_436 (Or.inl rfl) k_108 rfl rfl rfl dX12_goOn_47 ?_
      refine oj_toph (fun h18 eh18 => ?_)
      have y19 := Lt_at y17 h18 eh18
      refine oj_aload_n 0 dX12_goOn_50 rfl rfl ?_
      refine oj_iload_n 1 dX12_goOn_51 rfl rfl ?_
      refine oj_iconst dX12_goOn_52 ci_1 ?_
      refine oc_Vv [.int x1, .int (1)] mi_RX12_442 ow_1684 op_83 rfl k_108 (BX12_goHear  y19) ⟨by decide, by decide⟩ ⟨Nat.le_refl _, Nat.le_refl _⟩ rfl (Nat.le_of_ble_eq_true rfl) dX12_goOn_53 (fun h21 y23 => ?_)
      refine oj_aload_n 0 dX12_goOn_56 rfl rfl ?_
      refine oc_Vi [] mi_RX12_439 ow_1668 op_79 rfl k_108 (BX12_turnOf  y23) ⟨by decide, by decide⟩ ⟨Nat.le_refl _, Nat.le_refl _⟩ rfl (Nat.le_of_ble_eq_true rfl) dX12_goOn_57 (fun r24 f26 h25 y27 => ?_)
      refine oj_istore_n (lv' := [(1, .int r24), (0, .ref 108)]) dX12_goOn_60 rfl (by decide) rfl ?_
      refine oj_goto 10 dX12_goOn_61 rfl ?_
      refine oj_lv [1, 0] rfl ?_
      exact hk10 _ _ y27
set_option maxRecDepth 100000 in
set_option maxHeartbeats 4000000 in
theorem BX12_goOn    {h : ob_H} {Q : Int32 → ob_H → Prop} (y : MX12_goOn   h Q) : ob_T yX12_goOn cX12_goOn 2 (some .int) (ob_rm 6) KS NN h [.ref 108] (ob_g (some .int) (ob_qi Q)) := by
  unfold MX12_goOn at y
  refine ob_T_gf (by decide +kernel) (Nat.le_of_ble_eq_true rfl) ?_
  show ob_J RX12 cX12_goOn 2 (ob_rm 6) false none 0 0 KS NN h 0 [(0, .ref 108)] [] (ob_g (some .int) (ob_qi Q))
  refine oj_aload_n 0 dX12_goOn_0 rfl rfl ?_
  refine oj_iconst dX12_goOn_1 ci_0 ?_
  refine oj_puti fl_RX12_436 (Or.inl rfl) k_108 rfl rfl rfl dX12_goOn_2 ?_
  refine oj_toph (fun h1 eh1 => ?_)
  have y2 := Lt_at y h1 eh1
  refine oj_aload_n 0 dX12_goOn_5 rfl rfl ?_
  refine oc_Vi [] mi_RX12_439 ow_1668 op_79 rfl k_108 (BX12_turnOf  y2) ⟨by decide, by decide⟩ ⟨Nat.le_refl _, Nat.le_refl _⟩ rfl (Nat.le_of_ble_eq_true rfl) dX12_goOn_6 (fun r3 f5 h4 y6 => ?_)
  refine oj_istore_n (lv' := [(1, .int r3), (0, .ref 108)]) dX12_goOn_9 rfl (by decide) rfl ?_
  refine oj_lv [1, 0] rfl ?_
  obtain ⟨n, y28⟩ := y6
  exact BLX12_goOn_10  n _ _ y28
-- X12_duskNow
set_option maxRecDepth 100000 in
set_option maxHeartbeats 4000000 in
theorem BX12_duskNow    {h : ob_H} {Q : Int32 → ob_H → Prop} (y : MX12_duskNow   h Q) : ob_T yX12_duskNow cX12_duskNow 1 (some .int) (ob_rm 7) KS NN h [.ref 108] (ob_g (some .int) (ob_qi Q)) := by
  unfold MX12_duskNow at y
  refine ob_T_gf (by decide +kernel) (Nat.le_of_ble_eq_true rfl) ?_
  show ob_J RX12 cX12_duskNow 1 (ob_rm 7) false none 0 0 KS NN h 0 [(0, .ref 108)] [] (ob_g (some .int) (ob_qi Q))
  refine oj_aload_n 0 dX12_duskNow_0 rfl rfl ?_
  refine oc_Vv [] mi_RX12_445 ow_1640 op_74 rfl k_108 (BX12_load  y) ⟨by decide, by decide⟩ ⟨Nat.le_refl _, Nat.le_refl _⟩ rfl (Nat.le_of_ble_eq_true rfl) dX12_duskNow_1 (fun h2 y4 => ?_)
  refine oj_aload_n 0 dX12_duskNow_4 rfl rfl ?_
  refine oc_Vi [] mi_RX12_448 ow_1740 op_89 rfl k_108 (BX12_goOn  y4) ⟨by decide, by decide⟩ ⟨Nat.le_refl _, Nat.le_refl _⟩ rfl (Nat.le_of_ble_eq_true rfl) dX12_duskNow_5 (fun r5 f7 h6 y8 => ?_)
  exact oj_ret (r := some (.int r5)) ⟨trivial, rfl, rfl, r5, rfl, y8⟩ dX12_duskNow_8 (Nat.zero_le _) (Nat.zero_le _)
-- X12_objector
set_option maxRecDepth 100000 in
set_option maxHeartbeats 4000000 in
theorem BX12_objector  {p1 : Int32} {p2 : Int32}  {h : ob_H} {Q : Int32 → Prop} (y : MX12_objector  p1 p2 h Q) : ob_T yX12_objector cX12_objector 3 (some .int) (ob_rm 3) KS NN h [.ref 108, .int p1, .int p2] (ob_g (some .int) (ob_pi h Q)) := by
  unfold MX12_objector at y
  refine ob_T_gf (by decide +kernel) (Nat.le_of_ble_eq_true rfl) ?_
  show ob_J RX12 cX12_objector 3 (ob_rm 3) false none 0 0 KS NN h 0 [(0, .ref 108), (1, .int p1), (2, .int p2)] [] (ob_g (some .int) (ob_pi h Q))
  refine oj_aload_n 0 dX12_objector_0 rfl rfl ?_
  refine oj_iload_n 1 dX12_objector_1 rfl rfl ?_
  refine oc_Vpi [.int p1] mi_RX12_451 ow_1629 op_73 rfl k_108 (BX12_isOne  y) ⟨by decide, by decide⟩ ⟨Nat.le_refl _, Nat.le_refl _⟩ rfl (Nat.le_of_ble_eq_true rfl) dX12_objector_2 (fun r1 f3 y4 => ?_)
  refine oj_if_ne 11 dX12_objector_5 rfl (fun c5 => ?_) (fun c5 => ?_)
  · have y6 := y4.2 c5
    refine oj_iload_n 2 dX12_objector_11 rfl rfl ?_
    by_cases c8 : p2 = (0)
    · have y9 := y6.1 c8
      refine oj_tableIn 60 dX12_objector_12 (by rw [c8] <;> decide) (by rw [c8] <;> decide) (by rw [c8] <;> rfl) rfl ?_
      refine oj_aload_n 0 dX12_objector_60 rfl rfl ?_
      refine oj_getr (q := 135) fl_RX12_97 k_108 rfl k_135 dX12_objector_61 ?_
      refine oj_iload_n 1 dX12_objector_64 rfl rfl ?_
      obtain ⟨c10, y11⟩ := y9
      refine oj_iald k_135 c10 rfl dX12_objector_65 ?_
      exact oj_ret (r := some (.int (h.1 135 (ix p1)))) ⟨trivial, rfl, rfl, rfl, (h.1 135 (ix p1)), rfl, y11⟩ dX12_objector_66 (Nat.zero_le _) (Nat.zero_le _)
    have y12 := y6.2 c8
    by_cases c13 : p2 = (1)
    · have y14 := y12.1 c13
      refine oj_tableIn 67 dX12_objector_12 (by rw [c13] <;> decide) (by rw [c13] <;> decide) (by rw [c13] <;> rfl) rfl ?_
      refine oj_aload_n 0 dX12_objector_67 rfl rfl ?_
      refine oj_getr (q := 128) fl_RX12_73 k_108 rfl k_128 dX12_objector_68 ?_
      refine oj_iload_n 1 dX12_objector_71 rfl rfl ?_
      obtain ⟨c15, y16⟩ := y14
      refine oj_iald k_128 c15 rfl dX12_objector_72 ?_
      exact oj_ret (r := some (.int (h.1 128 (ix p1)))) ⟨trivial, rfl, rfl, rfl, (h.1 128 (ix p1)), rfl, y16⟩ dX12_objector_73 (Nat.zero_le _) (Nat.zero_le _)
    have y17 := y12.2 c13
    by_cases c18 : p2 = (2)
    · have y19 := y17.1 c18
      refine oj_tableIn 74 dX12_objector_12 (by rw [c18] <;> decide) (by rw [c18] <;> decide) (by rw [c18] <;> rfl) rfl ?_
      refine oj_aload_n 0 dX12_objector_74 rfl rfl ?_
      refine oj_getr (q := 129) fl_RX12_76 k_108 rfl k_129 dX12_objector_75 ?_
      refine oj_iload_n 1 dX12_objector_78 rfl rfl ?_
      obtain ⟨c20, y21⟩ := y19
      refine oj_iald k_129 c20 rfl dX12_objector_79 ?_
      exact oj_ret (r := some (.int (h.1 129 (ix p1)))) ⟨trivial, rfl, rfl, rfl, (h.1 129 (ix p1)), rfl, y21⟩ dX12_objector_80 (Nat.zero_le _) (Nat.zero_le _)
    have y22 := y17.2 c18
    by_cases c23 : p2 = (3)
    · have y24 := y22.1 c23
      refine oj_tableIn 81 dX12_objector_12 (by rw [c23] <;> decide) (by rw [c23] <;> decide) (by rw [c23] <;> rfl) rfl ?_
      refine oj_aload_n 0 dX12_objector_81 rfl rfl ?_
      refine oj_getr (q := 135) fl_RX12_97 k_108 rfl k_135 dX12_objector_82 ?_
      refine oj_bipush dX12_objector_85 cb_14 ?_
      refine oj_iload_n 1 dX12_objector_87 rfl rfl ?_
      refine oj_iadd dX12_objector_88 ?_
      obtain ⟨c25, y26⟩ := y24
      refine oj_iald k_135 c25 rfl dX12_objector_89 ?_
      exact oj_ret (r := some (.int (h.1 135 (ix ((14) + p1))))) ⟨trivial, rfl, rfl, rfl, (h.1 135 (ix ((14) + p1))), rfl, y26⟩ dX12_objector_90 (Nat.zero_le _) (Nat.zero_le _)
    have y27 := y22.2 c23
    by_cases c28 : p2 = (4)
    · have y29 := y27.1 c28
      refine oj_tableIn 91 dX12_objector_12 (by rw [c28] <;> decide) (by rw [c28] <;> decide) (by rw [c28] <;> rfl) rfl ?_
      refine oj_aload_n 0 dX12_objector_91 rfl rfl ?_
      refine oj_getr (q := 135) fl_RX12_97 k_108 rfl k_135 dX12_objector_92 ?_
      refine oj_iload_n 1 dX12_objector_95 rfl rfl ?_
      obtain ⟨c30, y31⟩ := y29
      refine oj_iald k_135 c30 rfl dX12_objector_96 ?_
      refine oj_if_ne 120 dX12_objector_97 rfl (fun c32 => ?_) (fun c32 => ?_)
      · have y33 := y31.2 c32
        refine oj_iconst dX12_objector_120 ci_0 ?_
        exact oj_ret (r := some (.int (0))) ⟨trivial, rfl, rfl, rfl, (0), rfl, y33⟩ dX12_objector_121 (Nat.zero_le _) (Nat.zero_le _)
      · have y34 := y31.1 c32
        refine oj_aload_n 0 dX12_objector_100 rfl rfl ?_
        refine oj_getr (q := 135) fl_RX12_97 k_108 rfl k_135 dX12_objector_101 ?_
        refine oj_bipush dX12_objector_104 cb_21 ?_
        refine oj_iald k_135 in_21_24 ix_21 dX12_objector_106 ?_
        refine oj_aload_n 0 dX12_objector_107 rfl rfl ?_
        refine oj_getr (q := 135) fl_RX12_97 k_108 rfl k_135 dX12_objector_108 ?_
        refine oj_bipush dX12_objector_111 cb_7 ?_
        refine oj_iload_n 1 dX12_objector_113 rfl rfl ?_
        refine oj_iadd dX12_objector_114 ?_
        obtain ⟨c35, y36⟩ := y34
        refine oj_iald k_135 c35 rfl dX12_objector_115 ?_
        refine oj_isub dX12_objector_116 ?_
        refine oj_goto 121 dX12_objector_117 rfl ?_
        exact oj_ret (r := some (.int ((h.1 135 21) - (h.1 135 (ix ((7) + p1)))))) ⟨trivial, rfl, rfl, rfl, ((h.1 135 21) - (h.1 135 (ix ((7) + p1)))), rfl, y36⟩ dX12_objector_121 (Nat.zero_le _) (Nat.zero_le _)
    have y37 := y27.2 c28
    by_cases c38 : p2 = (5)
    · have y39 := y37.1 c38
      refine oj_tableIn 122 dX12_objector_12 (by rw [c38] <;> decide) (by rw [c38] <;> decide) (by rw [c38] <;> rfl) rfl ?_
      refine oj_aload_n 0 dX12_objector_122 rfl rfl ?_
      refine oj_getr (q := 131) fl_RX12_82 k_108 rfl k_131 dX12_objector_123 ?_
      refine oj_iload_n 1 dX12_objector_126 rfl rfl ?_
      obtain ⟨c40, y41⟩ := y39
      refine oj_iald k_131 c40 rfl dX12_objector_127 ?_
      exact oj_ret (r := some (.int (h.1 131 (ix p1)))) ⟨trivial, rfl, rfl, rfl, (h.1 131 (ix p1)), rfl, y41⟩ dX12_objector_128 (Nat.zero_le _) (Nat.zero_le _)
    have y42 := y37.2 c38
    by_cases c43 : p2 = (6)
    · have y44 := y42.1 c43
      refine oj_tableIn 129 dX12_objector_12 (by rw [c43] <;> decide) (by rw [c43] <;> decide) (by rw [c43] <;> rfl) rfl ?_
      refine oj_aload_n 0 dX12_objector_129 rfl rfl ?_
      refine oj_getr (q := 132) fl_RX12_85 k_108 rfl k_132 dX12_objector_130 ?_
      refine oj_iload_n 1 dX12_objector_133 rfl rfl ?_
      obtain ⟨c45, y46⟩ := y44
      refine oj_iald k_132 c45 rfl dX12_objector_134 ?_
      exact oj_ret (r := some (.int (h.1 132 (ix p1)))) ⟨trivial, rfl, rfl, rfl, (h.1 132 (ix p1)), rfl, y46⟩ dX12_objector_135 (Nat.zero_le _) (Nat.zero_le _)
    have y47 := y42.2 c43
    by_cases c48 : p2 = (7)
    · have y49 := y47.1 c48
      refine oj_tableIn 136 dX12_objector_12 (by rw [c48] <;> decide) (by rw [c48] <;> decide) (by rw [c48] <;> rfl) rfl ?_
      refine oj_aload_n 0 dX12_objector_136 rfl rfl ?_
      refine oj_getr (q := 133) fl_RX12_88 k_108 rfl k_133 dX12_objector_137 ?_
      refine oj_iload_n 1 dX12_objector_140 rfl rfl ?_
      obtain ⟨c50, y51⟩ := y49
      refine oj_iald k_133 c50 rfl dX12_objector_141 ?_
      exact oj_ret (r := some (.int (h.1 133 (ix p1)))) ⟨trivial, rfl, rfl, rfl, (h.1 133 (ix p1)), rfl, y51⟩ dX12_objector_142 (Nat.zero_le _) (Nat.zero_le _)
    have y52 := y47.2 c48
    refine oj_tableOut 143 dX12_objector_12 (show (p2 : Int32).toInt < 0 ∨ 7 < (p2 : Int32).toInt by have nc8 := lv_neT c8 (show (0 : Int32).toInt = 0 by decide); have nc13 := lv_neT c13 (show (1 : Int32).toInt = 1 by decide); have nc18 := lv_neT c18 (show (2 : Int32).toInt = 2 by decide); have nc23 := lv_neT c23 (show (3 : Int32).toInt = 3 by decide); have nc28 := lv_neT c28 (show (4 : Int32).toInt = 4 by decide); have nc38 := lv_neT c38 (show (5 : Int32).toInt = 5 by decide); have nc43 := lv_neT c43 (show (6 : Int32).toInt = 6 by decide); have nc48 := lv_neT c48 (show (7 : Int32).toInt = 7 by decide); omega) rfl ?_
    refine oj_bipush dX12_objector_143 cb_m2 ?_
    exact oj_ret (r := some (.int (-2))) ⟨trivial, rfl, rfl, rfl, (-2), rfl, y52⟩ dX12_objector_145 (Nat.zero_le _) (Nat.zero_le _)
  · have y7 := y4.1 c5
    refine oj_bipush dX12_objector_8 cb_m2 ?_
    exact oj_ret (r := some (.int (-2))) ⟨trivial, rfl, rfl, rfl, (-2), rfl, y7⟩ dX12_objector_10 (Nat.zero_le _) (Nat.zero_le _)
-- X12_isWaiting
set_option maxRecDepth 100000 in
set_option maxHeartbeats 4000000 in
theorem BX12_isWaiting  {p1 : Int32}  {h : ob_H} {Q : Int32 → Prop} (y : MX12_isWaiting  p1 h Q) : ob_T yX12_isWaiting cX12_isWaiting 2 (some .boolean) (ob_rm 3) KS NN h [.ref 108, .int p1] (ob_g (some .boolean) (ob_pi h Q)) := by
  unfold MX12_isWaiting at y
  refine ob_T_gf (by decide +kernel) (Nat.le_of_ble_eq_true rfl) ?_
  show ob_J RX12 cX12_isWaiting 2 (ob_rm 3) false none 0 0 KS NN h 0 [(0, .ref 108), (1, .int p1)] [] (ob_g (some .boolean) (ob_pi h Q))
  refine oj_aload_n 0 dX12_isWaiting_0 rfl rfl ?_
  refine oj_iload_n 1 dX12_isWaiting_1 rfl rfl ?_
  refine oc_Vpi [.int p1] mi_RX12_451 ow_1629 op_73 rfl k_108 (BX12_isOne  y) ⟨by decide, by decide⟩ ⟨Nat.le_refl _, Nat.le_refl _⟩ rfl (Nat.le_of_ble_eq_true rfl) dX12_isWaiting_2 (fun r1 f3 y4 => ?_)
  refine oj_if_eq 21 dX12_isWaiting_5 rfl (fun c5 => ?_) (fun c5 => ?_)
  · have y6 := y4.1 c5
    refine oj_iconst dX12_isWaiting_21 ci_0 ?_
    exact oj_ret (r := some (.int (0))) ⟨rfl, rfl, rfl, rfl, (0), rfl, y6⟩ dX12_isWaiting_22 (Nat.zero_le _) (Nat.zero_le _)
  · have y7 := y4.2 c5
    refine oj_aload_n 0 dX12_isWaiting_8 rfl rfl ?_
    refine oj_getr (q := 135) fl_RX12_97 k_108 rfl k_135 dX12_isWaiting_9 ?_
    refine oj_iload_n 1 dX12_isWaiting_12 rfl rfl ?_
    obtain ⟨c8, y9⟩ := y7
    refine oj_iald k_135 c8 rfl dX12_isWaiting_13 ?_
    refine oj_if_ne 21 dX12_isWaiting_14 rfl (fun c10 => ?_) (fun c10 => ?_)
    · have y11 := y9.2 c10
      refine oj_iconst dX12_isWaiting_21 ci_0 ?_
      exact oj_ret (r := some (.int (0))) ⟨rfl, rfl, rfl, rfl, (0), rfl, y11⟩ dX12_isWaiting_22 (Nat.zero_le _) (Nat.zero_le _)
    · have y12 := y9.1 c10
      refine oj_iconst dX12_isWaiting_17 ci_1 ?_
      refine oj_goto 22 dX12_isWaiting_18 rfl ?_
      exact oj_ret (r := some (.int (1))) ⟨rfl, rfl, rfl, rfl, (1), rfl, y12⟩ dX12_isWaiting_22 (Nat.zero_le _) (Nat.zero_le _)
-- X12_ranks
set_option maxRecDepth 100000 in
set_option maxHeartbeats 4000000 in
theorem BX12_ranks  {p1 : Int32}  {h : ob_H} {Q : Int32 → ob_H → Prop} (y : MX12_ranks  p1 h Q) : ob_T yX12_ranks cX12_ranks 2 (some .int) (ob_rm 5) KS NN h [.ref 108, .int p1] (ob_g (some .int) (ob_qi Q)) := by
  unfold MX12_ranks at y
  refine ob_T_gf (by decide +kernel) (Nat.le_of_ble_eq_true rfl) ?_
  show ob_J RX12 cX12_ranks 2 (ob_rm 5) false none 0 0 KS NN h 0 [(0, .ref 108), (1, .int p1)] [] (ob_g (some .int) (ob_qi Q))
  refine oj_aload_n 0 dX12_ranks_0 rfl rfl ?_
  refine oc_Vv [] mi_RX12_445 ow_1640 op_74 rfl k_108 (BX12_load  y) ⟨by decide, by decide⟩ ⟨Nat.le_refl _, Nat.le_refl _⟩ rfl (Nat.le_of_ble_eq_true rfl) dX12_ranks_1 (fun h2 y4 => ?_)
  refine oj_aload_n 0 dX12_ranks_4 rfl rfl ?_
  refine oj_iload_n 1 dX12_ranks_5 rfl rfl ?_
  refine oc_Vpi [.int p1] mi_RX12_454 ow_1644 op_75 rfl k_108 (BX12_isWaiting  y4) ⟨by decide, by decide⟩ ⟨Nat.le_refl _, Nat.le_refl _⟩ rfl (Nat.le_of_ble_eq_true rfl) dX12_ranks_6 (fun r5 f7 y8 => ?_)
  refine oj_if_eq 20 dX12_ranks_9 rfl (fun c9 => ?_) (fun c9 => ?_)
  · have y10 := y8.1 c9
    refine oj_ldcw ow_1661 dX12_ranks_20 ?_
    exact oj_ret (r := some (.int (-1000000000))) ⟨trivial, rfl, rfl, (-1000000000), rfl, y10⟩ dX12_ranks_23 (Nat.zero_le _) (Nat.zero_le _)
  · have y11 := y8.2 c9
    refine oj_aload_n 0 dX12_ranks_12 rfl rfl ?_
    refine oj_iload_n 1 dX12_ranks_13 rfl rfl ?_
    refine oc_Vi [.int p1] mi_RX12_426 ow_1648 op_76 rfl k_108 (BX12_rankOf  y11) ⟨by decide, by decide⟩ ⟨Nat.le_refl _, Nat.le_refl _⟩ rfl (Nat.le_of_ble_eq_true rfl) dX12_ranks_14 (fun r12 f14 h13 y15 => ?_)
    refine oj_goto 23 dX12_ranks_17 rfl ?_
    exact oj_ret (r := some (.int r12)) ⟨trivial, rfl, rfl, r12, rfl, y15⟩ dX12_ranks_23 (Nat.zero_le _) (Nat.zero_le _)
-- X12_act
set_option maxRecDepth 100000 in
set_option maxHeartbeats 4000000 in
theorem BLX12_act_51 {Q : ob_H → Prop} :
    ∀ (n : Nat) (x1 : Int32) (h : ob_H), it2 (FX12_act_51 Q) n x1 h → ob_J RX12 cX12_act 2 (ob_rm 2) false none 0 0 KS NN h 51 [(0, .ref 108), (1, .int x1)] [] (ob_g none (ob_qv Q)) := by
  intro n
  induction n with
  | zero => intro x1 h y; exact False.elim y
  | succ n hk51 =>
    intro x1 h y
    have y : FX12_act_51 Q (it2 (FX12_act_51 Q) n) x1 h := y
    unfold FX12_act_51 at y
    refine oj_iload_n 1 dX12_act_51 rfl rfl ?_
    refine oj_bipush dX12_act_52 cb_24 ?_
    refine oj_icmp_ge 83 dX12_act_54 rfl (fun c4 => ?_) (fun c4 => ?_)
    · have y5 := y.1 c4
      refine oj_aload_n 0 dX12_act_83 rfl rfl ?_
      refine oj_dup dX12_act_84 rfl ?_
      refine oj_geti fl_RX12_406 k_108 rfl dX12_act_85 ?_
      refine oj_iconst dX12_act_88 ci_1 ?_
      refine oj_iadd dX12_act_89 ?_
      refine oj_puti fl_RX12_406 (Or.inl rfl) k_108 rfl rfl rfl dX12_act_90 ?_
      refine oj_toph (fun h7 eh7 => ?_)
      have y8 := Lt_at y5 h7 eh7
      refine oj_aload_n 0 dX12_act_93 rfl rfl ?_
      refine oj_iconst dX12_act_94 ci_0 ?_
      refine oj_puti fl_RX12_409 (Or.inl rfl) k_108 rfl rfl rfl dX12_act_95 ?_
      refine oj_toph (fun h9 eh9 => ?_)
      have y10 := Lt_at y8 h9 eh9
      refine oj_aload_n 0 dX12_act_98 rfl rfl ?_
      refine oc_Vv [] mi_RX12_445 ow_1640 op_74 rfl k_108 (BX12_load  y10) ⟨by decide, by decide⟩ ⟨Nat.le_refl _, Nat.le_refl _⟩ rfl (Nat.le_of_ble_eq_true rfl) dX12_act_99 (fun h12 y14 => ?_)
      exact oj_ret (r := none) ⟨trivial, rfl, rfl, rfl, y14⟩ dX12_act_102 (Nat.zero_le _) (Nat.zero_le _)
    · have y6 := y.2 c4
      refine oj_aload_n 0 dX12_act_57 rfl rfl ?_
      refine oj_getr (q := 139) fl_RX12_109 k_108 rfl k_139 dX12_act_58 ?_
      refine oj_bipush dX12_act_61 cb_24 ?_
      refine oj_aload_n 0 dX12_act_63 rfl rfl ?_
      refine oj_geti fl_RX12_406 k_108 rfl dX12_act_64 ?_
      refine oj_imul dX12_act_67 ?_
      refine oj_iload_n 1 dX12_act_68 rfl rfl ?_
      refine oj_iadd dX12_act_69 ?_
      refine oj_aload_n 0 dX12_act_70 rfl rfl ?_
      refine oj_getr (q := 135) fl_RX12_97 k_108 rfl k_135 dX12_act_71 ?_
      refine oj_iload_n 1 dX12_act_74 rfl rfl ?_
      obtain ⟨c15, y16⟩ := y6
      refine oj_iald k_135 c15 rfl dX12_act_75 ?_
      obtain ⟨c17, y18⟩ := y16
      refine oj_iast k_139 c17 rfl dX12_act_76 ?_
      refine oj_toph (fun h19 eh19 => ?_)
      have y20 := Lt_at y18 h19 eh19
      obtain ⟨v21, ev21⟩ : ∃ z : Int32, z = x1 + (1) := ⟨_, rfl⟩
      have y22 := Lt_at y20 v21 ev21
      refine oj_iinc (v := v21) (lv' := [(1, .int v21), (0, .ref 108)]) 1 dX12_act_77 rfl (iinc_e ci_1 ev21) (by decide) rfl ?_
      refine oj_goto 51 dX12_act_80 rfl ?_
      refine oj_lv [1, 0] rfl ?_
      exact hk51 _ _ y22
set_option maxRecDepth 100000 in
set_option maxHeartbeats 4000000 in
theorem BLX12_act_11 {Q : ob_H → Prop} :
    ∀ (n : Nat) (x1 : Int32) (h : ob_H), it2 (FX12_act_11 Q) n x1 h → ob_J RX12 cX12_act 2 (ob_rm 2) false none 0 0 KS NN h 11 [(0, .ref 108), (1, .int x1)] [] (ob_g none (ob_qv Q)) := by
  intro n
  induction n with
  | zero => intro x1 h y; exact False.elim y
  | succ n hk11 =>
    intro x1 h y
    have y : FX12_act_11 Q (it2 (FX12_act_11 Q) n) x1 h := y
    unfold FX12_act_11 at y
    refine oj_iload_n 1 dX12_act_11 rfl rfl ?_
    refine oj_sipush dX12_act_12 cs_936 ?_
    refine oj_icmp_ge 39 dX12_act_15 rfl (fun c24 => ?_) (fun c24 => ?_)
    · have y25 := y.1 c24
      refine oj_aload_n 0 dX12_act_39 rfl rfl ?_
      refine oj_dup dX12_act_40 rfl ?_
      refine oj_geti fl_RX12_406 k_108 rfl dX12_act_41 ?_
      refine oj_iconst dX12_act_44 ci_1 ?_
      refine oj_isub dX12_act_45 ?_
      refine oj_puti fl_RX12_406 (Or.inl rfl) k_108 rfl rfl rfl dX12_act_46 ?_
      refine oj_toph (fun h27 eh27 => ?_)
      have y28 := Lt_at y25 h27 eh27
      refine oj_iconst dX12_act_49 ci_0 ?_
      refine oj_istore_n (lv' := [(1, .int (0)), (0, .ref 108)]) dX12_act_50 rfl (by decide) rfl ?_
      refine oj_lv [1, 0] rfl ?_
      obtain ⟨n, y29⟩ := y28
      exact BLX12_act_51  n _ _ y29
    · have y26 := y.2 c24
      refine oj_aload_n 0 dX12_act_18 rfl rfl ?_
      refine oj_getr (q := 139) fl_RX12_109 k_108 rfl k_139 dX12_act_19 ?_
      refine oj_iload_n 1 dX12_act_22 rfl rfl ?_
      refine oj_aload_n 0 dX12_act_23 rfl rfl ?_
      refine oj_getr (q := 139) fl_RX12_109 k_108 rfl k_139 dX12_act_24 ?_
      refine oj_bipush dX12_act_27 cb_24 ?_
      refine oj_iload_n 1 dX12_act_29 rfl rfl ?_
      refine oj_iadd dX12_act_30 ?_
      obtain ⟨c30, y31⟩ := y26
      refine oj_iald k_139 c30 rfl dX12_act_31 ?_
      obtain ⟨c32, y33⟩ := y31
      refine oj_iast k_139 c32 rfl dX12_act_32 ?_
      refine oj_toph (fun h34 eh34 => ?_)
      have y35 := Lt_at y33 h34 eh34
      obtain ⟨v36, ev36⟩ : ∃ z : Int32, z = x1 + (1) := ⟨_, rfl⟩
      have y37 := Lt_at y35 v36 ev36
      refine oj_iinc (v := v36) (lv' := [(1, .int v36), (0, .ref 108)]) 1 dX12_act_33 rfl (iinc_e ci_1 ev36) (by decide) rfl ?_
      refine oj_goto 11 dX12_act_36 rfl ?_
      refine oj_lv [1, 0] rfl ?_
      exact hk11 _ _ y37
set_option maxRecDepth 100000 in
set_option maxHeartbeats 4000000 in
theorem BX12_act    {h : ob_H} {Q : ob_H → Prop} (y : MX12_act   h Q) : ob_T yX12_act cX12_act 2 none (ob_rm 2) KS NN h [.ref 108] (ob_g none (ob_qv Q)) := by
  unfold MX12_act at y
  refine ob_T_gf (by decide +kernel) (Nat.le_of_ble_eq_true rfl) ?_
  show ob_J RX12 cX12_act 2 (ob_rm 2) false none 0 0 KS NN h 0 [(0, .ref 108)] [] (ob_g none (ob_qv Q))
  refine oj_aload_n 0 dX12_act_0 rfl rfl ?_
  refine oj_geti fl_RX12_406 k_108 rfl dX12_act_1 ?_
  refine oj_bipush dX12_act_4 cb_40 ?_
  refine oj_icmp_ne 49 dX12_act_6 rfl (fun c1 => ?_) (fun c1 => ?_)
  · have y2 := y.2 c1
    refine oj_iconst dX12_act_49 ci_0 ?_
    refine oj_istore_n (lv' := [(1, .int (0)), (0, .ref 108)]) dX12_act_50 rfl (by decide) rfl ?_
    refine oj_lv [1, 0] rfl ?_
    obtain ⟨n, y23⟩ := y2
    exact BLX12_act_51  n _ _ y23
  · have y3 := y.1 c1
    refine oj_iconst dX12_act_9 ci_0 ?_
    refine oj_istore_n (lv' := [(1, .int (0)), (0, .ref 108)]) dX12_act_10 rfl (by decide) rfl ?_
    refine oj_lv [1, 0] rfl ?_
    obtain ⟨n, y38⟩ := y3
    exact BLX12_act_11  n _ _ y38
-- X12_exchange
set_option maxRecDepth 100000 in
set_option maxHeartbeats 4000000 in
theorem BLX12_exchange_2 {x1 : Int32} {Q : ob_H → Prop} :
    ∀ (n : Nat) (x2 : Int32) (h : ob_H), it2 (FX12_exchange_2 x1 Q) n x2 h → ob_J RX12 cX12_exchange 4 (ob_rm 1) false none 0 0 KS NN h 2 [(0, .ref 108), (1, .int x1), (2, .int x2)] [] (ob_g none (ob_qv Q)) := by
  intro n
  induction n with
  | zero => intro x2 h y; exact False.elim y
  | succ n hk2 =>
    intro x2 h y
    have y : FX12_exchange_2 x1 Q (it2 (FX12_exchange_2 x1 Q) n) x2 h := y
    unfold FX12_exchange_2 at y
    refine oj_iload_n 2 dX12_exchange_2 rfl rfl ?_
    refine oj_bipush dX12_exchange_3 cb_24 ?_
    refine oj_icmp_ge 44 dX12_exchange_5 rfl (fun c1 => ?_) (fun c1 => ?_)
    · have y2 := y.1 c1
      exact oj_ret (r := none) ⟨trivial, rfl, rfl, rfl, y2⟩ dX12_exchange_44 (Nat.zero_le _) (Nat.zero_le _)
    · have y3 := y.2 c1
      refine oj_aload_n 0 dX12_exchange_8 rfl rfl ?_
      refine oj_getr (q := 139) fl_RX12_109 k_108 rfl k_139 dX12_exchange_9 ?_
      refine oj_iload_n 1 dX12_exchange_12 rfl rfl ?_
      refine oj_iload_n 2 dX12_exchange_13 rfl rfl ?_
      refine oj_iadd dX12_exchange_14 ?_
      obtain ⟨c4, y5⟩ := y3
      refine oj_iald k_139 c4 rfl dX12_exchange_15 ?_
      refine oj_topi (fun v6 ev6 => ?_)
      have y7 := Lt_at y5 v6 ev6
      refine oj_istore_n (lv' := [(3, .int v6), (0, .ref 108), (1, .int x1), (2, .int x2)]) dX12_exchange_16 rfl (by decide) rfl ?_
      refine oj_aload_n 1 dX12_exchange_17 rfl rfl ?_
      refine oj_getr (q := 139) fl_RX12_109 k_108 rfl k_139 dX12_exchange_18 ?_
      refine oj_iload_n 2 dX12_exchange_21 rfl rfl ?_
      refine oj_iload_n 3 dX12_exchange_22 rfl rfl ?_
      refine oj_iadd dX12_exchange_23 ?_
      refine oj_aload_n 1 dX12_exchange_24 rfl rfl ?_
      refine oj_getr (q := 135) fl_RX12_97 k_108 rfl k_135 dX12_exchange_25 ?_
      refine oj_iload_n 3 dX12_exchange_28 rfl rfl ?_
      obtain ⟨c8, y9⟩ := y7
      refine oj_iald k_135 c8 rfl dX12_exchange_29 ?_
      refine oj_iast k_139 c4 rfl dX12_exchange_30 ?_
      refine oj_toph (fun h10 eh10 => ?_)
      have y11 := Lt_at y9 h10 eh10
      refine oj_aload_n 1 dX12_exchange_31 rfl rfl ?_
      refine oj_getr (q := 135) fl_RX12_97 k_108 rfl k_135 dX12_exchange_32 ?_
      refine oj_iload_n 3 dX12_exchange_35 rfl rfl ?_
      refine oj_iload_n 0 dX12_exchange_36 rfl rfl ?_
      refine oj_iast k_135 c8 rfl dX12_exchange_37 ?_
      refine oj_toph (fun h12 eh12 => ?_)
      have y13 := Lt_at y11 h12 eh12
      obtain ⟨v14, ev14⟩ : ∃ z : Int32, z = x2 + (1) := ⟨_, rfl⟩
      have y15 := Lt_at y13 v14 ev14
      refine oj_iinc (v := v14) (lv' := [(2, .int v14), (3, .int v6), (0, .ref 108), (1, .int x1)]) 3 dX12_exchange_38 rfl (iinc_e ci_1 ev14) (by decide) rfl ?_
      refine oj_goto 2 dX12_exchange_41 rfl ?_
      refine oj_lv [2, 3, 0] rfl ?_
      exact hk2 _ _ y15
set_option maxRecDepth 100000 in
set_option maxHeartbeats 4000000 in
theorem BX12_exchange  {p1 : Int32}  {h : ob_H} {Q : ob_H → Prop} (y : MX12_exchange  p1 h Q) : ob_T yX12_exchange cX12_exchange 4 none (ob_rm 1) KS NN h [.ref 108, .int p1] (ob_g none (ob_qv Q)) := by
  unfold MX12_exchange at y
  refine ob_T_gf (by decide +kernel) (Nat.le_of_ble_eq_true rfl) ?_
  show ob_J RX12 cX12_exchange 4 (ob_rm 1) false none 0 0 KS NN h 0 [(0, .ref 108), (1, .int p1)] [] (ob_g none (ob_qv Q))
  refine oj_iconst dX12_exchange_0 ci_0 ?_
  refine oj_istore_n (lv' := [(2, .int (0)), (0, .ref 108), (1, .int p1)]) dX12_exchange_1 rfl (by decide) rfl ?_
  refine oj_lv [1, 2, 0] rfl ?_
  obtain ⟨n, y16⟩ := y
  exact BLX12_exchange_2  n _ _ y16
-- X12_answerOf
set_option maxRecDepth 100000 in
set_option maxHeartbeats 4000000 in
theorem BX12_answerOf  {p1 : Int32}  {h : ob_H} {Q : Int32 → ob_H → Prop} (y : MX12_answerOf  p1 h Q) : ob_T yX12_answerOf cX12_answerOf 2 (some .int) (ob_rm 4) KS NN h [.ref 108, .int p1] (ob_g (some .int) (ob_qi Q)) := by
  unfold MX12_answerOf at y
  refine ob_T_gf (by decide +kernel) (Nat.le_of_ble_eq_true rfl) ?_
  show ob_J RX12 cX12_answerOf 2 (ob_rm 4) false none 0 0 KS NN h 0 [(0, .ref 108), (1, .int p1)] [] (ob_g (some .int) (ob_qi Q))
  refine oj_aload_n 0 dX12_answerOf_0 rfl rfl ?_
  refine oj_iconst dX12_answerOf_1 ci_1 ?_
  refine oj_iload_n 1 dX12_answerOf_2 rfl rfl ?_
  refine oj_aload_n 0 dX12_answerOf_3 rfl rfl ?_
  refine oj_getr (q := 128) fl_RX12_73 k_108 rfl k_128 dX12_answerOf_4 ?_
  refine oj_iload_n 1 dX12_answerOf_7 rfl rfl ?_
  obtain ⟨c1, y2⟩ := y
  refine oj_iald k_128 c1 rfl dX12_answerOf_8 ?_
  refine oj_bipush dX12_answerOf_9 cb_100 ?_
  refine oc_Vi [.int (1), .int p1, .int (h.1 128 (ix p1)), .int (100)] mi_RX12_422 ow_1652 op_77 rfl k_108 (BX12_worked  y2) ⟨by decide, by decide⟩ ⟨Nat.le_refl _, Nat.le_refl _⟩ rfl (Nat.le_of_ble_eq_true rfl) dX12_answerOf_11 (fun r3 f5 h4 y6 => ?_)
  exact oj_ret (r := some (.int r3)) ⟨trivial, rfl, rfl, r3, rfl, y6⟩ dX12_answerOf_14 (Nat.zero_le _) (Nat.zero_le _)
-- X12_hear
set_option maxRecDepth 100000 in
set_option maxHeartbeats 4000000 in
theorem BKX12_hear_71 {x1 : Int32} {s0 : Int32} {s1 : Int32} {h : ob_H} {Q : Int32 → ob_H → Prop}
    (y : KX12_hear_71 x1 s0 s1 h Q) : ob_J RX12 cX12_hear 3 (ob_rm 6) false none 0 0 KS NN h 71 [(0, .ref 108), (1, .int x1)] [.int s0, .int s1, .ref 108] (ob_g (some .int) (ob_qi Q)) := by
  unfold KX12_hear_71 at y
  refine oc_Vv [.int s1, .int s0] mi_RX12_442 ow_1684 op_83 rfl k_108 (BX12_goHear  y) ⟨by decide, by decide⟩ ⟨Nat.le_refl _, Nat.le_refl _⟩ rfl (Nat.le_of_ble_eq_true rfl) dX12_hear_71 (fun h26 y28 => ?_)
  refine oj_aload_n 0 dX12_hear_74 rfl rfl ?_
  refine oc_Vv [] mi_RX12_403 ow_1617 op_72 rfl k_108 (BX12_keepAir  y28) ⟨by decide, by decide⟩ ⟨Nat.le_refl _, Nat.le_refl _⟩ rfl (Nat.le_of_ble_eq_true rfl) dX12_hear_75 (fun h30 y32 => ?_)
  refine oj_iload_n 1 dX12_hear_78 rfl rfl ?_
  exact oj_ret (r := some (.int x1)) ⟨trivial, rfl, rfl, x1, rfl, y32⟩ dX12_hear_79 (Nat.zero_le _) (Nat.zero_le _)
set_option maxRecDepth 100000 in
set_option maxHeartbeats 4000000 in
theorem BX12_hear    {h : ob_H} {Q : Int32 → ob_H → Prop} (y : MX12_hear   h Q) : ob_T yX12_hear cX12_hear 3 (some .int) (ob_rm 6) KS NN h [.ref 108] (ob_g (some .int) (ob_qi Q)) := by
  unfold MX12_hear at y
  refine ob_T_gf (by decide +kernel) (Nat.le_of_ble_eq_true rfl) ?_
  show ob_J RX12 cX12_hear 3 (ob_rm 6) false none 0 0 KS NN h 0 [(0, .ref 108)] [] (ob_g (some .int) (ob_qi Q))
  refine oj_aload_n 0 dX12_hear_0 rfl rfl ?_
  refine oc_Vv [] mi_RX12_445 ow_1640 op_74 rfl k_108 (BX12_load  y) ⟨by decide, by decide⟩ ⟨Nat.le_refl _, Nat.le_refl _⟩ rfl (Nat.le_of_ble_eq_true rfl) dX12_hear_1 (fun h2 y4 => ?_)
  refine oj_aload_n 0 dX12_hear_4 rfl rfl ?_
  refine oc_Vi [] mi_RX12_439 ow_1668 op_79 rfl k_108 (BX12_turnOf  y4) ⟨by decide, by decide⟩ ⟨Nat.le_refl _, Nat.le_refl _⟩ rfl (Nat.le_of_ble_eq_true rfl) dX12_hear_5 (fun r5 f7 h6 y8 => ?_)
  refine oj_istore_n (lv' := [(1, .int r5), (0, .ref 108)]) dX12_hear_8 rfl (by decide) rfl ?_
  refine oj_iload_n 0 dX12_hear_9 rfl rfl ?_
  refine oj_if_ge 15 dX12_hear_10 rfl (fun c9 => ?_) (fun c9 => ?_)
  · have y10 := y8.1 c9
    refine oj_aload_n 1 dX12_hear_15 rfl rfl ?_
    refine oc_Vv [] mi_RX12_458 ow_1676 op_81 rfl k_108 (BX12_act  y10) ⟨by decide, by decide⟩ ⟨Nat.le_refl _, Nat.le_refl _⟩ rfl (Nat.le_of_ble_eq_true rfl) dX12_hear_16 (fun h13 y15 => ?_)
    refine oj_aload_n 1 dX12_hear_19 rfl rfl ?_
    refine oj_iload_n 0 dX12_hear_20 rfl rfl ?_
    refine oc_Vi [.int r5] mi_RX12_461 ow_1680 op_82 rfl k_108 (BX12_answerOf  y15) ⟨by decide, by decide⟩ ⟨Nat.le_refl _, Nat.le_refl _⟩ rfl (Nat.le_of_ble_eq_true rfl) dX12_hear_21 (fun r16 f18 h17 y19 => ?_)
    refine oj_istore_n (lv' := [(2, .int r16), (1, .int r5), (0, .ref 108)]) dX12_hear_24 rfl (by decide) rfl ?_
    refine oj_aload_n 2 dX12_hear_25 rfl rfl ?_
    refine oj_getr (q := 136) fl_RX12_100 k_108 rfl k_136 dX12_hear_26 ?_
    refine oj_bipush dX12_hear_29 cb_23 ?_
    refine oj_aload_n 2 dX12_hear_31 rfl rfl ?_
    refine oj_getr (q := 136) fl_RX12_100 k_108 rfl k_136 dX12_hear_32 ?_
    refine oj_bipush dX12_hear_35 cb_23 ?_
    refine oj_iald k_136 in_23_24 ix_23 dX12_hear_37 ?_
    refine oj_sipush dX12_hear_38 cs_137 ?_
    refine oj_imul dX12_hear_41 ?_
    refine oj_bipush dX12_hear_42 cb_71 ?_
    refine oj_iadd dX12_hear_44 ?_
    refine oj_sipush dX12_hear_45 cs_1000 ?_
    refine oj_irem dX12_hear_48 nz_1000 ?_
    refine oj_iast k_136 in_23_24 ix_23 dX12_hear_49 ?_
    refine oj_toph (fun h20 eh20 => ?_)
    have y21 := Lt_at y19 h20 eh20
    refine oj_aload_n 2 dX12_hear_50 rfl rfl ?_
    refine oj_iload_n 1 dX12_hear_51 rfl rfl ?_
    refine oj_aload_n 2 dX12_hear_52 rfl rfl ?_
    refine oj_getr (q := 136) fl_RX12_100 k_108 rfl k_136 dX12_hear_53 ?_
    refine oj_bipush dX12_hear_56 cb_23 ?_
    refine oj_iald k_136 in_23_24 ix_23 dX12_hear_58 ?_
    refine oj_bipush dX12_hear_59 cb_100 ?_
    refine oj_irem dX12_hear_61 nz_100 ?_
    refine oj_iload_n 0 dX12_hear_62 rfl rfl ?_
    refine oj_icmp_ge 70 dX12_hear_63 rfl (fun c22 => ?_) (fun c22 => ?_)
    · have y23 := y21.1 c22
      refine oj_iconst dX12_hear_70 ci_2 ?_
      refine oj_lv [2, 1] rfl ?_
      exact BKX12_hear_71  y23
    · have y24 := y21.2 c22
      refine oj_iconst dX12_hear_66 ci_1 ?_
      refine oj_goto 71 dX12_hear_67 rfl ?_
      refine oj_lv [2, 1] rfl ?_
      exact BKX12_hear_71  y24
  · have y11 := y8.2 c9
    refine oj_iconst dX12_hear_13 ci_m1 ?_
    exact oj_ret (r := some (.int (-1))) ⟨trivial, rfl, rfl, (-1), rfl, y11⟩ dX12_hear_14 (Nat.zero_le _) (Nat.zero_le _)
-- X12_buy
set_option maxRecDepth 100000 in
set_option maxHeartbeats 4000000 in
theorem BX12_buy  {p1 : Int32}  {h : ob_H} {Q : Int32 → ob_H → Prop} (y : MX12_buy  p1 h Q) : ob_T yX12_buy cX12_buy 2 (some .int) (ob_rm 4) KS NN h [.ref 108, .int p1] (ob_g (some .int) (ob_qi Q)) := by
  unfold MX12_buy at y
  refine ob_T_gf (by decide +kernel) (Nat.le_of_ble_eq_true rfl) ?_
  show ob_J RX12 cX12_buy 2 (ob_rm 4) false none 0 0 KS NN h 0 [(0, .ref 108), (1, .int p1)] [] (ob_g (some .int) (ob_qi Q))
  refine oj_aload_n 0 dX12_buy_0 rfl rfl ?_
  refine oj_iload_n 1 dX12_buy_1 rfl rfl ?_
  refine oc_Vpi [.int p1] mi_RX12_454 ow_1644 op_75 rfl k_108 (BX12_isWaiting  y) ⟨by decide, by decide⟩ ⟨Nat.le_refl _, Nat.le_refl _⟩ rfl (Nat.le_of_ble_eq_true rfl) dX12_buy_2 (fun r1 f3 y4 => ?_)
  refine oj_if_ne 10 dX12_buy_5 rfl (fun c5 => ?_) (fun c5 => ?_)
  · have y6 := y4.2 c5
    refine oj_aload_n 0 dX12_buy_10 rfl rfl ?_
    refine oc_Vv [] mi_RX12_458 ow_1676 op_81 rfl k_108 (BX12_act  y6) ⟨by decide, by decide⟩ ⟨Nat.le_refl _, Nat.le_refl _⟩ rfl (Nat.le_of_ble_eq_true rfl) dX12_buy_11 (fun h9 y11 => ?_)
    refine oj_aload_n 0 dX12_buy_14 rfl rfl ?_
    refine oj_getr (q := 135) fl_RX12_97 k_108 rfl k_135 dX12_buy_15 ?_
    refine oj_iload_n 1 dX12_buy_18 rfl rfl ?_
    refine oj_iconst dX12_buy_19 ci_5 ?_
    obtain ⟨c12, y13⟩ := y11
    refine oj_iast k_135 c12 rfl dX12_buy_20 ?_
    refine oj_toph (fun h14 eh14 => ?_)
    have y15 := Lt_at y13 h14 eh14
    refine oj_aload_n 0 dX12_buy_21 rfl rfl ?_
    refine oj_getr (q := 135) fl_RX12_97 k_108 rfl k_135 dX12_buy_22 ?_
    refine oj_bipush dX12_buy_25 cb_22 ?_
    refine oj_dup2 dX12_buy_27 rfl rfl ?_
    refine oj_iald k_135 in_22_24 ix_22 dX12_buy_28 ?_
    refine oj_aload_n 0 dX12_buy_29 rfl rfl ?_
    refine oj_getr (q := 131) fl_RX12_82 k_108 rfl k_131 dX12_buy_30 ?_
    refine oj_iload_n 1 dX12_buy_33 rfl rfl ?_
    obtain ⟨c16, y17⟩ := y15
    refine oj_iald k_131 c16 rfl dX12_buy_34 ?_
    refine oj_iadd dX12_buy_35 ?_
    refine oj_iast k_135 in_22_24 ix_22 dX12_buy_36 ?_
    refine oj_toph (fun h18 eh18 => ?_)
    have y19 := Lt_at y17 h18 eh18
    refine oj_aload_n 0 dX12_buy_37 rfl rfl ?_
    refine oj_getr (q := 135) fl_RX12_97 k_108 rfl k_135 dX12_buy_38 ?_
    refine oj_bipush dX12_buy_41 cb_22 ?_
    refine oj_iald k_135 in_22_24 ix_22 dX12_buy_43 ?_
    exact oj_ret (r := some (.int (h18.1 135 22))) ⟨trivial, rfl, rfl, (h18.1 135 22), rfl, y19⟩ dX12_buy_44 (Nat.zero_le _) (Nat.zero_le _)
  · have y7 := y4.1 c5
    refine oj_iconst dX12_buy_8 ci_m1 ?_
    exact oj_ret (r := some (.int (-1))) ⟨trivial, rfl, rfl, (-1), rfl, y7⟩ dX12_buy_9 (Nat.zero_le _) (Nat.zero_le _)
-- X12_pause
set_option maxRecDepth 100000 in
set_option maxHeartbeats 4000000 in
theorem BX12_pause  {p1 : Int32}  {h : ob_H} {Q : Int32 → ob_H → Prop} (y : MX12_pause  p1 h Q) : ob_T yX12_pause cX12_pause 3 (some .int) (ob_rm 3) KS NN h [.ref 108, .int p1] (ob_g (some .int) (ob_qi Q)) := by
  unfold MX12_pause at y
  refine ob_T_gf (by decide +kernel) (Nat.le_of_ble_eq_true rfl) ?_
  show ob_J RX12 cX12_pause 3 (ob_rm 3) false none 0 0 KS NN h 0 [(0, .ref 108), (1, .int p1)] [] (ob_g (some .int) (ob_qi Q))
  refine oj_iload_n 1 dX12_pause_0 rfl rfl ?_
  refine oj_iconst dX12_pause_1 ci_1 ?_
  refine oj_bipush dX12_pause_2 cb_60 ?_
  refine oc_Spi [.int p1, .int (1), .int (60)] mi_RX12_418 ow_1632 (BX12_isIn  y) ⟨by decide, by decide⟩ ⟨Nat.le_refl _, Nat.le_refl _⟩ rfl (Nat.le_of_ble_eq_true rfl) dX12_pause_4 (fun r1 f3 y4 => ?_)
  refine oj_if_ne 12 dX12_pause_7 rfl (fun c5 => ?_) (fun c5 => ?_)
  · have y6 := y4.2 c5
    refine oj_aload_n 0 dX12_pause_12 rfl rfl ?_
    refine oc_Vv [] mi_RX12_458 ow_1676 op_81 rfl k_108 (BX12_act  y6) ⟨by decide, by decide⟩ ⟨Nat.le_refl _, Nat.le_refl _⟩ rfl (Nat.le_of_ble_eq_true rfl) dX12_pause_13 (fun h9 y11 => ?_)
    refine oj_aload_n 0 dX12_pause_16 rfl rfl ?_
    refine oj_getr (q := 136) fl_RX12_100 k_108 rfl k_136 dX12_pause_17 ?_
    refine oj_bipush dX12_pause_20 cb_21 ?_
    refine oj_dup2 dX12_pause_22 rfl rfl ?_
    refine oj_iald k_136 in_21_24 ix_21 dX12_pause_23 ?_
    refine oj_iload_n 1 dX12_pause_24 rfl rfl ?_
    refine oj_iadd dX12_pause_25 ?_
    refine oj_iast k_136 in_21_24 ix_21 dX12_pause_26 ?_
    refine oj_toph (fun h12 eh12 => ?_)
    have y13 := Lt_at y11 h12 eh12
    refine oj_aload_n 0 dX12_pause_27 rfl rfl ?_
    refine oc_Vi [] mi_RX12_433 ow_1688 op_84 rfl k_108 (BX12_leave  y13) ⟨by decide, by decide⟩ ⟨Nat.le_refl _, Nat.le_refl _⟩ rfl (Nat.le_of_ble_eq_true rfl) dX12_pause_28 (fun r14 f16 h15 y17 => ?_)
    refine oj_istore_n (lv' := [(2, .int r14), (0, .ref 108), (1, .int p1)]) dX12_pause_31 rfl (by decide) rfl ?_
    refine oj_aload_n 1 dX12_pause_32 rfl rfl ?_
    refine oc_Vv [] mi_RX12_403 ow_1617 op_72 rfl k_108 (BX12_keepAir  y17) ⟨by decide, by decide⟩ ⟨Nat.le_refl _, Nat.le_refl _⟩ rfl (Nat.le_of_ble_eq_true rfl) dX12_pause_33 (fun h19 y21 => ?_)
    refine oj_iload_n 0 dX12_pause_36 rfl rfl ?_
    exact oj_ret (r := some (.int r14)) ⟨trivial, rfl, rfl, r14, rfl, y21⟩ dX12_pause_37 (Nat.zero_le _) (Nat.zero_le _)
  · have y7 := y4.1 c5
    refine oj_iconst dX12_pause_10 ci_m1 ?_
    exact oj_ret (r := some (.int (-1))) ⟨trivial, rfl, rfl, (-1), rfl, y7⟩ dX12_pause_11 (Nat.zero_le _) (Nat.zero_le _)
-- X12_changeNumbers
set_option maxRecDepth 100000 in
set_option maxHeartbeats 4000000 in
theorem BX12_changeNumbers  {p1 : Int32} {p2 : Int32}  {h : ob_H} {Q : ob_H → Prop} (y : MX12_changeNumbers  p1 p2 h Q) : ob_T yX12_changeNumbers cX12_changeNumbers 4 none (ob_rm 1) KS NN h [.ref 108, .int p1, .int p2] (ob_g none (ob_qv Q)) := by
  unfold MX12_changeNumbers at y
  refine ob_T_gf (by decide +kernel) (Nat.le_of_ble_eq_true rfl) ?_
  show ob_J RX12 cX12_changeNumbers 4 (ob_rm 1) false none 0 0 KS NN h 0 [(0, .ref 108), (1, .int p1), (2, .int p2)] [] (ob_g none (ob_qv Q))
  refine oj_aload_n 0 dX12_changeNumbers_0 rfl rfl ?_
  refine oj_getr (q := 136) fl_RX12_100 k_108 rfl k_136 dX12_changeNumbers_1 ?_
  refine oj_bipush dX12_changeNumbers_4 cb_14 ?_
  refine oj_iload_n 1 dX12_changeNumbers_6 rfl rfl ?_
  refine oj_iadd dX12_changeNumbers_7 ?_
  obtain ⟨c1, y2⟩ := y
  refine oj_iald k_136 c1 rfl dX12_changeNumbers_8 ?_
  refine oj_topi (fun v3 ev3 => ?_)
  have y4 := Lt_at y2 v3 ev3
  refine oj_istore_n (lv' := [(3, .int v3), (0, .ref 108), (1, .int p1), (2, .int p2)]) dX12_changeNumbers_9 rfl (by decide) rfl ?_
  refine oj_aload_n 1 dX12_changeNumbers_10 rfl rfl ?_
  refine oj_getr (q := 136) fl_RX12_100 k_108 rfl k_136 dX12_changeNumbers_11 ?_
  refine oj_bipush dX12_changeNumbers_14 cb_14 ?_
  refine oj_iload_n 2 dX12_changeNumbers_16 rfl rfl ?_
  refine oj_iadd dX12_changeNumbers_17 ?_
  refine oj_aload_n 1 dX12_changeNumbers_18 rfl rfl ?_
  refine oj_getr (q := 136) fl_RX12_100 k_108 rfl k_136 dX12_changeNumbers_19 ?_
  refine oj_bipush dX12_changeNumbers_22 cb_14 ?_
  refine oj_iload_n 3 dX12_changeNumbers_24 rfl rfl ?_
  refine oj_iadd dX12_changeNumbers_25 ?_
  obtain ⟨c5, y6⟩ := y4
  refine oj_iald k_136 c5 rfl dX12_changeNumbers_26 ?_
  refine oj_iast k_136 c1 rfl dX12_changeNumbers_27 ?_
  refine oj_toph (fun h7 eh7 => ?_)
  have y8 := Lt_at y6 h7 eh7
  refine oj_aload_n 1 dX12_changeNumbers_28 rfl rfl ?_
  refine oj_getr (q := 136) fl_RX12_100 k_108 rfl k_136 dX12_changeNumbers_29 ?_
  refine oj_bipush dX12_changeNumbers_32 cb_14 ?_
  refine oj_iload_n 3 dX12_changeNumbers_34 rfl rfl ?_
  refine oj_iadd dX12_changeNumbers_35 ?_
  refine oj_iload_n 0 dX12_changeNumbers_36 rfl rfl ?_
  refine oj_iast k_136 c5 rfl dX12_changeNumbers_37 ?_
  refine oj_toph (fun h9 eh9 => ?_)
  have y10 := Lt_at y8 h9 eh9
  exact oj_ret (r := none) ⟨trivial, rfl, rfl, rfl, y10⟩ dX12_changeNumbers_38 (Nat.zero_le _) (Nat.zero_le _)
-- X12_trade
set_option maxRecDepth 100000 in
set_option maxHeartbeats 4000000 in
theorem BX12_trade  {p1 : Int32} {p2 : Int32}  {h : ob_H} {Q : Int32 → ob_H → Prop} (y : MX12_trade  p1 p2 h Q) : ob_T yX12_trade cX12_trade 3 (some .int) (ob_rm 4) KS NN h [.ref 108, .int p1, .int p2] (ob_g (some .int) (ob_qi Q)) := by
  unfold MX12_trade at y
  refine ob_T_gf (by decide +kernel) (Nat.le_of_ble_eq_true rfl) ?_
  show ob_J RX12 cX12_trade 3 (ob_rm 4) false none 0 0 KS NN h 0 [(0, .ref 108), (1, .int p1), (2, .int p2)] [] (ob_g (some .int) (ob_qi Q))
  refine oj_aload_n 0 dX12_trade_0 rfl rfl ?_
  refine oj_iload_n 1 dX12_trade_1 rfl rfl ?_
  refine oc_Vpi [.int p1] mi_RX12_454 ow_1644 op_75 rfl k_108 (BX12_isWaiting  y) ⟨by decide, by decide⟩ ⟨Nat.le_refl _, Nat.le_refl _⟩ rfl (Nat.le_of_ble_eq_true rfl) dX12_trade_2 (fun r1 f3 y4 => ?_)
  refine oj_if_eq 21 dX12_trade_5 rfl (fun c5 => ?_) (fun c5 => ?_)
  · have y6 := y4.1 c5
    refine oj_iconst dX12_trade_21 ci_m1 ?_
    exact oj_ret (r := some (.int (-1))) ⟨trivial, rfl, rfl, (-1), rfl, y6⟩ dX12_trade_22 (Nat.zero_le _) (Nat.zero_le _)
  · have y7 := y4.2 c5
    refine oj_aload_n 0 dX12_trade_8 rfl rfl ?_
    refine oj_iload_n 2 dX12_trade_9 rfl rfl ?_
    refine oc_Vpi [.int p2] mi_RX12_454 ow_1644 op_75 rfl k_108 (BX12_isWaiting  y7) ⟨by decide, by decide⟩ ⟨Nat.le_refl _, Nat.le_refl _⟩ rfl (Nat.le_of_ble_eq_true rfl) dX12_trade_10 (fun r8 f10 y11 => ?_)
    refine oj_if_eq 21 dX12_trade_13 rfl (fun c12 => ?_) (fun c12 => ?_)
    · have y13 := y11.1 c12
      refine oj_iconst dX12_trade_21 ci_m1 ?_
      exact oj_ret (r := some (.int (-1))) ⟨trivial, rfl, rfl, (-1), rfl, y13⟩ dX12_trade_22 (Nat.zero_le _) (Nat.zero_le _)
    · have y14 := y11.2 c12
      refine oj_iload_n 1 dX12_trade_16 rfl rfl ?_
      refine oj_iload_n 2 dX12_trade_17 rfl rfl ?_
      refine oj_icmp_ne 23 dX12_trade_18 rfl (fun c15 => ?_) (fun c15 => ?_)
      · have y16 := y14.2 c15
        refine oj_aload_n 0 dX12_trade_23 rfl rfl ?_
        refine oc_Vv [] mi_RX12_458 ow_1676 op_81 rfl k_108 (BX12_act  y16) ⟨by decide, by decide⟩ ⟨Nat.le_refl _, Nat.le_refl _⟩ rfl (Nat.le_of_ble_eq_true rfl) dX12_trade_24 (fun h19 y21 => ?_)
        refine oj_aload_n 0 dX12_trade_27 rfl rfl ?_
        refine oj_iload_n 1 dX12_trade_28 rfl rfl ?_
        refine oj_iload_n 2 dX12_trade_29 rfl rfl ?_
        refine oc_Vv [.int p1, .int p2] mi_RX12_464 ow_1704 op_85 rfl k_108 (BX12_changeNumbers  y21) ⟨by decide, by decide⟩ ⟨Nat.le_refl _, Nat.le_refl _⟩ rfl (Nat.le_of_ble_eq_true rfl) dX12_trade_30 (fun h23 y25 => ?_)
        refine oj_aload_n 0 dX12_trade_33 rfl rfl ?_
        refine oc_Vv [] mi_RX12_403 ow_1617 op_72 rfl k_108 (BX12_keepAir  y25) ⟨by decide, by decide⟩ ⟨Nat.le_refl _, Nat.le_refl _⟩ rfl (Nat.le_of_ble_eq_true rfl) dX12_trade_34 (fun h27 y29 => ?_)
        refine oj_aload_n 0 dX12_trade_37 rfl rfl ?_
        refine oj_getr (q := 135) fl_RX12_97 k_108 rfl k_135 dX12_trade_38 ?_
        refine oj_bipush dX12_trade_41 cb_14 ?_
        refine oj_iload_n 1 dX12_trade_43 rfl rfl ?_
        refine oj_iadd dX12_trade_44 ?_
        obtain ⟨c30, y31⟩ := y29
        refine oj_iald k_135 c30 rfl dX12_trade_45 ?_
        exact oj_ret (r := some (.int (h27.1 135 (ix ((14) + p1))))) ⟨trivial, rfl, rfl, (h27.1 135 (ix ((14) + p1))), rfl, y31⟩ dX12_trade_46 (Nat.zero_le _) (Nat.zero_le _)
      · have y17 := y14.1 c15
        refine oj_iconst dX12_trade_21 ci_m1 ?_
        exact oj_ret (r := some (.int (-1))) ⟨trivial, rfl, rfl, (-1), rfl, y17⟩ dX12_trade_22 (Nat.zero_le _) (Nat.zero_le _)
-- X12_undo
set_option maxRecDepth 100000 in
set_option maxHeartbeats 4000000 in
theorem BX12_undo    {h : ob_H} {Q : Int32 → ob_H → Prop} (y : MX12_undo   h Q) : ob_T yX12_undo cX12_undo 1 (some .boolean) (ob_rm 2) KS NN h [.ref 108] (ob_g (some .boolean) (ob_qi Q)) := by
  unfold MX12_undo at y
  refine ob_T_gf (by decide +kernel) (Nat.le_of_ble_eq_true rfl) ?_
  show ob_J RX12 cX12_undo 1 (ob_rm 2) false none 0 0 KS NN h 0 [(0, .ref 108)] [] (ob_g (some .boolean) (ob_qi Q))
  refine oj_aload_n 0 dX12_undo_0 rfl rfl ?_
  refine oj_geti fl_RX12_406 k_108 rfl dX12_undo_1 ?_
  refine oj_if_ne 9 dX12_undo_4 rfl (fun c1 => ?_) (fun c1 => ?_)
  · have y2 := y.2 c1
    refine oj_aload_n 0 dX12_undo_9 rfl rfl ?_
    refine oj_dup dX12_undo_10 rfl ?_
    refine oj_geti fl_RX12_406 k_108 rfl dX12_undo_11 ?_
    refine oj_iconst dX12_undo_14 ci_1 ?_
    refine oj_isub dX12_undo_15 ?_
    refine oj_puti fl_RX12_406 (Or.inl rfl) k_108 rfl rfl rfl dX12_undo_16 ?_
    refine oj_toph (fun h4 eh4 => ?_)
    have y5 := Lt_at y2 h4 eh4
    refine oj_aload_n 0 dX12_undo_19 rfl rfl ?_
    refine oj_dup dX12_undo_20 rfl ?_
    refine oj_geti fl_RX12_409 k_108 rfl dX12_undo_21 ?_
    refine oj_iconst dX12_undo_24 ci_1 ?_
    refine oj_iadd dX12_undo_25 ?_
    refine oj_puti fl_RX12_409 (Or.inl rfl) k_108 rfl rfl rfl dX12_undo_26 ?_
    refine oj_toph (fun h6 eh6 => ?_)
    have y7 := Lt_at y5 h6 eh6
    refine oj_aload_n 0 dX12_undo_29 rfl rfl ?_
    refine oj_bipush dX12_undo_30 cb_24 ?_
    refine oj_aload_n 0 dX12_undo_32 rfl rfl ?_
    refine oj_geti fl_RX12_406 k_108 rfl dX12_undo_33 ?_
    refine oj_imul dX12_undo_36 ?_
    refine oc_Vv [.int ((24) * (h6.1 108 59))] mi_RX12_467 ow_1712 op_86 rfl k_108 (BX12_exchange  y7) ⟨by decide, by decide⟩ ⟨Nat.le_refl _, Nat.le_refl _⟩ rfl (Nat.le_of_ble_eq_true rfl) dX12_undo_37 (fun h9 y11 => ?_)
    refine oj_iconst dX12_undo_40 ci_1 ?_
    exact oj_ret (r := some (.int (1))) ⟨rfl, rfl, rfl, (1), rfl, y11⟩ dX12_undo_41 (Nat.zero_le _) (Nat.zero_le _)
  · have y3 := y.1 c1
    refine oj_iconst dX12_undo_7 ci_0 ?_
    exact oj_ret (r := some (.int (0))) ⟨rfl, rfl, rfl, (0), rfl, y3⟩ dX12_undo_8 (Nat.zero_le _) (Nat.zero_le _)
-- X12_redo
set_option maxRecDepth 100000 in
set_option maxHeartbeats 4000000 in
theorem BX12_redo    {h : ob_H} {Q : Int32 → ob_H → Prop} (y : MX12_redo   h Q) : ob_T yX12_redo cX12_redo 1 (some .boolean) (ob_rm 2) KS NN h [.ref 108] (ob_g (some .boolean) (ob_qi Q)) := by
  unfold MX12_redo at y
  refine ob_T_gf (by decide +kernel) (Nat.le_of_ble_eq_true rfl) ?_
  show ob_J RX12 cX12_redo 1 (ob_rm 2) false none 0 0 KS NN h 0 [(0, .ref 108)] [] (ob_g (some .boolean) (ob_qi Q))
  refine oj_aload_n 0 dX12_redo_0 rfl rfl ?_
  refine oj_geti fl_RX12_409 k_108 rfl dX12_redo_1 ?_
  refine oj_if_ne 9 dX12_redo_4 rfl (fun c1 => ?_) (fun c1 => ?_)
  · have y2 := y.2 c1
    refine oj_aload_n 0 dX12_redo_9 rfl rfl ?_
    refine oj_bipush dX12_redo_10 cb_24 ?_
    refine oj_aload_n 0 dX12_redo_12 rfl rfl ?_
    refine oj_geti fl_RX12_406 k_108 rfl dX12_redo_13 ?_
    refine oj_imul dX12_redo_16 ?_
    refine oc_Vv [.int ((24) * (h.1 108 59))] mi_RX12_467 ow_1712 op_86 rfl k_108 (BX12_exchange  y2) ⟨by decide, by decide⟩ ⟨Nat.le_refl _, Nat.le_refl _⟩ rfl (Nat.le_of_ble_eq_true rfl) dX12_redo_17 (fun h5 y7 => ?_)
    refine oj_aload_n 0 dX12_redo_20 rfl rfl ?_
    refine oj_dup dX12_redo_21 rfl ?_
    refine oj_geti fl_RX12_406 k_108 rfl dX12_redo_22 ?_
    refine oj_iconst dX12_redo_25 ci_1 ?_
    refine oj_iadd dX12_redo_26 ?_
    refine oj_puti fl_RX12_406 (Or.inl rfl) k_108 rfl rfl rfl dX12_redo_27 ?_
    refine oj_toph (fun h8 eh8 => ?_)
    have y9 := Lt_at y7 h8 eh8
    refine oj_aload_n 0 dX12_redo_30 rfl rfl ?_
    refine oj_dup dX12_redo_31 rfl ?_
    refine oj_geti fl_RX12_409 k_108 rfl dX12_redo_32 ?_
    refine oj_iconst dX12_redo_35 ci_1 ?_
    refine oj_isub dX12_redo_36 ?_
    refine oj_puti fl_RX12_409 (Or.inl rfl) k_108 rfl rfl rfl dX12_redo_37 ?_
    refine oj_toph (fun h10 eh10 => ?_)
    have y11 := Lt_at y9 h10 eh10
    refine oj_iconst dX12_redo_40 ci_1 ?_
    exact oj_ret (r := some (.int (1))) ⟨rfl, rfl, rfl, (1), rfl, y11⟩ dX12_redo_41 (Nat.zero_le _) (Nat.zero_le _)
  · have y3 := y.1 c1
    refine oj_iconst dX12_redo_7 ci_0 ?_
    exact oj_ret (r := some (.int (0))) ⟨rfl, rfl, rfl, (0), rfl, y3⟩ dX12_redo_8 (Nat.zero_le _) (Nat.zero_le _)
-- X12_next
set_option maxRecDepth 100000 in
set_option maxHeartbeats 4000000 in
theorem BX12_next    {h : ob_H} {Q : Int32 → ob_H → Prop} (y : MX12_next   h Q) : ob_T yX12_next cX12_next 1 (some .int) (ob_rm 6) KS NN h [.ref 108] (ob_g (some .int) (ob_qi Q)) := by
  unfold MX12_next at y
  refine ob_T_gf (by decide +kernel) (Nat.le_of_ble_eq_true rfl) ?_
  show ob_J RX12 cX12_next 1 (ob_rm 6) false none 0 0 KS NN h 0 [(0, .ref 108)] [] (ob_g (some .int) (ob_qi Q))
  refine oj_aload_n 0 dX12_next_0 rfl rfl ?_
  refine oc_Vv [] mi_RX12_445 ow_1640 op_74 rfl k_108 (BX12_load  y) ⟨by decide, by decide⟩ ⟨Nat.le_refl _, Nat.le_refl _⟩ rfl (Nat.le_of_ble_eq_true rfl) dX12_next_1 (fun h2 y4 => ?_)
  refine oj_aload_n 0 dX12_next_4 rfl rfl ?_
  refine oc_Vi [] mi_RX12_439 ow_1668 op_79 rfl k_108 (BX12_turnOf  y4) ⟨by decide, by decide⟩ ⟨Nat.le_refl _, Nat.le_refl _⟩ rfl (Nat.le_of_ble_eq_true rfl) dX12_next_5 (fun r5 f7 h6 y8 => ?_)
  exact oj_ret (r := some (.int r5)) ⟨trivial, rfl, rfl, r5, rfl, y8⟩ dX12_next_8 (Nat.zero_le _) (Nat.zero_le _)
-- X12_queue
set_option maxRecDepth 100000 in
set_option maxHeartbeats 4000000 in
theorem BLX12_queue_23 {x1 : Int32} {Q : Int32 → ob_H → Prop} {k15 : Int32 → ob_H → Prop} (hk15 : ∀ (x1' : Int32) (h' : ob_H), k15 x1' h' → ob_J RX12 cX12_queue 4 (ob_rm 5) false none 0 0 KS NN h' 15 [(0, .ref 108), (1, .int x1')] [] (ob_g (some .int) (ob_qi Q))) :
    ∀ (n : Nat) (x2 : Int32) (x3 : Int32) (h : ob_H), it3 (FX12_queue_23 x1 Q k15) n x2 x3 h → ob_J RX12 cX12_queue 4 (ob_rm 5) false none 0 0 KS NN h 23 [(0, .ref 108), (1, .int x1), (2, .int x2), (3, .int x3)] [] (ob_g (some .int) (ob_qi Q)) := by
  intro n
  induction n with
  | zero => intro x2 x3 h y; exact False.elim y
  | succ n hk23 =>
    intro x2 x3 h y
    have y : FX12_queue_23 x1 Q k15 (it3 (FX12_queue_23 x1 Q k15) n) x2 x3 h := y
    unfold FX12_queue_23 at y
    refine oj_iload_n 3 dX12_queue_23 rfl rfl ?_
    refine oj_aload_n 0 dX12_queue_24 rfl rfl ?_
    refine oj_geti fl_RX12_323 k_108 rfl dX12_queue_25 ?_
    refine oj_icmp_ge 71 dX12_queue_28 rfl (fun c14 => ?_) (fun c14 => ?_)
    · have y15 := y.1 c14
      refine oj_aload_n 0 dX12_queue_71 rfl rfl ?_
      refine oj_getr (q := 140) fl_RX12_112 k_108 rfl k_140 dX12_queue_72 ?_
      refine oj_aload_n 0 dX12_queue_75 rfl rfl ?_
      refine oj_geti fl_RX12_415 k_108 rfl dX12_queue_76 ?_
      refine oj_iload_n 2 dX12_queue_79 rfl rfl ?_
      obtain ⟨c17, y18⟩ := y15
      refine oj_iast k_140 c17 rfl dX12_queue_80 ?_
      refine oj_toph (fun h19 eh19 => ?_)
      have y20 := Lt_at y18 h19 eh19
      refine oj_aload_n 0 dX12_queue_81 rfl rfl ?_
      refine oj_dup dX12_queue_82 rfl ?_
      refine oj_geti fl_RX12_415 k_108 rfl dX12_queue_83 ?_
      refine oj_iconst dX12_queue_86 ci_1 ?_
      refine oj_iadd dX12_queue_87 ?_
      refine oj_puti fl_RX12_415 (Or.inl rfl) k_108 rfl rfl rfl dX12_queue_88 ?_
      refine oj_toph (fun h21 eh21 => ?_)
      have y22 := Lt_at y20 h21 eh21
      refine oj_iload_n 1 dX12_queue_91 rfl rfl ?_
      refine oj_iconst dX12_queue_92 ci_1 ?_
      refine oj_iload_n 2 dX12_queue_93 rfl rfl ?_
      refine oj_ishl dX12_queue_94 ?_
      refine oj_iconst dX12_queue_95 ci_m1 ?_
      refine oj_ixor dX12_queue_96 ?_
      refine oj_iand dX12_queue_97 ?_
      refine oj_topi (fun v23 ev23 => ?_)
      have y24 := Lt_at y22 v23 ev23
      refine oj_istore_n (lv' := [(1, .int v23), (0, .ref 108), (2, .int x2), (3, .int x3)]) dX12_queue_98 rfl (by decide) rfl ?_
      refine oj_goto 15 dX12_queue_99 rfl ?_
      refine oj_lv [1, 0] rfl ?_
      exact hk15 _ _ y24
    · have y16 := y.2 c14
      refine oj_iload_n 1 dX12_queue_31 rfl rfl ?_
      refine oj_iload_n 3 dX12_queue_32 rfl rfl ?_
      refine oj_ishr dX12_queue_33 ?_
      refine oj_iconst dX12_queue_34 ci_1 ?_
      refine oj_iand dX12_queue_35 ?_
      refine oj_iconst dX12_queue_36 ci_1 ?_
      refine oj_icmp_ne 65 dX12_queue_37 rfl (fun c25 => ?_) (fun c25 => ?_)
      · have y26 := y16.2 c25
        obtain ⟨v28, ev28⟩ : ∃ z : Int32, z = x3 + (1) := ⟨_, rfl⟩
        have y29 := Lt_at y26 v28 ev28
        refine oj_iinc (v := v28) (lv' := [(3, .int v28), (0, .ref 108), (1, .int x1), (2, .int x2)]) 3 dX12_queue_65 rfl (iinc_e ci_1 ev28) (by decide) rfl ?_
        refine oj_goto 23 dX12_queue_68 rfl ?_
        refine oj_lv [1, 2, 3, 0] rfl ?_
        exact hk23 _ _ _ y29
      · have y27 := y16.1 c25
        refine oj_iload_n 2 dX12_queue_40 rfl rfl ?_
        refine oj_if_lt 63 dX12_queue_41 rfl (fun c30 => ?_) (fun c30 => ?_)
        · have y31 := y27.1 c30
          refine oj_iload_n 3 dX12_queue_63 rfl rfl ?_
          refine oj_istore_n (lv' := [(2, .int x3), (0, .ref 108), (1, .int x1), (3, .int x3)]) dX12_queue_64 rfl (by decide) rfl ?_
          obtain ⟨v33, ev33⟩ : ∃ z : Int32, z = x3 + (1) := ⟨_, rfl⟩
          have y34 := Lt_at y31 v33 ev33
          refine oj_iinc (v := v33) (lv' := [(3, .int v33), (2, .int x3), (0, .ref 108), (1, .int x1)]) 3 dX12_queue_65 rfl (iinc_e ci_1 ev33) (by decide) rfl ?_
          refine oj_goto 23 dX12_queue_68 rfl ?_
          refine oj_lv [2, 3, 1, 0] rfl ?_
          exact hk23 _ _ _ y34
        · have y32 := y27.2 c30
          refine oj_aload_n 0 dX12_queue_44 rfl rfl ?_
          refine oj_iload_n 3 dX12_queue_45 rfl rfl ?_
          refine oj_aload_n 0 dX12_queue_46 rfl rfl ?_
          refine oj_iload_n 3 dX12_queue_47 rfl rfl ?_
          refine oc_Vi [.int x3] mi_RX12_426 ow_1648 op_76 rfl k_108 (BX12_rankOf  y32) ⟨by decide, by decide⟩ ⟨Nat.le_refl _, Nat.le_refl _⟩ rfl (Nat.le_of_ble_eq_true rfl) dX12_queue_48 (fun r35 f37 h36 y38 => ?_)
          refine oj_iload_n 2 dX12_queue_51 rfl rfl ?_
          refine oj_aload_n 0 dX12_queue_52 rfl rfl ?_
          refine oj_iload_n 2 dX12_queue_53 rfl rfl ?_
          refine oc_Vi [.int x2] mi_RX12_426 ow_1648 op_76 rfl k_108 (BX12_rankOf  y38) ⟨by decide, by decide⟩ ⟨Nat.le_refl _, Nat.le_refl _⟩ rfl (Nat.le_of_ble_eq_true rfl) dX12_queue_54 (fun r39 f41 h40 y42 => ?_)
          refine oc_Vpi [.int x3, .int r35, .int x2, .int r39] mi_RX12_429 ow_1672 op_80 rfl k_108 (BX12_isAhead  y42) ⟨by decide, by decide⟩ ⟨Nat.le_refl _, Nat.le_refl _⟩ rfl (Nat.le_of_ble_eq_true rfl) dX12_queue_57 (fun r43 f45 y46 => ?_)
          refine oj_if_eq 65 dX12_queue_60 rfl (fun c47 => ?_) (fun c47 => ?_)
          · have y48 := y46.1 c47
            obtain ⟨v50, ev50⟩ : ∃ z : Int32, z = x3 + (1) := ⟨_, rfl⟩
            have y51 := Lt_at y48 v50 ev50
            refine oj_iinc (v := v50) (lv' := [(3, .int v50), (0, .ref 108), (1, .int x1), (2, .int x2)]) 3 dX12_queue_65 rfl (iinc_e ci_1 ev50) (by decide) rfl ?_
            refine oj_goto 23 dX12_queue_68 rfl ?_
            refine oj_lv [1, 2, 3, 0] rfl ?_
            exact hk23 _ _ _ y51
          · have y49 := y46.2 c47
            refine oj_iload_n 3 dX12_queue_63 rfl rfl ?_
            refine oj_istore_n (lv' := [(2, .int x3), (0, .ref 108), (1, .int x1), (3, .int x3)]) dX12_queue_64 rfl (by decide) rfl ?_
            obtain ⟨v52, ev52⟩ : ∃ z : Int32, z = x3 + (1) := ⟨_, rfl⟩
            have y53 := Lt_at y49 v52 ev52
            refine oj_iinc (v := v52) (lv' := [(3, .int v52), (2, .int x3), (0, .ref 108), (1, .int x1)]) 3 dX12_queue_65 rfl (iinc_e ci_1 ev52) (by decide) rfl ?_
            refine oj_goto 23 dX12_queue_68 rfl ?_
            refine oj_lv [2, 3, 1, 0] rfl ?_
            exact hk23 _ _ _ y53
set_option maxRecDepth 100000 in
set_option maxHeartbeats 4000000 in
theorem BLX12_queue_15 {Q : Int32 → ob_H → Prop} :
    ∀ (n : Nat) (x1 : Int32) (h : ob_H), it2 (FX12_queue_15 Q) n x1 h → ob_J RX12 cX12_queue 4 (ob_rm 5) false none 0 0 KS NN h 15 [(0, .ref 108), (1, .int x1)] [] (ob_g (some .int) (ob_qi Q)) := by
  intro n
  induction n with
  | zero => intro x1 h y; exact False.elim y
  | succ n hk15 =>
    intro x1 h y
    have y : FX12_queue_15 Q (it2 (FX12_queue_15 Q) n) x1 h := y
    unfold FX12_queue_15 at y
    refine oj_iload_n 1 dX12_queue_15 rfl rfl ?_
    refine oj_if_eq 102 dX12_queue_16 rfl (fun c11 => ?_) (fun c11 => ?_)
    · have y12 := y.1 c11
      refine oj_aload_n 0 dX12_queue_102 rfl rfl ?_
      refine oj_geti fl_RX12_415 k_108 rfl dX12_queue_103 ?_
      exact oj_ret (r := some (.int (h.1 108 62))) ⟨trivial, rfl, rfl, (h.1 108 62), rfl, y12⟩ dX12_queue_106 (Nat.zero_le _) (Nat.zero_le _)
    · have y13 := y.2 c11
      refine oj_iconst dX12_queue_19 ci_m1 ?_
      refine oj_istore_n (lv' := [(2, .int (-1)), (0, .ref 108), (1, .int x1)]) dX12_queue_20 rfl (by decide) rfl ?_
      refine oj_iconst dX12_queue_21 ci_0 ?_
      refine oj_istore_n (lv' := [(3, .int (0)), (2, .int (-1)), (0, .ref 108), (1, .int x1)]) dX12_queue_22 rfl (by decide) rfl ?_
      refine oj_lv [2, 3, 1, 0] rfl ?_
      obtain ⟨n, y54⟩ := y13
      exact BLX12_queue_23 hk15 n _ _ _ y54
set_option maxRecDepth 100000 in
set_option maxHeartbeats 4000000 in
theorem BX12_queue    {h : ob_H} {Q : Int32 → ob_H → Prop} (y : MX12_queue   h Q) : ob_T yX12_queue cX12_queue 4 (some .int) (ob_rm 5) KS NN h [.ref 108] (ob_g (some .int) (ob_qi Q)) := by
  unfold MX12_queue at y
  refine ob_T_gf (by decide +kernel) (Nat.le_of_ble_eq_true rfl) ?_
  show ob_J RX12 cX12_queue 4 (ob_rm 5) false none 0 0 KS NN h 0 [(0, .ref 108)] [] (ob_g (some .int) (ob_qi Q))
  refine oj_aload_n 0 dX12_queue_0 rfl rfl ?_
  refine oc_Vv [] mi_RX12_445 ow_1640 op_74 rfl k_108 (BX12_load  y) ⟨by decide, by decide⟩ ⟨Nat.le_refl _, Nat.le_refl _⟩ rfl (Nat.le_of_ble_eq_true rfl) dX12_queue_1 (fun h2 y4 => ?_)
  refine oj_aload_n 0 dX12_queue_4 rfl rfl ?_
  refine oj_iconst dX12_queue_5 ci_0 ?_
  refine oc_Vpi [.int (0)] mi_RX12_470 ow_1728 op_87 rfl k_108 (BX12_thatAre  y4) ⟨by decide, by decide⟩ ⟨Nat.le_refl _, Nat.le_refl _⟩ rfl (Nat.le_of_ble_eq_true rfl) dX12_queue_6 (fun r5 f7 y8 => ?_)
  refine oj_istore_n (lv' := [(1, .int r5), (0, .ref 108)]) dX12_queue_9 rfl (by decide) rfl ?_
  refine oj_aload_n 1 dX12_queue_10 rfl rfl ?_
  refine oj_iconst dX12_queue_11 ci_0 ?_
  refine oj_puti fl_RX12_415 (Or.inl rfl) k_108 rfl rfl rfl dX12_queue_12 ?_
  refine oj_toph (fun h9 eh9 => ?_)
  have y10 := Lt_at y8 h9 eh9
  refine oj_lv [1, 0] rfl ?_
  obtain ⟨n, y55⟩ := y10
  exact BLX12_queue_15  n _ _ y55
