-- X12_fits
set_option maxRecDepth 100000 in
set_option maxHeartbeats 4000000 in
theorem BX12_fits  {p1 : Int32}  {h : ob_H} {Q : Int32 → ob_H → Prop} (y : MX12_fits  p1 h Q) : ob_T yX12_fits cX12_fits 2 (some .int) (ob_rm 8) KS NN h [.ref 108, .int p1] (ob_g (some .int) (ob_qi Q)) := by
  unfold MX12_fits at y
  refine ob_T_gf (by decide +kernel) (Nat.le_of_ble_eq_true rfl) ?_
  show ob_J RX12 cX12_fits 2 (ob_rm 8) false none 0 0 KS NN h 0 [(0, .ref 108), (1, .int p1)] [] (ob_g (some .int) (ob_qi Q))
  refine oj_aload_n 0 dX12_fits_0 rfl rfl ?_
  refine oj_iload_n 1 dX12_fits_1 rfl rfl ?_
  refine oc_Vi [.int p1] mi_RX12_533 ow_1898 op_102 rfl k_108 (BX12_layFits  y) ⟨by decide, by decide⟩ ⟨Nat.le_refl _, Nat.le_refl _⟩ rfl (Nat.le_of_ble_eq_true rfl) dX12_fits_2 (fun r1 f3 h2 y4 => ?_)
  exact oj_ret (r := some (.int r1)) ⟨trivial, rfl, rfl, r1, rfl, y4⟩ dX12_fits_5 (Nat.zero_le _) (Nat.zero_le _)
-- X12_sure
set_option maxRecDepth 100000 in
set_option maxHeartbeats 4000000 in
theorem BLX12_sure_24 {x1 : Int32} {h : ob_H} {Q : Int32 → ob_H → Prop} :
    ∀ (n : Nat) (x3 : Int32) (x4 : Int32), it2 (FX12_sure_24 x1 h Q) n x3 x4 → ob_J RX12 cX12_sure 5 (ob_rm 8) false none 0 0 KS NN h 24 [(0, .ref 108), (1, .int x1), (3, .int x3), (4, .int x4)] [] (ob_g (some .int) (ob_qi Q)) := by
  intro n
  induction n with
  | zero => intro x3 x4 y; exact False.elim y
  | succ n hk24 =>
    intro x3 x4 y
    have y : FX12_sure_24 x1 h Q (it2 (FX12_sure_24 x1 h Q) n) x3 x4 := y
    unfold FX12_sure_24 at y
    refine oj_iload 3 dX12_sure_24 rfl ?_
    refine oj_bipush dX12_sure_26 cb_99 ?_
    refine oj_icmp_gt 59 dX12_sure_28 rfl (fun c15 => ?_) (fun c15 => ?_)
    · have y16 := y.1 c15
      refine oj_iload_n 2 dX12_sure_59 rfl rfl ?_
      exact oj_ret (r := some (.int x3)) ⟨trivial, rfl, rfl, x3, rfl, y16⟩ dX12_sure_60 (Nat.zero_le _) (Nat.zero_le _)
    · have y17 := y.2 c15
      refine oj_aload_n 0 dX12_sure_31 rfl rfl ?_
      refine oj_getr (q := 149) fl_RX12_139 k_108 rfl k_149 dX12_sure_32 ?_
      refine oj_iload 3 dX12_sure_35 rfl ?_
      obtain ⟨c18, y19⟩ := y17
      refine oj_zald k_149 c18 rfl dX12_sure_37 ?_
      refine oj_if_eq 53 dX12_sure_38 rfl (fun c20 => ?_) (fun c20 => ?_)
      · have y21 := y19.1 c20
        obtain ⟨v23, ev23⟩ : ∃ z : Int32, z = x4 + (1) := ⟨_, rfl⟩
        have y24 := Lt_at y21 v23 ev23
        refine oj_iinc (v := v23) (lv' := [(4, .int v23), (0, .ref 108), (1, .int x1), (3, .int x3)]) 3 dX12_sure_53 rfl (iinc_e ci_1 ev23) (by decide) rfl ?_
        refine oj_goto 24 dX12_sure_56 rfl ?_
        refine oj_lv [1, 2, 3, 0] rfl ?_
        exact hk24 _ _ y24
      · have y22 := y19.2 c20
        refine oj_iload_n 2 dX12_sure_41 rfl rfl ?_
        refine oj_if_lt 50 dX12_sure_42 rfl (fun c25 => ?_) (fun c25 => ?_)
        · have y26 := y22.1 c25
          refine oj_iload 3 dX12_sure_50 rfl ?_
          refine oj_istore_n (lv' := [(3, .int x4), (0, .ref 108), (1, .int x1), (4, .int x4)]) dX12_sure_52 rfl (by decide) rfl ?_
          obtain ⟨v28, ev28⟩ : ∃ z : Int32, z = x4 + (1) := ⟨_, rfl⟩
          have y29 := Lt_at y26 v28 ev28
          refine oj_iinc (v := v28) (lv' := [(4, .int v28), (3, .int x4), (0, .ref 108), (1, .int x1)]) 3 dX12_sure_53 rfl (iinc_e ci_1 ev28) (by decide) rfl ?_
          refine oj_goto 24 dX12_sure_56 rfl ?_
          refine oj_lv [2, 3, 1, 0] rfl ?_
          exact hk24 _ _ y29
        · have y27 := y22.2 c25
          refine oj_iload_n 1 dX12_sure_45 rfl rfl ?_
          refine oj_iconst dX12_sure_46 ci_1 ?_
          refine oj_icmp_ne 53 dX12_sure_47 rfl (fun c30 => ?_) (fun c30 => ?_)
          · have y31 := y27.2 c30
            obtain ⟨v33, ev33⟩ : ∃ z : Int32, z = x4 + (1) := ⟨_, rfl⟩
            have y34 := Lt_at y31 v33 ev33
            refine oj_iinc (v := v33) (lv' := [(4, .int v33), (0, .ref 108), (1, .int x1), (3, .int x3)]) 3 dX12_sure_53 rfl (iinc_e ci_1 ev33) (by decide) rfl ?_
            refine oj_goto 24 dX12_sure_56 rfl ?_
            refine oj_lv [1, 2, 3, 0] rfl ?_
            exact hk24 _ _ y34
          · have y32 := y27.1 c30
            refine oj_iload 3 dX12_sure_50 rfl ?_
            refine oj_istore_n (lv' := [(3, .int x4), (0, .ref 108), (1, .int x1), (4, .int x4)]) dX12_sure_52 rfl (by decide) rfl ?_
            obtain ⟨v35, ev35⟩ : ∃ z : Int32, z = x4 + (1) := ⟨_, rfl⟩
            have y36 := Lt_at y32 v35 ev35
            refine oj_iinc (v := v35) (lv' := [(4, .int v35), (3, .int x4), (0, .ref 108), (1, .int x1)]) 3 dX12_sure_53 rfl (iinc_e ci_1 ev35) (by decide) rfl ?_
            refine oj_goto 24 dX12_sure_56 rfl ?_
            refine oj_lv [2, 3, 1, 0] rfl ?_
            exact hk24 _ _ y36
set_option maxRecDepth 100000 in
set_option maxHeartbeats 4000000 in
theorem BX12_sure  {p1 : Int32} {p2 : Int32}  {h : ob_H} {Q : Int32 → ob_H → Prop} (y : MX12_sure  p1 p2 h Q) : ob_T yX12_sure cX12_sure 5 (some .int) (ob_rm 8) KS NN h [.ref 108, .int p1, .int p2] (ob_g (some .int) (ob_qi Q)) := by
  unfold MX12_sure at y
  refine ob_T_gf (by decide +kernel) (Nat.le_of_ble_eq_true rfl) ?_
  show ob_J RX12 cX12_sure 5 (ob_rm 8) false none 0 0 KS NN h 0 [(0, .ref 108), (1, .int p1), (2, .int p2)] [] (ob_g (some .int) (ob_qi Q))
  refine oj_iload_n 1 dX12_sure_0 rfl rfl ?_
  refine oj_iconst dX12_sure_1 ci_0 ?_
  refine oj_iconst dX12_sure_2 ci_1 ?_
  refine oc_Spi [.int p1, .int (0), .int (1)] mi_RX12_418 ow_1632 (BX12_isIn  y) ⟨by decide, by decide⟩ ⟨Nat.le_refl _, Nat.le_refl _⟩ rfl (Nat.le_of_ble_eq_true rfl) dX12_sure_3 (fun r1 f3 y4 => ?_)
  refine oj_if_eq 17 dX12_sure_6 rfl (fun c5 => ?_) (fun c5 => ?_)
  · have y6 := y4.1 c5
    refine oj_iconst dX12_sure_17 ci_m1 ?_
    exact oj_ret (r := some (.int (-1))) ⟨trivial, rfl, rfl, (-1), rfl, y6⟩ dX12_sure_18 (Nat.zero_le _) (Nat.zero_le _)
  · have y7 := y4.2 c5
    refine oj_aload_n 0 dX12_sure_9 rfl rfl ?_
    refine oj_iload_n 2 dX12_sure_10 rfl rfl ?_
    refine oc_Vi [.int p2] mi_RX12_533 ow_1898 op_102 rfl k_108 (BX12_layFits  y7) ⟨by decide, by decide⟩ ⟨Nat.le_refl _, Nat.le_refl _⟩ rfl (Nat.le_of_ble_eq_true rfl) dX12_sure_11 (fun r8 f10 h9 y11 => ?_)
    refine oj_if_ne 19 dX12_sure_14 rfl (fun c12 => ?_) (fun c12 => ?_)
    · have y13 := y11.2 c12
      refine oj_iconst dX12_sure_19 ci_m1 ?_
      refine oj_istore_n (lv' := [(3, .int (-1)), (0, .ref 108), (1, .int p1), (2, .int p2)]) dX12_sure_20 rfl (by decide) rfl ?_
      refine oj_iconst dX12_sure_21 ci_0 ?_
      refine oj_istore (lv' := [(4, .int (0)), (3, .int (-1)), (0, .ref 108), (1, .int p1), (2, .int p2)]) dX12_sure_22 (by decide) rfl ?_
      refine oj_lv [2, 3, 1, 0] rfl ?_
      obtain ⟨n, y37⟩ := y13
      exact BLX12_sure_24  n _ _ y37
    · have y14 := y11.1 c12
      refine oj_iconst dX12_sure_17 ci_m1 ?_
      exact oj_ret (r := some (.int (-1))) ⟨trivial, rfl, rfl, (-1), rfl, y14⟩ dX12_sure_18 (Nat.zero_le _) (Nat.zero_le _)
-- X12_leftBy
set_option maxRecDepth 100000 in
set_option maxHeartbeats 4000000 in
theorem BKX12_leftBy_58 {x1 : Int32} {x2 : Int32} {x3 : Int32} {x5 : Int32} {s0 : Int32} {s1 : Int32} {h : ob_H} {Q : Int32 → Prop} {k4 : Int32 → Int32 → Prop} {k18 : Int32 → Int32 → Prop} (hk4 : ∀ (x2' : Int32) (x3' : Int32), k4 x2' x3' → ob_J RX12 cX12_leftBy 6 (ob_rm 2) false none 0 0 KS NN h 4 [(0, .ref 108), (1, .int x1), (2, .int x2'), (3, .int x3')] [] (ob_g (some .int) (ob_pi h Q))) (hk18 : ∀ (x4' : Int32) (x5' : Int32), k18 x4' x5' → ob_J RX12 cX12_leftBy 6 (ob_rm 2) false none 0 0 KS NN h 18 [(0, .ref 108), (1, .int x1), (2, .int x2), (3, .int x3), (4, .int x4'), (5, .int x5')] [] (ob_g (some .int) (ob_pi h Q)))
    (y : KX12_leftBy_58 x1 x2 x3 x5 s0 s1 h Q k4 k18) : ob_J RX12 cX12_leftBy 6 (ob_rm 2) false none 0 0 KS NN h 58 [(0, .ref 108), (1, .int x1), (2, .int x2), (3, .int x3), (5, .int x5)] [.int s0, .int s1] (ob_g (some .int) (ob_pi h Q)) := by
  unfold KX12_leftBy_58 at y
  refine oc_Spi [.int s0] mi_RX12_319 ow_1534 (BX12_truth  y) ⟨by decide, by decide⟩ ⟨Nat.le_refl _, Nat.le_refl _⟩ rfl (Nat.le_of_ble_eq_true rfl) dX12_leftBy_58 (fun r19 f21 y22 => ?_)
  refine oj_iadd dX12_leftBy_61 ?_
  refine oj_topi (fun v23 ev23 => ?_)
  have y24 := Lt_at y22 v23 ev23
  refine oj_istore (lv' := [(4, .int v23), (0, .ref 108), (1, .int x1), (2, .int x2), (3, .int x3), (5, .int x5)]) dX12_leftBy_62 (by decide) rfl ?_
  obtain ⟨v25, ev25⟩ : ∃ z : Int32, z = x5 + (1) := ⟨_, rfl⟩
  have y26 := Lt_at y24 v25 ev25
  refine oj_iinc (v := v25) (lv' := [(5, .int v25), (4, .int v23), (0, .ref 108), (1, .int x1), (2, .int x2), (3, .int x3)]) 5 dX12_leftBy_64 rfl (iinc_e ci_1 ev25) (by decide) rfl ?_
  refine oj_goto 18 dX12_leftBy_67 rfl ?_
  refine oj_lv [2, 3, 4, 5, 1, 0] rfl ?_
  exact hk18 _ _ y26
set_option maxRecDepth 100000 in
set_option maxHeartbeats 4000000 in
theorem BLX12_leftBy_18 {x1 : Int32} {x2 : Int32} {x3 : Int32} {h : ob_H} {Q : Int32 → Prop} {k4 : Int32 → Int32 → Prop} (hk4 : ∀ (x2' : Int32) (x3' : Int32), k4 x2' x3' → ob_J RX12 cX12_leftBy 6 (ob_rm 2) false none 0 0 KS NN h 4 [(0, .ref 108), (1, .int x1), (2, .int x2'), (3, .int x3')] [] (ob_g (some .int) (ob_pi h Q))) :
    ∀ (n : Nat) (x4 : Int32) (x5 : Int32), it2 (FX12_leftBy_18 x1 x2 x3 h Q k4) n x4 x5 → ob_J RX12 cX12_leftBy 6 (ob_rm 2) false none 0 0 KS NN h 18 [(0, .ref 108), (1, .int x1), (2, .int x2), (3, .int x3), (4, .int x4), (5, .int x5)] [] (ob_g (some .int) (ob_pi h Q)) := by
  intro n
  induction n with
  | zero => intro x4 x5 y; exact False.elim y
  | succ n hk18 =>
    intro x4 x5 y
    have y : FX12_leftBy_18 x1 x2 x3 h Q k4 (it2 (FX12_leftBy_18 x1 x2 x3 h Q k4) n) x4 x5 := y
    unfold FX12_leftBy_18 at y
    refine oj_iload 5 dX12_leftBy_18 rfl ?_
    refine oj_bipush dX12_leftBy_20 cb_99 ?_
    refine oj_icmp_gt 70 dX12_leftBy_22 rfl (fun c4 => ?_) (fun c4 => ?_)
    · have y5 := y.1 c4
      refine oj_iload 4 dX12_leftBy_70 rfl ?_
      refine oj_iload_n 2 dX12_leftBy_72 rfl rfl ?_
      refine oj_icmp_le 81 dX12_leftBy_73 rfl (fun c7 => ?_) (fun c7 => ?_)
      · have y8 := y5.1 c7
        refine oj_iload_n 2 dX12_leftBy_81 rfl rfl ?_
        refine oj_istore_n (lv' := [(2, .int x2), (0, .ref 108), (1, .int x1), (3, .int x3), (4, .int x4), (5, .int x5)]) dX12_leftBy_82 rfl (by decide) rfl ?_
        obtain ⟨v10, ev10⟩ : ∃ z : Int32, z = x3 + (1) := ⟨_, rfl⟩
        have y11 := Lt_at y8 v10 ev10
        refine oj_iinc (v := v10) (lv' := [(3, .int v10), (2, .int x2), (0, .ref 108), (1, .int x1), (4, .int x4), (5, .int x5)]) 3 dX12_leftBy_83 rfl (iinc_e ci_1 ev10) (by decide) rfl ?_
        refine oj_goto 4 dX12_leftBy_86 rfl ?_
        refine oj_lv [2, 3, 1, 0] rfl ?_
        exact hk4 _ _ y11
      · have y9 := y5.2 c7
        refine oj_iload 4 dX12_leftBy_76 rfl ?_
        refine oj_goto 82 dX12_leftBy_78 rfl ?_
        refine oj_istore_n (lv' := [(2, .int x4), (0, .ref 108), (1, .int x1), (3, .int x3), (4, .int x4), (5, .int x5)]) dX12_leftBy_82 rfl (by decide) rfl ?_
        obtain ⟨v12, ev12⟩ : ∃ z : Int32, z = x3 + (1) := ⟨_, rfl⟩
        have y13 := Lt_at y9 v12 ev12
        refine oj_iinc (v := v12) (lv' := [(3, .int v12), (2, .int x4), (0, .ref 108), (1, .int x1), (4, .int x4), (5, .int x5)]) 3 dX12_leftBy_83 rfl (iinc_e ci_1 ev12) (by decide) rfl ?_
        refine oj_goto 4 dX12_leftBy_86 rfl ?_
        refine oj_lv [2, 3, 1, 0] rfl ?_
        exact hk4 _ _ y13
    · have y6 := y.2 c4
      refine oj_iload 4 dX12_leftBy_25 rfl ?_
      refine oj_aload_n 0 dX12_leftBy_27 rfl rfl ?_
      refine oj_getr (q := 149) fl_RX12_139 k_108 rfl k_149 dX12_leftBy_28 ?_
      refine oj_iload 5 dX12_leftBy_31 rfl ?_
      obtain ⟨c14, y15⟩ := y6
      refine oj_zald k_149 c14 rfl dX12_leftBy_33 ?_
      refine oj_if_eq 57 dX12_leftBy_34 rfl (fun c16 => ?_) (fun c16 => ?_)
      · have y17 := y15.1 c16
        refine oj_iconst dX12_leftBy_57 ci_0 ?_
        refine oj_lv [0, 1, 2, 3, 5] rfl ?_
        exact BKX12_leftBy_58 hk4 hk18 y17
      · have y18 := y15.2 c16
        refine oj_aload_n 0 dX12_leftBy_37 rfl rfl ?_
        refine oj_getr (q := 148) fl_RX12_136 k_108 rfl k_148 dX12_leftBy_38 ?_
        refine oj_bipush dX12_leftBy_41 cb_7 ?_
        refine oj_iload 5 dX12_leftBy_43 rfl ?_
        refine oj_imul dX12_leftBy_45 ?_
        refine oj_iload_n 1 dX12_leftBy_46 rfl rfl ?_
        refine oj_iadd dX12_leftBy_47 ?_
        obtain ⟨c27, y28⟩ := y18
        refine oj_iald k_148 c27 rfl dX12_leftBy_48 ?_
        refine oj_iload_n 3 dX12_leftBy_49 rfl rfl ?_
        refine oj_icmp_ne 57 dX12_leftBy_50 rfl (fun c29 => ?_) (fun c29 => ?_)
        · have y30 := y28.2 c29
          refine oj_iconst dX12_leftBy_57 ci_0 ?_
          refine oj_lv [0, 1, 2, 3, 5] rfl ?_
          exact BKX12_leftBy_58 hk4 hk18 y30
        · have y31 := y28.1 c29
          refine oj_iconst dX12_leftBy_53 ci_1 ?_
          refine oj_goto 58 dX12_leftBy_54 rfl ?_
          refine oj_lv [0, 1, 2, 3, 5] rfl ?_
          exact BKX12_leftBy_58 hk4 hk18 y31
set_option maxRecDepth 100000 in
set_option maxHeartbeats 4000000 in
theorem BLX12_leftBy_4 {x1 : Int32} {h : ob_H} {Q : Int32 → Prop} :
    ∀ (n : Nat) (x2 : Int32) (x3 : Int32), it2 (FX12_leftBy_4 x1 h Q) n x2 x3 → ob_J RX12 cX12_leftBy 6 (ob_rm 2) false none 0 0 KS NN h 4 [(0, .ref 108), (1, .int x1), (2, .int x2), (3, .int x3)] [] (ob_g (some .int) (ob_pi h Q)) := by
  intro n
  induction n with
  | zero => intro x2 x3 y; exact False.elim y
  | succ n hk4 =>
    intro x2 x3 y
    have y : FX12_leftBy_4 x1 h Q (it2 (FX12_leftBy_4 x1 h Q) n) x2 x3 := y
    unfold FX12_leftBy_4 at y
    refine oj_iload_n 3 dX12_leftBy_4 rfl rfl ?_
    refine oj_aload_n 0 dX12_leftBy_5 rfl rfl ?_
    refine oj_geti fl_RX12_323 k_108 rfl dX12_leftBy_6 ?_
    refine oj_icmp_ge 89 dX12_leftBy_9 rfl (fun c1 => ?_) (fun c1 => ?_)
    · have y2 := y.1 c1
      refine oj_iload_n 2 dX12_leftBy_89 rfl rfl ?_
      exact oj_ret (r := some (.int x2)) ⟨trivial, rfl, rfl, rfl, x2, rfl, y2⟩ dX12_leftBy_90 (Nat.zero_le _) (Nat.zero_le _)
    · have y3 := y.2 c1
      refine oj_iconst dX12_leftBy_12 ci_0 ?_
      refine oj_istore (lv' := [(4, .int (0)), (0, .ref 108), (1, .int x1), (2, .int x2), (3, .int x3)]) dX12_leftBy_13 (by decide) rfl ?_
      refine oj_iconst dX12_leftBy_15 ci_0 ?_
      refine oj_istore (lv' := [(5, .int (0)), (4, .int (0)), (0, .ref 108), (1, .int x1), (2, .int x2), (3, .int x3)]) dX12_leftBy_16 (by decide) rfl ?_
      refine oj_lv [2, 3, 4, 5, 1, 0] rfl ?_
      obtain ⟨n, y32⟩ := y3
      exact BLX12_leftBy_18 hk4 n _ _ y32
set_option maxRecDepth 100000 in
set_option maxHeartbeats 4000000 in
theorem BX12_leftBy  {p1 : Int32}  {h : ob_H} {Q : Int32 → Prop} (y : MX12_leftBy  p1 h Q) : ob_T yX12_leftBy cX12_leftBy 6 (some .int) (ob_rm 2) KS NN h [.ref 108, .int p1] (ob_g (some .int) (ob_pi h Q)) := by
  unfold MX12_leftBy at y
  refine ob_T_gf (by decide +kernel) (Nat.le_of_ble_eq_true rfl) ?_
  show ob_J RX12 cX12_leftBy 6 (ob_rm 2) false none 0 0 KS NN h 0 [(0, .ref 108), (1, .int p1)] [] (ob_g (some .int) (ob_pi h Q))
  refine oj_iconst dX12_leftBy_0 ci_0 ?_
  refine oj_istore_n (lv' := [(2, .int (0)), (0, .ref 108), (1, .int p1)]) dX12_leftBy_1 rfl (by decide) rfl ?_
  refine oj_iconst dX12_leftBy_2 ci_m1 ?_
  refine oj_istore_n (lv' := [(3, .int (-1)), (2, .int (0)), (0, .ref 108), (1, .int p1)]) dX12_leftBy_3 rfl (by decide) rfl ?_
  refine oj_lv [2, 3, 1, 0] rfl ?_
  obtain ⟨n, y33⟩ := y
  exact BLX12_leftBy_4  n _ _ y33
-- X12_ask
set_option maxRecDepth 100000 in
set_option maxHeartbeats 4000000 in
theorem BLX12_ask_24 {x1 : Int32} {h : ob_H} {Q : Int32 → ob_H → Prop} :
    ∀ (n : Nat) (x3 : Int32) (x4 : Int32), it2 (FX12_ask_24 x1 h Q) n x3 x4 → ob_J RX12 cX12_ask 5 (ob_rm 8) false none 0 0 KS NN h 24 [(0, .ref 108), (1, .int x1), (3, .int x3), (4, .int x4)] [] (ob_g (some .int) (ob_qi Q)) := by
  intro n
  induction n with
  | zero => intro x3 x4 y; exact False.elim y
  | succ n hk24 =>
    intro x3 x4 y
    have y : FX12_ask_24 x1 h Q (it2 (FX12_ask_24 x1 h Q) n) x3 x4 := y
    unfold FX12_ask_24 at y
    refine oj_iload 3 dX12_ask_24 rfl ?_
    refine oj_bipush dX12_ask_26 cb_7 ?_
    refine oj_icmp_ge 58 dX12_ask_28 rfl (fun c15 => ?_) (fun c15 => ?_)
    · have y16 := y.1 c15
      refine oj_iload_n 1 dX12_ask_58 rfl rfl ?_
      refine oj_if_ne 68 dX12_ask_59 rfl (fun c18 => ?_) (fun c18 => ?_)
      · have y19 := y16.2 c18
        refine oj_aload_n 0 dX12_ask_68 rfl rfl ?_
        refine oj_iload_n 2 dX12_ask_69 rfl rfl ?_
        refine oc_Vpi [.int x3] mi_RX12_536 ow_1914 op_104 rfl k_108 (BX12_leftBy  y19) ⟨by decide, by decide⟩ ⟨Nat.le_refl _, Nat.le_refl _⟩ rfl (Nat.le_of_ble_eq_true rfl) dX12_ask_70 (fun r21 f23 y24 => ?_)
        exact oj_ret (r := some (.int r21)) ⟨trivial, rfl, rfl, r21, rfl, y24⟩ dX12_ask_73 (Nat.zero_le _) (Nat.zero_le _)
      · have y20 := y16.1 c18
        refine oj_iload_n 2 dX12_ask_62 rfl rfl ?_
        refine oj_iconst dX12_ask_63 ci_1 ?_
        refine oj_iadd dX12_ask_64 ?_
        refine oj_goto 73 dX12_ask_65 rfl ?_
        exact oj_ret (r := some (.int (x3 + (1)))) ⟨trivial, rfl, rfl, (x3 + (1)), rfl, y20⟩ dX12_ask_73 (Nat.zero_le _) (Nat.zero_le _)
    · have y17 := y.2 c15
      refine oj_aload_n 0 dX12_ask_31 rfl rfl ?_
      refine oj_iload 3 dX12_ask_32 rfl ?_
      refine oc_Vpi [.int x4] mi_RX12_536 ow_1914 op_104 rfl k_108 (BX12_leftBy  y17) ⟨by decide, by decide⟩ ⟨Nat.le_refl _, Nat.le_refl _⟩ rfl (Nat.le_of_ble_eq_true rfl) dX12_ask_34 (fun r25 f27 y28 => ?_)
      refine oj_aload_n 0 dX12_ask_37 rfl rfl ?_
      refine oj_iload_n 2 dX12_ask_38 rfl rfl ?_
      refine oc_Vpi [.int x3] mi_RX12_536 ow_1914 op_104 rfl k_108 (BX12_leftBy  y28) ⟨by decide, by decide⟩ ⟨Nat.le_refl _, Nat.le_refl _⟩ rfl (Nat.le_of_ble_eq_true rfl) dX12_ask_39 (fun r29 f31 y32 => ?_)
      refine oj_icmp_ge 50 dX12_ask_42 rfl (fun c33 => ?_) (fun c33 => ?_)
      · have y34 := y32.1 c33
        refine oj_iload_n 2 dX12_ask_50 rfl rfl ?_
        refine oj_istore_n (lv' := [(3, .int x3), (0, .ref 108), (1, .int x1), (4, .int x4)]) dX12_ask_51 rfl (by decide) rfl ?_
        obtain ⟨v36, ev36⟩ : ∃ z : Int32, z = x4 + (1) := ⟨_, rfl⟩
        have y37 := Lt_at y34 v36 ev36
        refine oj_iinc (v := v36) (lv' := [(4, .int v36), (3, .int x3), (0, .ref 108), (1, .int x1)]) 3 dX12_ask_52 rfl (iinc_e ci_1 ev36) (by decide) rfl ?_
        refine oj_goto 24 dX12_ask_55 rfl ?_
        refine oj_lv [2, 3, 1, 0] rfl ?_
        exact hk24 _ _ y37
      · have y35 := y32.2 c33
        refine oj_iload 3 dX12_ask_45 rfl ?_
        refine oj_goto 51 dX12_ask_47 rfl ?_
        refine oj_istore_n (lv' := [(3, .int x4), (0, .ref 108), (1, .int x1), (4, .int x4)]) dX12_ask_51 rfl (by decide) rfl ?_
        obtain ⟨v38, ev38⟩ : ∃ z : Int32, z = x4 + (1) := ⟨_, rfl⟩
        have y39 := Lt_at y35 v38 ev38
        refine oj_iinc (v := v38) (lv' := [(4, .int v38), (3, .int x4), (0, .ref 108), (1, .int x1)]) 3 dX12_ask_52 rfl (iinc_e ci_1 ev38) (by decide) rfl ?_
        refine oj_goto 24 dX12_ask_55 rfl ?_
        refine oj_lv [2, 3, 1, 0] rfl ?_
        exact hk24 _ _ y39
set_option maxRecDepth 100000 in
set_option maxHeartbeats 4000000 in
theorem BX12_ask  {p1 : Int32} {p2 : Int32}  {h : ob_H} {Q : Int32 → ob_H → Prop} (y : MX12_ask  p1 p2 h Q) : ob_T yX12_ask cX12_ask 5 (some .int) (ob_rm 8) KS NN h [.ref 108, .int p1, .int p2] (ob_g (some .int) (ob_qi Q)) := by
  unfold MX12_ask at y
  refine ob_T_gf (by decide +kernel) (Nat.le_of_ble_eq_true rfl) ?_
  show ob_J RX12 cX12_ask 5 (ob_rm 8) false none 0 0 KS NN h 0 [(0, .ref 108), (1, .int p1), (2, .int p2)] [] (ob_g (some .int) (ob_qi Q))
  refine oj_iload_n 1 dX12_ask_0 rfl rfl ?_
  refine oj_iconst dX12_ask_1 ci_0 ?_
  refine oj_iconst dX12_ask_2 ci_1 ?_
  refine oc_Spi [.int p1, .int (0), .int (1)] mi_RX12_418 ow_1632 (BX12_isIn  y) ⟨by decide, by decide⟩ ⟨Nat.le_refl _, Nat.le_refl _⟩ rfl (Nat.le_of_ble_eq_true rfl) dX12_ask_3 (fun r1 f3 y4 => ?_)
  refine oj_if_eq 17 dX12_ask_6 rfl (fun c5 => ?_) (fun c5 => ?_)
  · have y6 := y4.1 c5
    refine oj_iconst dX12_ask_17 ci_m1 ?_
    exact oj_ret (r := some (.int (-1))) ⟨trivial, rfl, rfl, (-1), rfl, y6⟩ dX12_ask_18 (Nat.zero_le _) (Nat.zero_le _)
  · have y7 := y4.2 c5
    refine oj_aload_n 0 dX12_ask_9 rfl rfl ?_
    refine oj_iload_n 2 dX12_ask_10 rfl rfl ?_
    refine oc_Vi [.int p2] mi_RX12_533 ow_1898 op_102 rfl k_108 (BX12_layFits  y7) ⟨by decide, by decide⟩ ⟨Nat.le_refl _, Nat.le_refl _⟩ rfl (Nat.le_of_ble_eq_true rfl) dX12_ask_11 (fun r8 f10 h9 y11 => ?_)
    refine oj_if_ne 19 dX12_ask_14 rfl (fun c12 => ?_) (fun c12 => ?_)
    · have y13 := y11.2 c12
      refine oj_iconst dX12_ask_19 ci_0 ?_
      refine oj_istore_n (lv' := [(3, .int (0)), (0, .ref 108), (1, .int p1), (2, .int p2)]) dX12_ask_20 rfl (by decide) rfl ?_
      refine oj_iconst dX12_ask_21 ci_1 ?_
      refine oj_istore (lv' := [(4, .int (1)), (3, .int (0)), (0, .ref 108), (1, .int p1), (2, .int p2)]) dX12_ask_22 (by decide) rfl ?_
      refine oj_lv [2, 3, 1, 0] rfl ?_
      obtain ⟨n, y40⟩ := y13
      exact BLX12_ask_24  n _ _ y40
    · have y14 := y11.1 c12
      refine oj_iconst dX12_ask_17 ci_m1 ?_
      exact oj_ret (r := some (.int (-1))) ⟨trivial, rfl, rfl, (-1), rfl, y14⟩ dX12_ask_18 (Nat.zero_le _) (Nat.zero_le _)
-- X12_isBox
set_option maxRecDepth 100000 in
set_option maxHeartbeats 4000000 in
theorem BX12_isBox  {p0 : Int32}  {h : ob_H} {Q : Int32 → Prop} (y : MX12_isBox  p0 h Q) : ob_T yX12_isBox cX12_isBox 1 (some .boolean) (ob_rm 1) KS NN h [.int p0] (ob_g (some .boolean) (ob_pi h Q)) := by
  unfold MX12_isBox at y
  refine ob_T_gf (by decide +kernel) (Nat.le_of_ble_eq_true rfl) ?_
  show ob_J RX12 cX12_isBox 1 (ob_rm 1) false none 0 0 KS NN h 0 [(0, .int p0)] [] (ob_g (some .boolean) (ob_pi h Q))
  refine oj_iload_n 0 dX12_isBox_0 rfl rfl ?_
  refine oj_if_lt 13 dX12_isBox_1 rfl (fun c1 => ?_) (fun c1 => ?_)
  · have y2 := y.1 c1
    refine oj_iconst dX12_isBox_13 ci_0 ?_
    exact oj_ret (r := some (.int (0))) ⟨rfl, rfl, rfl, rfl, (0), rfl, y2⟩ dX12_isBox_14 (Nat.zero_le _) (Nat.zero_le _)
  · have y3 := y.2 c1
    refine oj_iload_n 0 dX12_isBox_4 rfl rfl ?_
    refine oj_iconst dX12_isBox_5 ci_3 ?_
    refine oj_icmp_ge 13 dX12_isBox_6 rfl (fun c4 => ?_) (fun c4 => ?_)
    · have y5 := y3.1 c4
      refine oj_iconst dX12_isBox_13 ci_0 ?_
      exact oj_ret (r := some (.int (0))) ⟨rfl, rfl, rfl, rfl, (0), rfl, y5⟩ dX12_isBox_14 (Nat.zero_le _) (Nat.zero_le _)
    · have y6 := y3.2 c4
      refine oj_iconst dX12_isBox_9 ci_1 ?_
      refine oj_goto 14 dX12_isBox_10 rfl ?_
      exact oj_ret (r := some (.int (1))) ⟨rfl, rfl, rfl, rfl, (1), rfl, y6⟩ dX12_isBox_14 (Nat.zero_le _) (Nat.zero_le _)
-- X12_image
set_option maxRecDepth 100000 in
set_option maxHeartbeats 4000000 in
theorem BLX12_image_18 {x1 : Int32} {Q : Int32 → ob_H → Prop} :
    ∀ (n : Nat) (x2 : Int32) (h : ob_H), it2 (FX12_image_18 x1 Q) n x2 h → ob_J RX12 cX12_image 3 (ob_rm 2) false none 0 0 KS NN h 18 [(0, .ref 108), (1, .int x1), (2, .int x2)] [] (ob_g (some .int) (ob_qi Q)) := by
  intro n
  induction n with
  | zero => intro x2 h y; exact False.elim y
  | succ n hk18 =>
    intro x2 h y
    have y : FX12_image_18 x1 Q (it2 (FX12_image_18 x1 Q) n) x2 h := y
    unfold FX12_image_18 at y
    refine oj_iload_n 2 dX12_image_18 rfl rfl ?_
    refine oj_bipush dX12_image_19 cb_24 ?_
    refine oj_icmp_ge 47 dX12_image_21 rfl (fun c12 => ?_) (fun c12 => ?_)
    · have y13 := y.1 c12
      refine oj_aload_n 0 dX12_image_47 rfl rfl ?_
      refine oj_getr (q := 135) fl_RX12_97 k_108 rfl k_135 dX12_image_48 ?_
      refine oj_bipush dX12_image_51 cb_21 ?_
      refine oj_iald k_135 in_21_24 ix_21 dX12_image_53 ?_
      exact oj_ret (r := some (.int (h.1 135 21))) ⟨trivial, rfl, rfl, (h.1 135 21), rfl, y13⟩ dX12_image_54 (Nat.zero_le _) (Nat.zero_le _)
    · have y14 := y.2 c12
      refine oj_aload_n 0 dX12_image_24 rfl rfl ?_
      refine oj_getr (q := 151) fl_RX12_145 k_108 rfl k_151 dX12_image_25 ?_
      refine oj_bipush dX12_image_28 cb_24 ?_
      refine oj_iload_n 1 dX12_image_30 rfl rfl ?_
      refine oj_imul dX12_image_31 ?_
      refine oj_iload_n 2 dX12_image_32 rfl rfl ?_
      refine oj_iadd dX12_image_33 ?_
      refine oj_aload_n 0 dX12_image_34 rfl rfl ?_
      refine oj_getr (q := 135) fl_RX12_97 k_108 rfl k_135 dX12_image_35 ?_
      refine oj_iload_n 2 dX12_image_38 rfl rfl ?_
      obtain ⟨c15, y16⟩ := y14
      refine oj_iald k_135 c15 rfl dX12_image_39 ?_
      obtain ⟨c17, y18⟩ := y16
      refine oj_iast k_151 c17 rfl dX12_image_40 ?_
      refine oj_toph (fun h19 eh19 => ?_)
      have y20 := Lt_at y18 h19 eh19
      obtain ⟨v21, ev21⟩ : ∃ z : Int32, z = x2 + (1) := ⟨_, rfl⟩
      have y22 := Lt_at y20 v21 ev21
      refine oj_iinc (v := v21) (lv' := [(2, .int v21), (0, .ref 108), (1, .int x1)]) 2 dX12_image_41 rfl (iinc_e ci_1 ev21) (by decide) rfl ?_
      refine oj_goto 18 dX12_image_44 rfl ?_
      refine oj_lv [1, 2, 0] rfl ?_
      exact hk18 _ _ y22
set_option maxRecDepth 100000 in
set_option maxHeartbeats 4000000 in
theorem BX12_image  {p1 : Int32}  {h : ob_H} {Q : Int32 → ob_H → Prop} (y : MX12_image  p1 h Q) : ob_T yX12_image cX12_image 3 (some .int) (ob_rm 2) KS NN h [.ref 108, .int p1] (ob_g (some .int) (ob_qi Q)) := by
  unfold MX12_image at y
  refine ob_T_gf (by decide +kernel) (Nat.le_of_ble_eq_true rfl) ?_
  show ob_J RX12 cX12_image 3 (ob_rm 2) false none 0 0 KS NN h 0 [(0, .ref 108), (1, .int p1)] [] (ob_g (some .int) (ob_qi Q))
  refine oj_iload_n 1 dX12_image_0 rfl rfl ?_
  refine oc_Spi [.int p1] mi_RX12_539 ow_1921 (BX12_isBox  y) ⟨by decide, by decide⟩ ⟨Nat.le_refl _, Nat.le_refl _⟩ rfl (Nat.le_of_ble_eq_true rfl) dX12_image_1 (fun r1 f3 y4 => ?_)
  refine oj_if_ne 9 dX12_image_4 rfl (fun c5 => ?_) (fun c5 => ?_)
  · have y6 := y4.2 c5
    refine oj_aload_n 0 dX12_image_9 rfl rfl ?_
    refine oj_getr (q := 150) fl_RX12_142 k_108 rfl k_150 dX12_image_10 ?_
    refine oj_iload_n 1 dX12_image_13 rfl rfl ?_
    refine oj_iconst dX12_image_14 ci_1 ?_
    obtain ⟨c8, y9⟩ := y6
    refine oj_zast k_150 c8 rfl dX12_image_15 ?_
    refine oj_toph (fun h10 eh10 => ?_)
    have y11 := Lt_at y9 h10 eh10
    refine oj_iconst dX12_image_16 ci_0 ?_
    refine oj_istore_n (lv' := [(2, .int (0)), (0, .ref 108), (1, .int p1)]) dX12_image_17 rfl (by decide) rfl ?_
    refine oj_lv [1, 2, 0] rfl ?_
    obtain ⟨n, y23⟩ := y11
    exact BLX12_image_18  n _ _ y23
  · have y7 := y4.1 c5
    refine oj_iconst dX12_image_7 ci_m1 ?_
    exact oj_ret (r := some (.int (-1))) ⟨trivial, rfl, rfl, (-1), rfl, y7⟩ dX12_image_8 (Nat.zero_le _) (Nat.zero_le _)
-- X12_back
set_option maxRecDepth 100000 in
set_option maxHeartbeats 4000000 in
theorem BLX12_back_20 {x1 : Int32} {Q : Int32 → ob_H → Prop} :
    ∀ (n : Nat) (x2 : Int32) (h : ob_H), it2 (FX12_back_20 x1 Q) n x2 h → ob_J RX12 cX12_back 3 (ob_rm 2) false none 0 0 KS NN h 20 [(0, .ref 108), (1, .int x1), (2, .int x2)] [] (ob_g (some .int) (ob_qi Q)) := by
  intro n
  induction n with
  | zero => intro x2 h y; exact False.elim y
  | succ n hk20 =>
    intro x2 h y
    have y : FX12_back_20 x1 Q (it2 (FX12_back_20 x1 Q) n) x2 h := y
    unfold FX12_back_20 at y
    refine oj_iload_n 2 dX12_back_20 rfl rfl ?_
    refine oj_bipush dX12_back_21 cb_24 ?_
    refine oj_icmp_ge 49 dX12_back_23 rfl (fun c13 => ?_) (fun c13 => ?_)
    · have y14 := y.1 c13
      refine oj_aload_n 0 dX12_back_49 rfl rfl ?_
      refine oj_iconst dX12_back_50 ci_0 ?_
      refine oj_puti fl_RX12_406 (Or.inl rfl) k_108 rfl rfl rfl dX12_back_51 ?_
      refine oj_toph (fun h16 eh16 => ?_)
      have y17 := Lt_at y14 h16 eh16
      refine oj_aload_n 0 dX12_back_54 rfl rfl ?_
      refine oj_iconst dX12_back_55 ci_0 ?_
      refine oj_puti fl_RX12_409 (Or.inl rfl) k_108 rfl rfl rfl dX12_back_56 ?_
      refine oj_toph (fun h18 eh18 => ?_)
      have y19 := Lt_at y17 h18 eh18
      refine oj_aload_n 0 dX12_back_59 rfl rfl ?_
      refine oj_getr (q := 135) fl_RX12_97 k_108 rfl k_135 dX12_back_60 ?_
      refine oj_bipush dX12_back_63 cb_21 ?_
      refine oj_iald k_135 in_21_24 ix_21 dX12_back_65 ?_
      exact oj_ret (r := some (.int (h18.1 135 21))) ⟨trivial, rfl, rfl, (h18.1 135 21), rfl, y19⟩ dX12_back_66 (Nat.zero_le _) (Nat.zero_le _)
    · have y15 := y.2 c13
      refine oj_aload_n 0 dX12_back_26 rfl rfl ?_
      refine oj_getr (q := 135) fl_RX12_97 k_108 rfl k_135 dX12_back_27 ?_
      refine oj_iload_n 2 dX12_back_30 rfl rfl ?_
      refine oj_aload_n 0 dX12_back_31 rfl rfl ?_
      refine oj_getr (q := 151) fl_RX12_145 k_108 rfl k_151 dX12_back_32 ?_
      refine oj_bipush dX12_back_35 cb_24 ?_
      refine oj_iload_n 1 dX12_back_37 rfl rfl ?_
      refine oj_imul dX12_back_38 ?_
      refine oj_iload_n 2 dX12_back_39 rfl rfl ?_
      refine oj_iadd dX12_back_40 ?_
      obtain ⟨c20, y21⟩ := y15
      refine oj_iald k_151 c20 rfl dX12_back_41 ?_
      obtain ⟨c22, y23⟩ := y21
      refine oj_iast k_135 c22 rfl dX12_back_42 ?_
      refine oj_toph (fun h24 eh24 => ?_)
      have y25 := Lt_at y23 h24 eh24
      obtain ⟨v26, ev26⟩ : ∃ z : Int32, z = x2 + (1) := ⟨_, rfl⟩
      have y27 := Lt_at y25 v26 ev26
      refine oj_iinc (v := v26) (lv' := [(2, .int v26), (0, .ref 108), (1, .int x1)]) 2 dX12_back_43 rfl (iinc_e ci_1 ev26) (by decide) rfl ?_
      refine oj_goto 20 dX12_back_46 rfl ?_
      refine oj_lv [1, 2, 0] rfl ?_
      exact hk20 _ _ y27
set_option maxRecDepth 100000 in
set_option maxHeartbeats 4000000 in
theorem BX12_back  {p1 : Int32}  {h : ob_H} {Q : Int32 → ob_H → Prop} (y : MX12_back  p1 h Q) : ob_T yX12_back cX12_back 3 (some .int) (ob_rm 2) KS NN h [.ref 108, .int p1] (ob_g (some .int) (ob_qi Q)) := by
  unfold MX12_back at y
  refine ob_T_gf (by decide +kernel) (Nat.le_of_ble_eq_true rfl) ?_
  show ob_J RX12 cX12_back 3 (ob_rm 2) false none 0 0 KS NN h 0 [(0, .ref 108), (1, .int p1)] [] (ob_g (some .int) (ob_qi Q))
  refine oj_iload_n 1 dX12_back_0 rfl rfl ?_
  refine oc_Spi [.int p1] mi_RX12_539 ow_1921 (BX12_isBox  y) ⟨by decide, by decide⟩ ⟨Nat.le_refl _, Nat.le_refl _⟩ rfl (Nat.le_of_ble_eq_true rfl) dX12_back_1 (fun r1 f3 y4 => ?_)
  refine oj_if_eq 16 dX12_back_4 rfl (fun c5 => ?_) (fun c5 => ?_)
  · have y6 := y4.1 c5
    refine oj_iconst dX12_back_16 ci_m1 ?_
    exact oj_ret (r := some (.int (-1))) ⟨trivial, rfl, rfl, (-1), rfl, y6⟩ dX12_back_17 (Nat.zero_le _) (Nat.zero_le _)
  · have y7 := y4.2 c5
    refine oj_aload_n 0 dX12_back_7 rfl rfl ?_
    refine oj_getr (q := 150) fl_RX12_142 k_108 rfl k_150 dX12_back_8 ?_
    refine oj_iload_n 1 dX12_back_11 rfl rfl ?_
    obtain ⟨c8, y9⟩ := y7
    refine oj_zald k_150 c8 rfl dX12_back_12 ?_
    refine oj_if_ne 18 dX12_back_13 rfl (fun c10 => ?_) (fun c10 => ?_)
    · have y11 := y9.2 c10
      refine oj_iconst dX12_back_18 ci_0 ?_
      refine oj_istore_n (lv' := [(2, .int (0)), (0, .ref 108), (1, .int p1)]) dX12_back_19 rfl (by decide) rfl ?_
      refine oj_lv [1, 2, 0] rfl ?_
      obtain ⟨n, y28⟩ := y11
      exact BLX12_back_20  n _ _ y28
    · have y12 := y9.1 c10
      refine oj_iconst dX12_back_16 ci_m1 ?_
      exact oj_ret (r := some (.int (-1))) ⟨trivial, rfl, rfl, (-1), rfl, y12⟩ dX12_back_17 (Nat.zero_le _) (Nat.zero_le _)
-- X12_about
set_option maxRecDepth 100000 in
set_option maxHeartbeats 4000000 in
theorem BX12_about  {p1 : Int32}  {h : ob_H} {Q : Int32 → ob_H → Prop} (y : MX12_about  p1 h Q) : ob_T yX12_about cX12_about 2 (some .int) (ob_rm 4) KS NN h [.ref 108, .int p1] (ob_g (some .int) (ob_qi Q)) := by
  unfold MX12_about at y
  refine ob_T_gf (by decide +kernel) (Nat.le_of_ble_eq_true rfl) ?_
  show ob_J RX12 cX12_about 2 (ob_rm 4) false none 0 0 KS NN h 0 [(0, .ref 108), (1, .int p1)] [] (ob_g (some .int) (ob_qi Q))
  refine oj_iload_n 1 dX12_about_0 rfl rfl ?_
  by_cases c1 : p1 = (0)
  · have y2 := y.1 c1
    refine oj_tableIn 76 dX12_about_1 (by rw [c1] <;> decide) (by rw [c1] <;> decide) (by rw [c1] <;> rfl) rfl ?_
    refine oj_aload_n 0 dX12_about_76 rfl rfl ?_
    refine oj_geti fl_RX12_323 k_108 rfl dX12_about_77 ?_
    exact oj_ret (r := some (.int (h.1 108 48))) ⟨trivial, rfl, rfl, (h.1 108 48), rfl, y2⟩ dX12_about_80 (Nat.zero_le _) (Nat.zero_le _)
  have y3 := y.2 c1
  by_cases c4 : p1 = (1)
  · have y5 := y3.1 c4
    refine oj_tableIn 81 dX12_about_1 (by rw [c4] <;> decide) (by rw [c4] <;> decide) (by rw [c4] <;> rfl) rfl ?_
    refine oj_aload_n 0 dX12_about_81 rfl rfl ?_
    refine oj_getr (q := 135) fl_RX12_97 k_108 rfl k_135 dX12_about_82 ?_
    refine oj_bipush dX12_about_85 cb_21 ?_
    refine oj_iald k_135 in_21_24 ix_21 dX12_about_87 ?_
    exact oj_ret (r := some (.int (h.1 135 21))) ⟨trivial, rfl, rfl, (h.1 135 21), rfl, y5⟩ dX12_about_88 (Nat.zero_le _) (Nat.zero_le _)
  have y6 := y3.2 c4
  by_cases c7 : p1 = (2)
  · have y8 := y6.1 c7
    refine oj_tableIn 89 dX12_about_1 (by rw [c7] <;> decide) (by rw [c7] <;> decide) (by rw [c7] <;> rfl) rfl ?_
    refine oj_aload_n 0 dX12_about_89 rfl rfl ?_
    refine oj_getr (q := 135) fl_RX12_97 k_108 rfl k_135 dX12_about_90 ?_
    refine oj_bipush dX12_about_93 cb_23 ?_
    refine oj_iald k_135 in_23_24 ix_23 dX12_about_95 ?_
    exact oj_ret (r := some (.int (h.1 135 23))) ⟨trivial, rfl, rfl, (h.1 135 23), rfl, y8⟩ dX12_about_96 (Nat.zero_le _) (Nat.zero_le _)
  have y9 := y6.2 c7
  by_cases c10 : p1 = (3)
  · have y11 := y9.1 c10
    refine oj_tableIn 97 dX12_about_1 (by rw [c10] <;> decide) (by rw [c10] <;> decide) (by rw [c10] <;> rfl) rfl ?_
    refine oj_aload_n 0 dX12_about_97 rfl rfl ?_
    refine oj_getr (q := 135) fl_RX12_97 k_108 rfl k_135 dX12_about_98 ?_
    refine oj_bipush dX12_about_101 cb_22 ?_
    refine oj_iald k_135 in_22_24 ix_22 dX12_about_103 ?_
    exact oj_ret (r := some (.int (h.1 135 22))) ⟨trivial, rfl, rfl, (h.1 135 22), rfl, y11⟩ dX12_about_104 (Nat.zero_le _) (Nat.zero_le _)
  have y12 := y9.2 c10
  by_cases c13 : p1 = (4)
  · have y14 := y12.1 c13
    refine oj_tableIn 105 dX12_about_1 (by rw [c13] <;> decide) (by rw [c13] <;> decide) (by rw [c13] <;> rfl) rfl ?_
    refine oj_aload_n 0 dX12_about_105 rfl rfl ?_
    refine oj_geti fl_RX12_94 k_108 rfl dX12_about_106 ?_
    exact oj_ret (r := some (.int (h.1 108 50))) ⟨trivial, rfl, rfl, (h.1 108 50), rfl, y14⟩ dX12_about_109 (Nat.zero_le _) (Nat.zero_le _)
  have y15 := y12.2 c13
  by_cases c16 : p1 = (5)
  · have y17 := y15.1 c16
    refine oj_tableIn 110 dX12_about_1 (by rw [c16] <;> decide) (by rw [c16] <;> decide) (by rw [c16] <;> rfl) rfl ?_
    refine oj_aload_n 0 dX12_about_110 rfl rfl ?_
    refine oj_aload_n 0 dX12_about_111 rfl rfl ?_
    refine oc_Vi [] mi_RX12_498 ow_1800 op_95 rfl k_108 (BX12_standing  y17) ⟨by decide, by decide⟩ ⟨Nat.le_refl _, Nat.le_refl _⟩ rfl (Nat.le_of_ble_eq_true rfl) dX12_about_112 (fun r18 f20 h19 y21 => ?_)
    refine oc_Vpi [.int r18] mi_RX12_501 ow_1812 op_97 rfl k_108 (BX12_isBarred  y21) ⟨by decide, by decide⟩ ⟨Nat.le_refl _, Nat.le_refl _⟩ rfl (Nat.le_of_ble_eq_true rfl) dX12_about_115 (fun r22 f24 y25 => ?_)
    refine oc_Spi [.int r22] mi_RX12_319 ow_1534 (BX12_truth  y25) ⟨by decide, by decide⟩ ⟨Nat.le_refl _, Nat.le_refl _⟩ rfl (Nat.le_of_ble_eq_true rfl) dX12_about_118 (fun r26 f28 y29 => ?_)
    exact oj_ret (r := some (.int r26)) ⟨trivial, rfl, rfl, r26, rfl, y29⟩ dX12_about_121 (Nat.zero_le _) (Nat.zero_le _)
  have y30 := y15.2 c16
  by_cases c31 : p1 = (6)
  · have y32 := y30.1 c31
    refine oj_tableIn 122 dX12_about_1 (by rw [c31] <;> decide) (by rw [c31] <;> decide) (by rw [c31] <;> rfl) rfl ?_
    refine oj_aload_n 0 dX12_about_122 rfl rfl ?_
    refine oc_Vi [] mi_RX12_483 ow_1777 op_92 rfl k_108 (BX12_waitingNow  y32) ⟨by decide, by decide⟩ ⟨Nat.le_refl _, Nat.le_refl _⟩ rfl (Nat.le_of_ble_eq_true rfl) dX12_about_123 (fun r33 f35 h34 y36 => ?_)
    exact oj_ret (r := some (.int r33)) ⟨trivial, rfl, rfl, r33, rfl, y36⟩ dX12_about_126 (Nat.zero_le _) (Nat.zero_le _)
  have y37 := y30.2 c31
  by_cases c38 : p1 = (7)
  · have y39 := y37.1 c38
    refine oj_tableIn 127 dX12_about_1 (by rw [c38] <;> decide) (by rw [c38] <;> decide) (by rw [c38] <;> rfl) rfl ?_
    refine oj_aload_n 0 dX12_about_127 rfl rfl ?_
    refine oc_Vi [] mi_RX12_498 ow_1800 op_95 rfl k_108 (BX12_standing  y39) ⟨by decide, by decide⟩ ⟨Nat.le_refl _, Nat.le_refl _⟩ rfl (Nat.le_of_ble_eq_true rfl) dX12_about_128 (fun r40 f42 h41 y43 => ?_)
    exact oj_ret (r := some (.int r40)) ⟨trivial, rfl, rfl, r40, rfl, y43⟩ dX12_about_131 (Nat.zero_le _) (Nat.zero_le _)
  have y44 := y37.2 c38
  by_cases c45 : p1 = (8)
  · have y46 := y44.1 c45
    refine oj_tableIn 132 dX12_about_1 (by rw [c45] <;> decide) (by rw [c45] <;> decide) (by rw [c45] <;> rfl) rfl ?_
    refine oj_aload_n 0 dX12_about_132 rfl rfl ?_
    refine oj_geti fl_RX12_406 k_108 rfl dX12_about_133 ?_
    exact oj_ret (r := some (.int (h.1 108 59))) ⟨trivial, rfl, rfl, (h.1 108 59), rfl, y46⟩ dX12_about_136 (Nat.zero_le _) (Nat.zero_le _)
  have y47 := y44.2 c45
  by_cases c48 : p1 = (9)
  · have y49 := y47.1 c48
    refine oj_tableIn 137 dX12_about_1 (by rw [c48] <;> decide) (by rw [c48] <;> decide) (by rw [c48] <;> rfl) rfl ?_
    refine oj_aload_n 0 dX12_about_137 rfl rfl ?_
    refine oj_geti fl_RX12_409 k_108 rfl dX12_about_138 ?_
    exact oj_ret (r := some (.int (h.1 108 60))) ⟨trivial, rfl, rfl, (h.1 108 60), rfl, y49⟩ dX12_about_141 (Nat.zero_le _) (Nat.zero_le _)
  have y50 := y47.2 c48
  by_cases c51 : p1 = (10)
  · have y52 := y50.1 c51
    refine oj_tableIn 142 dX12_about_1 (by rw [c51] <;> decide) (by rw [c51] <;> decide) (by rw [c51] <;> rfl) rfl ?_
    refine oj_aload_n 0 dX12_about_142 rfl rfl ?_
    refine oj_geti fl_RX12_412 k_108 rfl dX12_about_143 ?_
    exact oj_ret (r := some (.int (h.1 108 70))) ⟨trivial, rfl, rfl, (h.1 108 70), rfl, y52⟩ dX12_about_146 (Nat.zero_le _) (Nat.zero_le _)
  have y53 := y50.2 c51
  by_cases c54 : p1 = (11)
  · have y55 := y53.1 c54
    refine oj_tableIn 147 dX12_about_1 (by rw [c54] <;> decide) (by rw [c54] <;> decide) (by rw [c54] <;> rfl) rfl ?_
    refine oj_aload_n 0 dX12_about_147 rfl rfl ?_
    refine oj_geti fl_RX12_526 k_108 rfl dX12_about_148 ?_
    exact oj_ret (r := some (.int (h.1 108 71))) ⟨trivial, rfl, rfl, (h.1 108 71), rfl, y55⟩ dX12_about_151 (Nat.zero_le _) (Nat.zero_le _)
  have y56 := y53.2 c54
  by_cases c57 : p1 = (12)
  · have y58 := y56.1 c57
    refine oj_tableIn 152 dX12_about_1 (by rw [c57] <;> decide) (by rw [c57] <;> decide) (by rw [c57] <;> rfl) rfl ?_
    refine oj_aload_n 0 dX12_about_152 rfl rfl ?_
    refine oj_geti fl_RX12_148 k_108 rfl dX12_about_153 ?_
    exact oj_ret (r := some (.int (h.1 108 1))) ⟨trivial, rfl, rfl, (h.1 108 1), rfl, y58⟩ dX12_about_156 (Nat.zero_le _) (Nat.zero_le _)
  have y59 := y56.2 c57
  by_cases c60 : p1 = (13)
  · have y61 := y59.1 c60
    refine oj_tableIn 157 dX12_about_1 (by rw [c60] <;> decide) (by rw [c60] <;> decide) (by rw [c60] <;> rfl) rfl ?_
    refine oj_aload_n 0 dX12_about_157 rfl rfl ?_
    refine oj_geti fl_RX12_397 k_108 rfl dX12_about_158 ?_
    exact oj_ret (r := some (.int (h.1 108 23))) ⟨trivial, rfl, rfl, (h.1 108 23), rfl, y61⟩ dX12_about_161 (Nat.zero_le _) (Nat.zero_le _)
  have y62 := y59.2 c60
  by_cases c63 : p1 = (14)
  · have y64 := y62.1 c63
    refine oj_tableIn 162 dX12_about_1 (by rw [c63] <;> decide) (by rw [c63] <;> decide) (by rw [c63] <;> rfl) rfl ?_
    refine oj_aload_n 0 dX12_about_162 rfl rfl ?_
    refine oj_geti fl_RX12_415 k_108 rfl dX12_about_163 ?_
    exact oj_ret (r := some (.int (h.1 108 62))) ⟨trivial, rfl, rfl, (h.1 108 62), rfl, y64⟩ dX12_about_166 (Nat.zero_le _) (Nat.zero_le _)
  have y65 := y62.2 c63
  refine oj_tableOut 167 dX12_about_1 (show (p1 : Int32).toInt < 0 ∨ 14 < (p1 : Int32).toInt by have nc1 := lv_neT c1 (show (0 : Int32).toInt = 0 by decide); have nc4 := lv_neT c4 (show (1 : Int32).toInt = 1 by decide); have nc7 := lv_neT c7 (show (2 : Int32).toInt = 2 by decide); have nc10 := lv_neT c10 (show (3 : Int32).toInt = 3 by decide); have nc13 := lv_neT c13 (show (4 : Int32).toInt = 4 by decide); have nc16 := lv_neT c16 (show (5 : Int32).toInt = 5 by decide); have nc31 := lv_neT c31 (show (6 : Int32).toInt = 6 by decide); have nc38 := lv_neT c38 (show (7 : Int32).toInt = 7 by decide); have nc45 := lv_neT c45 (show (8 : Int32).toInt = 8 by decide); have nc48 := lv_neT c48 (show (9 : Int32).toInt = 9 by decide); have nc51 := lv_neT c51 (show (10 : Int32).toInt = 10 by decide); have nc54 := lv_neT c54 (show (11 : Int32).toInt = 11 by decide); have nc57 := lv_neT c57 (show (12 : Int32).toInt = 12 by decide); have nc60 := lv_neT c60 (show (13 : Int32).toInt = 13 by decide); have nc63 := lv_neT c63 (show (14 : Int32).toInt = 14 by decide); omega) rfl ?_
  refine oj_iconst dX12_about_167 ci_m1 ?_
  exact oj_ret (r := some (.int (-1))) ⟨trivial, rfl, rfl, (-1), rfl, y65⟩ dX12_about_168 (Nat.zero_le _) (Nat.zero_le _)
