-- ===== the bridges that the constructors want, for any shape =====
def ob_qvg (kg : Nat → ob_K) (ng : Nat) (Q : ob_H → Prop) : ob_Q := fun r ks n h => ks = kg ∧ n = ng ∧ r = none ∧ Q h
def ob_pig (kg : Nat → ob_K) (ng : Nat) (h0 : ob_H) (Q : Int32 → Prop) : ob_Q := fun r ks n h => ks = kg ∧ n = ng ∧ h = h0 ∧ ∃ v, r = some (.int v) ∧ Q v
def A2g (kg : Nat → ob_K) (ng : Nat) (o : Nat) : Prop := ob_is kg ng o (7, [0, o + 5, o + 6, o + 7, o + 8, o + 9, o + 10, o + 11, 0, 0, 0, 0, o + 12, o + 15]) ∧ ob_is kg ng (o + 1) (0, [7]) ∧ ob_is kg ng (o + 2) (0, [7]) ∧ ob_is kg ng (o + 3) (0, [7]) ∧ ob_is kg ng (o + 4) (0, [7]) ∧ ob_is kg ng (o + 5) (0, [7]) ∧ ob_is kg ng (o + 6) (0, [7]) ∧ ob_is kg ng (o + 7) (0, [49]) ∧ ob_is kg ng (o + 8) (9, [o + 13, 0, o + 14]) ∧ ob_is kg ng (o + 9) (0, [300]) ∧ ob_is kg ng (o + 10) (0, [32]) ∧ ob_is kg ng (o + 11) (9, [o + 16, 0, o + 17]) ∧ ob_is kg ng (o + 12) (0, [300]) ∧ ob_is kg ng (o + 13) (0, [32])
theorem A2g_0 {kg : Nat → ob_K} {ng o : Nat} (h : A2g kg ng o) : ob_is kg ng o (7, [0, o + 5, o + 6, o + 7, o + 8, o + 9, o + 10, o + 11, 0, 0, 0, 0, o + 12, o + 15]) := h.1
theorem A2g_1 {kg : Nat → ob_K} {ng o : Nat} (h : A2g kg ng o) : ob_is kg ng (o + 1) (0, [7]) := h.2.1
theorem A2g_2 {kg : Nat → ob_K} {ng o : Nat} (h : A2g kg ng o) : ob_is kg ng (o + 2) (0, [7]) := h.2.2.1
theorem A2g_3 {kg : Nat → ob_K} {ng o : Nat} (h : A2g kg ng o) : ob_is kg ng (o + 3) (0, [7]) := h.2.2.2.1
theorem A2g_4 {kg : Nat → ob_K} {ng o : Nat} (h : A2g kg ng o) : ob_is kg ng (o + 4) (0, [7]) := h.2.2.2.2.1
theorem A2g_5 {kg : Nat → ob_K} {ng o : Nat} (h : A2g kg ng o) : ob_is kg ng (o + 5) (0, [7]) := h.2.2.2.2.2.1
theorem A2g_6 {kg : Nat → ob_K} {ng o : Nat} (h : A2g kg ng o) : ob_is kg ng (o + 6) (0, [7]) := h.2.2.2.2.2.2.1
theorem A2g_7 {kg : Nat → ob_K} {ng o : Nat} (h : A2g kg ng o) : ob_is kg ng (o + 7) (0, [49]) := h.2.2.2.2.2.2.2.1
theorem A2g_8 {kg : Nat → ob_K} {ng o : Nat} (h : A2g kg ng o) : ob_is kg ng (o + 8) (9, [o + 13, 0, o + 14]) := h.2.2.2.2.2.2.2.2.1
theorem A2g_9 {kg : Nat → ob_K} {ng o : Nat} (h : A2g kg ng o) : ob_is kg ng (o + 9) (0, [300]) := h.2.2.2.2.2.2.2.2.2.1
theorem A2g_10 {kg : Nat → ob_K} {ng o : Nat} (h : A2g kg ng o) : ob_is kg ng (o + 10) (0, [32]) := h.2.2.2.2.2.2.2.2.2.2.1
theorem A2g_11 {kg : Nat → ob_K} {ng o : Nat} (h : A2g kg ng o) : ob_is kg ng (o + 11) (9, [o + 16, 0, o + 17]) := h.2.2.2.2.2.2.2.2.2.2.2.1
theorem A2g_12 {kg : Nat → ob_K} {ng o : Nat} (h : A2g kg ng o) : ob_is kg ng (o + 12) (0, [300]) := h.2.2.2.2.2.2.2.2.2.2.2.2.1
theorem A2g_13 {kg : Nat → ob_K} {ng o : Nat} (h : A2g kg ng o) : ob_is kg ng (o + 13) (0, [32]) := h.2.2.2.2.2.2.2.2.2.2.2.2.2
def A4g (kg : Nat → ob_K) (ng : Nat) (o : Nat) : Prop := ob_is kg ng o (9, [o + 5, 0, o + 6]) ∧ ob_is kg ng (o + 1) (0, [300]) ∧ ob_is kg ng (o + 2) (0, [32])
theorem A4g_0 {kg : Nat → ob_K} {ng o : Nat} (h : A4g kg ng o) : ob_is kg ng o (9, [o + 5, 0, o + 6]) := h.1
theorem A4g_1 {kg : Nat → ob_K} {ng o : Nat} (h : A4g kg ng o) : ob_is kg ng (o + 1) (0, [300]) := h.2.1
theorem A4g_2 {kg : Nat → ob_K} {ng o : Nat} (h : A4g kg ng o) : ob_is kg ng (o + 2) (0, [32]) := h.2.2
def A6g (kg : Nat → ob_K) (ng : Nat) (o : Nat) : Prop := ob_is kg ng o (11, [o + 5, o + 6, o + 7, 0, 0, 0, 24, o + 8]) ∧ ob_is kg ng (o + 1) (0, [7]) ∧ ob_is kg ng (o + 2) (0, [7]) ∧ ob_is kg ng (o + 3) (0, [7]) ∧ ob_is kg ng (o + 4) (0, [6])
theorem A6g_0 {kg : Nat → ob_K} {ng o : Nat} (h : A6g kg ng o) : ob_is kg ng o (11, [o + 5, o + 6, o + 7, 0, 0, 0, 24, o + 8]) := h.1
theorem A6g_1 {kg : Nat → ob_K} {ng o : Nat} (h : A6g kg ng o) : ob_is kg ng (o + 1) (0, [7]) := h.2.1
theorem A6g_2 {kg : Nat → ob_K} {ng o : Nat} (h : A6g kg ng o) : ob_is kg ng (o + 2) (0, [7]) := h.2.2.1
theorem A6g_3 {kg : Nat → ob_K} {ng o : Nat} (h : A6g kg ng o) : ob_is kg ng (o + 3) (0, [7]) := h.2.2.2.1
theorem A6g_4 {kg : Nat → ob_K} {ng o : Nat} (h : A6g kg ng o) : ob_is kg ng (o + 4) (0, [6]) := h.2.2.2.2
theorem AS2g_8 {kg : Nat → ob_K} {ng o : Nat} (h : A2g kg ng o) : A4g kg ng (o + 8) := ⟨A2g_8 h, A2g_9 h, A2g_10 h⟩
theorem AS2g_11 {kg : Nat → ob_K} {ng o : Nat} (h : A2g kg ng o) : A4g kg ng (o + 11) := ⟨A2g_11 h, A2g_12 h, A2g_13 h⟩
theorem og_Vv {own : String} {cc : ByteArray} {nL : Nat} {R : Room} {ini : Bool} {sc : ob_Sc} {ce sl : Nat} {kg : Nat → ob_K} {ng : Nat} {h : ob_H} {pc : Nat} {lv : List (Nat × Value)} {st : List Value} {Q : ob_Q} {index maxL ci o N dq : Nat} {T : u_T} {codes : List Nat} {y : MethodName} {bytes : ByteArray} {st0 : List Value} {Q1 : ob_H → Prop} (As : List Value) (hM : ob_mi own index y bytes maxL none As.length) (w1 : Cond.instanceMethod y ∈ obWS) (w2 : Cond.selects y.cls y y ∈ obWS) (hcl : obCl[ci]? = some (y.cls, T, N)) (hk : ob_is kg ng o (ci + 5, codes)) (hT : ob_T y bytes maxL none (ob_rm dq) kg ng h (.ref o :: As) (ob_g none (ob_qvg kg ng Q1))) (hR1 : (ob_rm dq).frames + 1 ≤ R.frames ∧ 8 + (maxL + 11) + (ob_rm dq).locals ≤ R.locals) (hcs : ce ≤ R.cells ∧ sl ≤ R.slots) (hst0 : st0 = As.reverse ++ .ref o :: st) (hst : (st.map fun v => v.category).sum ≤ 8) (hdg : decode cc pc = .ok (.invokevirtual index, 3))
    (kk : ∀ (h' : ob_H), Q1 h' → ob_J own cc nL R ini sc ce sl kg ng h' (pc + 3) lv (st) Q) : ob_J own cc nL R ini sc ce sl kg ng h pc lv st0 Q := by
  refine oj_callV As hM w1 w2 hcl hk hT hR1 hcs hst0 hst hdg (fun r ks' n' h' hq => ?_)
  obtain ⟨f, rfl, rfl, rfl, q⟩ := hq
  exact kk _ q
set_option maxRecDepth 100000 in
set_option maxHeartbeats 4000000 in
theorem BG4_clear {kg : Nat → ob_K} {ng : Nat}  {o : Nat} (hA : A4g kg ng o) {h : ob_H} {Q : ob_H → Prop} (y : MX4_clear  o h Q) : ob_T yX4_clear cX4_clear 1 none (ob_rm 1) kg ng h [.ref o] (ob_g none (ob_qvg kg ng Q)) := by
  unfold MX4_clear at y
  refine ob_T_gf (by decide +kernel) (Nat.le_of_ble_eq_true rfl) ?_
  show ob_J RX4 cX4_clear 1 (ob_rm 1) false none 0 0 kg ng h 0 [(0, .ref o)] [] (ob_g none (ob_qvg kg ng Q))
  refine oj_aload_n 0 dX4_clear_0 rfl rfl ?_
  refine oj_iconst dX4_clear_1 ci_0 ?_
  refine oj_puti fl_RX4_13 (Or.inl rfl) (A4g_0 hA) rfl rfl rfl dX4_clear_2 ?_
  refine oj_toph (fun h1 eh1 => ?_)
  have y2 := Lt_at y h1 eh1
  exact oj_ret (r := none) ⟨trivial, rfl, rfl, rfl, y2⟩ dX4_clear_5 (Nat.zero_le _) (Nat.zero_le _)
set_option maxRecDepth 100000 in
set_option maxHeartbeats 4000000 in
theorem BG4_add {kg : Nat → ob_K} {ng : Nat}  {o : Nat} {p1 : Int32} (hA : A4g kg ng o) {h : ob_H} {Q : ob_H → Prop} (y : MX4_add  o p1 h Q) : ob_T yX4_add cX4_add 2 none (ob_rm 1) kg ng h [.ref o, .int p1] (ob_g none (ob_qvg kg ng Q)) := by
  unfold MX4_add at y
  refine ob_T_gf (by decide +kernel) (Nat.le_of_ble_eq_true rfl) ?_
  show ob_J RX4 cX4_add 2 (ob_rm 1) false none 0 0 kg ng h 0 [(0, .ref o), (1, .int p1)] [] (ob_g none (ob_qvg kg ng Q))
  refine oj_aload_n 0 dX4_add_0 rfl rfl ?_
  refine oj_geti fl_RX4_13 (A4g_0 hA) rfl dX4_add_1 ?_
  refine oj_sipush dX4_add_4 cs_300 ?_
  refine oj_icmp_ge 30 dX4_add_7 rfl (fun c1 => ?_) (fun c1 => ?_)
  · have y2 := y.1 c1
    exact oj_ret (r := none) ⟨trivial, rfl, rfl, rfl, y2⟩ dX4_add_30 (Nat.zero_le _) (Nat.zero_le _)
  · have y3 := y.2 c1
    refine oj_aload_n 0 dX4_add_10 rfl rfl ?_
    refine oj_getr (q := (o + 1)) fl_RX4_9 (A4g_0 hA) rfl (A4g_1 hA) dX4_add_11 ?_
    refine oj_aload_n 0 dX4_add_14 rfl rfl ?_
    refine oj_geti fl_RX4_13 (A4g_0 hA) rfl dX4_add_15 ?_
    refine oj_iload_n 1 dX4_add_18 rfl rfl ?_
    obtain ⟨c4, y5⟩ := y3
    refine oj_iast (A4g_1 hA) c4 rfl dX4_add_19 ?_
    refine oj_toph (fun h6 eh6 => ?_)
    have y7 := Lt_at y5 h6 eh6
    refine oj_aload_n 0 dX4_add_20 rfl rfl ?_
    refine oj_dup dX4_add_21 rfl ?_
    refine oj_geti fl_RX4_13 (A4g_0 hA) rfl dX4_add_22 ?_
    refine oj_iconst dX4_add_25 ci_1 ?_
    refine oj_iadd dX4_add_26 ?_
    refine oj_puti fl_RX4_13 (Or.inl rfl) (A4g_0 hA) rfl rfl rfl dX4_add_27 ?_
    refine oj_toph (fun h8 eh8 => ?_)
    have y9 := Lt_at y7 h8 eh8
    exact oj_ret (r := none) ⟨trivial, rfl, rfl, rfl, y9⟩ dX4_add_30 (Nat.zero_le _) (Nat.zero_le _)
set_option maxRecDepth 100000 in
set_option maxHeartbeats 4000000 in
theorem BLG2_clear_56 {kg : Nat → ob_K} {ng : Nat} {o : Nat} (hA : A2g kg ng o) {Q : ob_H → Prop} :
    ∀ (n : Nat) (x1 : Int32) (h : ob_H), it2 (FX2_clear_56 o Q) n x1 h → ob_J RX2 cX2_clear 2 (ob_rm 2) false none 0 0 kg ng h 56 [(0, .ref o), (1, .int x1)] [] (ob_g none (ob_qvg kg ng Q)) := by
  intro n
  induction n with
  | zero => intro x1 h y; exact False.elim y
  | succ n hk56 =>
    intro x1 h y
    have y : FX2_clear_56 o Q (it2 (FX2_clear_56 o Q) n) x1 h := y
    unfold FX2_clear_56 at y
    refine oj_iload_n 1 dX2_clear_56 rfl rfl ?_
    refine oj_bipush dX2_clear_57 cb_49 ?_
    refine oj_icmp_ge 75 dX2_clear_59 rfl (fun c14 => ?_) (fun c14 => ?_)
    · have y15 := y.1 c14
      refine oj_aload_n 0 dX2_clear_75 rfl rfl ?_
      refine oj_getr (q := (o + 8)) fl_RX2_50 (A2g_0 hA) rfl (A2g_8 hA) dX2_clear_76 ?_
      refine og_Vv [] mi_RX2_60 ow_158 ow_159 rfl (A2g_8 hA) (BG4_clear (AS2g_8 hA) y15) ⟨by decide, by decide⟩ ⟨Nat.le_refl _, Nat.le_refl _⟩ rfl (Nat.le_of_ble_eq_true rfl) dX2_clear_79 (fun h18 y20 => ?_)
      refine oj_aload_n 0 dX2_clear_82 rfl rfl ?_
      refine oj_getr (q := (o + 8)) fl_RX2_50 (A2g_0 hA) rfl (A2g_8 hA) dX2_clear_83 ?_
      refine oj_bipush dX2_clear_86 cb_m100 ?_
      refine og_Vv [.int (-100)] mi_RX2_63 ow_162 ow_163 rfl (A2g_8 hA) (BG4_add (AS2g_8 hA) y20) ⟨by decide, by decide⟩ ⟨Nat.le_refl _, Nat.le_refl _⟩ rfl (Nat.le_of_ble_eq_true rfl) dX2_clear_88 (fun h22 y24 => ?_)
      refine oj_aload_n 0 dX2_clear_91 rfl rfl ?_
      refine oj_getr (q := (o + 11)) fl_RX2_54 (A2g_0 hA) rfl (A2g_11 hA) dX2_clear_92 ?_
      refine og_Vv [] mi_RX2_60 ow_158 ow_159 rfl (A2g_11 hA) (BG4_clear (AS2g_11 hA) y24) ⟨by decide, by decide⟩ ⟨Nat.le_refl _, Nat.le_refl _⟩ rfl (Nat.le_of_ble_eq_true rfl) dX2_clear_95 (fun h26 y28 => ?_)
      refine oj_aload_n 0 dX2_clear_98 rfl rfl ?_
      refine oj_getr (q := (o + 11)) fl_RX2_54 (A2g_0 hA) rfl (A2g_11 hA) dX2_clear_99 ?_
      refine oj_bipush dX2_clear_102 cb_100 ?_
      refine og_Vv [.int (100)] mi_RX2_63 ow_162 ow_163 rfl (A2g_11 hA) (BG4_add (AS2g_11 hA) y28) ⟨by decide, by decide⟩ ⟨Nat.le_refl _, Nat.le_refl _⟩ rfl (Nat.le_of_ble_eq_true rfl) dX2_clear_104 (fun h30 y32 => ?_)
      exact oj_ret (r := none) ⟨trivial, rfl, rfl, rfl, y32⟩ dX2_clear_107 (Nat.zero_le _) (Nat.zero_le _)
    · have y16 := y.2 c14
      refine oj_aload_n 0 dX2_clear_62 rfl rfl ?_
      refine oj_getr (q := (o + 7)) fl_RX2_32 (A2g_0 hA) rfl (A2g_7 hA) dX2_clear_63 ?_
      refine oj_iload_n 1 dX2_clear_66 rfl rfl ?_
      refine oj_iconst dX2_clear_67 ci_0 ?_
      obtain ⟨c33, y34⟩ := y16
      refine oj_iast (A2g_7 hA) c33 rfl dX2_clear_68 ?_
      refine oj_toph (fun h35 eh35 => ?_)
      have y36 := Lt_at y34 h35 eh35
      obtain ⟨v37, ev37⟩ : ∃ z : Int32, z = x1 + (1) := ⟨_, rfl⟩
      have y38 := Lt_at y36 v37 ev37
      refine oj_iinc (v := v37) (lv' := [(1, .int v37), (0, .ref o)]) 1 dX2_clear_69 rfl (iinc_e ci_1 ev37) (by decide) rfl ?_
      refine oj_goto 56 dX2_clear_72 rfl ?_
      refine oj_lv [1, 0] rfl ?_
      exact hk56 _ _ y38
set_option maxRecDepth 100000 in
set_option maxHeartbeats 4000000 in
theorem BLG2_clear_28 {kg : Nat → ob_K} {ng : Nat} {o : Nat} (hA : A2g kg ng o) {Q : ob_H → Prop} :
    ∀ (n : Nat) (x1 : Int32) (h : ob_H), it2 (FX2_clear_28 o Q) n x1 h → ob_J RX2 cX2_clear 2 (ob_rm 2) false none 0 0 kg ng h 28 [(0, .ref o), (1, .int x1)] [] (ob_g none (ob_qvg kg ng Q)) := by
  intro n
  induction n with
  | zero => intro x1 h y; exact False.elim y
  | succ n hk28 =>
    intro x1 h y
    have y : FX2_clear_28 o Q (it2 (FX2_clear_28 o Q) n) x1 h := y
    unfold FX2_clear_28 at y
    refine oj_iload_n 1 dX2_clear_28 rfl rfl ?_
    refine oj_bipush dX2_clear_29 cb_7 ?_
    refine oj_icmp_ge 54 dX2_clear_31 rfl (fun c11 => ?_) (fun c11 => ?_)
    · have y12 := y.1 c11
      refine oj_iconst dX2_clear_54 ci_0 ?_
      refine oj_istore_n (lv' := [(1, .int (0)), (0, .ref o)]) dX2_clear_55 rfl (by decide) rfl ?_
      refine oj_lv [1, 0] rfl ?_
      obtain ⟨n, y39⟩ := y12
      exact BLG2_clear_56 hA n _ _ y39
    · have y13 := y.2 c11
      refine oj_aload_n 0 dX2_clear_34 rfl rfl ?_
      refine oj_getr (q := (o + 5)) fl_RX2_26 (A2g_0 hA) rfl (A2g_5 hA) dX2_clear_35 ?_
      refine oj_iload_n 1 dX2_clear_38 rfl rfl ?_
      refine oj_iconst dX2_clear_39 ci_0 ?_
      obtain ⟨c40, y41⟩ := y13
      refine oj_iast (A2g_5 hA) c40 rfl dX2_clear_40 ?_
      refine oj_toph (fun h42 eh42 => ?_)
      have y43 := Lt_at y41 h42 eh42
      refine oj_aload_n 0 dX2_clear_41 rfl rfl ?_
      refine oj_getr (q := (o + 6)) fl_RX2_29 (A2g_0 hA) rfl (A2g_6 hA) dX2_clear_42 ?_
      refine oj_iload_n 1 dX2_clear_45 rfl rfl ?_
      refine oj_iconst dX2_clear_46 ci_0 ?_
      refine oj_iast (A2g_6 hA) c40 rfl dX2_clear_47 ?_
      refine oj_toph (fun h44 eh44 => ?_)
      have y45 := Lt_at y43 h44 eh44
      obtain ⟨v46, ev46⟩ : ∃ z : Int32, z = x1 + (1) := ⟨_, rfl⟩
      have y47 := Lt_at y45 v46 ev46
      refine oj_iinc (v := v46) (lv' := [(1, .int v46), (0, .ref o)]) 1 dX2_clear_48 rfl (iinc_e ci_1 ev46) (by decide) rfl ?_
      refine oj_goto 28 dX2_clear_51 rfl ?_
      refine oj_lv [1, 0] rfl ?_
      exact hk28 _ _ y47
set_option maxRecDepth 100000 in
set_option maxHeartbeats 4000000 in
theorem BG2_clear {kg : Nat → ob_K} {ng : Nat}  {o : Nat} (hA : A2g kg ng o) {h : ob_H} {Q : ob_H → Prop} (y : MX2_clear  o h Q) : ob_T yX2_clear cX2_clear 2 none (ob_rm 2) kg ng h [.ref o] (ob_g none (ob_qvg kg ng Q)) := by
  unfold MX2_clear at y
  refine ob_T_gf (by decide +kernel) (Nat.le_of_ble_eq_true rfl) ?_
  show ob_J RX2 cX2_clear 2 (ob_rm 2) false none 0 0 kg ng h 0 [(0, .ref o)] [] (ob_g none (ob_qvg kg ng Q))
  refine oj_aload_n 0 dX2_clear_0 rfl rfl ?_
  refine oj_iconst dX2_clear_1 ci_0 ?_
  refine oj_puti fl_RX2_7 (Or.inl rfl) (A2g_0 hA) rfl rfl rfl dX2_clear_2 ?_
  refine oj_toph (fun h1 eh1 => ?_)
  have y2 := Lt_at y h1 eh1
  refine oj_aload_n 0 dX2_clear_5 rfl rfl ?_
  refine oj_iconst dX2_clear_6 ci_0 ?_
  refine oj_puti fl_RX2_35 (Or.inl rfl) (A2g_0 hA) rfl rfl rfl dX2_clear_7 ?_
  refine oj_toph (fun h3 eh3 => ?_)
  have y4 := Lt_at y2 h3 eh3
  refine oj_aload_n 0 dX2_clear_10 rfl rfl ?_
  refine oj_bipush dX2_clear_11 cb_100 ?_
  refine oj_puti fl_RX2_38 (Or.inl rfl) (A2g_0 hA) rfl rfl rfl dX2_clear_13 ?_
  refine oj_toph (fun h5 eh5 => ?_)
  have y6 := Lt_at y4 h5 eh5
  refine oj_aload_n 0 dX2_clear_16 rfl rfl ?_
  refine oj_iconst dX2_clear_17 ci_0 ?_
  refine oj_puti fl_RX2_41 (Or.inl rfl) (A2g_0 hA) rfl rfl rfl dX2_clear_18 ?_
  refine oj_toph (fun h7 eh7 => ?_)
  have y8 := Lt_at y6 h7 eh7
  refine oj_aload_n 0 dX2_clear_21 rfl rfl ?_
  refine oj_iconst dX2_clear_22 ci_0 ?_
  refine oj_puti fl_RX2_44 (Or.inl rfl) (A2g_0 hA) rfl rfl rfl dX2_clear_23 ?_
  refine oj_toph (fun h9 eh9 => ?_)
  have y10 := Lt_at y8 h9 eh9
  refine oj_iconst dX2_clear_26 ci_0 ?_
  refine oj_istore_n (lv' := [(1, .int (0)), (0, .ref o)]) dX2_clear_27 rfl (by decide) rfl ?_
  refine oj_lv [1, 0] rfl ?_
  obtain ⟨n, y48⟩ := y10
  exact BLG2_clear_28 hA n _ _ y48
set_option maxRecDepth 100000 in
set_option maxHeartbeats 4000000 in
theorem BG10_isLetter {kg : Nat → ob_K} {ng : Nat}  {p0 : Int32}  {h : ob_H} {Q : Int32 → Prop} (y : MX10_isLetter  p0 h Q) : ob_T yX10_isLetter cX10_isLetter 1 (some .boolean) (ob_rm 1) kg ng h [.int p0] (ob_g (some .boolean) (ob_pig kg ng h Q)) := by
  unfold MX10_isLetter at y
  refine ob_T_gf (by decide +kernel) (Nat.le_of_ble_eq_true rfl) ?_
  show ob_J RX10 cX10_isLetter 1 (ob_rm 1) false none 0 0 kg ng h 0 [(0, .int p0)] [] (ob_g (some .boolean) (ob_pig kg ng h Q))
  refine oj_iload_n 0 dX10_isLetter_0 rfl rfl ?_
  refine oj_bipush dX10_isLetter_1 cb_97 ?_
  refine oj_icmp_lt 16 dX10_isLetter_3 rfl (fun c1 => ?_) (fun c1 => ?_)
  · have y2 := y.1 c1
    refine oj_iconst dX10_isLetter_16 ci_0 ?_
    exact oj_ret (r := some (.int (0))) ⟨rfl, rfl, rfl, rfl, (0), rfl, y2⟩ dX10_isLetter_17 (Nat.zero_le _) (Nat.zero_le _)
  · have y3 := y.2 c1
    refine oj_iload_n 0 dX10_isLetter_6 rfl rfl ?_
    refine oj_bipush dX10_isLetter_7 cb_122 ?_
    refine oj_icmp_gt 16 dX10_isLetter_9 rfl (fun c4 => ?_) (fun c4 => ?_)
    · have y5 := y3.1 c4
      refine oj_iconst dX10_isLetter_16 ci_0 ?_
      exact oj_ret (r := some (.int (0))) ⟨rfl, rfl, rfl, rfl, (0), rfl, y5⟩ dX10_isLetter_17 (Nat.zero_le _) (Nat.zero_le _)
    · have y6 := y3.2 c4
      refine oj_iconst dX10_isLetter_12 ci_1 ?_
      refine oj_goto 17 dX10_isLetter_13 rfl ?_
      exact oj_ret (r := some (.int (1))) ⟨rfl, rfl, rfl, rfl, (1), rfl, y6⟩ dX10_isLetter_17 (Nat.zero_le _) (Nat.zero_le _)
set_option maxRecDepth 100000 in
set_option maxHeartbeats 4000000 in
theorem BLG6_begin_64 {kg : Nat → ob_K} {ng : Nat} {o : Nat} (hA : A6g kg ng o) (h20 : ob_is kg ng 20 (7, [0, 25, 26, 27, 28, 29, 30, 31, 0, 0, 0, 0, 32, 35])) {Q : ob_H → Prop} :
    ∀ (n : Nat) (x1 : Int32) (h : ob_H), it2 (FX6_begin_64 o Q) n x1 h → ob_J RX6 cX6_begin 2 (ob_rm 1) false none 0 0 kg ng h 64 [(0, .ref o), (1, .int x1)] [] (ob_g none (ob_qvg kg ng Q)) := by
  intro n
  induction n with
  | zero => intro x1 h y; exact False.elim y
  | succ n hk64 =>
    intro x1 h y
    have y : FX6_begin_64 o Q (it2 (FX6_begin_64 o Q) n) x1 h := y
    unfold FX6_begin_64 at y
    refine oj_iload_n 1 dX6_begin_64 rfl rfl ?_
    refine oj_bipush dX6_begin_65 cb_7 ?_
    refine oj_icmp_ge 90 dX6_begin_67 rfl (fun c8 => ?_) (fun c8 => ?_)
    · have y9 := y.1 c8
      refine oj_aload_n 0 dX6_begin_90 rfl rfl ?_
      refine oj_iconst dX6_begin_91 ci_0 ?_
      refine oj_puti fl_RX6_23 (Or.inl rfl) (A6g_0 hA) rfl rfl rfl dX6_begin_92 ?_
      refine oj_toph (fun h11 eh11 => ?_)
      have y12 := Lt_at y9 h11 eh11
      refine oj_aload_n 0 dX6_begin_95 rfl rfl ?_
      refine oj_iconst dX6_begin_96 ci_0 ?_
      refine oj_puti fl_RX6_27 (Or.inl rfl) (A6g_0 hA) rfl rfl rfl dX6_begin_97 ?_
      refine oj_toph (fun h13 eh13 => ?_)
      have y14 := Lt_at y12 h13 eh13
      refine oj_aload_n 0 dX6_begin_100 rfl rfl ?_
      refine oj_aload_n 0 dX6_begin_101 rfl rfl ?_
      refine oj_getr (q := 20) fl_RX6_38 (A6g_0 hA) rfl h20 dX6_begin_102 ?_
      refine oj_geti fl_RX6_48 h20 rfl dX6_begin_105 ?_
      refine oj_puti fl_RX6_30 (Or.inl rfl) (A6g_0 hA) rfl rfl rfl dX6_begin_108 ?_
      refine oj_toph (fun h15 eh15 => ?_)
      have y16 := Lt_at y14 h15 eh15
      exact oj_ret (r := none) ⟨trivial, rfl, rfl, rfl, y16⟩ dX6_begin_111 (Nat.zero_le _) (Nat.zero_le _)
    · have y10 := y.2 c8
      refine oj_aload_n 0 dX6_begin_70 rfl rfl ?_
      refine oj_getr (q := (o + 2)) fl_RX6_17 (A6g_0 hA) rfl (A6g_2 hA) dX6_begin_71 ?_
      refine oj_iload_n 1 dX6_begin_74 rfl rfl ?_
      refine oj_iload_n 1 dX6_begin_75 rfl rfl ?_
      obtain ⟨c17, y18⟩ := y10
      refine oj_iast (A6g_2 hA) c17 rfl dX6_begin_76 ?_
      refine oj_toph (fun h19 eh19 => ?_)
      have y20 := Lt_at y18 h19 eh19
      refine oj_aload_n 0 dX6_begin_77 rfl rfl ?_
      refine oj_getr (q := (o + 3)) fl_RX6_20 (A6g_0 hA) rfl (A6g_3 hA) dX6_begin_78 ?_
      refine oj_iload_n 1 dX6_begin_81 rfl rfl ?_
      refine oj_iconst dX6_begin_82 ci_0 ?_
      refine oj_iast (A6g_3 hA) c17 rfl dX6_begin_83 ?_
      refine oj_toph (fun h21 eh21 => ?_)
      have y22 := Lt_at y20 h21 eh21
      obtain ⟨v23, ev23⟩ : ∃ z : Int32, z = x1 + (1) := ⟨_, rfl⟩
      have y24 := Lt_at y22 v23 ev23
      refine oj_iinc (v := v23) (lv' := [(1, .int v23), (0, .ref o)]) 1 dX6_begin_84 rfl (iinc_e ci_1 ev23) (by decide) rfl ?_
      refine oj_goto 64 dX6_begin_87 rfl ?_
      refine oj_lv [1, 0] rfl ?_
      exact hk64 _ _ y24
set_option maxRecDepth 100000 in
set_option maxHeartbeats 4000000 in
theorem BLG6_begin_2 {kg : Nat → ob_K} {ng : Nat} {o : Nat} (hA : A6g kg ng o) (h20 : ob_is kg ng 20 (7, [0, 25, 26, 27, 28, 29, 30, 31, 0, 0, 0, 0, 32, 35])) {Q : ob_H → Prop} :
    ∀ (n : Nat) (x1 : Int32) (h : ob_H), it2 (FX6_begin_2 o Q) n x1 h → ob_J RX6 cX6_begin 2 (ob_rm 1) false none 0 0 kg ng h 2 [(0, .ref o), (1, .int x1)] [] (ob_g none (ob_qvg kg ng Q)) := by
  intro n
  induction n with
  | zero => intro x1 h y; exact False.elim y
  | succ n hk2 =>
    intro x1 h y
    have y : FX6_begin_2 o Q (it2 (FX6_begin_2 o Q) n) x1 h := y
    unfold FX6_begin_2 at y
    refine oj_iload_n 1 dX6_begin_2 rfl rfl ?_
    refine oj_bipush dX6_begin_3 cb_7 ?_
    refine oj_icmp_ge 21 dX6_begin_5 rfl (fun c1 => ?_) (fun c1 => ?_)
    · have y2 := y.1 c1
      refine oj_aload_n 0 dX6_begin_21 rfl rfl ?_
      refine oj_getr (q := (o + 1)) fl_RX6_13 (A6g_0 hA) rfl (A6g_1 hA) dX6_begin_22 ?_
      refine oj_bipush dX6_begin_25 cb_6 ?_
      refine oj_aload_n 0 dX6_begin_27 rfl rfl ?_
      refine oj_getr (q := 20) fl_RX6_38 (A6g_0 hA) rfl h20 dX6_begin_28 ?_
      refine oj_geti fl_RX6_42 h20 rfl dX6_begin_31 ?_
      refine oj_iast (A6g_1 hA) in_6_7 ix_6 dX6_begin_34 ?_
      refine oj_toph (fun h4 eh4 => ?_)
      have y5 := Lt_at y2 h4 eh4
      refine oj_aload_n 0 dX6_begin_35 rfl rfl ?_
      refine oj_getr (q := (o + 1)) fl_RX6_13 (A6g_0 hA) rfl (A6g_1 hA) dX6_begin_36 ?_
      refine oj_iconst dX6_begin_39 ci_0 ?_
      refine oj_iconst dX6_begin_40 ci_1 ?_
      refine oj_aload_n 0 dX6_begin_41 rfl rfl ?_
      refine oj_getr (q := 20) fl_RX6_38 (A6g_0 hA) rfl h20 dX6_begin_42 ?_
      refine oj_geti fl_RX6_45 h20 rfl dX6_begin_45 ?_
      refine oj_ishl dX6_begin_48 ?_
      refine oj_iconst dX6_begin_49 ci_1 ?_
      refine oj_isub dX6_begin_50 ?_
      refine oj_aload_n 0 dX6_begin_51 rfl rfl ?_
      refine oj_getr (q := 20) fl_RX6_38 (A6g_0 hA) rfl h20 dX6_begin_52 ?_
      refine oj_geti fl_RX6_42 h20 rfl dX6_begin_55 ?_
      refine oj_iconst dX6_begin_58 ci_m1 ?_
      refine oj_ixor dX6_begin_59 ?_
      refine oj_iand dX6_begin_60 ?_
      refine oj_iast (A6g_1 hA) in_0_7 ix_0 dX6_begin_61 ?_
      refine oj_toph (fun h6 eh6 => ?_)
      have y7 := Lt_at y5 h6 eh6
      refine oj_iconst dX6_begin_62 ci_0 ?_
      refine oj_istore_n (lv' := [(1, .int (0)), (0, .ref o)]) dX6_begin_63 rfl (by decide) rfl ?_
      refine oj_lv [1, 0] rfl ?_
      obtain ⟨n, y25⟩ := y7
      exact BLG6_begin_64 hA h20 n _ _ y25
    · have y3 := y.2 c1
      refine oj_aload_n 0 dX6_begin_8 rfl rfl ?_
      refine oj_getr (q := (o + 1)) fl_RX6_13 (A6g_0 hA) rfl (A6g_1 hA) dX6_begin_9 ?_
      refine oj_iload_n 1 dX6_begin_12 rfl rfl ?_
      refine oj_iconst dX6_begin_13 ci_0 ?_
      obtain ⟨c26, y27⟩ := y3
      refine oj_iast (A6g_1 hA) c26 rfl dX6_begin_14 ?_
      refine oj_toph (fun h28 eh28 => ?_)
      have y29 := Lt_at y27 h28 eh28
      obtain ⟨v30, ev30⟩ : ∃ z : Int32, z = x1 + (1) := ⟨_, rfl⟩
      have y31 := Lt_at y29 v30 ev30
      refine oj_iinc (v := v30) (lv' := [(1, .int v30), (0, .ref o)]) 1 dX6_begin_15 rfl (iinc_e ci_1 ev30) (by decide) rfl ?_
      refine oj_goto 2 dX6_begin_18 rfl ?_
      refine oj_lv [1, 0] rfl ?_
      exact hk2 _ _ y31
set_option maxRecDepth 100000 in
set_option maxHeartbeats 4000000 in
theorem BG6_begin {kg : Nat → ob_K} {ng : Nat}  {o : Nat} (hA : A6g kg ng o) (h20 : ob_is kg ng 20 (7, [0, 25, 26, 27, 28, 29, 30, 31, 0, 0, 0, 0, 32, 35])) {h : ob_H} {Q : ob_H → Prop} (y : MX6_begin  o h Q) : ob_T yX6_begin cX6_begin 2 none (ob_rm 1) kg ng h [.ref o] (ob_g none (ob_qvg kg ng Q)) := by
  unfold MX6_begin at y
  refine ob_T_gf (by decide +kernel) (Nat.le_of_ble_eq_true rfl) ?_
  show ob_J RX6 cX6_begin 2 (ob_rm 1) false none 0 0 kg ng h 0 [(0, .ref o)] [] (ob_g none (ob_qvg kg ng Q))
  refine oj_iconst dX6_begin_0 ci_0 ?_
  refine oj_istore_n (lv' := [(1, .int (0)), (0, .ref o)]) dX6_begin_1 rfl (by decide) rfl ?_
  refine oj_lv [1, 0] rfl ?_
  obtain ⟨n, y32⟩ := y
  exact BLG6_begin_2 hA h20 n _ _ y32
