-- X12_heardOnes
set_option maxRecDepth 100000 in
set_option maxHeartbeats 4000000 in
theorem BKX12_heardOnes_38 {x2 : Int32} {s0 : Int32} {s1 : Int32} {h : ob_H} {Q : Int32 → Prop} {k4 : Int32 → Int32 → Prop} (hk4 : ∀ (x1' : Int32) (x2' : Int32), k4 x1' x2' → ob_J RX12 cX12_heardOnes 3 (ob_rm 2) false none 0 0 KS NN h 4 [(0, .ref 108), (1, .int x1'), (2, .int x2')] [] (ob_g (some .int) (ob_pi h Q)))
    (y : KX12_heardOnes_38 x2 s0 s1 h Q k4) : ob_J RX12 cX12_heardOnes 3 (ob_rm 2) false none 0 0 KS NN h 38 [(0, .ref 108), (2, .int x2)] [.int s0, .int s1] (ob_g (some .int) (ob_pi h Q)) := by
  unfold KX12_heardOnes_38 at y
  refine oc_Spi [.int s0] mi_RX12_319 ow_1534 (BX12_truth  y) ⟨by decide, by decide⟩ ⟨Nat.le_refl _, Nat.le_refl _⟩ rfl (Nat.le_of_ble_eq_true rfl) dX12_heardOnes_38 (fun r9 f11 y12 => ?_)
  refine oj_iadd dX12_heardOnes_41 ?_
  refine oj_topi (fun v13 ev13 => ?_)
  have y14 := Lt_at y12 v13 ev13
  refine oj_istore_n (lv' := [(1, .int v13), (0, .ref 108), (2, .int x2)]) dX12_heardOnes_42 rfl (by decide) rfl ?_
  obtain ⟨v15, ev15⟩ : ∃ z : Int32, z = x2 + (1) := ⟨_, rfl⟩
  have y16 := Lt_at y14 v15 ev15
  refine oj_iinc (v := v15) (lv' := [(2, .int v15), (1, .int v13), (0, .ref 108)]) 2 dX12_heardOnes_43 rfl (iinc_e ci_1 ev15) (by decide) rfl ?_
  refine oj_goto 4 dX12_heardOnes_46 rfl ?_
  refine oj_lv [2, 1, 0] rfl ?_
  exact hk4 _ _ y16
set_option maxRecDepth 100000 in
set_option maxHeartbeats 4000000 in
theorem BLX12_heardOnes_4 {h : ob_H} {Q : Int32 → Prop} :
    ∀ (n : Nat) (x1 : Int32) (x2 : Int32), it2 (FX12_heardOnes_4 h Q) n x1 x2 → ob_J RX12 cX12_heardOnes 3 (ob_rm 2) false none 0 0 KS NN h 4 [(0, .ref 108), (1, .int x1), (2, .int x2)] [] (ob_g (some .int) (ob_pi h Q)) := by
  intro n
  induction n with
  | zero => intro x1 x2 y; exact False.elim y
  | succ n hk4 =>
    intro x1 x2 y
    have y : FX12_heardOnes_4 h Q (it2 (FX12_heardOnes_4 h Q) n) x1 x2 := y
    unfold FX12_heardOnes_4 at y
    refine oj_iload_n 2 dX12_heardOnes_4 rfl rfl ?_
    refine oj_aload_n 0 dX12_heardOnes_5 rfl rfl ?_
    refine oj_geti fl_RX12_323 k_108 rfl dX12_heardOnes_6 ?_
    refine oj_icmp_ge 49 dX12_heardOnes_9 rfl (fun c1 => ?_) (fun c1 => ?_)
    · have y2 := y.1 c1
      refine oj_iload_n 1 dX12_heardOnes_49 rfl rfl ?_
      exact oj_ret (r := some (.int x1)) ⟨trivial, rfl, rfl, rfl, x1, rfl, y2⟩ dX12_heardOnes_50 (Nat.zero_le _) (Nat.zero_le _)
    · have y3 := y.2 c1
      refine oj_iload_n 1 dX12_heardOnes_12 rfl rfl ?_
      refine oj_aload_n 0 dX12_heardOnes_13 rfl rfl ?_
      refine oj_getr (q := 136) fl_RX12_100 k_108 rfl k_136 dX12_heardOnes_14 ?_
      refine oj_iload_n 2 dX12_heardOnes_17 rfl rfl ?_
      obtain ⟨c4, y5⟩ := y3
      refine oj_iald k_136 c4 rfl dX12_heardOnes_18 ?_
      refine oj_iconst dX12_heardOnes_19 ci_1 ?_
      refine oj_icmp_eq 33 dX12_heardOnes_20 rfl (fun c6 => ?_) (fun c6 => ?_)
      · have y7 := y5.1 c6
        refine oj_iconst dX12_heardOnes_33 ci_1 ?_
        refine oj_goto 38 dX12_heardOnes_34 rfl ?_
        refine oj_lv [0, 2] rfl ?_
        exact BKX12_heardOnes_38 hk4 y7
      · have y8 := y5.2 c6
        refine oj_aload_n 0 dX12_heardOnes_23 rfl rfl ?_
        refine oj_getr (q := 136) fl_RX12_100 k_108 rfl k_136 dX12_heardOnes_24 ?_
        refine oj_iload_n 2 dX12_heardOnes_27 rfl rfl ?_
        refine oj_iald k_136 c4 rfl dX12_heardOnes_28 ?_
        refine oj_iconst dX12_heardOnes_29 ci_2 ?_
        refine oj_icmp_ne 37 dX12_heardOnes_30 rfl (fun c17 => ?_) (fun c17 => ?_)
        · have y18 := y8.2 c17
          refine oj_iconst dX12_heardOnes_37 ci_0 ?_
          refine oj_lv [0, 2] rfl ?_
          exact BKX12_heardOnes_38 hk4 y18
        · have y19 := y8.1 c17
          refine oj_iconst dX12_heardOnes_33 ci_1 ?_
          refine oj_goto 38 dX12_heardOnes_34 rfl ?_
          refine oj_lv [0, 2] rfl ?_
          exact BKX12_heardOnes_38 hk4 y19
set_option maxRecDepth 100000 in
set_option maxHeartbeats 4000000 in
theorem BX12_heardOnes    {h : ob_H} {Q : Int32 → Prop} (y : MX12_heardOnes   h Q) : ob_T yX12_heardOnes cX12_heardOnes 3 (some .int) (ob_rm 2) KS NN h [.ref 108] (ob_g (some .int) (ob_pi h Q)) := by
  unfold MX12_heardOnes at y
  refine ob_T_gf (by decide +kernel) (Nat.le_of_ble_eq_true rfl) ?_
  show ob_J RX12 cX12_heardOnes 3 (ob_rm 2) false none 0 0 KS NN h 0 [(0, .ref 108)] [] (ob_g (some .int) (ob_pi h Q))
  refine oj_iconst dX12_heardOnes_0 ci_0 ?_
  refine oj_istore_n (lv' := [(1, .int (0)), (0, .ref 108)]) dX12_heardOnes_1 rfl (by decide) rfl ?_
  refine oj_iconst dX12_heardOnes_2 ci_0 ?_
  refine oj_istore_n (lv' := [(2, .int (0)), (1, .int (0)), (0, .ref 108)]) dX12_heardOnes_3 rfl (by decide) rfl ?_
  refine oj_lv [2, 1, 0] rfl ?_
  obtain ⟨n, y20⟩ := y
  exact BLX12_heardOnes_4  n _ _ y20
-- X12_worked
set_option maxRecDepth 100000 in
set_option maxHeartbeats 4000000 in
theorem BKX12_worked_174 {x1 : Int32} {x5 : Int32} {x6 : Int32} {s0 : Int32} {s1 : Int32} {h : ob_H} {Q : Int32 → ob_H → Prop} {k98 : Int32 → Int32 → ob_H → Prop} (hk98 : ∀ (x5' : Int32) (x6' : Int32) (h' : ob_H), k98 x5' x6' h' → ob_J RX12 cX12_worked 7 (ob_rm 3) false none 0 0 KS NN h' 98 [(0, .ref 108), (1, .int x1), (5, .int x5'), (6, .int x6')] [] (ob_g (some .int) (ob_qi Q)))
    (y : KX12_worked_174 x1 x5 x6 s0 s1 h Q k98) : ob_J RX12 cX12_worked 7 (ob_rm 3) false none 0 0 KS NN h 174 [(0, .ref 108), (1, .int x1), (5, .int x5), (6, .int x6)] [.int s0, .int s1, .ref 118] (ob_g (some .int) (ob_qi Q)) := by
  unfold KX12_worked_174 at y
  obtain ⟨c44, y45⟩ := y
  refine oj_iast k_118 c44 rfl dX12_worked_174 ?_
  refine oj_toph (fun h46 eh46 => ?_)
  have y47 := Lt_at y45 h46 eh46
  obtain ⟨v48, ev48⟩ : ∃ z : Int32, z = x5 + (1) := ⟨_, rfl⟩
  have y49 := Lt_at y47 v48 ev48
  refine oj_iinc (v := v48) (lv' := [(5, .int v48), (0, .ref 108), (1, .int x1), (6, .int x6)]) 2 dX12_worked_175 rfl (iinc_e ci_1 ev48) (by decide) rfl ?_
  refine oj_goto 262 dX12_worked_178 rfl ?_
  obtain ⟨v50, ev50⟩ : ∃ z : Int32, z = x6 + (1) := ⟨_, rfl⟩
  have y51 := Lt_at y49 v50 ev50
  refine oj_iinc (v := v50) (lv' := [(6, .int v50), (5, .int v48), (0, .ref 108), (1, .int x1)]) 3 dX12_worked_262 rfl (iinc_e ci_1 ev50) (by decide) rfl ?_
  refine oj_goto 98 dX12_worked_265 rfl ?_
  refine oj_lv [2, 3, 1, 0] rfl ?_
  exact hk98 _ _ _ y51
set_option maxRecDepth 100000 in
set_option maxHeartbeats 4000000 in
theorem BKX12_worked_136 {x1 : Int32} {x5 : Int32} {x6 : Int32} {h : ob_H} {Q : Int32 → ob_H → Prop} {k98 : Int32 → Int32 → ob_H → Prop} (hk98 : ∀ (x5' : Int32) (x6' : Int32) (h' : ob_H), k98 x5' x6' h' → ob_J RX12 cX12_worked 7 (ob_rm 3) false none 0 0 KS NN h' 98 [(0, .ref 108), (1, .int x1), (5, .int x5'), (6, .int x6')] [] (ob_g (some .int) (ob_qi Q)))
    (y : KX12_worked_136 x1 x5 x6 h Q k98) : ob_J RX12 cX12_worked 7 (ob_rm 3) false none 0 0 KS NN h 136 [(0, .ref 108), (1, .int x1), (5, .int x5), (6, .int x6)] [] (ob_g (some .int) (ob_qi Q)) := by
  unfold KX12_worked_136 at y
  refine oj_aload_n 0 dX12_worked_136 rfl rfl ?_
  refine oj_getr (q := 118) fl_RX12_42 k_108 rfl k_118 dX12_worked_137 ?_
  refine oj_iload 2 dX12_worked_140 rfl ?_
  refine oj_aload_n 0 dX12_worked_142 rfl rfl ?_
  refine oj_getr (q := 114) fl_RX12_30 k_108 rfl k_114 dX12_worked_143 ?_
  refine oj_iload 3 dX12_worked_146 rfl ?_
  obtain ⟨c37, y38⟩ := y
  refine oj_iald k_114 c37 rfl dX12_worked_148 ?_
  refine oj_if_ne 162 dX12_worked_149 rfl (fun c39 => ?_) (fun c39 => ?_)
  · have y40 := y38.2 c39
    refine oj_aload_n 0 dX12_worked_162 rfl rfl ?_
    refine oj_getr (q := 120) fl_RX12_49 k_108 rfl k_120 dX12_worked_163 ?_
    refine oj_aload_n 0 dX12_worked_166 rfl rfl ?_
    refine oj_getr (q := 115) fl_RX12_33 k_108 rfl k_115 dX12_worked_167 ?_
    refine oj_iload 3 dX12_worked_170 rfl ?_
    refine oj_iald k_115 c37 rfl dX12_worked_172 ?_
    obtain ⟨c42, y43⟩ := y40
    refine oj_iald k_120 c42 rfl dX12_worked_173 ?_
    refine oj_lv [0, 1, 2, 3] rfl ?_
    exact BKX12_worked_174 hk98 y43
  · have y41 := y38.1 c39
    refine oj_aload_n 0 dX12_worked_152 rfl rfl ?_
    refine oj_getr (q := 115) fl_RX12_33 k_108 rfl k_115 dX12_worked_153 ?_
    refine oj_iload 3 dX12_worked_156 rfl ?_
    refine oj_iald k_115 c37 rfl dX12_worked_158 ?_
    refine oj_goto 174 dX12_worked_159 rfl ?_
    refine oj_lv [0, 1, 2, 3] rfl ?_
    exact BKX12_worked_174 hk98 y41
set_option maxRecDepth 100000 in
set_option maxHeartbeats 4000000 in
theorem BKX12_worked_217 {x1 : Int32} {x5 : Int32} {x6 : Int32} {s0 : Int32} {s1 : Int32} {h : ob_H} {Q : Int32 → ob_H → Prop} {k98 : Int32 → Int32 → ob_H → Prop} (hk98 : ∀ (x5' : Int32) (x6' : Int32) (h' : ob_H), k98 x5' x6' h' → ob_J RX12 cX12_worked 7 (ob_rm 3) false none 0 0 KS NN h' 98 [(0, .ref 108), (1, .int x1), (5, .int x5'), (6, .int x6')] [] (ob_g (some .int) (ob_qi Q)))
    (y : KX12_worked_217 x1 x5 x6 s0 s1 h Q k98) : ob_J RX12 cX12_worked 7 (ob_rm 3) false none 0 0 KS NN h 217 [(0, .ref 108), (1, .int x1), (5, .int x5), (6, .int x6)] [.int s0, .int s1, .ref 118] (ob_g (some .int) (ob_qi Q)) := by
  unfold KX12_worked_217 at y
  refine oc_Spi [.int s0] mi_RX12_319 ow_1534 (BX12_truth  y) ⟨by decide, by decide⟩ ⟨Nat.le_refl _, Nat.le_refl _⟩ rfl (Nat.le_of_ble_eq_true rfl) dX12_worked_217 (fun r77 f79 y80 => ?_)
  obtain ⟨c81, y82⟩ := y80
  refine oj_iast k_118 c81 rfl dX12_worked_220 ?_
  refine oj_toph (fun h83 eh83 => ?_)
  have y84 := Lt_at y82 h83 eh83
  refine oj_goto 262 dX12_worked_221 rfl ?_
  obtain ⟨v85, ev85⟩ : ∃ z : Int32, z = x6 + (1) := ⟨_, rfl⟩
  have y86 := Lt_at y84 v85 ev85
  refine oj_iinc (v := v85) (lv' := [(6, .int v85), (0, .ref 108), (1, .int x1), (5, .int x5)]) 3 dX12_worked_262 rfl (iinc_e ci_1 ev85) (by decide) rfl ?_
  refine oj_goto 98 dX12_worked_265 rfl ?_
  refine oj_lv [1, 2, 3, 0] rfl ?_
  exact hk98 _ _ _ y86
set_option maxRecDepth 100000 in
set_option maxHeartbeats 4000000 in
theorem BLX12_worked_98 {x1 : Int32} {Q : Int32 → ob_H → Prop} :
    ∀ (n : Nat) (x5 : Int32) (x6 : Int32) (h : ob_H), it3 (FX12_worked_98 x1 Q) n x5 x6 h → ob_J RX12 cX12_worked 7 (ob_rm 3) false none 0 0 KS NN h 98 [(0, .ref 108), (1, .int x1), (5, .int x5), (6, .int x6)] [] (ob_g (some .int) (ob_qi Q)) := by
  intro n
  induction n with
  | zero => intro x5 x6 h y; exact False.elim y
  | succ n hk98 =>
    intro x5 x6 h y
    have y : FX12_worked_98 x1 Q (it3 (FX12_worked_98 x1 Q) n) x5 x6 h := y
    unfold FX12_worked_98 at y
    refine oj_iload 3 dX12_worked_98 rfl ?_
    refine oj_sipush dX12_worked_100 cs_320 ?_
    refine oj_iload_n 1 dX12_worked_103 rfl rfl ?_
    refine oj_imul dX12_worked_104 ?_
    refine oj_aload_n 0 dX12_worked_105 rfl rfl ?_
    refine oj_getr (q := 116) fl_RX12_36 k_108 rfl k_116 dX12_worked_106 ?_
    refine oj_iload_n 1 dX12_worked_109 rfl rfl ?_
    obtain ⟨c27, y28⟩ := y
    refine oj_iald k_116 c27 rfl dX12_worked_110 ?_
    refine oj_iadd dX12_worked_111 ?_
    refine oj_icmp_ge 268 dX12_worked_112 rfl (fun c29 => ?_) (fun c29 => ?_)
    · have y30 := y28.1 c29
      refine oj_aload_n 0 dX12_worked_268 rfl rfl ?_
      refine oj_getr (q := 118) fl_RX12_42 k_108 rfl k_118 dX12_worked_269 ?_
      refine oj_iconst dX12_worked_272 ci_0 ?_
      refine oj_iald k_118 in_0_64 ix_0 dX12_worked_273 ?_
      exact oj_ret (r := some (.int (h.1 118 0))) ⟨trivial, rfl, rfl, (h.1 118 0), rfl, y30⟩ dX12_worked_274 (Nat.zero_le _) (Nat.zero_le _)
    · have y31 := y28.2 c29
      refine oj_aload_n 0 dX12_worked_115 rfl rfl ?_
      refine oj_getr (q := 114) fl_RX12_30 k_108 rfl k_114 dX12_worked_116 ?_
      refine oj_iload 3 dX12_worked_119 rfl ?_
      obtain ⟨c32, y33⟩ := y31
      refine oj_iald k_114 c32 rfl dX12_worked_121 ?_
      refine oj_if_eq 136 dX12_worked_122 rfl (fun c34 => ?_) (fun c34 => ?_)
      · have y35 := y33.1 c34
        refine oj_lv [0, 1, 2, 3] rfl ?_
        exact BKX12_worked_136 hk98 y35
      · have y36 := y33.2 c34
        refine oj_aload_n 0 dX12_worked_125 rfl rfl ?_
        refine oj_getr (q := 114) fl_RX12_30 k_108 rfl k_114 dX12_worked_126 ?_
        refine oj_iload 3 dX12_worked_129 rfl ?_
        refine oj_iald k_114 c32 rfl dX12_worked_131 ?_
        refine oj_iconst dX12_worked_132 ci_1 ?_
        refine oj_icmp_ne 181 dX12_worked_133 rfl (fun c52 => ?_) (fun c52 => ?_)
        · have y53 := y36.2 c52
          refine oj_aload_n 0 dX12_worked_181 rfl rfl ?_
          refine oj_getr (q := 114) fl_RX12_30 k_108 rfl k_114 dX12_worked_182 ?_
          refine oj_iload 3 dX12_worked_185 rfl ?_
          refine oj_iald k_114 c32 rfl dX12_worked_187 ?_
          refine oj_iconst dX12_worked_188 ci_2 ?_
          refine oj_icmp_ne 224 dX12_worked_189 rfl (fun c55 => ?_) (fun c55 => ?_)
          · have y56 := y53.2 c55
            obtain ⟨v58, ev58⟩ : ∃ z : Int32, z = x5 + (-1) := ⟨_, rfl⟩
            have y59 := Lt_at y56 v58 ev58
            refine oj_iinc (v := v58) (lv' := [(5, .int v58), (0, .ref 108), (1, .int x1), (6, .int x6)]) 2 dX12_worked_224 rfl (iinc_e ci_m1 ev58) (by decide) rfl ?_
            refine oj_aload_n 1 dX12_worked_227 rfl rfl ?_
            refine oj_getr (q := 118) fl_RX12_42 k_108 rfl k_118 dX12_worked_228 ?_
            refine oj_iload 0 dX12_worked_231 rfl ?_
            refine oj_iconst dX12_worked_233 ci_1 ?_
            refine oj_isub dX12_worked_234 ?_
            refine oj_aload_n 1 dX12_worked_235 rfl rfl ?_
            refine oj_getr (q := 115) fl_RX12_33 k_108 rfl k_115 dX12_worked_236 ?_
            refine oj_iload 3 dX12_worked_239 rfl ?_
            refine oj_iald k_115 c32 rfl dX12_worked_241 ?_
            refine oj_aload_n 1 dX12_worked_242 rfl rfl ?_
            refine oj_getr (q := 118) fl_RX12_42 k_108 rfl k_118 dX12_worked_243 ?_
            refine oj_iload 0 dX12_worked_246 rfl ?_
            refine oj_iconst dX12_worked_248 ci_1 ?_
            refine oj_isub dX12_worked_249 ?_
            obtain ⟨c60, y61⟩ := y59
            refine oj_iald k_118 c60 rfl dX12_worked_250 ?_
            refine oj_aload_n 1 dX12_worked_251 rfl rfl ?_
            refine oj_getr (q := 118) fl_RX12_42 k_108 rfl k_118 dX12_worked_252 ?_
            refine oj_iload 0 dX12_worked_255 rfl ?_
            obtain ⟨c62, y63⟩ := y61
            refine oj_iald k_118 c62 rfl dX12_worked_257 ?_
            refine oc_Spi [.int (h.1 115 (ix x6)), .int (h.1 118 (ix (v58 - (1)))), .int (h.1 118 (ix v58))] mi_RX12_329 ow_1659 (BX12_done  y63) ⟨by decide, by decide⟩ ⟨Nat.le_refl _, Nat.le_refl _⟩ rfl (Nat.le_of_ble_eq_true rfl) dX12_worked_258 (fun r64 f66 y67 => ?_)
            refine oj_iast k_118 c60 rfl dX12_worked_261 ?_
            refine oj_toph (fun h68 eh68 => ?_)
            have y69 := Lt_at y67 h68 eh68
            obtain ⟨v70, ev70⟩ : ∃ z : Int32, z = x6 + (1) := ⟨_, rfl⟩
            have y71 := Lt_at y69 v70 ev70
            refine oj_iinc (v := v70) (lv' := [(6, .int v70), (5, .int v58), (0, .ref 108), (1, .int x1)]) 3 dX12_worked_262 rfl (iinc_e ci_1 ev70) (by decide) rfl ?_
            refine oj_goto 98 dX12_worked_265 rfl ?_
            refine oj_lv [2, 3, 1, 0] rfl ?_
            exact hk98 _ _ _ y71
          · have y57 := y53.1 c55
            refine oj_aload_n 0 dX12_worked_192 rfl rfl ?_
            refine oj_getr (q := 118) fl_RX12_42 k_108 rfl k_118 dX12_worked_193 ?_
            refine oj_iload 2 dX12_worked_196 rfl ?_
            refine oj_iconst dX12_worked_198 ci_1 ?_
            refine oj_isub dX12_worked_199 ?_
            refine oj_aload_n 0 dX12_worked_200 rfl rfl ?_
            refine oj_getr (q := 118) fl_RX12_42 k_108 rfl k_118 dX12_worked_201 ?_
            refine oj_iload 2 dX12_worked_204 rfl ?_
            refine oj_iconst dX12_worked_206 ci_1 ?_
            refine oj_isub dX12_worked_207 ?_
            obtain ⟨c72, y73⟩ := y57
            refine oj_iald k_118 c72 rfl dX12_worked_208 ?_
            refine oj_if_ne 216 dX12_worked_209 rfl (fun c74 => ?_) (fun c74 => ?_)
            · have y75 := y73.2 c74
              refine oj_iconst dX12_worked_216 ci_0 ?_
              refine oj_lv [0, 1, 2, 3] rfl ?_
              exact BKX12_worked_217 hk98 y75
            · have y76 := y73.1 c74
              refine oj_iconst dX12_worked_212 ci_1 ?_
              refine oj_goto 217 dX12_worked_213 rfl ?_
              refine oj_lv [0, 1, 2, 3] rfl ?_
              exact BKX12_worked_217 hk98 y76
        · have y54 := y36.1 c52
          refine oj_lv [0, 1, 2, 3] rfl ?_
          exact BKX12_worked_136 hk98 y54
set_option maxRecDepth 100000 in
set_option maxHeartbeats 4000000 in
theorem BX12_worked  {p1 : Int32} {p2 : Int32} {p3 : Int32} {p4 : Int32}  {h : ob_H} {Q : Int32 → ob_H → Prop} (y : MX12_worked  p1 p2 p3 p4 h Q) : ob_T yX12_worked cX12_worked 7 (some .int) (ob_rm 3) KS NN h [.ref 108, .int p1, .int p2, .int p3, .int p4] (ob_g (some .int) (ob_qi Q)) := by
  unfold MX12_worked at y
  refine ob_T_gf (by decide +kernel) (Nat.le_of_ble_eq_true rfl) ?_
  show ob_J RX12 cX12_worked 7 (ob_rm 3) false none 0 0 KS NN h 0 [(0, .ref 108), (1, .int p1), (2, .int p2), (3, .int p3), (4, .int p4)] [] (ob_g (some .int) (ob_qi Q))
  refine oj_aload_n 0 dX12_worked_0 rfl rfl ?_
  refine oj_getr (q := 120) fl_RX12_49 k_108 rfl k_120 dX12_worked_1 ?_
  refine oj_iconst dX12_worked_4 ci_0 ?_
  refine oj_iload_n 3 dX12_worked_5 rfl rfl ?_
  refine oj_iast k_120 in_0_6 ix_0 dX12_worked_6 ?_
  refine oj_toph (fun h1 eh1 => ?_)
  have y2 := Lt_at y h1 eh1
  refine oj_aload_n 0 dX12_worked_7 rfl rfl ?_
  refine oj_getr (q := 120) fl_RX12_49 k_108 rfl k_120 dX12_worked_8 ?_
  refine oj_iconst dX12_worked_11 ci_1 ?_
  refine oj_aload_n 0 dX12_worked_12 rfl rfl ?_
  refine oj_getr (q := 129) fl_RX12_76 k_108 rfl k_129 dX12_worked_13 ?_
  refine oj_iload_n 2 dX12_worked_16 rfl rfl ?_
  obtain ⟨c3, y4⟩ := y2
  refine oj_iald k_129 c3 rfl dX12_worked_17 ?_
  refine oj_iast k_120 in_1_6 ix_1 dX12_worked_18 ?_
  refine oj_toph (fun h5 eh5 => ?_)
  have y6 := Lt_at y4 h5 eh5
  refine oj_aload_n 0 dX12_worked_19 rfl rfl ?_
  refine oj_getr (q := 120) fl_RX12_49 k_108 rfl k_120 dX12_worked_20 ?_
  refine oj_iconst dX12_worked_23 ci_2 ?_
  refine oj_aload_n 0 dX12_worked_24 rfl rfl ?_
  refine oj_getr (q := 136) fl_RX12_100 k_108 rfl k_136 dX12_worked_25 ?_
  refine oj_bipush dX12_worked_28 cb_21 ?_
  refine oj_iald k_136 in_21_24 ix_21 dX12_worked_30 ?_
  refine oj_aload_n 0 dX12_worked_31 rfl rfl ?_
  refine oj_getr (q := 136) fl_RX12_100 k_108 rfl k_136 dX12_worked_32 ?_
  refine oj_bipush dX12_worked_35 cb_7 ?_
  refine oj_iload_n 2 dX12_worked_37 rfl rfl ?_
  refine oj_iadd dX12_worked_38 ?_
  obtain ⟨c7, y8⟩ := y6
  refine oj_iald k_136 c7 rfl dX12_worked_39 ?_
  refine oj_isub dX12_worked_40 ?_
  refine oj_iast k_120 in_2_6 ix_2 dX12_worked_41 ?_
  refine oj_toph (fun h9 eh9 => ?_)
  have y10 := Lt_at y8 h9 eh9
  refine oj_aload_n 0 dX12_worked_42 rfl rfl ?_
  refine oj_getr (q := 120) fl_RX12_49 k_108 rfl k_120 dX12_worked_43 ?_
  refine oj_iconst dX12_worked_46 ci_3 ?_
  refine oj_aload_n 0 dX12_worked_47 rfl rfl ?_
  refine oj_getr (q := 136) fl_RX12_100 k_108 rfl k_136 dX12_worked_48 ?_
  refine oj_bipush dX12_worked_51 cb_14 ?_
  refine oj_iload_n 2 dX12_worked_53 rfl rfl ?_
  refine oj_iadd dX12_worked_54 ?_
  obtain ⟨c11, y12⟩ := y10
  refine oj_iald k_136 c11 rfl dX12_worked_55 ?_
  refine oj_iast k_120 in_3_6 ix_3 dX12_worked_56 ?_
  refine oj_toph (fun h13 eh13 => ?_)
  have y14 := Lt_at y12 h13 eh13
  refine oj_aload_n 0 dX12_worked_57 rfl rfl ?_
  refine oj_getr (q := 120) fl_RX12_49 k_108 rfl k_120 dX12_worked_58 ?_
  refine oj_iconst dX12_worked_61 ci_4 ?_
  refine oj_aload_n 0 dX12_worked_62 rfl rfl ?_
  refine oc_Vpi [] mi_RX12_326 ow_1656 op_78 rfl k_108 (BX12_heardOnes  y14) ⟨by decide, by decide⟩ ⟨Nat.le_refl _, Nat.le_refl _⟩ rfl (Nat.le_of_ble_eq_true rfl) dX12_worked_63 (fun r15 f17 y18 => ?_)
  refine oj_iast k_120 in_4_6 ix_4 dX12_worked_66 ?_
  refine oj_toph (fun h19 eh19 => ?_)
  have y20 := Lt_at y18 h19 eh19
  refine oj_aload_n 0 dX12_worked_67 rfl rfl ?_
  refine oj_getr (q := 120) fl_RX12_49 k_108 rfl k_120 dX12_worked_68 ?_
  refine oj_iconst dX12_worked_71 ci_5 ?_
  refine oj_aload_n 0 dX12_worked_72 rfl rfl ?_
  refine oj_getr (q := 136) fl_RX12_100 k_108 rfl k_136 dX12_worked_73 ?_
  refine oj_bipush dX12_worked_76 cb_21 ?_
  refine oj_iald k_136 in_21_24 ix_21 dX12_worked_78 ?_
  refine oj_iast k_120 in_5_6 ix_5 dX12_worked_79 ?_
  refine oj_toph (fun h21 eh21 => ?_)
  have y22 := Lt_at y20 h21 eh21
  refine oj_iconst dX12_worked_80 ci_0 ?_
  refine oj_istore (lv' := [(5, .int (0)), (0, .ref 108), (1, .int p1), (2, .int p2), (3, .int p3), (4, .int p4)]) dX12_worked_81 (by decide) rfl ?_
  refine oj_aload_n 1 dX12_worked_83 rfl rfl ?_
  refine oj_getr (q := 118) fl_RX12_42 k_108 rfl k_118 dX12_worked_84 ?_
  refine oj_iconst dX12_worked_87 ci_0 ?_
  refine oj_iload 5 dX12_worked_88 rfl ?_
  refine oj_iast k_118 in_0_64 ix_0 dX12_worked_90 ?_
  refine oj_toph (fun h23 eh23 => ?_)
  have y24 := Lt_at y22 h23 eh23
  refine oj_sipush dX12_worked_91 cs_320 ?_
  refine oj_iload_n 2 dX12_worked_94 rfl rfl ?_
  refine oj_imul dX12_worked_95 ?_
  refine oj_topi (fun v25 ev25 => ?_)
  have y26 := Lt_at y24 v25 ev25
  refine oj_istore (lv' := [(6, .int v25), (5, .int (0)), (0, .ref 108), (1, .int p1), (2, .int p2), (3, .int p3), (4, .int p4)]) dX12_worked_96 (by decide) rfl ?_
  refine oj_lv [2, 3, 1, 0] rfl ?_
  obtain ⟨n, y87⟩ := y26
  exact BLX12_worked_98  n _ _ _ y87
-- X12_readObjector
set_option maxRecDepth 100000 in
set_option maxHeartbeats 4000000 in
theorem BLX12_readObjector_162 {x1 : Int32} {Q : ob_H → Prop} :
    ∀ (n : Nat) (x2 : Int32) (h : ob_H), it2 (FX12_readObjector_162 x1 Q) n x2 h → ob_J RX12 cX12_readObjector 3 (ob_rm 6) false none 0 0 KS NN h 162 [(0, .ref 108), (1, .int x1), (2, .int x2)] [] (ob_g none (ob_qv Q)) := by
  intro n
  induction n with
  | zero => intro x2 h y; exact False.elim y
  | succ n hk162 =>
    intro x2 h y
    have y : FX12_readObjector_162 x1 Q (it2 (FX12_readObjector_162 x1 Q) n) x2 h := y
    unfold FX12_readObjector_162 at y
    refine oj_iload_n 2 dX12_readObjector_162 rfl rfl ?_
    refine oj_bipush dX12_readObjector_163 cb_7 ?_
    refine oj_icmp_ge 198 dX12_readObjector_165 rfl (fun c70 => ?_) (fun c70 => ?_)
    · have y71 := y.1 c70
      refine oj_aload_n 0 dX12_readObjector_198 rfl rfl ?_
      refine oj_geti fl_RX12_188 k_108 rfl dX12_readObjector_199 ?_
      refine oj_if_ne 215 dX12_readObjector_202 rfl (fun c73 => ?_) (fun c73 => ?_)
      · have y74 := y71.2 c73
        exact oj_ret (r := none) ⟨trivial, rfl, rfl, rfl, y74⟩ dX12_readObjector_215 (Nat.zero_le _) (Nat.zero_le _)
      · have y75 := y71.1 c73
        refine oj_aload_n 0 dX12_readObjector_205 rfl rfl ?_
        refine oj_dup dX12_readObjector_206 rfl ?_
        refine oj_geti fl_RX12_257 k_108 rfl dX12_readObjector_207 ?_
        refine oj_iconst dX12_readObjector_210 ci_1 ?_
        refine oj_iadd dX12_readObjector_211 ?_
        refine oj_puti fl_RX12_257 (Or.inl rfl) k_108 rfl rfl rfl dX12_readObjector_212 ?_
        refine oj_toph (fun h76 eh76 => ?_)
        have y77 := Lt_at y75 h76 eh76
        exact oj_ret (r := none) ⟨trivial, rfl, rfl, rfl, y77⟩ dX12_readObjector_215 (Nat.zero_le _) (Nat.zero_le _)
    · have y72 := y.2 c70
      refine oj_aload_n 0 dX12_readObjector_168 rfl rfl ?_
      refine oj_getr (q := 127) fl_RX12_70 k_108 rfl k_127 dX12_readObjector_169 ?_
      refine oj_bipush dX12_readObjector_172 cb_7 ?_
      refine oj_iload_n 1 dX12_readObjector_174 rfl rfl ?_
      refine oj_imul dX12_readObjector_175 ?_
      refine oj_iload_n 2 dX12_readObjector_176 rfl rfl ?_
      refine oj_iadd dX12_readObjector_177 ?_
      refine oj_iconst dX12_readObjector_178 ci_0 ?_
      obtain ⟨c78, y79⟩ := y72
      refine oj_iast k_127 c78 rfl dX12_readObjector_179 ?_
      refine oj_toph (fun h80 eh80 => ?_)
      have y81 := Lt_at y79 h80 eh80
      refine oj_aload_n 0 dX12_readObjector_180 rfl rfl ?_
      refine oj_getr (q := 127) fl_RX12_70 k_108 rfl k_127 dX12_readObjector_181 ?_
      refine oj_bipush dX12_readObjector_184 cb_7 ?_
      refine oj_iload_n 2 dX12_readObjector_186 rfl rfl ?_
      refine oj_imul dX12_readObjector_187 ?_
      refine oj_iload_n 1 dX12_readObjector_188 rfl rfl ?_
      refine oj_iadd dX12_readObjector_189 ?_
      refine oj_iconst dX12_readObjector_190 ci_0 ?_
      obtain ⟨c82, y83⟩ := y81
      refine oj_iast k_127 c82 rfl dX12_readObjector_191 ?_
      refine oj_toph (fun h84 eh84 => ?_)
      have y85 := Lt_at y83 h84 eh84
      obtain ⟨v86, ev86⟩ : ∃ z : Int32, z = x2 + (1) := ⟨_, rfl⟩
      have y87 := Lt_at y85 v86 ev86
      refine oj_iinc (v := v86) (lv' := [(2, .int v86), (0, .ref 108), (1, .int x1)]) 2 dX12_readObjector_192 rfl (iinc_e ci_1 ev86) (by decide) rfl ?_
      refine oj_goto 162 dX12_readObjector_195 rfl ?_
      refine oj_lv [1, 2, 0] rfl ?_
      exact hk162 _ _ y87
set_option maxRecDepth 100000 in
set_option maxHeartbeats 4000000 in
theorem BKX12_readObjector_31 {h : ob_H} {Q : ob_H → Prop}
    (y : KX12_readObjector_31 h Q) : ob_J RX12 cX12_readObjector 3 (ob_rm 6) false none 0 0 KS NN h 31 [(0, .ref 108)] [] (ob_g none (ob_qv Q)) := by
  unfold KX12_readObjector_31 at y
  refine oj_aload_n 0 dX12_readObjector_31 rfl rfl ?_
  refine oj_geti fl_RX12_188 k_108 rfl dX12_readObjector_32 ?_
  refine oj_if_le 39 dX12_readObjector_35 rfl (fun c19 => ?_) (fun c19 => ?_)
  · have y20 := y.1 c19
    refine oj_aload_n 0 dX12_readObjector_39 rfl rfl ?_
    refine oj_geti fl_RX12_257 k_108 rfl dX12_readObjector_40 ?_
    refine oj_topi (fun v22 ev22 => ?_)
    have y23 := Lt_at y20 v22 ev22
    refine oj_istore_n (lv' := [(1, .int v22), (0, .ref 108)]) dX12_readObjector_43 rfl (by decide) rfl ?_
    refine oj_aload_n 1 dX12_readObjector_44 rfl rfl ?_
    refine oj_getr (q := 110) fl_RX12_17 k_108 rfl k_110 dX12_readObjector_45 ?_
    refine oj_iload_n 0 dX12_readObjector_48 rfl rfl ?_
    refine oj_aload_n 1 dX12_readObjector_49 rfl rfl ?_
    refine oj_getl fl_RX12_168 k_108 rfl dX12_readObjector_50 ?_
    obtain ⟨c24, y25⟩ := y23
    refine oj_last k_110 c24 rfl dX12_readObjector_53 ?_
    refine oj_toph (fun h26 eh26 => ?_)
    have y27 := Lt_at y25 h26 eh26
    refine oj_aload_n 1 dX12_readObjector_54 rfl rfl ?_
    refine oc_Vv [] mi_RX12_242 ow_1450 op_39 rfl k_108 (BX12_token  y27) ⟨by decide, by decide⟩ ⟨Nat.le_refl _, Nat.le_refl _⟩ rfl (Nat.le_of_ble_eq_true rfl) dX12_readObjector_55 (fun h29 y31 => ?_)
    refine oj_aload_n 1 dX12_readObjector_58 rfl rfl ?_
    refine oj_getr (q := 121) fl_RX12_52 k_108 rfl k_121 dX12_readObjector_59 ?_
    refine oj_iload_n 0 dX12_readObjector_62 rfl rfl ?_
    refine oj_aload_n 1 dX12_readObjector_63 rfl rfl ?_
    refine oj_ldc2 ow_1486 dX12_readObjector_64 ?_
    refine oj_iconst dX12_readObjector_67 ci_0 ?_
    refine oj_bipush dX12_readObjector_68 cb_99 ?_
    refine oc_Vi [.long (444300621413), .int (0), .int (99)] mi_RX12_253 ow_1515 op_48 rfl k_108 (BX12_told  y31) ⟨by decide, by decide⟩ ⟨Nat.le_refl _, Nat.le_refl _⟩ rfl (Nat.le_of_ble_eq_true rfl) dX12_readObjector_70 (fun r32 f34 h33 y35 => ?_)
    refine oj_iast k_121 c24 rfl dX12_readObjector_73 ?_
    refine oj_toph (fun h36 eh36 => ?_)
    have y37 := Lt_at y35 h36 eh36
    refine oj_aload_n 1 dX12_readObjector_74 rfl rfl ?_
    refine oj_getr (q := 122) fl_RX12_55 k_108 rfl k_122 dX12_readObjector_75 ?_
    refine oj_iload_n 0 dX12_readObjector_78 rfl rfl ?_
    refine oj_aload_n 1 dX12_readObjector_79 rfl rfl ?_
    refine oj_ldc2 ow_1487 dX12_readObjector_80 ?_
    refine oj_iconst dX12_readObjector_83 ci_1 ?_
    refine oj_bipush dX12_readObjector_84 cb_60 ?_
    refine oc_Vi [.long (30796695599342963), .int (1), .int (60)] mi_RX12_253 ow_1515 op_48 rfl k_108 (BX12_told  y37) ⟨by decide, by decide⟩ ⟨Nat.le_refl _, Nat.le_refl _⟩ rfl (Nat.le_of_ble_eq_true rfl) dX12_readObjector_86 (fun r38 f40 h39 y41 => ?_)
    refine oj_iast k_122 c24 rfl dX12_readObjector_89 ?_
    refine oj_toph (fun h42 eh42 => ?_)
    have y43 := Lt_at y41 h42 eh42
    refine oj_aload_n 1 dX12_readObjector_90 rfl rfl ?_
    refine oj_getr (q := 123) fl_RX12_58 k_108 rfl k_123 dX12_readObjector_91 ?_
    refine oj_iload_n 0 dX12_readObjector_94 rfl rfl ?_
    refine oj_aload_n 1 dX12_readObjector_95 rfl rfl ?_
    refine oj_ldc2 ow_1488 dX12_readObjector_96 ?_
    refine oj_sipush dX12_readObjector_99 cs_999 ?_
    refine oj_sipush dX12_readObjector_102 cs_999 ?_
    refine oc_Vi [.long (495873784179), .int (999), .int (999)] mi_RX12_333 ow_1527 op_51 rfl k_108 (BX12_option  y43) ⟨by decide, by decide⟩ ⟨Nat.le_refl _, Nat.le_refl _⟩ rfl (Nat.le_of_ble_eq_true rfl) dX12_readObjector_105 (fun r44 f46 h45 y47 => ?_)
    refine oj_iast k_123 c24 rfl dX12_readObjector_108 ?_
    refine oj_toph (fun h48 eh48 => ?_)
    have y49 := Lt_at y47 h48 eh48
    refine oj_aload_n 1 dX12_readObjector_109 rfl rfl ?_
    refine oj_getr (q := 124) fl_RX12_61 k_108 rfl k_124 dX12_readObjector_110 ?_
    refine oj_iload_n 0 dX12_readObjector_113 rfl rfl ?_
    refine oj_aload_n 1 dX12_readObjector_114 rfl rfl ?_
    refine oj_ldc2 ow_1489 dX12_readObjector_115 ?_
    refine oj_bipush dX12_readObjector_118 cb_99 ?_
    refine oj_iconst dX12_readObjector_120 ci_0 ?_
    refine oc_Vi [.long (482955846501), .int (99), .int (0)] mi_RX12_333 ow_1527 op_51 rfl k_108 (BX12_option  y49) ⟨by decide, by decide⟩ ⟨Nat.le_refl _, Nat.le_refl _⟩ rfl (Nat.le_of_ble_eq_true rfl) dX12_readObjector_121 (fun r50 f52 h51 y53 => ?_)
    refine oj_iast k_124 c24 rfl dX12_readObjector_124 ?_
    refine oj_toph (fun h54 eh54 => ?_)
    have y55 := Lt_at y53 h54 eh54
    refine oj_aload_n 1 dX12_readObjector_125 rfl rfl ?_
    refine oj_dup dX12_readObjector_126 rfl ?_
    refine oj_geti fl_RX12_336 k_108 rfl dX12_readObjector_127 ?_
    refine oj_aload_n 1 dX12_readObjector_130 rfl rfl ?_
    refine oj_ldc2 ow_1490 dX12_readObjector_131 ?_
    refine oc_Vi [.long (1818326117)] mi_RX12_339 ow_1531 op_52 rfl k_108 (BX12_takes  y55) ⟨by decide, by decide⟩ ⟨Nat.le_refl _, Nat.le_refl _⟩ rfl (Nat.le_of_ble_eq_true rfl) dX12_readObjector_134 (fun r56 f58 h57 y59 => ?_)
    refine oc_Spi [.int r56] mi_RX12_319 ow_1534 (BX12_truth  y59) ⟨by decide, by decide⟩ ⟨Nat.le_refl _, Nat.le_refl _⟩ rfl (Nat.le_of_ble_eq_true rfl) dX12_readObjector_137 (fun r60 f62 y63 => ?_)
    refine oj_iload_n 0 dX12_readObjector_140 rfl rfl ?_
    refine oj_ishl dX12_readObjector_141 ?_
    refine oj_ior dX12_readObjector_142 ?_
    refine oj_puti fl_RX12_336 (Or.inl rfl) k_108 rfl rfl rfl dX12_readObjector_143 ?_
    refine oj_toph (fun h64 eh64 => ?_)
    have y65 := Lt_at y63 h64 eh64
    refine oj_aload_n 1 dX12_readObjector_146 rfl rfl ?_
    refine oj_getr (q := 125) fl_RX12_64 k_108 rfl k_125 dX12_readObjector_147 ?_
    refine oj_iload_n 0 dX12_readObjector_150 rfl rfl ?_
    refine oj_iconst dX12_readObjector_151 ci_0 ?_
    refine oj_iast k_125 c24 rfl dX12_readObjector_152 ?_
    refine oj_toph (fun h66 eh66 => ?_)
    have y67 := Lt_at y65 h66 eh66
    refine oj_aload_n 1 dX12_readObjector_153 rfl rfl ?_
    refine oj_getr (q := 126) fl_RX12_67 k_108 rfl k_126 dX12_readObjector_154 ?_
    refine oj_iload_n 0 dX12_readObjector_157 rfl rfl ?_
    refine oj_iconst dX12_readObjector_158 ci_0 ?_
    refine oj_iast k_126 c24 rfl dX12_readObjector_159 ?_
    refine oj_toph (fun h68 eh68 => ?_)
    have y69 := Lt_at y67 h68 eh68
    refine oj_iconst dX12_readObjector_160 ci_0 ?_
    refine oj_istore_n (lv' := [(2, .int (0)), (1, .int v22), (0, .ref 108)]) dX12_readObjector_161 rfl (by decide) rfl ?_
    refine oj_lv [2, 1, 0] rfl ?_
    obtain ⟨n, y88⟩ := y69
    exact BLX12_readObjector_162  n _ _ y88
  · have y21 := y.2 c19
    exact oj_ret (r := none) ⟨trivial, rfl, rfl, rfl, y21⟩ dX12_readObjector_38 (Nat.zero_le _) (Nat.zero_le _)
set_option maxRecDepth 100000 in
set_option maxHeartbeats 4000000 in
theorem BX12_readObjector    {h : ob_H} {Q : ob_H → Prop} (y : MX12_readObjector   h Q) : ob_T yX12_readObjector cX12_readObjector 3 none (ob_rm 6) KS NN h [.ref 108] (ob_g none (ob_qv Q)) := by
  unfold MX12_readObjector at y
  refine ob_T_gf (by decide +kernel) (Nat.le_of_ble_eq_true rfl) ?_
  show ob_J RX12 cX12_readObjector 3 (ob_rm 6) false none 0 0 KS NN h 0 [(0, .ref 108)] [] (ob_g none (ob_qv Q))
  refine oj_aload_n 0 dX12_readObjector_0 rfl rfl ?_
  refine oc_Vv [] mi_RX12_242 ow_1450 op_39 rfl k_108 (BX12_token  y) ⟨by decide, by decide⟩ ⟨Nat.le_refl _, Nat.le_refl _⟩ rfl (Nat.le_of_ble_eq_true rfl) dX12_readObjector_1 (fun h2 y4 => ?_)
  refine oj_aload_n 0 dX12_readObjector_4 rfl rfl ?_
  refine oc_Vpi [] mi_RX12_260 ow_1480 op_44 rfl k_108 (BX12_isName  y4) ⟨by decide, by decide⟩ ⟨Nat.le_refl _, Nat.le_refl _⟩ rfl (Nat.le_of_ble_eq_true rfl) dX12_readObjector_5 (fun r5 f7 y8 => ?_)
  refine oj_if_ne 19 dX12_readObjector_8 rfl (fun c9 => ?_) (fun c9 => ?_)
  · have y10 := y8.2 c9
    refine oj_aload_n 0 dX12_readObjector_19 rfl rfl ?_
    refine oc_Vpi [] mi_RX12_263 ow_1511 op_47 rfl k_108 (BX12_find  y10) ⟨by decide, by decide⟩ ⟨Nat.le_refl _, Nat.le_refl _⟩ rfl (Nat.le_of_ble_eq_true rfl) dX12_readObjector_20 (fun r12 f14 y15 => ?_)
    refine oj_if_lt 31 dX12_readObjector_23 rfl (fun c16 => ?_) (fun c16 => ?_)
    · have y17 := y15.1 c16
      refine oj_lv [0] rfl ?_
      exact BKX12_readObjector_31  y17
    · have y18 := y15.2 c16
      refine oj_aload_n 0 dX12_readObjector_26 rfl rfl ?_
      refine oj_iconst dX12_readObjector_27 ci_3 ?_
      refine oc_Vv [.int (3)] mi_RX12_239 ow_1507 op_46 rfl k_108 (BX12_wrong  y18) ⟨by decide, by decide⟩ ⟨Nat.le_refl _, Nat.le_refl _⟩ rfl (Nat.le_of_ble_eq_true rfl) dX12_readObjector_28 (fun h90 y92 => ?_)
      refine oj_lv [0] rfl ?_
      exact BKX12_readObjector_31  y92
  · have y11 := y8.1 c9
    refine oj_aload_n 0 dX12_readObjector_11 rfl rfl ?_
    refine oj_iconst dX12_readObjector_12 ci_2 ?_
    refine oc_Vv [.int (2)] mi_RX12_239 ow_1507 op_46 rfl k_108 (BX12_wrong  y11) ⟨by decide, by decide⟩ ⟨Nat.le_refl _, Nat.le_refl _⟩ rfl (Nat.le_of_ble_eq_true rfl) dX12_readObjector_13 (fun h94 y96 => ?_)
    refine oj_goto 31 dX12_readObjector_16 rfl ?_
    refine oj_lv [0] rfl ?_
    exact BKX12_readObjector_31  y96
-- X12_readFirst
set_option maxRecDepth 100000 in
set_option maxHeartbeats 4000000 in
theorem BX12_readFirst    {h : ob_H} {Q : Int32 → ob_H → Prop} (y : MX12_readFirst   h Q) : ob_T yX12_readFirst cX12_readFirst 2 (some .int) (ob_rm 4) KS NN h [.ref 108] (ob_g (some .int) (ob_qi Q)) := by
  unfold MX12_readFirst at y
  refine ob_T_gf (by decide +kernel) (Nat.le_of_ble_eq_true rfl) ?_
  show ob_J RX12 cX12_readFirst 2 (ob_rm 4) false none 0 0 KS NN h 0 [(0, .ref 108)] [] (ob_g (some .int) (ob_qi Q))
  refine oj_aload_n 0 dX12_readFirst_0 rfl rfl ?_
  refine oc_Vv [] mi_RX12_242 ow_1450 op_39 rfl k_108 (BX12_token  y) ⟨by decide, by decide⟩ ⟨Nat.le_refl _, Nat.le_refl _⟩ rfl (Nat.le_of_ble_eq_true rfl) dX12_readFirst_1 (fun h2 y4 => ?_)
  refine oj_aload_n 0 dX12_readFirst_4 rfl rfl ?_
  refine oc_Vi [] mi_RX12_342 ow_1546 op_55 rfl k_108 (BX12_oldOne  y4) ⟨by decide, by decide⟩ ⟨Nat.le_refl _, Nat.le_refl _⟩ rfl (Nat.le_of_ble_eq_true rfl) dX12_readFirst_5 (fun r5 f7 h6 y8 => ?_)
  refine oj_istore_n (lv' := [(1, .int r5), (0, .ref 108)]) dX12_readFirst_8 rfl (by decide) rfl ?_
  refine oj_aload_n 1 dX12_readFirst_9 rfl rfl ?_
  refine oj_geti fl_RX12_188 k_108 rfl dX12_readFirst_10 ?_
  refine oj_if_ne 20 dX12_readFirst_13 rfl (fun c9 => ?_) (fun c9 => ?_)
  · have y10 := y8.2 c9
    refine oj_iload_n 0 dX12_readFirst_20 rfl rfl ?_
    exact oj_ret (r := some (.int r5)) ⟨trivial, rfl, rfl, r5, rfl, y10⟩ dX12_readFirst_21 (Nat.zero_le _) (Nat.zero_le _)
  · have y11 := y8.1 c9
    refine oj_aload_n 1 dX12_readFirst_16 rfl rfl ?_
    refine oc_Vv [] mi_RX12_242 ow_1450 op_39 rfl k_108 (BX12_token  y11) ⟨by decide, by decide⟩ ⟨Nat.le_refl _, Nat.le_refl _⟩ rfl (Nat.le_of_ble_eq_true rfl) dX12_readFirst_17 (fun h13 y15 => ?_)
    refine oj_iload_n 0 dX12_readFirst_20 rfl rfl ?_
    exact oj_ret (r := some (.int r5)) ⟨trivial, rfl, rfl, r5, rfl, y15⟩ dX12_readFirst_21 (Nat.zero_le _) (Nat.zero_le _)
-- X12_readSecond
set_option maxRecDepth 100000 in
set_option maxHeartbeats 4000000 in
theorem BKX12_readSecond_31 {x3 : Int32} {h : ob_H} {Q : Int32 → ob_H → Prop}
    (y : KX12_readSecond_31 x3 h Q) : ob_J RX12 cX12_readSecond 4 (ob_rm 4) false none 0 0 KS NN h 31 [(0, .ref 108), (3, .int x3)] [] (ob_g (some .int) (ob_qi Q)) := by
  unfold KX12_readSecond_31 at y
  refine oj_aload_n 0 dX12_readSecond_31 rfl rfl ?_
  refine oj_geti fl_RX12_188 k_108 rfl dX12_readSecond_32 ?_
  refine oj_if_ne 42 dX12_readSecond_35 rfl (fun c8 => ?_) (fun c8 => ?_)
  · have y9 := y.2 c8
    refine oj_iload_n 1 dX12_readSecond_42 rfl rfl ?_
    exact oj_ret (r := some (.int x3)) ⟨trivial, rfl, rfl, x3, rfl, y9⟩ dX12_readSecond_43 (Nat.zero_le _) (Nat.zero_le _)
  · have y10 := y.1 c8
    refine oj_aload_n 0 dX12_readSecond_38 rfl rfl ?_
    refine oc_Vv [] mi_RX12_242 ow_1450 op_39 rfl k_108 (BX12_token  y10) ⟨by decide, by decide⟩ ⟨Nat.le_refl _, Nat.le_refl _⟩ rfl (Nat.le_of_ble_eq_true rfl) dX12_readSecond_39 (fun h12 y14 => ?_)
    refine oj_iload_n 1 dX12_readSecond_42 rfl rfl ?_
    exact oj_ret (r := some (.int x3)) ⟨trivial, rfl, rfl, x3, rfl, y14⟩ dX12_readSecond_43 (Nat.zero_le _) (Nat.zero_le _)
set_option maxRecDepth 100000 in
set_option maxHeartbeats 4000000 in
theorem BKX12_readSecond_26 {x3 : Int32} {h : ob_H} {Q : Int32 → ob_H → Prop}
    (y : KX12_readSecond_26 x3 h Q) : ob_J RX12 cX12_readSecond 4 (ob_rm 4) false none 0 0 KS NN h 26 [(0, .ref 108), (3, .int x3)] [] (ob_g (some .int) (ob_qi Q)) := by
  unfold KX12_readSecond_26 at y
  refine oj_aload_n 0 dX12_readSecond_26 rfl rfl ?_
  refine oj_iconst dX12_readSecond_27 ci_3 ?_
  refine oc_Vv [.int (3)] mi_RX12_239 ow_1507 op_46 rfl k_108 (BX12_wrong  y) ⟨by decide, by decide⟩ ⟨Nat.le_refl _, Nat.le_refl _⟩ rfl (Nat.le_of_ble_eq_true rfl) dX12_readSecond_28 (fun h19 y21 => ?_)
  refine oj_lv [0, 1] rfl ?_
  exact BKX12_readSecond_31  y21
set_option maxRecDepth 100000 in
set_option maxHeartbeats 4000000 in
theorem BX12_readSecond  {p1 : Int32} {p2 : Int32}  {h : ob_H} {Q : Int32 → ob_H → Prop} (y : MX12_readSecond  p1 p2 h Q) : ob_T yX12_readSecond cX12_readSecond 4 (some .int) (ob_rm 4) KS NN h [.ref 108, .int p1, .int p2] (ob_g (some .int) (ob_qi Q)) := by
  unfold MX12_readSecond at y
  refine ob_T_gf (by decide +kernel) (Nat.le_of_ble_eq_true rfl) ?_
  show ob_J RX12 cX12_readSecond 4 (ob_rm 4) false none 0 0 KS NN h 0 [(0, .ref 108), (1, .int p1), (2, .int p2)] [] (ob_g (some .int) (ob_qi Q))
  refine oj_aload_n 0 dX12_readSecond_0 rfl rfl ?_
  refine oc_Vi [] mi_RX12_342 ow_1546 op_55 rfl k_108 (BX12_oldOne  y) ⟨by decide, by decide⟩ ⟨Nat.le_refl _, Nat.le_refl _⟩ rfl (Nat.le_of_ble_eq_true rfl) dX12_readSecond_1 (fun r1 f3 h2 y4 => ?_)
  refine oj_istore_n (lv' := [(3, .int r1), (0, .ref 108), (1, .int p1), (2, .int p2)]) dX12_readSecond_4 rfl (by decide) rfl ?_
  refine oj_aload_n 1 dX12_readSecond_5 rfl rfl ?_
  refine oj_geti fl_RX12_188 k_108 rfl dX12_readSecond_6 ?_
  refine oj_if_ne 31 dX12_readSecond_9 rfl (fun c5 => ?_) (fun c5 => ?_)
  · have y6 := y4.2 c5
    refine oj_lv [1, 0] rfl ?_
    exact BKX12_readSecond_31  y6
  · have y7 := y4.1 c5
    refine oj_iload_n 2 dX12_readSecond_12 rfl rfl ?_
    refine oj_iload_n 0 dX12_readSecond_13 rfl rfl ?_
    refine oj_icmp_eq 26 dX12_readSecond_14 rfl (fun c15 => ?_) (fun c15 => ?_)
    · have y16 := y7.1 c15
      refine oj_lv [1, 0] rfl ?_
      exact BKX12_readSecond_26  y16
    · have y17 := y7.2 c15
      refine oj_iload_n 3 dX12_readSecond_17 rfl rfl ?_
      refine oj_iload_n 0 dX12_readSecond_18 rfl rfl ?_
      refine oj_ishr dX12_readSecond_19 ?_
      refine oj_iconst dX12_readSecond_20 ci_1 ?_
      refine oj_iand dX12_readSecond_21 ?_
      refine oj_iconst dX12_readSecond_22 ci_1 ?_
      refine oj_icmp_ne 31 dX12_readSecond_23 rfl (fun c22 => ?_) (fun c22 => ?_)
      · have y23 := y17.2 c22
        refine oj_lv [1, 0] rfl ?_
        exact BKX12_readSecond_31  y23
      · have y24 := y17.1 c22
        refine oj_lv [1, 0] rfl ?_
        exact BKX12_readSecond_26  y24
-- X12_readSettles
set_option maxRecDepth 100000 in
set_option maxHeartbeats 4000000 in
theorem BX12_readSettles    {h : ob_H} {Q : ob_H → Prop} (y : MX12_readSettles   h Q) : ob_T yX12_readSettles cX12_readSettles 3 none (ob_rm 5) KS NN h [.ref 108] (ob_g none (ob_qv Q)) := by
  unfold MX12_readSettles at y
  refine ob_T_gf (by decide +kernel) (Nat.le_of_ble_eq_true rfl) ?_
  show ob_J RX12 cX12_readSettles 3 (ob_rm 5) false none 0 0 KS NN h 0 [(0, .ref 108)] [] (ob_g none (ob_qv Q))
  refine oj_aload_n 0 dX12_readSettles_0 rfl rfl ?_
  refine oc_Vi [] mi_RX12_345 ow_1542 op_54 rfl k_108 (BX12_readFirst  y) ⟨by decide, by decide⟩ ⟨Nat.le_refl _, Nat.le_refl _⟩ rfl (Nat.le_of_ble_eq_true rfl) dX12_readSettles_1 (fun r1 f3 h2 y4 => ?_)
  refine oj_istore_n (lv' := [(1, .int r1), (0, .ref 108)]) dX12_readSettles_4 rfl (by decide) rfl ?_
  refine oj_aload_n 1 dX12_readSettles_5 rfl rfl ?_
  refine oj_iload_n 0 dX12_readSettles_6 rfl rfl ?_
  refine oj_aload_n 1 dX12_readSettles_7 rfl rfl ?_
  refine oj_getr (q := 125) fl_RX12_64 k_108 rfl k_125 dX12_readSettles_8 ?_
  refine oj_iload_n 0 dX12_readSettles_11 rfl rfl ?_
  obtain ⟨c5, y6⟩ := y4
  refine oj_iald k_125 c5 rfl dX12_readSettles_12 ?_
  refine oc_Vi [.int r1, .int (h2.1 125 (ix r1))] mi_RX12_348 ow_1550 op_56 rfl k_108 (BX12_readSecond  y6) ⟨by decide, by decide⟩ ⟨Nat.le_refl _, Nat.le_refl _⟩ rfl (Nat.le_of_ble_eq_true rfl) dX12_readSettles_13 (fun r7 f9 h8 y10 => ?_)
  refine oj_istore_n (lv' := [(2, .int r7), (1, .int r1), (0, .ref 108)]) dX12_readSettles_16 rfl (by decide) rfl ?_
  refine oj_aload_n 2 dX12_readSettles_17 rfl rfl ?_
  refine oj_geti fl_RX12_188 k_108 rfl dX12_readSettles_18 ?_
  refine oj_if_le 25 dX12_readSettles_21 rfl (fun c11 => ?_) (fun c11 => ?_)
  · have y12 := y10.1 c11
    refine oj_aload_n 2 dX12_readSettles_25 rfl rfl ?_
    refine oj_getr (q := 125) fl_RX12_64 k_108 rfl k_125 dX12_readSettles_26 ?_
    refine oj_iload_n 1 dX12_readSettles_29 rfl rfl ?_
    refine oj_dup2 dX12_readSettles_30 rfl rfl ?_
    refine oj_iald k_125 c5 rfl dX12_readSettles_31 ?_
    refine oj_iconst dX12_readSettles_32 ci_1 ?_
    refine oj_iload_n 0 dX12_readSettles_33 rfl rfl ?_
    refine oj_ishl dX12_readSettles_34 ?_
    refine oj_ior dX12_readSettles_35 ?_
    refine oj_iast k_125 c5 rfl dX12_readSettles_36 ?_
    refine oj_toph (fun h14 eh14 => ?_)
    have y15 := Lt_at y12 h14 eh14
    refine oj_aload_n 2 dX12_readSettles_37 rfl rfl ?_
    refine oj_dup dX12_readSettles_38 rfl ?_
    refine oj_geti fl_RX12_351 k_108 rfl dX12_readSettles_39 ?_
    refine oj_iconst dX12_readSettles_42 ci_1 ?_
    refine oj_iadd dX12_readSettles_43 ?_
    refine oj_puti fl_RX12_351 (Or.inl rfl) k_108 rfl rfl rfl dX12_readSettles_44 ?_
    refine oj_toph (fun h16 eh16 => ?_)
    have y17 := Lt_at y15 h16 eh16
    exact oj_ret (r := none) ⟨trivial, rfl, rfl, rfl, y17⟩ dX12_readSettles_47 (Nat.zero_le _) (Nat.zero_le _)
  · have y13 := y10.2 c11
    exact oj_ret (r := none) ⟨trivial, rfl, rfl, rfl, y13⟩ dX12_readSettles_24 (Nat.zero_le _) (Nat.zero_le _)
-- X12_readBrings
set_option maxRecDepth 100000 in
set_option maxHeartbeats 4000000 in
theorem BX12_readBrings    {h : ob_H} {Q : ob_H → Prop} (y : MX12_readBrings   h Q) : ob_T yX12_readBrings cX12_readBrings 3 none (ob_rm 5) KS NN h [.ref 108] (ob_g none (ob_qv Q)) := by
  unfold MX12_readBrings at y
  refine ob_T_gf (by decide +kernel) (Nat.le_of_ble_eq_true rfl) ?_
  show ob_J RX12 cX12_readBrings 3 (ob_rm 5) false none 0 0 KS NN h 0 [(0, .ref 108)] [] (ob_g none (ob_qv Q))
  refine oj_aload_n 0 dX12_readBrings_0 rfl rfl ?_
  refine oc_Vi [] mi_RX12_345 ow_1542 op_54 rfl k_108 (BX12_readFirst  y) ⟨by decide, by decide⟩ ⟨Nat.le_refl _, Nat.le_refl _⟩ rfl (Nat.le_of_ble_eq_true rfl) dX12_readBrings_1 (fun r1 f3 h2 y4 => ?_)
  refine oj_istore_n (lv' := [(1, .int r1), (0, .ref 108)]) dX12_readBrings_4 rfl (by decide) rfl ?_
  refine oj_aload_n 1 dX12_readBrings_5 rfl rfl ?_
  refine oj_iload_n 0 dX12_readBrings_6 rfl rfl ?_
  refine oj_aload_n 1 dX12_readBrings_7 rfl rfl ?_
  refine oj_getr (q := 126) fl_RX12_67 k_108 rfl k_126 dX12_readBrings_8 ?_
  refine oj_iload_n 0 dX12_readBrings_11 rfl rfl ?_
  obtain ⟨c5, y6⟩ := y4
  refine oj_iald k_126 c5 rfl dX12_readBrings_12 ?_
  refine oc_Vi [.int r1, .int (h2.1 126 (ix r1))] mi_RX12_348 ow_1550 op_56 rfl k_108 (BX12_readSecond  y6) ⟨by decide, by decide⟩ ⟨Nat.le_refl _, Nat.le_refl _⟩ rfl (Nat.le_of_ble_eq_true rfl) dX12_readBrings_13 (fun r7 f9 h8 y10 => ?_)
  refine oj_istore_n (lv' := [(2, .int r7), (1, .int r1), (0, .ref 108)]) dX12_readBrings_16 rfl (by decide) rfl ?_
  refine oj_aload_n 2 dX12_readBrings_17 rfl rfl ?_
  refine oj_geti fl_RX12_188 k_108 rfl dX12_readBrings_18 ?_
  refine oj_if_le 25 dX12_readBrings_21 rfl (fun c11 => ?_) (fun c11 => ?_)
  · have y12 := y10.1 c11
    refine oj_aload_n 2 dX12_readBrings_25 rfl rfl ?_
    refine oj_getr (q := 126) fl_RX12_67 k_108 rfl k_126 dX12_readBrings_26 ?_
    refine oj_iload_n 1 dX12_readBrings_29 rfl rfl ?_
    refine oj_dup2 dX12_readBrings_30 rfl rfl ?_
    refine oj_iald k_126 c5 rfl dX12_readBrings_31 ?_
    refine oj_iconst dX12_readBrings_32 ci_1 ?_
    refine oj_iload_n 0 dX12_readBrings_33 rfl rfl ?_
    refine oj_ishl dX12_readBrings_34 ?_
    refine oj_ior dX12_readBrings_35 ?_
    refine oj_iast k_126 c5 rfl dX12_readBrings_36 ?_
    refine oj_toph (fun h14 eh14 => ?_)
    have y15 := Lt_at y12 h14 eh14
    refine oj_aload_n 2 dX12_readBrings_37 rfl rfl ?_
    refine oj_dup dX12_readBrings_38 rfl ?_
    refine oj_geti fl_RX12_354 k_108 rfl dX12_readBrings_39 ?_
    refine oj_iconst dX12_readBrings_42 ci_1 ?_
    refine oj_iadd dX12_readBrings_43 ?_
    refine oj_puti fl_RX12_354 (Or.inl rfl) k_108 rfl rfl rfl dX12_readBrings_44 ?_
    refine oj_toph (fun h16 eh16 => ?_)
    have y17 := Lt_at y15 h16 eh16
    exact oj_ret (r := none) ⟨trivial, rfl, rfl, rfl, y17⟩ dX12_readBrings_47 (Nat.zero_le _) (Nat.zero_le _)
  · have y13 := y10.2 c11
    exact oj_ret (r := none) ⟨trivial, rfl, rfl, rfl, y13⟩ dX12_readBrings_24 (Nat.zero_le _) (Nat.zero_le _)
-- X12_readJoined
set_option maxRecDepth 100000 in
set_option maxHeartbeats 4000000 in
theorem BKX12_readJoined_37 {x1 : Int32} {x3 : Int32} {s0 : Int32} {s1 : Int32} {h : ob_H} {Q : ob_H → Prop} {k9 : Int32 → Int32 → Prop} (hk9 : ∀ (x2' : Int32) (x3' : Int32), k9 x2' x3' → ob_J RX12 cX12_readJoined 5 (ob_rm 5) false none 0 0 KS NN h 9 [(0, .ref 108), (1, .int x1), (2, .int x2'), (3, .int x3')] [] (ob_g none (ob_qv Q)))
    (y : KX12_readJoined_37 x1 x3 s0 s1 h Q k9) : ob_J RX12 cX12_readJoined 5 (ob_rm 5) false none 0 0 KS NN h 37 [(0, .ref 108), (1, .int x1), (3, .int x3)] [.int s0, .int s1] (ob_g none (ob_qv Q)) := by
  unfold KX12_readJoined_37 at y
  refine oc_Spi [.int s0] mi_RX12_319 ow_1534 (BX12_truth  y) ⟨by decide, by decide⟩ ⟨Nat.le_refl _, Nat.le_refl _⟩ rfl (Nat.le_of_ble_eq_true rfl) dX12_readJoined_37 (fun r34 f36 y37 => ?_)
  refine oj_iload_n 2 dX12_readJoined_40 rfl rfl ?_
  refine oj_ishl dX12_readJoined_41 ?_
  refine oj_ior dX12_readJoined_42 ?_
  refine oj_topi (fun v38 ev38 => ?_)
  have y39 := Lt_at y37 v38 ev38
  refine oj_istore_n (lv' := [(2, .int v38), (0, .ref 108), (1, .int x1), (3, .int x3)]) dX12_readJoined_43 rfl (by decide) rfl ?_
  obtain ⟨v40, ev40⟩ : ∃ z : Int32, z = x3 + (1) := ⟨_, rfl⟩
  have y41 := Lt_at y39 v40 ev40
  refine oj_iinc (v := v40) (lv' := [(3, .int v40), (2, .int v38), (0, .ref 108), (1, .int x1)]) 3 dX12_readJoined_44 rfl (iinc_e ci_1 ev40) (by decide) rfl ?_
  refine oj_goto 9 dX12_readJoined_47 rfl ?_
  refine oj_lv [2, 3, 1, 0] rfl ?_
  exact hk9 _ _ y41
set_option maxRecDepth 100000 in
set_option maxHeartbeats 4000000 in
theorem BLX12_readJoined_9 {x1 : Int32} {h : ob_H} {Q : ob_H → Prop} :
    ∀ (n : Nat) (x2 : Int32) (x3 : Int32), it2 (FX12_readJoined_9 x1 h Q) n x2 x3 → ob_J RX12 cX12_readJoined 5 (ob_rm 5) false none 0 0 KS NN h 9 [(0, .ref 108), (1, .int x1), (2, .int x2), (3, .int x3)] [] (ob_g none (ob_qv Q)) := by
  intro n
  induction n with
  | zero => intro x2 x3 y; exact False.elim y
  | succ n hk9 =>
    intro x2 x3 y
    have y : FX12_readJoined_9 x1 h Q (it2 (FX12_readJoined_9 x1 h Q) n) x2 x3 := y
    unfold FX12_readJoined_9 at y
    refine oj_iload_n 3 dX12_readJoined_9 rfl rfl ?_
    refine oj_aload_n 0 dX12_readJoined_10 rfl rfl ?_
    refine oj_geti fl_RX12_257 k_108 rfl dX12_readJoined_11 ?_
    refine oj_icmp_ge 50 dX12_readJoined_14 rfl (fun c5 => ?_) (fun c5 => ?_)
    · have y6 := y.1 c5
      refine oj_aload_n 0 dX12_readJoined_50 rfl rfl ?_
      refine oj_iload_n 1 dX12_readJoined_51 rfl rfl ?_
      refine oj_iload_n 2 dX12_readJoined_52 rfl rfl ?_
      refine oc_Vi [.int x1, .int x2] mi_RX12_348 ow_1550 op_56 rfl k_108 (BX12_readSecond  y6) ⟨by decide, by decide⟩ ⟨Nat.le_refl _, Nat.le_refl _⟩ rfl (Nat.le_of_ble_eq_true rfl) dX12_readJoined_53 (fun r8 f10 h9 y11 => ?_)
      refine oj_istore_n (lv' := [(3, .int r8), (0, .ref 108), (1, .int x1), (2, .int x2)]) dX12_readJoined_56 rfl (by decide) rfl ?_
      refine oj_aload_n 1 dX12_readJoined_57 rfl rfl ?_
      refine oj_iconst dX12_readJoined_58 ci_1 ?_
      refine oj_bipush dX12_readJoined_59 cb_99 ?_
      refine oc_Vi [.int (1), .int (99)] mi_RX12_249 ow_1523 op_50 rfl k_108 (BX12_toldNumber  y11) ⟨by decide, by decide⟩ ⟨Nat.le_refl _, Nat.le_refl _⟩ rfl (Nat.le_of_ble_eq_true rfl) dX12_readJoined_61 (fun r12 f14 h13 y15 => ?_)
      refine oj_istore (lv' := [(4, .int r12), (3, .int r8), (0, .ref 108), (1, .int x1), (2, .int x2)]) dX12_readJoined_64 (by decide) rfl ?_
      refine oj_aload_n 2 dX12_readJoined_66 rfl rfl ?_
      refine oj_geti fl_RX12_188 k_108 rfl dX12_readJoined_67 ?_
      refine oj_if_le 74 dX12_readJoined_70 rfl (fun c16 => ?_) (fun c16 => ?_)
      · have y17 := y15.1 c16
        refine oj_aload_n 2 dX12_readJoined_74 rfl rfl ?_
        refine oj_getr (q := 127) fl_RX12_70 k_108 rfl k_127 dX12_readJoined_75 ?_
        refine oj_bipush dX12_readJoined_78 cb_7 ?_
        refine oj_iload_n 3 dX12_readJoined_80 rfl rfl ?_
        refine oj_imul dX12_readJoined_81 ?_
        refine oj_iload_n 1 dX12_readJoined_82 rfl rfl ?_
        refine oj_iadd dX12_readJoined_83 ?_
        refine oj_iload 0 dX12_readJoined_84 rfl ?_
        obtain ⟨c19, y20⟩ := y17
        refine oj_iast k_127 c19 rfl dX12_readJoined_86 ?_
        refine oj_toph (fun h21 eh21 => ?_)
        have y22 := Lt_at y20 h21 eh21
        refine oj_aload_n 2 dX12_readJoined_87 rfl rfl ?_
        refine oj_getr (q := 127) fl_RX12_70 k_108 rfl k_127 dX12_readJoined_88 ?_
        refine oj_bipush dX12_readJoined_91 cb_7 ?_
        refine oj_iload_n 1 dX12_readJoined_93 rfl rfl ?_
        refine oj_imul dX12_readJoined_94 ?_
        refine oj_iload_n 3 dX12_readJoined_95 rfl rfl ?_
        refine oj_iadd dX12_readJoined_96 ?_
        refine oj_iload 0 dX12_readJoined_97 rfl ?_
        obtain ⟨c23, y24⟩ := y22
        refine oj_iast k_127 c23 rfl dX12_readJoined_99 ?_
        refine oj_toph (fun h25 eh25 => ?_)
        have y26 := Lt_at y24 h25 eh25
        refine oj_aload_n 2 dX12_readJoined_100 rfl rfl ?_
        refine oj_dup dX12_readJoined_101 rfl ?_
        refine oj_geti fl_RX12_357 k_108 rfl dX12_readJoined_102 ?_
        refine oj_iconst dX12_readJoined_105 ci_1 ?_
        refine oj_iadd dX12_readJoined_106 ?_
        refine oj_puti fl_RX12_357 (Or.inl rfl) k_108 rfl rfl rfl dX12_readJoined_107 ?_
        refine oj_toph (fun h27 eh27 => ?_)
        have y28 := Lt_at y26 h27 eh27
        exact oj_ret (r := none) ⟨trivial, rfl, rfl, rfl, y28⟩ dX12_readJoined_110 (Nat.zero_le _) (Nat.zero_le _)
      · have y18 := y15.2 c16
        exact oj_ret (r := none) ⟨trivial, rfl, rfl, rfl, y18⟩ dX12_readJoined_73 (Nat.zero_le _) (Nat.zero_le _)
    · have y7 := y.2 c5
      refine oj_iload_n 2 dX12_readJoined_17 rfl rfl ?_
      refine oj_aload_n 0 dX12_readJoined_18 rfl rfl ?_
      refine oj_getr (q := 127) fl_RX12_70 k_108 rfl k_127 dX12_readJoined_19 ?_
      refine oj_bipush dX12_readJoined_22 cb_7 ?_
      refine oj_iload_n 1 dX12_readJoined_24 rfl rfl ?_
      refine oj_imul dX12_readJoined_25 ?_
      refine oj_iload_n 3 dX12_readJoined_26 rfl rfl ?_
      refine oj_iadd dX12_readJoined_27 ?_
      obtain ⟨c29, y30⟩ := y7
      refine oj_iald k_127 c29 rfl dX12_readJoined_28 ?_
      refine oj_if_le 36 dX12_readJoined_29 rfl (fun c31 => ?_) (fun c31 => ?_)
      · have y32 := y30.1 c31
        refine oj_iconst dX12_readJoined_36 ci_0 ?_
        refine oj_lv [0, 1, 3] rfl ?_
        exact BKX12_readJoined_37 hk9 y32
      · have y33 := y30.2 c31
        refine oj_iconst dX12_readJoined_32 ci_1 ?_
        refine oj_goto 37 dX12_readJoined_33 rfl ?_
        refine oj_lv [0, 1, 3] rfl ?_
        exact BKX12_readJoined_37 hk9 y33
set_option maxRecDepth 100000 in
set_option maxHeartbeats 4000000 in
theorem BX12_readJoined    {h : ob_H} {Q : ob_H → Prop} (y : MX12_readJoined   h Q) : ob_T yX12_readJoined cX12_readJoined 5 none (ob_rm 5) KS NN h [.ref 108] (ob_g none (ob_qv Q)) := by
  unfold MX12_readJoined at y
  refine ob_T_gf (by decide +kernel) (Nat.le_of_ble_eq_true rfl) ?_
  show ob_J RX12 cX12_readJoined 5 (ob_rm 5) false none 0 0 KS NN h 0 [(0, .ref 108)] [] (ob_g none (ob_qv Q))
  refine oj_aload_n 0 dX12_readJoined_0 rfl rfl ?_
  refine oc_Vi [] mi_RX12_345 ow_1542 op_54 rfl k_108 (BX12_readFirst  y) ⟨by decide, by decide⟩ ⟨Nat.le_refl _, Nat.le_refl _⟩ rfl (Nat.le_of_ble_eq_true rfl) dX12_readJoined_1 (fun r1 f3 h2 y4 => ?_)
  refine oj_istore_n (lv' := [(1, .int r1), (0, .ref 108)]) dX12_readJoined_4 rfl (by decide) rfl ?_
  refine oj_iconst dX12_readJoined_5 ci_0 ?_
  refine oj_istore_n (lv' := [(2, .int (0)), (1, .int r1), (0, .ref 108)]) dX12_readJoined_6 rfl (by decide) rfl ?_
  refine oj_iconst dX12_readJoined_7 ci_0 ?_
  refine oj_istore_n (lv' := [(3, .int (0)), (2, .int (0)), (1, .int r1), (0, .ref 108)]) dX12_readJoined_8 rfl (by decide) rfl ?_
  refine oj_lv [3, 2, 1, 0] rfl ?_
  obtain ⟨n, y42⟩ := y4
  exact BLX12_readJoined_9  n _ _ y42
-- X12_readLine
set_option maxRecDepth 100000 in
set_option maxHeartbeats 4000000 in
theorem BKX12_readLine_264 {h : ob_H} {Q : ob_H → Prop}
    (y : KX12_readLine_264 h Q) : ob_J RX12 cX12_readLine 1 (ob_rm 7) false none 0 0 KS NN h 264 [(0, .ref 108)] [] (ob_g none (ob_qv Q)) := by
  unfold KX12_readLine_264 at y
  refine oj_aload_n 0 dX12_readLine_264 rfl rfl ?_
  refine oj_geti fl_RX12_188 k_108 rfl dX12_readLine_265 ?_
  refine oj_if_ne 275 dX12_readLine_268 rfl (fun c64 => ?_) (fun c64 => ?_)
  · have y65 := y.2 c64
    exact oj_ret (r := none) ⟨trivial, rfl, rfl, rfl, y65⟩ dX12_readLine_275 (Nat.zero_le _) (Nat.zero_le _)
  · have y66 := y.1 c64
    refine oj_aload_n 0 dX12_readLine_271 rfl rfl ?_
    refine oc_Vv [] mi_RX12_242 ow_1450 op_39 rfl k_108 (BX12_token  y66) ⟨by decide, by decide⟩ ⟨Nat.le_refl _, Nat.le_refl _⟩ rfl (Nat.le_of_ble_eq_true rfl) dX12_readLine_272 (fun h68 y70 => ?_)
    exact oj_ret (r := none) ⟨trivial, rfl, rfl, rfl, y70⟩ dX12_readLine_275 (Nat.zero_le _) (Nat.zero_le _)
set_option maxRecDepth 100000 in
set_option maxHeartbeats 4000000 in
theorem BKX12_readLine_243 {h : ob_H} {Q : ob_H → Prop}
    (y : KX12_readLine_243 h Q) : ob_J RX12 cX12_readLine 1 (ob_rm 7) false none 0 0 KS NN h 243 [(0, .ref 108)] [] (ob_g none (ob_qv Q)) := by
  unfold KX12_readLine_243 at y
  refine oj_aload_n 0 dX12_readLine_243 rfl rfl ?_
  refine oj_geti fl_RX12_188 k_108 rfl dX12_readLine_244 ?_
  refine oj_if_ne 264 dX12_readLine_247 rfl (fun c61 => ?_) (fun c61 => ?_)
  · have y62 := y.2 c61
    refine oj_lv [0] rfl ?_
    exact BKX12_readLine_264  y62
  · have y63 := y.1 c61
    refine oj_aload_n 0 dX12_readLine_250 rfl rfl ?_
    refine oj_geti fl_RX12_175 k_108 rfl dX12_readLine_251 ?_
    refine oj_bipush dX12_readLine_254 cb_59 ?_
    refine oj_icmp_eq 264 dX12_readLine_256 rfl (fun c71 => ?_) (fun c71 => ?_)
    · have y72 := y63.1 c71
      refine oj_lv [0] rfl ?_
      exact BKX12_readLine_264  y72
    · have y73 := y63.2 c71
      refine oj_aload_n 0 dX12_readLine_259 rfl rfl ?_
      refine oj_iconst dX12_readLine_260 ci_2 ?_
      refine oc_Vv [.int (2)] mi_RX12_239 ow_1507 op_46 rfl k_108 (BX12_wrong  y73) ⟨by decide, by decide⟩ ⟨Nat.le_refl _, Nat.le_refl _⟩ rfl (Nat.le_of_ble_eq_true rfl) dX12_readLine_261 (fun h75 y77 => ?_)
      refine oj_lv [0] rfl ?_
      exact BKX12_readLine_264  y77
set_option maxRecDepth 100000 in
set_option maxHeartbeats 4000000 in
theorem BKX12_readLine_238 {h : ob_H} {Q : ob_H → Prop}
    (y : KX12_readLine_238 h Q) : ob_J RX12 cX12_readLine 1 (ob_rm 7) false none 0 0 KS NN h 238 [(0, .ref 108)] [] (ob_g none (ob_qv Q)) := by
  unfold KX12_readLine_238 at y
  refine oj_aload_n 0 dX12_readLine_238 rfl rfl ?_
  refine oj_iconst dX12_readLine_239 ci_2 ?_
  refine oc_Vv [.int (2)] mi_RX12_239 ow_1507 op_46 rfl k_108 (BX12_wrong  y) ⟨by decide, by decide⟩ ⟨Nat.le_refl _, Nat.le_refl _⟩ rfl (Nat.le_of_ble_eq_true rfl) dX12_readLine_240 (fun h58 y60 => ?_)
  refine oj_lv [0] rfl ?_
  exact BKX12_readLine_243  y60
set_option maxRecDepth 100000 in
set_option maxHeartbeats 4000000 in
theorem BKX12_readLine_198 {h : ob_H} {Q : ob_H → Prop}
    (y : KX12_readLine_198 h Q) : ob_J RX12 cX12_readLine 1 (ob_rm 7) false none 0 0 KS NN h 198 [(0, .ref 108)] [] (ob_g none (ob_qv Q)) := by
  unfold KX12_readLine_198 at y
  refine oj_aload_n 0 dX12_readLine_198 rfl rfl ?_
  refine oj_ldc2 ow_1497 dX12_readLine_199 ?_
  refine oc_Vpi [.long (1685217655)] mi_RX12_235 ow_1472 op_42 rfl k_108 (BX12_isWord  y) ⟨by decide, by decide⟩ ⟨Nat.le_refl _, Nat.le_refl _⟩ rfl (Nat.le_of_ble_eq_true rfl) dX12_readLine_202 (fun r50 f52 y53 => ?_)
  refine oj_if_eq 238 dX12_readLine_205 rfl (fun c54 => ?_) (fun c54 => ?_)
  · have y55 := y53.1 c54
    refine oj_lv [0] rfl ?_
    exact BKX12_readLine_238  y55
  · have y56 := y53.2 c54
    refine oj_aload_n 0 dX12_readLine_208 rfl rfl ?_
    refine oj_geti fl_RX12_382 k_108 rfl dX12_readLine_209 ?_
    refine oj_if_ne 238 dX12_readLine_212 rfl (fun c78 => ?_) (fun c78 => ?_)
    · have y79 := y56.2 c78
      refine oj_lv [0] rfl ?_
      exact BKX12_readLine_238  y79
    · have y80 := y56.1 c78
      refine oj_aload_n 0 dX12_readLine_215 rfl rfl ?_
      refine oj_iconst dX12_readLine_216 ci_1 ?_
      refine oj_puti fl_RX12_382 (Or.inl rfl) k_108 rfl rfl rfl dX12_readLine_217 ?_
      refine oj_toph (fun h81 eh81 => ?_)
      have y82 := Lt_at y80 h81 eh81
      refine oj_aload_n 0 dX12_readLine_220 rfl rfl ?_
      refine oj_aload_n 0 dX12_readLine_221 rfl rfl ?_
      refine oj_ldc2 ow_1497 dX12_readLine_222 ?_
      refine oj_iconst dX12_readLine_225 ci_0 ?_
      refine oj_sipush dX12_readLine_226 cs_999 ?_
      refine oc_Vi [.long (1685217655), .int (0), .int (999)] mi_RX12_253 ow_1515 op_48 rfl k_108 (BX12_told  y82) ⟨by decide, by decide⟩ ⟨Nat.le_refl _, Nat.le_refl _⟩ rfl (Nat.le_of_ble_eq_true rfl) dX12_readLine_229 (fun r83 f85 h84 y86 => ?_)
      refine oj_puti fl_RX12_385 (Or.inl rfl) k_108 rfl rfl rfl dX12_readLine_232 ?_
      refine oj_toph (fun h87 eh87 => ?_)
      have y88 := Lt_at y86 h87 eh87
      refine oj_goto 243 dX12_readLine_235 rfl ?_
      refine oj_lv [0] rfl ?_
      exact BKX12_readLine_243  y88
set_option maxRecDepth 100000 in
set_option maxHeartbeats 4000000 in
theorem BKX12_readLine_158 {h : ob_H} {Q : ob_H → Prop}
    (y : KX12_readLine_158 h Q) : ob_J RX12 cX12_readLine 1 (ob_rm 7) false none 0 0 KS NN h 158 [(0, .ref 108)] [] (ob_g none (ob_qv Q)) := by
  unfold KX12_readLine_158 at y
  refine oj_aload_n 0 dX12_readLine_158 rfl rfl ?_
  refine oj_ldc2 ow_1496 dX12_readLine_159 ?_
  refine oc_Vpi [.long (6447474)] mi_RX12_235 ow_1472 op_42 rfl k_108 (BX12_isWord  y) ⟨by decide, by decide⟩ ⟨Nat.le_refl _, Nat.le_refl _⟩ rfl (Nat.le_of_ble_eq_true rfl) dX12_readLine_162 (fun r43 f45 y46 => ?_)
  refine oj_if_eq 198 dX12_readLine_165 rfl (fun c47 => ?_) (fun c47 => ?_)
  · have y48 := y46.1 c47
    refine oj_lv [0] rfl ?_
    exact BKX12_readLine_198  y48
  · have y49 := y46.2 c47
    refine oj_aload_n 0 dX12_readLine_168 rfl rfl ?_
    refine oj_geti fl_RX12_375 k_108 rfl dX12_readLine_169 ?_
    refine oj_if_ne 198 dX12_readLine_172 rfl (fun c89 => ?_) (fun c89 => ?_)
    · have y90 := y49.2 c89
      refine oj_lv [0] rfl ?_
      exact BKX12_readLine_198  y90
    · have y91 := y49.1 c89
      refine oj_aload_n 0 dX12_readLine_175 rfl rfl ?_
      refine oj_iconst dX12_readLine_176 ci_1 ?_
      refine oj_puti fl_RX12_375 (Or.inl rfl) k_108 rfl rfl rfl dX12_readLine_177 ?_
      refine oj_toph (fun h92 eh92 => ?_)
      have y93 := Lt_at y91 h92 eh92
      refine oj_aload_n 0 dX12_readLine_180 rfl rfl ?_
      refine oj_aload_n 0 dX12_readLine_181 rfl rfl ?_
      refine oj_ldc2 ow_1496 dX12_readLine_182 ?_
      refine oj_iconst dX12_readLine_185 ci_1 ?_
      refine oj_sipush dX12_readLine_186 cs_999 ?_
      refine oc_Vi [.long (6447474), .int (1), .int (999)] mi_RX12_253 ow_1515 op_48 rfl k_108 (BX12_told  y93) ⟨by decide, by decide⟩ ⟨Nat.le_refl _, Nat.le_refl _⟩ rfl (Nat.le_of_ble_eq_true rfl) dX12_readLine_189 (fun r94 f96 h95 y97 => ?_)
      refine oj_puti fl_RX12_379 (Or.inl rfl) k_108 rfl rfl rfl dX12_readLine_192 ?_
      refine oj_toph (fun h98 eh98 => ?_)
      have y99 := Lt_at y97 h98 eh98
      refine oj_goto 243 dX12_readLine_195 rfl ?_
      refine oj_lv [0] rfl ?_
      exact BKX12_readLine_243  y99
set_option maxRecDepth 100000 in
set_option maxHeartbeats 4000000 in
theorem BKX12_readLine_131 {h : ob_H} {Q : ob_H → Prop}
    (y : KX12_readLine_131 h Q) : ob_J RX12 cX12_readLine 1 (ob_rm 7) false none 0 0 KS NN h 131 [(0, .ref 108)] [] (ob_g none (ob_qv Q)) := by
  unfold KX12_readLine_131 at y
  refine oj_aload_n 0 dX12_readLine_131 rfl rfl ?_
  refine oj_ldc2 ow_1495 dX12_readLine_132 ?_
  refine oc_Vpi [.long (107127011501426)] mi_RX12_235 ow_1472 op_42 rfl k_108 (BX12_isWord  y) ⟨by decide, by decide⟩ ⟨Nat.le_refl _, Nat.le_refl _⟩ rfl (Nat.le_of_ble_eq_true rfl) dX12_readLine_135 (fun r36 f38 y39 => ?_)
  refine oj_if_eq 158 dX12_readLine_138 rfl (fun c40 => ?_) (fun c40 => ?_)
  · have y41 := y39.1 c40
    refine oj_lv [0] rfl ?_
    exact BKX12_readLine_158  y41
  · have y42 := y39.2 c40
    refine oj_aload_n 0 dX12_readLine_141 rfl rfl ?_
    refine oj_getr (q := 119) fl_RX12_45 k_108 rfl k_119 dX12_readLine_142 ?_
    refine oj_iconst dX12_readLine_145 ci_1 ?_
    refine oj_zald k_119 in_1_2 ix_1 dX12_readLine_146 ?_
    refine oj_if_ne 158 dX12_readLine_147 rfl (fun c100 => ?_) (fun c100 => ?_)
    · have y101 := y42.2 c100
      refine oj_lv [0] rfl ?_
      exact BKX12_readLine_158  y101
    · have y102 := y42.1 c100
      refine oj_aload_n 0 dX12_readLine_150 rfl rfl ?_
      refine oj_iconst dX12_readLine_151 ci_1 ?_
      refine oc_Vv [.int (1)] mi_RX12_372 ow_1562 op_59 rfl k_108 (BX12_formula  y102) ⟨by decide, by decide⟩ ⟨Nat.le_refl _, Nat.le_refl _⟩ rfl (Nat.le_of_ble_eq_true rfl) dX12_readLine_152 (fun h104 y106 => ?_)
      refine oj_goto 243 dX12_readLine_155 rfl ?_
      refine oj_lv [0] rfl ?_
      exact BKX12_readLine_243  y106
set_option maxRecDepth 100000 in
set_option maxHeartbeats 4000000 in
theorem BKX12_readLine_104 {h : ob_H} {Q : ob_H → Prop}
    (y : KX12_readLine_104 h Q) : ob_J RX12 cX12_readLine 1 (ob_rm 7) false none 0 0 KS NN h 104 [(0, .ref 108)] [] (ob_g none (ob_qv Q)) := by
  unfold KX12_readLine_104 at y
  refine oj_aload_n 0 dX12_readLine_104 rfl rfl ?_
  refine oj_ldc2 ow_1494 dX12_readLine_105 ?_
  refine oc_Vpi [.long (478660552050)] mi_RX12_235 ow_1472 op_42 rfl k_108 (BX12_isWord  y) ⟨by decide, by decide⟩ ⟨Nat.le_refl _, Nat.le_refl _⟩ rfl (Nat.le_of_ble_eq_true rfl) dX12_readLine_108 (fun r29 f31 y32 => ?_)
  refine oj_if_eq 131 dX12_readLine_111 rfl (fun c33 => ?_) (fun c33 => ?_)
  · have y34 := y32.1 c33
    refine oj_lv [0] rfl ?_
    exact BKX12_readLine_131  y34
  · have y35 := y32.2 c33
    refine oj_aload_n 0 dX12_readLine_114 rfl rfl ?_
    refine oj_getr (q := 119) fl_RX12_45 k_108 rfl k_119 dX12_readLine_115 ?_
    refine oj_iconst dX12_readLine_118 ci_0 ?_
    refine oj_zald k_119 in_0_2 ix_0 dX12_readLine_119 ?_
    refine oj_if_ne 131 dX12_readLine_120 rfl (fun c107 => ?_) (fun c107 => ?_)
    · have y108 := y35.2 c107
      refine oj_lv [0] rfl ?_
      exact BKX12_readLine_131  y108
    · have y109 := y35.1 c107
      refine oj_aload_n 0 dX12_readLine_123 rfl rfl ?_
      refine oj_iconst dX12_readLine_124 ci_0 ?_
      refine oc_Vv [.int (0)] mi_RX12_372 ow_1562 op_59 rfl k_108 (BX12_formula  y109) ⟨by decide, by decide⟩ ⟨Nat.le_refl _, Nat.le_refl _⟩ rfl (Nat.le_of_ble_eq_true rfl) dX12_readLine_125 (fun h111 y113 => ?_)
      refine oj_goto 243 dX12_readLine_128 rfl ?_
      refine oj_lv [0] rfl ?_
      exact BKX12_readLine_243  y113
set_option maxRecDepth 100000 in
set_option maxHeartbeats 4000000 in
theorem BKX12_readLine_78 {h : ob_H} {Q : ob_H → Prop}
    (y : KX12_readLine_78 h Q) : ob_J RX12 cX12_readLine 1 (ob_rm 7) false none 0 0 KS NN h 78 [(0, .ref 108)] [] (ob_g none (ob_qv Q)) := by
  unfold KX12_readLine_78 at y
  refine oj_aload_n 0 dX12_readLine_78 rfl rfl ?_
  refine oj_ldc2 ow_1493 dX12_readLine_79 ?_
  refine oc_Vpi [.long (117026742756708)] mi_RX12_235 ow_1472 op_42 rfl k_108 (BX12_isWord  y) ⟨by decide, by decide⟩ ⟨Nat.le_refl _, Nat.le_refl _⟩ rfl (Nat.le_of_ble_eq_true rfl) dX12_readLine_82 (fun r22 f24 y25 => ?_)
  refine oj_if_eq 104 dX12_readLine_85 rfl (fun c26 => ?_) (fun c26 => ?_)
  · have y27 := y25.1 c26
    refine oj_lv [0] rfl ?_
    exact BKX12_readLine_104  y27
  · have y28 := y25.2 c26
    refine oj_aload_n 0 dX12_readLine_88 rfl rfl ?_
    refine oj_geti fl_RX12_357 k_108 rfl dX12_readLine_89 ?_
    refine oj_bipush dX12_readLine_92 cb_6 ?_
    refine oj_icmp_ge 104 dX12_readLine_94 rfl (fun c114 => ?_) (fun c114 => ?_)
    · have y115 := y28.1 c114
      refine oj_lv [0] rfl ?_
      exact BKX12_readLine_104  y115
    · have y116 := y28.2 c114
      refine oj_aload_n 0 dX12_readLine_97 rfl rfl ?_
      refine oc_Vv [] mi_RX12_369 ow_1558 op_58 rfl k_108 (BX12_readJoined  y116) ⟨by decide, by decide⟩ ⟨Nat.le_refl _, Nat.le_refl _⟩ rfl (Nat.le_of_ble_eq_true rfl) dX12_readLine_98 (fun h118 y120 => ?_)
      refine oj_goto 243 dX12_readLine_101 rfl ?_
      refine oj_lv [0] rfl ?_
      exact BKX12_readLine_243  y120
set_option maxRecDepth 100000 in
set_option maxHeartbeats 4000000 in
theorem BKX12_readLine_52 {h : ob_H} {Q : ob_H → Prop}
    (y : KX12_readLine_52 h Q) : ob_J RX12 cX12_readLine 1 (ob_rm 7) false none 0 0 KS NN h 52 [(0, .ref 108)] [] (ob_g none (ob_qv Q)) := by
  unfold KX12_readLine_52 at y
  refine oj_aload_n 0 dX12_readLine_52 rfl rfl ?_
  refine oj_ldc2 ow_1492 dX12_readLine_53 ?_
  refine oc_Vpi [.long (108243534636915)] mi_RX12_235 ow_1472 op_42 rfl k_108 (BX12_isWord  y) ⟨by decide, by decide⟩ ⟨Nat.le_refl _, Nat.le_refl _⟩ rfl (Nat.le_of_ble_eq_true rfl) dX12_readLine_56 (fun r15 f17 y18 => ?_)
  refine oj_if_eq 78 dX12_readLine_59 rfl (fun c19 => ?_) (fun c19 => ?_)
  · have y20 := y18.1 c19
    refine oj_lv [0] rfl ?_
    exact BKX12_readLine_78  y20
  · have y21 := y18.2 c19
    refine oj_aload_n 0 dX12_readLine_62 rfl rfl ?_
    refine oj_geti fl_RX12_354 k_108 rfl dX12_readLine_63 ?_
    refine oj_bipush dX12_readLine_66 cb_6 ?_
    refine oj_icmp_ge 78 dX12_readLine_68 rfl (fun c121 => ?_) (fun c121 => ?_)
    · have y122 := y21.1 c121
      refine oj_lv [0] rfl ?_
      exact BKX12_readLine_78  y122
    · have y123 := y21.2 c121
      refine oj_aload_n 0 dX12_readLine_71 rfl rfl ?_
      refine oc_Vv [] mi_RX12_366 ow_1554 op_57 rfl k_108 (BX12_readBrings  y123) ⟨by decide, by decide⟩ ⟨Nat.le_refl _, Nat.le_refl _⟩ rfl (Nat.le_of_ble_eq_true rfl) dX12_readLine_72 (fun h125 y127 => ?_)
      refine oj_goto 243 dX12_readLine_75 rfl ?_
      refine oj_lv [0] rfl ?_
      exact BKX12_readLine_243  y127
set_option maxRecDepth 100000 in
set_option maxHeartbeats 4000000 in
theorem BKX12_readLine_26 {h : ob_H} {Q : ob_H → Prop}
    (y : KX12_readLine_26 h Q) : ob_J RX12 cX12_readLine 1 (ob_rm 7) false none 0 0 KS NN h 26 [(0, .ref 108)] [] (ob_g none (ob_qv Q)) := by
  unfold KX12_readLine_26 at y
  refine oj_aload_n 0 dX12_readLine_26 rfl rfl ?_
  refine oj_ldc2 ow_1491 dX12_readLine_27 ?_
  refine oc_Vpi [.long (32481173165598067)] mi_RX12_235 ow_1472 op_42 rfl k_108 (BX12_isWord  y) ⟨by decide, by decide⟩ ⟨Nat.le_refl _, Nat.le_refl _⟩ rfl (Nat.le_of_ble_eq_true rfl) dX12_readLine_30 (fun r8 f10 y11 => ?_)
  refine oj_if_eq 52 dX12_readLine_33 rfl (fun c12 => ?_) (fun c12 => ?_)
  · have y13 := y11.1 c12
    refine oj_lv [0] rfl ?_
    exact BKX12_readLine_52  y13
  · have y14 := y11.2 c12
    refine oj_aload_n 0 dX12_readLine_36 rfl rfl ?_
    refine oj_geti fl_RX12_351 k_108 rfl dX12_readLine_37 ?_
    refine oj_bipush dX12_readLine_40 cb_12 ?_
    refine oj_icmp_ge 52 dX12_readLine_42 rfl (fun c128 => ?_) (fun c128 => ?_)
    · have y129 := y14.1 c128
      refine oj_lv [0] rfl ?_
      exact BKX12_readLine_52  y129
    · have y130 := y14.2 c128
      refine oj_aload_n 0 dX12_readLine_45 rfl rfl ?_
      refine oc_Vv [] mi_RX12_363 ow_1538 op_53 rfl k_108 (BX12_readSettles  y130) ⟨by decide, by decide⟩ ⟨Nat.le_refl _, Nat.le_refl _⟩ rfl (Nat.le_of_ble_eq_true rfl) dX12_readLine_46 (fun h132 y134 => ?_)
      refine oj_goto 243 dX12_readLine_49 rfl ?_
      refine oj_lv [0] rfl ?_
      exact BKX12_readLine_243  y134
set_option maxRecDepth 100000 in
set_option maxHeartbeats 4000000 in
theorem BX12_readLine    {h : ob_H} {Q : ob_H → Prop} (y : MX12_readLine   h Q) : ob_T yX12_readLine cX12_readLine 1 none (ob_rm 7) KS NN h [.ref 108] (ob_g none (ob_qv Q)) := by
  unfold MX12_readLine at y
  refine ob_T_gf (by decide +kernel) (Nat.le_of_ble_eq_true rfl) ?_
  show ob_J RX12 cX12_readLine 1 (ob_rm 7) false none 0 0 KS NN h 0 [(0, .ref 108)] [] (ob_g none (ob_qv Q))
  refine oj_aload_n 0 dX12_readLine_0 rfl rfl ?_
  refine oj_ldc2 ow_1469 dX12_readLine_1 ?_
  refine oc_Vpi [.long (8026094469620461426)] mi_RX12_235 ow_1472 op_42 rfl k_108 (BX12_isWord  y) ⟨by decide, by decide⟩ ⟨Nat.le_refl _, Nat.le_refl _⟩ rfl (Nat.le_of_ble_eq_true rfl) dX12_readLine_4 (fun r1 f3 y4 => ?_)
  refine oj_if_eq 26 dX12_readLine_7 rfl (fun c5 => ?_) (fun c5 => ?_)
  · have y6 := y4.1 c5
    refine oj_lv [0] rfl ?_
    exact BKX12_readLine_26  y6
  · have y7 := y4.2 c5
    refine oj_aload_n 0 dX12_readLine_10 rfl rfl ?_
    refine oj_geti fl_RX12_257 k_108 rfl dX12_readLine_11 ?_
    refine oj_bipush dX12_readLine_14 cb_7 ?_
    refine oj_icmp_ge 26 dX12_readLine_16 rfl (fun c135 => ?_) (fun c135 => ?_)
    · have y136 := y7.1 c135
      refine oj_lv [0] rfl ?_
      exact BKX12_readLine_26  y136
    · have y137 := y7.2 c135
      refine oj_aload_n 0 dX12_readLine_19 rfl rfl ?_
      refine oc_Vv [] mi_RX12_360 ow_1476 op_43 rfl k_108 (BX12_readObjector  y137) ⟨by decide, by decide⟩ ⟨Nat.le_refl _, Nat.le_refl _⟩ rfl (Nat.le_of_ble_eq_true rfl) dX12_readLine_20 (fun h139 y141 => ?_)
      refine oj_goto 243 dX12_readLine_23 rfl ?_
      refine oj_lv [0] rfl ?_
      exact BKX12_readLine_243  y141
-- X12_readAll
set_option maxRecDepth 100000 in
set_option maxHeartbeats 4000000 in
theorem BLX12_readAll_97 {Q : ob_H → Prop} :
    ∀ (n : Nat) (h : ob_H), it1 (FX12_readAll_97 Q) n h → ob_J RX12 cX12_readAll 1 (ob_rm 8) false none 0 0 KS NN h 97 [(0, .ref 108)] [] (ob_g none (ob_qv Q)) := by
  intro n
  induction n with
  | zero => intro h y; exact False.elim y
  | succ n hk97 =>
    intro h y
    have y : FX12_readAll_97 Q (it1 (FX12_readAll_97 Q) n) h := y
    unfold FX12_readAll_97 at y
    refine oj_aload_n 0 dX12_readAll_97 rfl rfl ?_
    refine oj_geti fl_RX12_188 k_108 rfl dX12_readAll_98 ?_
    refine oj_if_ne 118 dX12_readAll_101 rfl (fun c39 => ?_) (fun c39 => ?_)
    · have y40 := y.2 c39
      exact oj_ret (r := none) ⟨trivial, rfl, rfl, rfl, y40⟩ dX12_readAll_118 (Nat.zero_le _) (Nat.zero_le _)
    · have y41 := y.1 c39
      refine oj_aload_n 0 dX12_readAll_104 rfl rfl ?_
      refine oj_geti fl_RX12_175 k_108 rfl dX12_readAll_105 ?_
      refine oj_if_eq 118 dX12_readAll_108 rfl (fun c42 => ?_) (fun c42 => ?_)
      · have y43 := y41.1 c42
        exact oj_ret (r := none) ⟨trivial, rfl, rfl, rfl, y43⟩ dX12_readAll_118 (Nat.zero_le _) (Nat.zero_le _)
      · have y44 := y41.2 c42
        refine oj_aload_n 0 dX12_readAll_111 rfl rfl ?_
        refine oc_Vv [] mi_RX12_388 ow_1467 op_41 rfl k_108 (BX12_readLine  y44) ⟨by decide, by decide⟩ ⟨Nat.le_refl _, Nat.le_refl _⟩ rfl (Nat.le_of_ble_eq_true rfl) dX12_readAll_112 (fun h46 y48 => ?_)
        refine oj_goto 97 dX12_readAll_115 rfl ?_
        refine oj_lv [0] rfl ?_
        exact hk97 _ y48
set_option maxRecDepth 100000 in
set_option maxHeartbeats 4000000 in
theorem BX12_readAll    {h : ob_H} {Q : ob_H → Prop} (y : MX12_readAll   h Q) : ob_T yX12_readAll cX12_readAll 1 none (ob_rm 8) KS NN h [.ref 108] (ob_g none (ob_qv Q)) := by
  unfold MX12_readAll at y
  refine ob_T_gf (by decide +kernel) (Nat.le_of_ble_eq_true rfl) ?_
  show ob_J RX12 cX12_readAll 1 (ob_rm 8) false none 0 0 KS NN h 0 [(0, .ref 108)] [] (ob_g none (ob_qv Q))
  refine oj_aload_n 0 dX12_readAll_0 rfl rfl ?_
  refine oj_aload_n 0 dX12_readAll_1 rfl rfl ?_
  refine oj_geti fl_RX12_148 k_108 rfl dX12_readAll_2 ?_
  refine oj_puti fl_RX12_158 (Or.inl rfl) k_108 rfl rfl rfl dX12_readAll_5 ?_
  refine oj_toph (fun h1 eh1 => ?_)
  have y2 := Lt_at y h1 eh1
  refine oj_aload_n 0 dX12_readAll_8 rfl rfl ?_
  refine oj_iconst dX12_readAll_9 ci_0 ?_
  refine oj_puti fl_RX12_148 (Or.inl rfl) k_108 rfl rfl rfl dX12_readAll_10 ?_
  refine oj_toph (fun h3 eh3 => ?_)
  have y4 := Lt_at y2 h3 eh3
  refine oj_aload_n 0 dX12_readAll_13 rfl rfl ?_
  refine oj_iconst dX12_readAll_14 ci_0 ?_
  refine oj_puti fl_RX12_155 (Or.inl rfl) k_108 rfl rfl rfl dX12_readAll_15 ?_
  refine oj_toph (fun h5 eh5 => ?_)
  have y6 := Lt_at y4 h5 eh5
  refine oj_aload_n 0 dX12_readAll_18 rfl rfl ?_
  refine oj_iconst dX12_readAll_19 ci_0 ?_
  refine oj_puti fl_RX12_188 (Or.inl rfl) k_108 rfl rfl rfl dX12_readAll_20 ?_
  refine oj_toph (fun h7 eh7 => ?_)
  have y8 := Lt_at y6 h7 eh7
  refine oj_aload_n 0 dX12_readAll_23 rfl rfl ?_
  refine oj_iconst dX12_readAll_24 ci_m1 ?_
  refine oj_puti fl_RX12_13 (Or.inl rfl) k_108 rfl rfl rfl dX12_readAll_25 ?_
  refine oj_toph (fun h9 eh9 => ?_)
  have y10 := Lt_at y8 h9 eh9
  refine oj_aload_n 0 dX12_readAll_28 rfl rfl ?_
  refine oj_iconst dX12_readAll_29 ci_0 ?_
  refine oj_puti fl_RX12_257 (Or.inl rfl) k_108 rfl rfl rfl dX12_readAll_30 ?_
  refine oj_toph (fun h11 eh11 => ?_)
  have y12 := Lt_at y10 h11 eh11
  refine oj_aload_n 0 dX12_readAll_33 rfl rfl ?_
  refine oj_iconst dX12_readAll_34 ci_0 ?_
  refine oj_puti fl_RX12_351 (Or.inl rfl) k_108 rfl rfl rfl dX12_readAll_35 ?_
  refine oj_toph (fun h13 eh13 => ?_)
  have y14 := Lt_at y12 h13 eh13
  refine oj_aload_n 0 dX12_readAll_38 rfl rfl ?_
  refine oj_iconst dX12_readAll_39 ci_0 ?_
  refine oj_puti fl_RX12_354 (Or.inl rfl) k_108 rfl rfl rfl dX12_readAll_40 ?_
  refine oj_toph (fun h15 eh15 => ?_)
  have y16 := Lt_at y14 h15 eh15
  refine oj_aload_n 0 dX12_readAll_43 rfl rfl ?_
  refine oj_iconst dX12_readAll_44 ci_0 ?_
  refine oj_puti fl_RX12_357 (Or.inl rfl) k_108 rfl rfl rfl dX12_readAll_45 ?_
  refine oj_toph (fun h17 eh17 => ?_)
  have y18 := Lt_at y16 h17 eh17
  refine oj_aload_n 0 dX12_readAll_48 rfl rfl ?_
  refine oj_iconst dX12_readAll_49 ci_0 ?_
  refine oj_puti fl_RX12_336 (Or.inl rfl) k_108 rfl rfl rfl dX12_readAll_50 ?_
  refine oj_toph (fun h19 eh19 => ?_)
  have y20 := Lt_at y18 h19 eh19
  refine oj_aload_n 0 dX12_readAll_53 rfl rfl ?_
  refine oj_bipush dX12_readAll_54 cb_100 ?_
  refine oj_puti fl_RX12_379 (Or.inl rfl) k_108 rfl rfl rfl dX12_readAll_56 ?_
  refine oj_toph (fun h21 eh21 => ?_)
  have y22 := Lt_at y20 h21 eh21
  refine oj_aload_n 0 dX12_readAll_59 rfl rfl ?_
  refine oj_iconst dX12_readAll_60 ci_0 ?_
  refine oj_puti fl_RX12_385 (Or.inl rfl) k_108 rfl rfl rfl dX12_readAll_61 ?_
  refine oj_toph (fun h23 eh23 => ?_)
  have y24 := Lt_at y22 h23 eh23
  refine oj_aload_n 0 dX12_readAll_64 rfl rfl ?_
  refine oj_iconst dX12_readAll_65 ci_0 ?_
  refine oj_puti fl_RX12_375 (Or.inl rfl) k_108 rfl rfl rfl dX12_readAll_66 ?_
  refine oj_toph (fun h25 eh25 => ?_)
  have y26 := Lt_at y24 h25 eh25
  refine oj_aload_n 0 dX12_readAll_69 rfl rfl ?_
  refine oj_iconst dX12_readAll_70 ci_0 ?_
  refine oj_puti fl_RX12_382 (Or.inl rfl) k_108 rfl rfl rfl dX12_readAll_71 ?_
  refine oj_toph (fun h27 eh27 => ?_)
  have y28 := Lt_at y26 h27 eh27
  refine oj_aload_n 0 dX12_readAll_74 rfl rfl ?_
  refine oj_getr (q := 119) fl_RX12_45 k_108 rfl k_119 dX12_readAll_75 ?_
  refine oj_iconst dX12_readAll_78 ci_0 ?_
  refine oj_iconst dX12_readAll_79 ci_0 ?_
  refine oj_zast k_119 in_0_2 ix_0 dX12_readAll_80 ?_
  refine oj_toph (fun h29 eh29 => ?_)
  have y30 := Lt_at y28 h29 eh29
  refine oj_aload_n 0 dX12_readAll_81 rfl rfl ?_
  refine oj_getr (q := 119) fl_RX12_45 k_108 rfl k_119 dX12_readAll_82 ?_
  refine oj_iconst dX12_readAll_85 ci_1 ?_
  refine oj_iconst dX12_readAll_86 ci_0 ?_
  refine oj_zast k_119 in_1_2 ix_1 dX12_readAll_87 ?_
  refine oj_toph (fun h31 eh31 => ?_)
  have y32 := Lt_at y30 h31 eh31
  refine oj_aload_n 0 dX12_readAll_88 rfl rfl ?_
  refine oj_iconst dX12_readAll_89 ci_0 ?_
  refine oj_puti fl_RX12_283 (Or.inl rfl) k_108 rfl rfl rfl dX12_readAll_90 ?_
  refine oj_toph (fun h33 eh33 => ?_)
  have y34 := Lt_at y32 h33 eh33
  refine oj_aload_n 0 dX12_readAll_93 rfl rfl ?_
  refine oc_Vv [] mi_RX12_242 ow_1450 op_39 rfl k_108 (BX12_token  y34) ⟨by decide, by decide⟩ ⟨Nat.le_refl _, Nat.le_refl _⟩ rfl (Nat.le_of_ble_eq_true rfl) dX12_readAll_94 (fun h36 y38 => ?_)
  refine oj_lv [0] rfl ?_
  obtain ⟨n, y49⟩ := y38
  exact BLX12_readAll_97  n _ y49
-- X12_begin
set_option maxRecDepth 100000 in
set_option maxHeartbeats 4000000 in
theorem BKX12_begin_54 {x1 : Int32} {s0 : Int32} {s1 : Int32} {h : ob_H} {Q : ob_H → Prop} {k23 : Int32 → ob_H → Prop} (hk23 : ∀ (x1' : Int32) (h' : ob_H), k23 x1' h' → ob_J RX12 cX12_begin 2 (ob_rm 1) false none 0 0 KS NN h' 23 [(0, .ref 108), (1, .int x1')] [] (ob_g none (ob_qv Q)))
    (y : KX12_begin_54 x1 s0 s1 h Q k23) : ob_J RX12 cX12_begin 2 (ob_rm 1) false none 0 0 KS NN h 54 [(0, .ref 108), (1, .int x1)] [.int s0, .int s1, .ref 136] (ob_g none (ob_qv Q)) := by
  unfold KX12_begin_54 at y
  obtain ⟨c10, y11⟩ := y
  refine oj_iast k_136 c10 rfl dX12_begin_54 ?_
  refine oj_toph (fun h12 eh12 => ?_)
  have y13 := Lt_at y11 h12 eh12
  refine oj_aload_n 0 dX12_begin_55 rfl rfl ?_
  refine oj_getr (q := 136) fl_RX12_100 k_108 rfl k_136 dX12_begin_56 ?_
  refine oj_bipush dX12_begin_59 cb_14 ?_
  refine oj_iload_n 1 dX12_begin_61 rfl rfl ?_
  refine oj_iadd dX12_begin_62 ?_
  refine oj_iload_n 1 dX12_begin_63 rfl rfl ?_
  obtain ⟨c14, y15⟩ := y13
  refine oj_iast k_136 c14 rfl dX12_begin_64 ?_
  refine oj_toph (fun h16 eh16 => ?_)
  have y17 := Lt_at y15 h16 eh16
  obtain ⟨v18, ev18⟩ : ∃ z : Int32, z = x1 + (1) := ⟨_, rfl⟩
  have y19 := Lt_at y17 v18 ev18
  refine oj_iinc (v := v18) (lv' := [(1, .int v18), (0, .ref 108)]) 1 dX12_begin_65 rfl (iinc_e ci_1 ev18) (by decide) rfl ?_
  refine oj_goto 23 dX12_begin_68 rfl ?_
  refine oj_lv [1, 0] rfl ?_
  exact hk23 _ _ y19
set_option maxRecDepth 100000 in
set_option maxHeartbeats 4000000 in
theorem BLX12_begin_23 {Q : ob_H → Prop} :
    ∀ (n : Nat) (x1 : Int32) (h : ob_H), it2 (FX12_begin_23 Q) n x1 h → ob_J RX12 cX12_begin 2 (ob_rm 1) false none 0 0 KS NN h 23 [(0, .ref 108), (1, .int x1)] [] (ob_g none (ob_qv Q)) := by
  intro n
  induction n with
  | zero => intro x1 h y; exact False.elim y
  | succ n hk23 =>
    intro x1 h y
    have y : FX12_begin_23 Q (it2 (FX12_begin_23 Q) n) x1 h := y
    unfold FX12_begin_23 at y
    refine oj_iload_n 1 dX12_begin_23 rfl rfl ?_
    refine oj_aload_n 0 dX12_begin_24 rfl rfl ?_
    refine oj_geti fl_RX12_323 k_108 rfl dX12_begin_25 ?_
    refine oj_icmp_ge 71 dX12_begin_28 rfl (fun c4 => ?_) (fun c4 => ?_)
    · have y5 := y.1 c4
      exact oj_ret (r := none) ⟨trivial, rfl, rfl, rfl, y5⟩ dX12_begin_71 (Nat.zero_le _) (Nat.zero_le _)
    · have y6 := y.2 c4
      refine oj_aload_n 0 dX12_begin_31 rfl rfl ?_
      refine oj_getr (q := 136) fl_RX12_100 k_108 rfl k_136 dX12_begin_32 ?_
      refine oj_iload_n 1 dX12_begin_35 rfl rfl ?_
      refine oj_aload_n 0 dX12_begin_36 rfl rfl ?_
      refine oj_geti fl_RX12_394 k_108 rfl dX12_begin_37 ?_
      refine oj_iload_n 1 dX12_begin_40 rfl rfl ?_
      refine oj_ishr dX12_begin_41 ?_
      refine oj_iconst dX12_begin_42 ci_1 ?_
      refine oj_iand dX12_begin_43 ?_
      refine oj_iconst dX12_begin_44 ci_1 ?_
      refine oj_icmp_ne 53 dX12_begin_45 rfl (fun c7 => ?_) (fun c7 => ?_)
      · have y8 := y6.2 c7
        refine oj_iconst dX12_begin_53 ci_0 ?_
        refine oj_lv [0, 1] rfl ?_
        exact BKX12_begin_54 hk23 y8
      · have y9 := y6.1 c7
        refine oj_bipush dX12_begin_48 cb_6 ?_
        refine oj_goto 54 dX12_begin_50 rfl ?_
        refine oj_lv [0, 1] rfl ?_
        exact BKX12_begin_54 hk23 y9
set_option maxRecDepth 100000 in
set_option maxHeartbeats 4000000 in
theorem BLX12_begin_2 {Q : ob_H → Prop} :
    ∀ (n : Nat) (x1 : Int32) (h : ob_H), it2 (FX12_begin_2 Q) n x1 h → ob_J RX12 cX12_begin 2 (ob_rm 1) false none 0 0 KS NN h 2 [(0, .ref 108), (1, .int x1)] [] (ob_g none (ob_qv Q)) := by
  intro n
  induction n with
  | zero => intro x1 h y; exact False.elim y
  | succ n hk2 =>
    intro x1 h y
    have y : FX12_begin_2 Q (it2 (FX12_begin_2 Q) n) x1 h := y
    unfold FX12_begin_2 at y
    refine oj_iload_n 1 dX12_begin_2 rfl rfl ?_
    refine oj_bipush dX12_begin_3 cb_24 ?_
    refine oj_icmp_ge 21 dX12_begin_5 rfl (fun c1 => ?_) (fun c1 => ?_)
    · have y2 := y.1 c1
      refine oj_iconst dX12_begin_21 ci_0 ?_
      refine oj_istore_n (lv' := [(1, .int (0)), (0, .ref 108)]) dX12_begin_22 rfl (by decide) rfl ?_
      refine oj_lv [1, 0] rfl ?_
      obtain ⟨n, y20⟩ := y2
      exact BLX12_begin_23  n _ _ y20
    · have y3 := y.2 c1
      refine oj_aload_n 0 dX12_begin_8 rfl rfl ?_
      refine oj_getr (q := 136) fl_RX12_100 k_108 rfl k_136 dX12_begin_9 ?_
      refine oj_iload_n 1 dX12_begin_12 rfl rfl ?_
      refine oj_iconst dX12_begin_13 ci_0 ?_
      obtain ⟨c21, y22⟩ := y3
      refine oj_iast k_136 c21 rfl dX12_begin_14 ?_
      refine oj_toph (fun h23 eh23 => ?_)
      have y24 := Lt_at y22 h23 eh23
      obtain ⟨v25, ev25⟩ : ∃ z : Int32, z = x1 + (1) := ⟨_, rfl⟩
      have y26 := Lt_at y24 v25 ev25
      refine oj_iinc (v := v25) (lv' := [(1, .int v25), (0, .ref 108)]) 1 dX12_begin_15 rfl (iinc_e ci_1 ev25) (by decide) rfl ?_
      refine oj_goto 2 dX12_begin_18 rfl ?_
      refine oj_lv [1, 0] rfl ?_
      exact hk2 _ _ y26
set_option maxRecDepth 100000 in
set_option maxHeartbeats 4000000 in
theorem BX12_begin    {h : ob_H} {Q : ob_H → Prop} (y : MX12_begin   h Q) : ob_T yX12_begin cX12_begin 2 none (ob_rm 1) KS NN h [.ref 108] (ob_g none (ob_qv Q)) := by
  unfold MX12_begin at y
  refine ob_T_gf (by decide +kernel) (Nat.le_of_ble_eq_true rfl) ?_
  show ob_J RX12 cX12_begin 2 (ob_rm 1) false none 0 0 KS NN h 0 [(0, .ref 108)] [] (ob_g none (ob_qv Q))
  refine oj_iconst dX12_begin_0 ci_0 ?_
  refine oj_istore_n (lv' := [(1, .int (0)), (0, .ref 108)]) dX12_begin_1 rfl (by decide) rfl ?_
  refine oj_lv [1, 0] rfl ?_
  obtain ⟨n, y27⟩ := y
  exact BLX12_begin_2  n _ _ y27
-- X12_keepAir
set_option maxRecDepth 100000 in
set_option maxHeartbeats 4000000 in
theorem BLX12_keepAir_2 {Q : ob_H → Prop} :
    ∀ (n : Nat) (x1 : Int32) (h : ob_H), it2 (FX12_keepAir_2 Q) n x1 h → ob_J RX12 cX12_keepAir 2 (ob_rm 1) false none 0 0 KS NN h 2 [(0, .ref 108), (1, .int x1)] [] (ob_g none (ob_qv Q)) := by
  intro n
  induction n with
  | zero => intro x1 h y; exact False.elim y
  | succ n hk2 =>
    intro x1 h y
    have y : FX12_keepAir_2 Q (it2 (FX12_keepAir_2 Q) n) x1 h := y
    unfold FX12_keepAir_2 at y
    refine oj_iload_n 1 dX12_keepAir_2 rfl rfl ?_
    refine oj_bipush dX12_keepAir_3 cb_24 ?_
    refine oj_icmp_ge 26 dX12_keepAir_5 rfl (fun c1 => ?_) (fun c1 => ?_)
    · have y2 := y.1 c1
      exact oj_ret (r := none) ⟨trivial, rfl, rfl, rfl, y2⟩ dX12_keepAir_26 (Nat.zero_le _) (Nat.zero_le _)
    · have y3 := y.2 c1
      refine oj_aload_n 0 dX12_keepAir_8 rfl rfl ?_
      refine oj_getr (q := 135) fl_RX12_97 k_108 rfl k_135 dX12_keepAir_9 ?_
      refine oj_iload_n 1 dX12_keepAir_12 rfl rfl ?_
      refine oj_aload_n 0 dX12_keepAir_13 rfl rfl ?_
      refine oj_getr (q := 136) fl_RX12_100 k_108 rfl k_136 dX12_keepAir_14 ?_
      refine oj_iload_n 1 dX12_keepAir_17 rfl rfl ?_
      obtain ⟨c4, y5⟩ := y3
      refine oj_iald k_136 c4 rfl dX12_keepAir_18 ?_
      refine oj_iast k_135 c4 rfl dX12_keepAir_19 ?_
      refine oj_toph (fun h6 eh6 => ?_)
      have y7 := Lt_at y5 h6 eh6
      obtain ⟨v8, ev8⟩ : ∃ z : Int32, z = x1 + (1) := ⟨_, rfl⟩
      have y9 := Lt_at y7 v8 ev8
      refine oj_iinc (v := v8) (lv' := [(1, .int v8), (0, .ref 108)]) 1 dX12_keepAir_20 rfl (iinc_e ci_1 ev8) (by decide) rfl ?_
      refine oj_goto 2 dX12_keepAir_23 rfl ?_
      refine oj_lv [1, 0] rfl ?_
      exact hk2 _ _ y9
set_option maxRecDepth 100000 in
set_option maxHeartbeats 4000000 in
theorem BX12_keepAir    {h : ob_H} {Q : ob_H → Prop} (y : MX12_keepAir   h Q) : ob_T yX12_keepAir cX12_keepAir 2 none (ob_rm 1) KS NN h [.ref 108] (ob_g none (ob_qv Q)) := by
  unfold MX12_keepAir at y
  refine ob_T_gf (by decide +kernel) (Nat.le_of_ble_eq_true rfl) ?_
  show ob_J RX12 cX12_keepAir 2 (ob_rm 1) false none 0 0 KS NN h 0 [(0, .ref 108)] [] (ob_g none (ob_qv Q))
  refine oj_iconst dX12_keepAir_0 ci_0 ?_
  refine oj_istore_n (lv' := [(1, .int (0)), (0, .ref 108)]) dX12_keepAir_1 rfl (by decide) rfl ?_
  refine oj_lv [1, 0] rfl ?_
  obtain ⟨n, y10⟩ := y
  exact BLX12_keepAir_2  n _ _ y10
-- X12_wedding
set_option maxRecDepth 100000 in
set_option maxHeartbeats 4000000 in
theorem BLX12_wedding_295 {Q : Int32 → ob_H → Prop} :
    ∀ (n : Nat) (x1 : Int32) (h : ob_H), it2 (FX12_wedding_295 Q) n x1 h → ob_J RX12 cX12_wedding 3 (ob_rm 9) false none 0 0 KS NN h 295 [(0, .ref 108), (1, .int x1)] [] (ob_g (some .int) (ob_qi Q)) := by
  intro n
  induction n with
  | zero => intro x1 h y; exact False.elim y
  | succ n hk295 =>
    intro x1 h y
    have y : FX12_wedding_295 Q (it2 (FX12_wedding_295 Q) n) x1 h := y
    unfold FX12_wedding_295 at y
    refine oj_iload_n 1 dX12_wedding_295 rfl rfl ?_
    refine oj_iconst dX12_wedding_296 ci_3 ?_
    refine oj_icmp_ge 313 dX12_wedding_297 rfl (fun c43 => ?_) (fun c43 => ?_)
    · have y44 := y.1 c43
      refine oj_aload_n 0 dX12_wedding_313 rfl rfl ?_
      refine oj_geti fl_RX12_323 k_108 rfl dX12_wedding_314 ?_
      exact oj_ret (r := some (.int (h.1 108 48))) ⟨trivial, rfl, rfl, (h.1 108 48), rfl, y44⟩ dX12_wedding_317 (Nat.zero_le _) (Nat.zero_le _)
    · have y45 := y.2 c43
      refine oj_aload_n 0 dX12_wedding_300 rfl rfl ?_
      refine oj_getr (q := 150) fl_RX12_142 k_108 rfl k_150 dX12_wedding_301 ?_
      refine oj_iload_n 1 dX12_wedding_304 rfl rfl ?_
      refine oj_iconst dX12_wedding_305 ci_0 ?_
      obtain ⟨c46, y47⟩ := y45
      refine oj_zast k_150 c46 rfl dX12_wedding_306 ?_
      refine oj_toph (fun h48 eh48 => ?_)
      have y49 := Lt_at y47 h48 eh48
      obtain ⟨v50, ev50⟩ : ∃ z : Int32, z = x1 + (1) := ⟨_, rfl⟩
      have y51 := Lt_at y49 v50 ev50
      refine oj_iinc (v := v50) (lv' := [(1, .int v50), (0, .ref 108)]) 1 dX12_wedding_307 rfl (iinc_e ci_1 ev50) (by decide) rfl ?_
      refine oj_goto 295 dX12_wedding_310 rfl ?_
      refine oj_lv [1, 0] rfl ?_
      exact hk295 _ _ y51
set_option maxRecDepth 100000 in
set_option maxHeartbeats 4000000 in
theorem BLX12_wedding_225 {Q : Int32 → ob_H → Prop} :
    ∀ (n : Nat) (x1 : Int32) (h : ob_H), it2 (FX12_wedding_225 Q) n x1 h → ob_J RX12 cX12_wedding 3 (ob_rm 9) false none 0 0 KS NN h 225 [(0, .ref 108), (1, .int x1)] [] (ob_g (some .int) (ob_qi Q)) := by
  intro n
  induction n with
  | zero => intro x1 h y; exact False.elim y
  | succ n hk225 =>
    intro x1 h y
    have y : FX12_wedding_225 Q (it2 (FX12_wedding_225 Q) n) x1 h := y
    unfold FX12_wedding_225 at y
    refine oj_iload_n 1 dX12_wedding_225 rfl rfl ?_
    refine oj_bipush dX12_wedding_226 cb_7 ?_
    refine oj_aload_n 0 dX12_wedding_228 rfl rfl ?_
    refine oj_geti fl_RX12_323 k_108 rfl dX12_wedding_229 ?_
    refine oj_imul dX12_wedding_232 ?_
    refine oj_icmp_ge 254 dX12_wedding_233 rfl (fun c22 => ?_) (fun c22 => ?_)
    · have y23 := y.1 c22
      refine oj_aload_n 0 dX12_wedding_254 rfl rfl ?_
      refine oc_Vv [] mi_RX12_400 ow_1613 op_71 rfl k_108 (BX12_begin  y23) ⟨by decide, by decide⟩ ⟨Nat.le_refl _, Nat.le_refl _⟩ rfl (Nat.le_of_ble_eq_true rfl) dX12_wedding_255 (fun h26 y28 => ?_)
      refine oj_aload_n 0 dX12_wedding_258 rfl rfl ?_
      refine oj_getr (q := 136) fl_RX12_100 k_108 rfl k_136 dX12_wedding_259 ?_
      refine oj_bipush dX12_wedding_262 cb_23 ?_
      refine oj_aload_n 0 dX12_wedding_264 rfl rfl ?_
      refine oj_geti fl_RX12_385 k_108 rfl dX12_wedding_265 ?_
      refine oj_iast k_136 in_23_24 ix_23 dX12_wedding_268 ?_
      refine oj_toph (fun h29 eh29 => ?_)
      have y30 := Lt_at y28 h29 eh29
      refine oj_aload_n 0 dX12_wedding_269 rfl rfl ?_
      refine oc_Vv [] mi_RX12_403 ow_1617 op_72 rfl k_108 (BX12_keepAir  y30) ⟨by decide, by decide⟩ ⟨Nat.le_refl _, Nat.le_refl _⟩ rfl (Nat.le_of_ble_eq_true rfl) dX12_wedding_270 (fun h32 y34 => ?_)
      refine oj_aload_n 0 dX12_wedding_273 rfl rfl ?_
      refine oj_iconst dX12_wedding_274 ci_0 ?_
      refine oj_puti fl_RX12_406 (Or.inl rfl) k_108 rfl rfl rfl dX12_wedding_275 ?_
      refine oj_toph (fun h35 eh35 => ?_)
      have y36 := Lt_at y34 h35 eh35
      refine oj_aload_n 0 dX12_wedding_278 rfl rfl ?_
      refine oj_iconst dX12_wedding_279 ci_0 ?_
      refine oj_puti fl_RX12_409 (Or.inl rfl) k_108 rfl rfl rfl dX12_wedding_280 ?_
      refine oj_toph (fun h37 eh37 => ?_)
      have y38 := Lt_at y36 h37 eh37
      refine oj_aload_n 0 dX12_wedding_283 rfl rfl ?_
      refine oj_iconst dX12_wedding_284 ci_0 ?_
      refine oj_puti fl_RX12_412 (Or.inl rfl) k_108 rfl rfl rfl dX12_wedding_285 ?_
      refine oj_toph (fun h39 eh39 => ?_)
      have y40 := Lt_at y38 h39 eh39
      refine oj_aload_n 0 dX12_wedding_288 rfl rfl ?_
      refine oj_iconst dX12_wedding_289 ci_0 ?_
      refine oj_puti fl_RX12_415 (Or.inl rfl) k_108 rfl rfl rfl dX12_wedding_290 ?_
      refine oj_toph (fun h41 eh41 => ?_)
      have y42 := Lt_at y40 h41 eh41
      refine oj_iconst dX12_wedding_293 ci_0 ?_
      refine oj_istore_n (lv' := [(1, .int (0)), (0, .ref 108)]) dX12_wedding_294 rfl (by decide) rfl ?_
      refine oj_lv [1, 0] rfl ?_
      obtain ⟨n, y52⟩ := y42
      exact BLX12_wedding_295  n _ _ y52
    · have y24 := y.2 c22
      refine oj_aload_n 0 dX12_wedding_236 rfl rfl ?_
      refine oj_getr (q := 134) fl_RX12_91 k_108 rfl k_134 dX12_wedding_237 ?_
      refine oj_iload_n 1 dX12_wedding_240 rfl rfl ?_
      refine oj_aload_n 0 dX12_wedding_241 rfl rfl ?_
      refine oj_getr (q := 127) fl_RX12_70 k_108 rfl k_127 dX12_wedding_242 ?_
      refine oj_iload_n 1 dX12_wedding_245 rfl rfl ?_
      obtain ⟨c53, y54⟩ := y24
      refine oj_iald k_127 c53 rfl dX12_wedding_246 ?_
      refine oj_iast k_134 c53 rfl dX12_wedding_247 ?_
      refine oj_toph (fun h55 eh55 => ?_)
      have y56 := Lt_at y54 h55 eh55
      obtain ⟨v57, ev57⟩ : ∃ z : Int32, z = x1 + (1) := ⟨_, rfl⟩
      have y58 := Lt_at y56 v57 ev57
      refine oj_iinc (v := v57) (lv' := [(1, .int v57), (0, .ref 108)]) 1 dX12_wedding_248 rfl (iinc_e ci_1 ev57) (by decide) rfl ?_
      refine oj_goto 225 dX12_wedding_251 rfl ?_
      refine oj_lv [1, 0] rfl ?_
      exact hk225 _ _ y58
set_option maxRecDepth 100000 in
set_option maxHeartbeats 4000000 in
theorem BLX12_wedding_137 {Q : Int32 → ob_H → Prop} :
    ∀ (n : Nat) (x1 : Int32) (h : ob_H), it2 (FX12_wedding_137 Q) n x1 h → ob_J RX12 cX12_wedding 3 (ob_rm 9) false none 0 0 KS NN h 137 [(0, .ref 108), (1, .int x1)] [] (ob_g (some .int) (ob_qi Q)) := by
  intro n
  induction n with
  | zero => intro x1 h y; exact False.elim y
  | succ n hk137 =>
    intro x1 h y
    have y : FX12_wedding_137 Q (it2 (FX12_wedding_137 Q) n) x1 h := y
    unfold FX12_wedding_137 at y
    refine oj_iload_n 1 dX12_wedding_137 rfl rfl ?_
    refine oj_aload_n 0 dX12_wedding_138 rfl rfl ?_
    refine oj_geti fl_RX12_323 k_108 rfl dX12_wedding_139 ?_
    refine oj_icmp_ge 223 dX12_wedding_142 rfl (fun c19 => ?_) (fun c19 => ?_)
    · have y20 := y.1 c19
      refine oj_iconst dX12_wedding_223 ci_0 ?_
      refine oj_istore_n (lv' := [(1, .int (0)), (0, .ref 108)]) dX12_wedding_224 rfl (by decide) rfl ?_
      refine oj_lv [1, 0] rfl ?_
      obtain ⟨n, y59⟩ := y20
      exact BLX12_wedding_225  n _ _ y59
    · have y21 := y.2 c19
      refine oj_aload_n 0 dX12_wedding_145 rfl rfl ?_
      refine oj_getr (q := 128) fl_RX12_73 k_108 rfl k_128 dX12_wedding_146 ?_
      refine oj_iload_n 1 dX12_wedding_149 rfl rfl ?_
      refine oj_aload_n 0 dX12_wedding_150 rfl rfl ?_
      refine oj_getr (q := 121) fl_RX12_52 k_108 rfl k_121 dX12_wedding_151 ?_
      refine oj_iload_n 1 dX12_wedding_154 rfl rfl ?_
      obtain ⟨c60, y61⟩ := y21
      refine oj_iald k_121 c60 rfl dX12_wedding_155 ?_
      refine oj_iast k_128 c60 rfl dX12_wedding_156 ?_
      refine oj_toph (fun h62 eh62 => ?_)
      have y63 := Lt_at y61 h62 eh62
      refine oj_aload_n 0 dX12_wedding_157 rfl rfl ?_
      refine oj_getr (q := 129) fl_RX12_76 k_108 rfl k_129 dX12_wedding_158 ?_
      refine oj_iload_n 1 dX12_wedding_161 rfl rfl ?_
      refine oj_aload_n 0 dX12_wedding_162 rfl rfl ?_
      refine oj_getr (q := 122) fl_RX12_55 k_108 rfl k_122 dX12_wedding_163 ?_
      refine oj_iload_n 1 dX12_wedding_166 rfl rfl ?_
      refine oj_iald k_122 c60 rfl dX12_wedding_167 ?_
      refine oj_iast k_129 c60 rfl dX12_wedding_168 ?_
      refine oj_toph (fun h64 eh64 => ?_)
      have y65 := Lt_at y63 h64 eh64
      refine oj_aload_n 0 dX12_wedding_169 rfl rfl ?_
      refine oj_getr (q := 130) fl_RX12_79 k_108 rfl k_130 dX12_wedding_170 ?_
      refine oj_iload_n 1 dX12_wedding_173 rfl rfl ?_
      refine oj_aload_n 0 dX12_wedding_174 rfl rfl ?_
      refine oj_getr (q := 123) fl_RX12_58 k_108 rfl k_123 dX12_wedding_175 ?_
      refine oj_iload_n 1 dX12_wedding_178 rfl rfl ?_
      refine oj_iald k_123 c60 rfl dX12_wedding_179 ?_
      refine oj_iast k_130 c60 rfl dX12_wedding_180 ?_
      refine oj_toph (fun h66 eh66 => ?_)
      have y67 := Lt_at y65 h66 eh66
      refine oj_aload_n 0 dX12_wedding_181 rfl rfl ?_
      refine oj_getr (q := 131) fl_RX12_82 k_108 rfl k_131 dX12_wedding_182 ?_
      refine oj_iload_n 1 dX12_wedding_185 rfl rfl ?_
      refine oj_aload_n 0 dX12_wedding_186 rfl rfl ?_
      refine oj_getr (q := 124) fl_RX12_61 k_108 rfl k_124 dX12_wedding_187 ?_
      refine oj_iload_n 1 dX12_wedding_190 rfl rfl ?_
      refine oj_iald k_124 c60 rfl dX12_wedding_191 ?_
      refine oj_iast k_131 c60 rfl dX12_wedding_192 ?_
      refine oj_toph (fun h68 eh68 => ?_)
      have y69 := Lt_at y67 h68 eh68
      refine oj_aload_n 0 dX12_wedding_193 rfl rfl ?_
      refine oj_getr (q := 132) fl_RX12_85 k_108 rfl k_132 dX12_wedding_194 ?_
      refine oj_iload_n 1 dX12_wedding_197 rfl rfl ?_
      refine oj_aload_n 0 dX12_wedding_198 rfl rfl ?_
      refine oj_getr (q := 125) fl_RX12_64 k_108 rfl k_125 dX12_wedding_199 ?_
      refine oj_iload_n 1 dX12_wedding_202 rfl rfl ?_
      refine oj_iald k_125 c60 rfl dX12_wedding_203 ?_
      refine oj_iast k_132 c60 rfl dX12_wedding_204 ?_
      refine oj_toph (fun h70 eh70 => ?_)
      have y71 := Lt_at y69 h70 eh70
      refine oj_aload_n 0 dX12_wedding_205 rfl rfl ?_
      refine oj_getr (q := 133) fl_RX12_88 k_108 rfl k_133 dX12_wedding_206 ?_
      refine oj_iload_n 1 dX12_wedding_209 rfl rfl ?_
      refine oj_aload_n 0 dX12_wedding_210 rfl rfl ?_
      refine oj_getr (q := 126) fl_RX12_67 k_108 rfl k_126 dX12_wedding_211 ?_
      refine oj_iload_n 1 dX12_wedding_214 rfl rfl ?_
      refine oj_iald k_126 c60 rfl dX12_wedding_215 ?_
      refine oj_iast k_133 c60 rfl dX12_wedding_216 ?_
      refine oj_toph (fun h72 eh72 => ?_)
      have y73 := Lt_at y71 h72 eh72
      obtain ⟨v74, ev74⟩ : ∃ z : Int32, z = x1 + (1) := ⟨_, rfl⟩
      have y75 := Lt_at y73 v74 ev74
      refine oj_iinc (v := v74) (lv' := [(1, .int v74), (0, .ref 108)]) 1 dX12_wedding_217 rfl (iinc_e ci_1 ev74) (by decide) rfl ?_
      refine oj_goto 137 dX12_wedding_220 rfl ?_
      refine oj_lv [1, 0] rfl ?_
      exact hk137 _ _ y75
set_option maxRecDepth 100000 in
set_option maxHeartbeats 4000000 in
theorem BLX12_wedding_83 {x1 : Int32} {Q : Int32 → ob_H → Prop} {k47 : Int32 → ob_H → Prop} (hk47 : ∀ (x1' : Int32) (h' : ob_H), k47 x1' h' → ob_J RX12 cX12_wedding 3 (ob_rm 9) false none 0 0 KS NN h' 47 [(0, .ref 108), (1, .int x1')] [] (ob_g (some .int) (ob_qi Q))) :
    ∀ (n : Nat) (x2 : Int32) (h : ob_H), it2 (FX12_wedding_83 x1 Q k47) n x2 h → ob_J RX12 cX12_wedding 3 (ob_rm 9) false none 0 0 KS NN h 83 [(0, .ref 108), (1, .int x1), (2, .int x2)] [] (ob_g (some .int) (ob_qi Q)) := by
  intro n
  induction n with
  | zero => intro x2 h y; exact False.elim y
  | succ n hk83 =>
    intro x2 h y
    have y : FX12_wedding_83 x1 Q k47 (it2 (FX12_wedding_83 x1 Q k47) n) x2 h := y
    unfold FX12_wedding_83 at y
    refine oj_iload_n 2 dX12_wedding_83 rfl rfl ?_
    refine oj_sipush dX12_wedding_84 cs_320 ?_
    refine oj_iload_n 1 dX12_wedding_87 rfl rfl ?_
    refine oj_imul dX12_wedding_88 ?_
    refine oj_aload_n 0 dX12_wedding_89 rfl rfl ?_
    refine oj_getr (q := 116) fl_RX12_36 k_108 rfl k_116 dX12_wedding_90 ?_
    refine oj_iload_n 1 dX12_wedding_93 rfl rfl ?_
    obtain ⟨c88, y89⟩ := y
    refine oj_iald k_116 c88 rfl dX12_wedding_94 ?_
    refine oj_iadd dX12_wedding_95 ?_
    refine oj_icmp_ge 129 dX12_wedding_96 rfl (fun c90 => ?_) (fun c90 => ?_)
    · have y91 := y89.1 c90
      obtain ⟨v93, ev93⟩ : ∃ z : Int32, z = x1 + (1) := ⟨_, rfl⟩
      have y94 := Lt_at y91 v93 ev93
      refine oj_iinc (v := v93) (lv' := [(1, .int v93), (0, .ref 108), (2, .int x2)]) 1 dX12_wedding_129 rfl (iinc_e ci_1 ev93) (by decide) rfl ?_
      refine oj_goto 47 dX12_wedding_132 rfl ?_
      refine oj_lv [1, 0] rfl ?_
      exact hk47 _ _ y94
    · have y92 := y89.2 c90
      refine oj_aload_n 0 dX12_wedding_99 rfl rfl ?_
      refine oj_getr (q := 114) fl_RX12_30 k_108 rfl k_114 dX12_wedding_100 ?_
      refine oj_iload_n 2 dX12_wedding_103 rfl rfl ?_
      refine oj_aload_n 0 dX12_wedding_104 rfl rfl ?_
      refine oj_getr (q := 111) fl_RX12_21 k_108 rfl k_111 dX12_wedding_105 ?_
      refine oj_iload_n 2 dX12_wedding_108 rfl rfl ?_
      obtain ⟨c95, y96⟩ := y92
      refine oj_iald k_111 c95 rfl dX12_wedding_109 ?_
      refine oj_iast k_114 c95 rfl dX12_wedding_110 ?_
      refine oj_toph (fun h97 eh97 => ?_)
      have y98 := Lt_at y96 h97 eh97
      refine oj_aload_n 0 dX12_wedding_111 rfl rfl ?_
      refine oj_getr (q := 115) fl_RX12_33 k_108 rfl k_115 dX12_wedding_112 ?_
      refine oj_iload_n 2 dX12_wedding_115 rfl rfl ?_
      refine oj_aload_n 0 dX12_wedding_116 rfl rfl ?_
      refine oj_getr (q := 112) fl_RX12_24 k_108 rfl k_112 dX12_wedding_117 ?_
      refine oj_iload_n 2 dX12_wedding_120 rfl rfl ?_
      refine oj_iald k_112 c95 rfl dX12_wedding_121 ?_
      refine oj_iast k_115 c95 rfl dX12_wedding_122 ?_
      refine oj_toph (fun h99 eh99 => ?_)
      have y100 := Lt_at y98 h99 eh99
      obtain ⟨v101, ev101⟩ : ∃ z : Int32, z = x2 + (1) := ⟨_, rfl⟩
      have y102 := Lt_at y100 v101 ev101
      refine oj_iinc (v := v101) (lv' := [(2, .int v101), (0, .ref 108), (1, .int x1)]) 2 dX12_wedding_123 rfl (iinc_e ci_1 ev101) (by decide) rfl ?_
      refine oj_goto 83 dX12_wedding_126 rfl ?_
      refine oj_lv [1, 2, 0] rfl ?_
      exact hk83 _ _ y102
set_option maxRecDepth 100000 in
set_option maxHeartbeats 4000000 in
theorem BKX12_wedding_76 {x1 : Int32} {s0 : Int32} {s1 : Int32} {h : ob_H} {Q : Int32 → ob_H → Prop} {k47 : Int32 → ob_H → Prop} (hk47 : ∀ (x1' : Int32) (h' : ob_H), k47 x1' h' → ob_J RX12 cX12_wedding 3 (ob_rm 9) false none 0 0 KS NN h' 47 [(0, .ref 108), (1, .int x1')] [] (ob_g (some .int) (ob_qi Q)))
    (y : KX12_wedding_76 x1 s0 s1 h Q k47) : ob_J RX12 cX12_wedding 3 (ob_rm 9) false none 0 0 KS NN h 76 [(0, .ref 108), (1, .int x1)] [.int s0, .int s1, .ref 116] (ob_g (some .int) (ob_qi Q)) := by
  unfold KX12_wedding_76 at y
  obtain ⟨c82, y83⟩ := y
  refine oj_iast k_116 c82 rfl dX12_wedding_76 ?_
  refine oj_toph (fun h84 eh84 => ?_)
  have y85 := Lt_at y83 h84 eh84
  refine oj_sipush dX12_wedding_77 cs_320 ?_
  refine oj_iload_n 1 dX12_wedding_80 rfl rfl ?_
  refine oj_imul dX12_wedding_81 ?_
  refine oj_topi (fun v86 ev86 => ?_)
  have y87 := Lt_at y85 v86 ev86
  refine oj_istore_n (lv' := [(2, .int v86), (0, .ref 108), (1, .int x1)]) dX12_wedding_82 rfl (by decide) rfl ?_
  refine oj_lv [1, 2, 0] rfl ?_
  obtain ⟨n, y103⟩ := y87
  exact BLX12_wedding_83 hk47 n _ _ y103
set_option maxRecDepth 100000 in
set_option maxHeartbeats 4000000 in
theorem BLX12_wedding_47 {Q : Int32 → ob_H → Prop} :
    ∀ (n : Nat) (x1 : Int32) (h : ob_H), it2 (FX12_wedding_47 Q) n x1 h → ob_J RX12 cX12_wedding 3 (ob_rm 9) false none 0 0 KS NN h 47 [(0, .ref 108), (1, .int x1)] [] (ob_g (some .int) (ob_qi Q)) := by
  intro n
  induction n with
  | zero => intro x1 h y; exact False.elim y
  | succ n hk47 =>
    intro x1 h y
    have y : FX12_wedding_47 Q (it2 (FX12_wedding_47 Q) n) x1 h := y
    unfold FX12_wedding_47 at y
    refine oj_iload_n 1 dX12_wedding_47 rfl rfl ?_
    refine oj_iconst dX12_wedding_48 ci_2 ?_
    refine oj_icmp_ge 135 dX12_wedding_49 rfl (fun c16 => ?_) (fun c16 => ?_)
    · have y17 := y.1 c16
      refine oj_iconst dX12_wedding_135 ci_0 ?_
      refine oj_istore_n (lv' := [(1, .int (0)), (0, .ref 108)]) dX12_wedding_136 rfl (by decide) rfl ?_
      refine oj_lv [1, 0] rfl ?_
      obtain ⟨n, y76⟩ := y17
      exact BLX12_wedding_137  n _ _ y76
    · have y18 := y.2 c16
      refine oj_aload_n 0 dX12_wedding_52 rfl rfl ?_
      refine oj_getr (q := 116) fl_RX12_36 k_108 rfl k_116 dX12_wedding_53 ?_
      refine oj_iload_n 1 dX12_wedding_56 rfl rfl ?_
      refine oj_aload_n 0 dX12_wedding_57 rfl rfl ?_
      refine oj_getr (q := 119) fl_RX12_45 k_108 rfl k_119 dX12_wedding_58 ?_
      refine oj_iload_n 1 dX12_wedding_61 rfl rfl ?_
      obtain ⟨c77, y78⟩ := y18
      refine oj_zald k_119 c77 rfl dX12_wedding_62 ?_
      refine oj_if_eq 75 dX12_wedding_63 rfl (fun c79 => ?_) (fun c79 => ?_)
      · have y80 := y78.1 c79
        refine oj_iconst dX12_wedding_75 ci_0 ?_
        refine oj_lv [0, 1] rfl ?_
        exact BKX12_wedding_76 hk47 y80
      · have y81 := y78.2 c79
        refine oj_aload_n 0 dX12_wedding_66 rfl rfl ?_
        refine oj_getr (q := 113) fl_RX12_27 k_108 rfl k_113 dX12_wedding_67 ?_
        refine oj_iload_n 1 dX12_wedding_70 rfl rfl ?_
        refine oj_iald k_113 c77 rfl dX12_wedding_71 ?_
        refine oj_goto 76 dX12_wedding_72 rfl ?_
        refine oj_lv [0, 1] rfl ?_
        exact BKX12_wedding_76 hk47 y81
set_option maxRecDepth 100000 in
set_option maxHeartbeats 4000000 in
theorem BX12_wedding    {h : ob_H} {Q : Int32 → ob_H → Prop} (y : MX12_wedding   h Q) : ob_T yX12_wedding cX12_wedding 3 (some .int) (ob_rm 9) KS NN h [.ref 108] (ob_g (some .int) (ob_qi Q)) := by
  unfold MX12_wedding at y
  refine ob_T_gf (by decide +kernel) (Nat.le_of_ble_eq_true rfl) ?_
  show ob_J RX12 cX12_wedding 3 (ob_rm 9) false none 0 0 KS NN h 0 [(0, .ref 108)] [] (ob_g (some .int) (ob_qi Q))
  refine oj_aload_n 0 dX12_wedding_0 rfl rfl ?_
  refine oc_Vv [] mi_RX12_391 ow_1446 op_38 rfl k_108 (BX12_readAll  y) ⟨by decide, by decide⟩ ⟨Nat.le_refl _, Nat.le_refl _⟩ rfl (Nat.le_of_ble_eq_true rfl) dX12_wedding_1 (fun h2 y4 => ?_)
  refine oj_aload_n 0 dX12_wedding_4 rfl rfl ?_
  refine oj_geti fl_RX12_188 k_108 rfl dX12_wedding_5 ?_
  refine oj_if_le 13 dX12_wedding_8 rfl (fun c5 => ?_) (fun c5 => ?_)
  · have y6 := y4.1 c5
    refine oj_aload_n 0 dX12_wedding_13 rfl rfl ?_
    refine oj_aload_n 0 dX12_wedding_14 rfl rfl ?_
    refine oj_geti fl_RX12_257 k_108 rfl dX12_wedding_15 ?_
    refine oj_puti fl_RX12_323 (Or.inl rfl) k_108 rfl rfl rfl dX12_wedding_18 ?_
    refine oj_toph (fun h8 eh8 => ?_)
    have y9 := Lt_at y6 h8 eh8
    refine oj_aload_n 0 dX12_wedding_21 rfl rfl ?_
    refine oj_aload_n 0 dX12_wedding_22 rfl rfl ?_
    refine oj_geti fl_RX12_336 k_108 rfl dX12_wedding_23 ?_
    refine oj_puti fl_RX12_394 (Or.inl rfl) k_108 rfl rfl rfl dX12_wedding_26 ?_
    refine oj_toph (fun h10 eh10 => ?_)
    have y11 := Lt_at y9 h10 eh10
    refine oj_aload_n 0 dX12_wedding_29 rfl rfl ?_
    refine oj_aload_n 0 dX12_wedding_30 rfl rfl ?_
    refine oj_geti fl_RX12_379 k_108 rfl dX12_wedding_31 ?_
    refine oj_puti fl_RX12_94 (Or.inl rfl) k_108 rfl rfl rfl dX12_wedding_34 ?_
    refine oj_toph (fun h12 eh12 => ?_)
    have y13 := Lt_at y11 h12 eh12
    refine oj_aload_n 0 dX12_wedding_37 rfl rfl ?_
    refine oj_aload_n 0 dX12_wedding_38 rfl rfl ?_
    refine oj_geti fl_RX12_283 k_108 rfl dX12_wedding_39 ?_
    refine oj_puti fl_RX12_397 (Or.inl rfl) k_108 rfl rfl rfl dX12_wedding_42 ?_
    refine oj_toph (fun h14 eh14 => ?_)
    have y15 := Lt_at y13 h14 eh14
    refine oj_iconst dX12_wedding_45 ci_0 ?_
    refine oj_istore_n (lv' := [(1, .int (0)), (0, .ref 108)]) dX12_wedding_46 rfl (by decide) rfl ?_
    refine oj_lv [1, 0] rfl ?_
    obtain ⟨n, y104⟩ := y15
    exact BLX12_wedding_47  n _ _ y104
  · have y7 := y4.2 c5
    refine oj_iconst dX12_wedding_11 ci_m1 ?_
    exact oj_ret (r := some (.int (-1))) ⟨trivial, rfl, rfl, (-1), rfl, y7⟩ dX12_wedding_12 (Nat.zero_le _) (Nat.zero_le _)
