-- ===== shapes at written places =====
theorem KW_at {ks : Nat → ob_K} {o i n q : Nat} {L : List ob_K} {v : ob_K} (hi : L[i]? = some v) (e1 : n = o + L.length) (e2 : q = o + i) (hn : n ≤ 100000) : ob_is (KW ks o L) n q v := by
  subst e1 e2
  exact KW_is hi hn
theorem KW_loN {ks : Nat → ob_K} {o q n m : Nat} {L : List ob_K} {v : ob_K} (h : ob_is ks m q v) (hq : q < o) (e : n = o + L.length) (hn : n ≤ 100000) : ob_is (KW ks o L) n q v := by
  subst e
  exact KW_lo h hq hn
theorem KW_pushN {ks : Nat → ob_K} {o n : Nat} {L L2 : List ob_K} {v : ob_K} (e : n = o + L.length) (e2 : L ++ [v] = L2) : ku (KW ks o L) n v = KW ks o L2 := by
  subst e e2
  exact KW_push
theorem KW_setN {ks : Nat → ob_K} {o i q : Nat} {L L2 : List ob_K} {v : ob_K} (e : q = o + i) (hi : i < L.length) (e2 : L.set i v = L2) : ku (KW ks o L) q v = KW ks o L2 := by
  subst e e2
  exact KW_set hi
theorem KW_nestN {ks : Nat → ob_K} {o n : Nat} {L M L2 : List ob_K} (e : n = o + L.length) (e2 : L ++ M = L2) : KW (KW ks o L) n M = KW ks o L2 := by
  subst e e2
  exact KW_nest
theorem oj_kn {own : String} {cc : ByteArray} {nL : Nat} {R : Room} {ini : Bool} {sc : ob_Sc} {ce sl : Nat} {ks ks' : Nat → ob_K} {n n' : Nat} {h : ob_H} {pc : Nat} {lv : List (Nat × Value)} {st : List Value} {Q : ob_Q} (e : ks = ks') (en : n = n') (k : ob_J own cc nL R ini sc ce sl ks' n' h pc lv st Q) : ob_J own cc nL R ini sc ce sl ks n h pc lv st Q := by
  subst e en
  exact k
theorem hl_same {h : ob_H} {o k : Nat} {v : Int64} (e : h.2.1 o k = v) : h_l h o k v = h := by
  refine Prod.ext rfl (Prod.ext ?_ rfl)
  funext q j
  show (if q = o ∧ j = k then v else h.2.1 q j) = h.2.1 q j
  by_cases c : q = o ∧ j = k
  · rw [if_pos c, c.1, c.2, e]
  · rw [if_neg c]
set_option maxRecDepth 100000 in
set_option maxHeartbeats 4000000 in
theorem BG10_withLetter {kg : Nat → ob_K} {ng : Nat} {p0 : Int64} {p2 : Int32} {h : ob_H} {Q : Int64 → Prop} (y : MX10_withLetter p0 p2 h Q) : ob_T yX10_withLetter cX10_withLetter 3 (some .long) (ob_rm 1) kg ng h [.long p0, .int p2] (ob_g (some .long) (fun r ks n h' => ks = kg ∧ n = ng ∧ h' = h ∧ ∃ v, r = some (.long v) ∧ Q v)) := by
  unfold MX10_withLetter at y
  refine ob_T_gf (by decide +kernel) (Nat.le_of_ble_eq_true rfl) ?_
  show ob_J RX10 cX10_withLetter 3 (ob_rm 1) false none 0 0 kg ng h 0 [(0, .long p0), (2, .int p2)] [] _
  refine oj_lload_n 0 dX10_withLetter_0 rfl rfl ?_
  refine oj_ldc2 ow_90 dX10_withLetter_1 ?_
  refine oj_lmul dX10_withLetter_4 ?_
  refine oj_iload_n 1 dX10_withLetter_5 rfl rfl ?_
  refine oj_i2l dX10_withLetter_6 ?_
  refine oj_ladd dX10_withLetter_7 ?_
  refine oj_ldc2 ow_91 dX10_withLetter_8 ?_
  refine oj_lsub dX10_withLetter_11 ?_
  refine oj_lconst dX10_withLetter_12 lc_1 ?_
  refine oj_ladd dX10_withLetter_13 ?_
  exact oj_ret (r := some (.long ((((p0 * (32)) + (p2).toInt64) - (97)) + 1))) ⟨trivial, rfl, rfl, rfl, ((((p0 * (32)) + (p2).toInt64) - (97)) + 1), rfl, y⟩ dX10_withLetter_14 (Nat.zero_le _) (Nat.zero_le _)
-- ===== the Tape's table of words, letter by letter =====
def tpB : List Nat := [103, 114, 97, 118, 101, 32, 109, 105, 110, 117, 116, 101, 115, 32, 119, 97, 105, 116, 101, 100, 32, 110, 117, 109, 98, 101, 114, 32, 104, 101, 97, 114, 100, 32, 109, 105, 110, 117, 116, 101, 32, 111, 98, 106, 101, 99, 116, 111, 114, 32, 115, 116, 97, 121, 115, 32, 112, 114, 105, 99, 101, 32, 108, 97, 116, 101, 32, 115, 101, 116, 116, 108, 101, 115, 32, 98, 114, 105, 110, 103, 115, 32, 106, 111, 105, 110, 101, 100, 32, 111, 114, 100, 101, 114, 32, 97, 110, 115, 119, 101, 114, 32, 98, 97, 114, 32, 100, 114, 97, 119, 32, 111, 114, 32, 97, 110, 100, 32, 110, 111, 116]
def tpT (s : Nat × List Nat) (v : Nat) : Nat × List Nat := if isLt v = true then (if s.1 < 20 then (s.1, s.2.set s.1 (s.2.getD s.1 0 * 32 + (v - 96))) else s) else (s.1 + 1, s.2)
def tpA (i : Nat) : Nat × List Nat := (tpB.take i).foldl tpT (0, List.replicate 20 0)
theorem tpB_all : ∀ k, k < 121 → obByt.getD k 0 = sb (tpB.getD k 0) ∧ tpB.getD k 0 < 256 := by decide +kernel
theorem tpA_s {i : Nat} (h : i < 121) : tpA (i + 1) = tpT (tpA i) (tpB.getD i 0) := by
  have hl : i < tpB.length := h
  have e : tpB.take (i + 1) = tpB.take i ++ [tpB.getD i 0] := by
    rw [List.take_succ, List.getD_eq_getElem?_getD, List.getElem?_eq_getElem hl]
    all_goals rfl
  unfold tpA
  rw [e, List.foldl_append]
  all_goals rfl
theorem tpA_le : ∀ i, i ≤ 121 → (tpA i).1 ≤ i ∧ (tpA i).2.length = 20
  | 0, _ => ⟨Nat.le_refl _, rfl⟩
  | i + 1, h => by
    obtain ⟨a, b⟩ := tpA_le i (by omega)
    rw [tpA_s (by omega)]
    unfold tpT
    by_cases c : isLt (tpB.getD i 0) = true
    · rw [if_pos c]
      by_cases d : (tpA i).1 < 20
      · rw [if_pos d]
        exact ⟨Nat.le_succ_of_le a, by simp [b]⟩
      · rw [if_neg d]
        exact ⟨Nat.le_succ_of_le a, b⟩
    · rw [if_neg c]
      exact ⟨Nat.succ_le_succ a, b⟩
theorem tpA_end : ∀ i, i < 20 → (tpA 121).2.getD i 0 = cd5 (wdsL.getD i []) := by decide +kernel
/-- the heap behind i letters -/
def tpH (h : ob_H) (i : Nat) : ob_H := (h.1, fun q k => if q = 3 ∧ k < 20 then Int64.ofNat ((tpA i).2.getD k 0) else h.2.1 q k, h.2.2)
theorem tpH_0 {h : ob_H} (hz : Fz 1 h) : tpH h 0 = h := by
  refine Prod.ext rfl (Prod.ext ?_ rfl)
  funext q k
  show (if q = 3 ∧ k < 20 then Int64.ofNat ((tpA 0).2.getD k 0) else h.2.1 q k) = h.2.1 q k
  by_cases c : q = 3 ∧ k < 20
  · obtain ⟨rfl, c2⟩ := c
    rw [if_pos ⟨rfl, c2⟩]
    exact (congrArg Int64.ofNat ((by decide : ∀ k, k < 20 → (tpA 0).2.getD k 0 = 0) k c2)).trans ((hz 3 (by decide) k).2).symm
  · rw [if_neg c]
theorem tpH_n {h : ob_H} {i : Nat} (e : (tpA (i + 1)).2 = (tpA i).2) : tpH h (i + 1) = tpH h i := by
  unfold tpH
  rw [e]
theorem tpH_l {h : ob_H} {i w : Nat} {x : Int64} (hi : i < 121) (c : isLt (tpB.getD i 0) = true) (e : (tpA i).1 = w) (hw : w < 20) (hx : x = Int64.ofNat ((tpA i).2.getD w 0 * 32 + (tpB.getD i 0 - 96))) : h_l (tpH h i) 3 w x = tpH h (i + 1) := by
  have hs : (tpA (i + 1)).2 = (tpA i).2.set w ((tpA i).2.getD w 0 * 32 + (tpB.getD i 0 - 96)) := by
    rw [tpA_s hi]
    unfold tpT
    rw [if_pos c, e, if_pos hw]
  have hlen := (tpA_le i (by omega)).2
  refine Prod.ext rfl (Prod.ext ?_ rfl)
  funext q k
  show (if q = 3 ∧ k = w then x else if q = 3 ∧ k < 20 then Int64.ofNat ((tpA i).2.getD k 0) else h.2.1 q k) = if q = 3 ∧ k < 20 then Int64.ofNat ((tpA (i + 1)).2.getD k 0) else h.2.1 q k
  rw [hs]
  by_cases a : q = 3 ∧ k = w
  · rw [if_pos a, if_pos ⟨a.1, by omega⟩, a.2, hx]
    congr 1
    simp [List.getD_eq_getElem?_getD, hlen, hw]
  · rw [if_neg a]
    by_cases b : q = 3 ∧ k < 20
    · rw [if_pos b, if_pos b]
      have : w ≠ k := fun z => a ⟨b.1, z.symm⟩
      simp [List.getD_eq_getElem?_getD, List.getElem?_set, this]
    · rw [if_neg b, if_neg b]
theorem mj_10_52 : ob_mi RX10 52 yX10_withLetter cX10_withLetter 3 (some .long) 2 := mi_RX10_52
theorem stX10 : Cond.static yX10_isLetter ∈ obWS ∧ Cond.static yX10_withLetter ∈ obWS := ⟨ow_85, ow_88⟩
set_option maxRecDepth 100000 in
set_option maxHeartbeats 4000000 in
theorem tp_loop {ks : Nat → ob_K} {h : ob_H} : ∀ (d i : Nat), i + d = 121 → ob_J RX10 cX10_init 4 { frames := 4, cells := 2, slots := 1620, locals := 85 } true none 2 1620 (KW ks 1 [(15, [6, 0, 0, 0, 0, 1, 0, 7]), (2, [1600]), (1, [20])]) 4 (tpH h i) 55 [(2, .int (nI i)), (1, .int (nI (tpA i).1)), (0, .ref 1)] [] (fun r ks' n' h' => ob_fits none r ∧ (r = none ∧ ks' = KW ks 1 [(15, [6, 0, 0, 0, 0, 1, 0, 7]), (2, [1600]), (1, [20])] ∧ n' = 4 ∧ h' = tpH h 121)) := by
  intro d
  induction d with
  | zero =>
    intro i hi
    obtain rfl : i = 121 := by omega
    refine oj_iload_n 0 dX10_init_55 rfl rfl ?_
    refine oj_strlen rfl dX10_init_56 dX10_init_58 ⟨by decide, by decide⟩ (by decide) (by decide) (Nat.le_of_ble_eq_true rfl) ?_
    refine oj_icmp_ge 112 dX10_init_61 rfl (fun _ => ?_) (fun c => absurd (show (121 : Int32) ≤ nI 121 from by decide) c)
    exact oj_ret (r := none) ⟨trivial, rfl, rfl, rfl, rfl⟩ dX10_init_112 (by decide) (by decide)
  | succ d ih =>
    intro i hi
    obtain ⟨hw, hlen⟩ := tpA_le i (by omega)
    obtain ⟨b1, b2⟩ := tpB_all i (by omega)
    refine oj_iload_n 0 dX10_init_55 rfl rfl ?_
    refine oj_strlen rfl dX10_init_56 dX10_init_58 ⟨by decide, by decide⟩ (by decide) (by decide) (Nat.le_of_ble_eq_true rfl) ?_
    refine oj_icmp_ge 112 dX10_init_61 rfl (fun c => absurd c (nI_ge (a := i) (b := 121) (by omega) (by decide))) (fun _ => ?_)
    refine oj_strat 0 rfl (k := i) (by omega) dX10_init_64 dX10_init_66 rfl rfl dX10_init_67 ⟨by decide, by decide⟩ (by decide) (by decide) (Nat.le_of_ble_eq_true rfl) ?_
    rw [b1]
    refine oj_istore_n (lv' := [(3, .int (sb (tpB.getD i 0))), (2, .int (nI i)), (1, .int (nI (tpA i).1)), (0, .ref 1)]) dX10_init_70 rfl (by decide) rfl ?_
    refine oj_iload_n 0 dX10_init_71 rfl rfl ?_
    refine oj_callS [.int (sb (tpB.getD i 0))] mi_RX10_48 stX10.1 (BG10_isLetter (Q := fun v => v = tru (isLt (tpB.getD i 0))) (cs_isLetter b2 rfl)) ⟨by decide, by decide⟩ ⟨by decide, by decide⟩ rfl (Nat.le_of_ble_eq_true rfl) dX10_init_72 (fun r ks' n' h' hq => ?_)
    obtain ⟨-, rfl, rfl, rfl, v, rfl, rfl⟩ := hq
    by_cases c : isLt (tpB.getD i 0) = true
    · rw [show tru (isLt (tpB.getD i 0)) = 1 from by rw [c]; rfl]
      refine oj_if_ne 84 dX10_init_75 rfl (fun _ => ?_) (fun z => absurd z (by decide))
      refine oj_iload_n 2 dX10_init_84 rfl rfl ?_
      refine oj_bipush dX10_init_85 cb_20 ?_
      by_cases e : (tpA i).1 < 20
      · have hs1 : (tpA (i + 1)).1 = (tpA i).1 := by
          rw [tpA_s (by omega)]
          unfold tpT
          rw [if_pos c, if_pos e]
        refine oj_icmp_ge 106 dX10_init_87 rfl (fun z => absurd z (nI_ge (a := (tpA i).1) (b := 20) e (by decide))) (fun _ => ?_)
        refine oj_aload_n 3 dX10_init_90 rfl rfl ?_
        refine oj_getr (q := 3) fl_RX10_33 (KW_at (i := 0) (L := [(15, [6, 0, 0, 0, 0, 1, 0, 7]), (2, [1600]), (1, [20])]) rfl (by decide) (by decide) (by decide)) rfl (KW_at (i := 2) (L := [(15, [6, 0, 0, 0, 0, 1, 0, 7]), (2, [1600]), (1, [20])]) rfl (by decide) (by decide) (by decide)) dX10_init_91 ?_
        refine oj_iload_n 2 dX10_init_94 rfl rfl ?_
        refine oj_aload_n 3 dX10_init_95 rfl rfl ?_
        refine oj_getr (q := 3) fl_RX10_33 (KW_at (i := 0) (L := [(15, [6, 0, 0, 0, 0, 1, 0, 7]), (2, [1600]), (1, [20])]) rfl (by decide) (by decide) (by decide)) rfl (KW_at (i := 2) (L := [(15, [6, 0, 0, 0, 0, 1, 0, 7]), (2, [1600]), (1, [20])]) rfl (by decide) (by decide) (by decide)) dX10_init_96 ?_
        refine oj_iload_n 2 dX10_init_99 rfl rfl ?_
        refine oj_lald (N := 20) (j := (tpA i).1) (KW_at (i := 2) (L := [(15, [6, 0, 0, 0, 0, 1, 0, 7]), (2, [1600]), (1, [20])]) rfl (by decide) (by decide) (by decide)) (vp_in_nI e (by decide)) (nI_clamp (by omega)) dX10_init_100 ?_
        rw [show (tpH h i).2.1 3 (tpA i).1 = Int64.ofNat ((tpA i).2.getD (tpA i).1 0) from if_pos ⟨rfl, e⟩]
        refine oj_iload_n 0 dX10_init_101 rfl rfl ?_
        refine oj_callS [.long (Int64.ofNat ((tpA i).2.getD (tpA i).1 0)), .int (sb (tpB.getD i 0))] mi_RX10_52 stX10.2 (BG10_withLetter (Q := fun v => v = Int64.ofNat ((tpA i).2.getD (tpA i).1 0 * 32 + (tpB.getD i 0 - 96))) (letter64 b2 c)) ⟨by decide, by decide⟩ ⟨by decide, by decide⟩ rfl (Nat.le_of_ble_eq_true rfl) dX10_init_102 (fun r ks' n' h' hq => ?_)
        obtain ⟨-, rfl, rfl, rfl, v, rfl, hv⟩ := hq
        refine oj_last (N := 20) (j := (tpA i).1) (KW_at (i := 2) (L := [(15, [6, 0, 0, 0, 0, 1, 0, 7]), (2, [1600]), (1, [20])]) rfl (by decide) (by decide) (by decide)) (vp_in_nI e (by decide)) (nI_clamp (by omega)) dX10_init_105 ?_
        rw [tpH_l (by omega) c rfl e hv]
        refine oj_iinc 1 dX10_init_106 rfl (v := nI (i + 1)) (nI_1 _) (by decide) (lv' := [(2, .int (nI (i + 1))), (3, .int (sb (tpB.getD i 0))), (1, .int (nI (tpA i).1)), (0, .ref 1)]) rfl ?_
        refine oj_goto 55 dX10_init_109 rfl ?_
        rw [← hs1]
        exact oj_lv [0, 2, 3] rfl (ih (i + 1) (by omega))
      · have hs1 : tpA (i + 1) = tpA i := by
          rw [tpA_s (by omega)]
          unfold tpT
          rw [if_pos c, if_neg e]
        refine oj_icmp_ge 106 dX10_init_87 rfl (fun _ => ?_) (fun z => absurd (nI_le (a := 20) (b := (tpA i).1) (Nat.not_lt.mp e) (by omega)) z)
        refine oj_iinc 1 dX10_init_106 rfl (v := nI (i + 1)) (nI_1 _) (by decide) (lv' := [(2, .int (nI (i + 1))), (3, .int (sb (tpB.getD i 0))), (1, .int (nI (tpA i).1)), (0, .ref 1)]) rfl ?_
        refine oj_goto 55 dX10_init_109 rfl ?_
        rw [← hs1, ← tpH_n (h := h) (i := i) (by rw [hs1])]
        exact oj_lv [0, 2, 3] rfl (ih (i + 1) (by omega))
    · have hs1 : tpA (i + 1) = ((tpA i).1 + 1, (tpA i).2) := by
        rw [tpA_s (by omega)]
        unfold tpT
        rw [if_neg c]
      rw [show tru (isLt (tpB.getD i 0)) = 0 from by rw [Bool.not_eq_true _ |>.mp c]; rfl]
      refine oj_if_ne 84 dX10_init_75 rfl (fun z => absurd rfl z) (fun _ => ?_)
      refine oj_iinc 2 dX10_init_78 rfl (v := nI ((tpA i).1 + 1)) (nI_1 _) (by decide) (lv' := [(1, .int (nI ((tpA i).1 + 1))), (3, .int (sb (tpB.getD i 0))), (2, .int (nI i)), (0, .ref 1)]) rfl ?_
      refine oj_goto 106 dX10_init_81 rfl ?_
      refine oj_iinc 2 dX10_init_106 rfl (v := nI (i + 1)) (nI_1 _) (by decide) (lv' := [(2, .int (nI (i + 1))), (1, .int (nI ((tpA i).1 + 1))), (3, .int (sb (tpB.getD i 0))), (0, .ref 1)]) rfl ?_
      refine oj_goto 55 dX10_init_109 rfl ?_
      have h1 : (tpA i).1 + 1 = (tpA (i + 1)).1 := by rw [hs1]
      rw [h1, ← tpH_n (h := h) (i := i) (by rw [hs1])]
      exact oj_lv [0, 1, 3] rfl (ih (i + 1) (by omega))
set_option maxRecDepth 100000 in
set_option maxHeartbeats 4000000 in
theorem I10 {ks : Nat → ob_K} {h : ob_H} (hz : Fz 1 h) : ob_T yX10_init cX10_init 4 none { frames := 4, cells := 2, slots := 1620, locals := 85 } (KW ks 1 [(15, [3, 0, 0, 0, 0, 1, 0, 3])]) 2 h [.ref 1] (fun r ks' n' h' => r = none ∧ ks' = KW ks 1 [(15, [6, 0, 0, 0, 0, 1, 0, 7]), (2, [1600]), (1, [20])] ∧ n' = 4 ∧ h' = tpH h 121) := by
  refine ob_T_of (ini := true) (by decide +kernel) (fun _ => rfl) (Nat.le_of_ble_eq_true rfl) ?_
  show ob_J RX10 cX10_init 4 { frames := 4, cells := 2, slots := 1620, locals := 85 } true none 0 0 (KW ks 1 [(15, [3, 0, 0, 0, 0, 1, 0, 3])]) 2 h 0 [(0, .ref 1)] [] _
  refine oj_aload_n 0 dX10_init_0 rfl rfl ?_
  refine oj_objInit (KW_at (i := 0) (L := [(15, [3, 0, 0, 0, 0, 1, 0, 3])]) rfl (by decide) (by decide) (by decide)) ow_34 ow_27 ow_28 (by decide) (by decide) rfl dX10_init_1 ?_
  refine oj_aload_n 0 dX10_init_4 rfl rfl ?_
  refine oj_sipush dX10_init_5 cs_1600 ?_
  refine oj_newa_b (N := 1600) ow_122 (by decide) rfl (by decide) (fun k => ((hz.up (m := 2) (by decide)) 2 (Nat.le_refl _) k).1) (by decide) (by decide) (by decide) dX10_init_8 ?_
  refine oj_kn (ks' := KW ks 1 [(15, [3, 0, 0, 0, 0, 1, 0, 3]), (2, [1600])]) (n' := 3) (KW_pushN (by decide) rfl) rfl ?_
  refine oj_putr fl_RX10_9 (Or.inr ⟨rfl, RX10, TX10, 8, rfl, rfl⟩) (KW_at (i := 0) (L := [(15, [3, 0, 0, 0, 0, 1, 0, 3]), (2, [1600])]) rfl (by decide) (by decide) (by decide)) (KW_at (i := 1) (L := [(15, [3, 0, 0, 0, 0, 1, 0, 3]), (2, [1600])]) rfl (by decide) (by decide) (by decide)) (by decide) (fun _ => rfl) (fun _ => rfl) dX10_init_10 ?_
  refine oj_kn (ks' := KW ks 1 [(15, [6, 0, 0, 0, 0, 1, 0, 3]), (2, [1600])]) (n' := 3) (KW_setN (i := 0) (by decide) (by decide) rfl) rfl ?_
  refine oj_aload_n 0 dX10_init_13 rfl rfl ?_
  refine oj_iconst dX10_init_14 ci_0 ?_
  refine oj_puti fl_RX10_13 (Or.inl rfl) (KW_at (i := 0) (L := [(15, [6, 0, 0, 0, 0, 1, 0, 3]), (2, [1600])]) rfl (by decide) (by decide) (by decide)) rfl rfl rfl dX10_init_15 ?_
  rw [h_same ((hz) 1 (Nat.le_refl _) 1).1]
  refine oj_aload_n 0 dX10_init_18 rfl rfl ?_
  refine oj_iconst dX10_init_19 ci_0 ?_
  refine oj_puti fl_RX10_17 (Or.inl rfl) (KW_at (i := 0) (L := [(15, [6, 0, 0, 0, 0, 1, 0, 3]), (2, [1600])]) rfl (by decide) (by decide) (by decide)) rfl rfl rfl dX10_init_20 ?_
  rw [h_same ((hz) 1 (Nat.le_refl _) 2).1]
  refine oj_aload_n 0 dX10_init_23 rfl rfl ?_
  refine oj_iconst dX10_init_24 ci_0 ?_
  refine oj_puti fl_RX10_20 (Or.inl rfl) (KW_at (i := 0) (L := [(15, [6, 0, 0, 0, 0, 1, 0, 3]), (2, [1600])]) rfl (by decide) (by decide) (by decide)) rfl rfl rfl dX10_init_25 ?_
  rw [h_same ((hz) 1 (Nat.le_refl _) 3).1]
  refine oj_aload_n 0 dX10_init_28 rfl rfl ?_
  refine oj_iconst dX10_init_29 ci_0 ?_
  refine oj_puti fl_RX10_23 (Or.inl rfl) (KW_at (i := 0) (L := [(15, [6, 0, 0, 0, 0, 1, 0, 3]), (2, [1600])]) rfl (by decide) (by decide) (by decide)) rfl rfl rfl dX10_init_30 ?_
  rw [h_same ((hz) 1 (Nat.le_refl _) 4).1]
  refine oj_aload_n 0 dX10_init_33 rfl rfl ?_
  refine oj_lconst dX10_init_34 lc_0 ?_
  refine oj_putl fl_RX10_26 (Or.inl rfl) (KW_at (i := 0) (L := [(15, [6, 0, 0, 0, 0, 1, 0, 3]), (2, [1600])]) rfl (by decide) (by decide) (by decide)) rfl rfl rfl dX10_init_35 ?_
  rw [hl_same ((hz) 1 (Nat.le_refl _) 5).2]
  refine oj_aload_n 0 dX10_init_38 rfl rfl ?_
  refine oj_iconst dX10_init_39 ci_0 ?_
  refine oj_puti fl_RX10_30 (Or.inl rfl) (KW_at (i := 0) (L := [(15, [6, 0, 0, 0, 0, 1, 0, 3]), (2, [1600])]) rfl (by decide) (by decide) (by decide)) rfl rfl rfl dX10_init_40 ?_
  rw [h_same ((hz) 1 (Nat.le_refl _) 6).1]
  refine oj_aload_n 0 dX10_init_43 rfl rfl ?_
  refine oj_bipush dX10_init_44 cb_20 ?_
  refine oj_newa_l (N := 20) ow_123 (by decide) rfl (by decide) (fun k => ((hz.up (m := 3) (by decide)) 3 (Nat.le_refl _) k).2) (by decide) (by decide) (by decide) dX10_init_46 ?_
  refine oj_kn (ks' := KW ks 1 [(15, [6, 0, 0, 0, 0, 1, 0, 3]), (2, [1600]), (1, [20])]) (n' := 4) (KW_pushN (by decide) rfl) rfl ?_
  refine oj_putr fl_RX10_33 (Or.inr ⟨rfl, RX10, TX10, 8, rfl, rfl⟩) (KW_at (i := 0) (L := [(15, [6, 0, 0, 0, 0, 1, 0, 3]), (2, [1600]), (1, [20])]) rfl (by decide) (by decide) (by decide)) (KW_at (i := 2) (L := [(15, [6, 0, 0, 0, 0, 1, 0, 3]), (2, [1600]), (1, [20])]) rfl (by decide) (by decide) (by decide)) (by decide) (fun _ => rfl) (fun _ => rfl) dX10_init_48 ?_
  refine oj_kn (ks' := KW ks 1 [(15, [6, 0, 0, 0, 0, 1, 0, 7]), (2, [1600]), (1, [20])]) (n' := 4) (KW_setN (i := 0) (by decide) (by decide) rfl) rfl ?_
  refine oj_iconst dX10_init_51 ci_0 ?_
  refine oj_istore_n (lv' := [(1, .int 0), (0, .ref 1)]) dX10_init_52 rfl (by decide) rfl ?_
  refine oj_iconst dX10_init_53 ci_0 ?_
  refine oj_istore_n (lv' := [(2, .int 0), (1, .int 0), (0, .ref 1)]) dX10_init_54 rfl (by decide) rfl ?_
  have key := tp_loop (ks := ks) (h := h) 121 0 rfl
  rw [tpH_0 hz] at key
  exact key
