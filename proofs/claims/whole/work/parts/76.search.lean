-- ===== the Search at 47: eight rooms =====
theorem cs_1024 : (Int16.ofInt (1024)).toInt32 = (1024 : Int32) := by decide
theorem mi_RX8_40 : ob_mi RX8 40 yX6_init cX6_init 2 none 1 := ⟨ow_373, ow_10, ow_296, by decide +kernel⟩
set_option maxHeartbeats 1000000 in
theorem s8_step {ks : Nat → ob_K} {h : ob_H} {L : List ob_K} {codes : List Nat} {j ce sl n2 : Nat} {L2 : List ob_K} {Q : ob_Q} (hz : Fz (47 + L.length) h) (hj : j < 8) (hl : 47 + L.length + 6 ≤ 100000) (h0 : L[0]? = some (13, [52, 0, 0, 24, 53, 54, 55])) (hq : L[2]? = some (4, codes)) (hcl : codes.length = 8) {c1 : ob_K} {m1 : Nat} (h1 : ob_is ks m1 20 c1) (hce : ce + 5 ≤ 44) (hsl : sl + 35 ≤ 1326)
    (e2 : (L ++ [(11, [47 + L.length + 5, 47 + L.length + 6, 47 + L.length + 7, 0, 0, 0, 20 + 4, 47 + L.length + 8]), (0, [7]), (0, [7]), (0, [7]), (0, [6])]).set 2 (4, codes.set j (47 + L.length + 4)) = L2) (en : n2 = 47 + L.length + 5)
    (k : ob_J RX8 cX8_init 3 { frames := 2, cells := 44, slots := 1326, locals := 61 } true none (ce + 5) (sl + 35) (KW ks 47 L2) n2 h 55 [(2, .int (nI (j + 1))), (0, .ref 47), (1, .ref 20)] [] Q) : ob_J RX8 cX8_init 3 { frames := 2, cells := 44, slots := 1326, locals := 61 } true none ce sl (KW ks 47 L) (47 + L.length) h 55 [(2, .int (nI j)), (0, .ref 47), (1, .ref 20)] [] Q := by
  subst e2 en
  have hN : 47 + L.length ≤ 100000 := by omega
  have h2 : 2 < L.length := (List.getElem?_eq_some_iff.mp hq).1
  refine oj_iload_n 0 dX8_init_55 rfl rfl ?_
  refine oj_aload_n 1 dX8_init_56 rfl rfl ?_
  refine oj_getr (q := 49) fl_RX8_26 (KW_is (i := 0) h0 hN) rfl (KW_is (i := 2) hq hN) dX8_init_57 ?_
  refine oj_qlen (v := 8) (KW_is (i := 2) hq hN) (by rw [hcl]; rfl) dX8_init_60 ?_
  refine oj_icmp_ge 84 dX8_init_61 rfl (fun c => absurd c (nI_ge (a := j) (b := 8) hj (by decide))) (fun _ => ?_)
  refine oj_aload_n 1 dX8_init_64 rfl rfl ?_
  refine oj_getr (q := 49) fl_RX8_26 (KW_is (i := 0) h0 hN) rfl (KW_is (i := 2) hq hN) dX8_init_65 ?_
  refine oj_iload_n 0 dX8_init_68 rfl rfl ?_
  refine oj_new (ci := 6) (codes := [3, 3, 3, 0, 0, 0, 3, 3]) rfl inX6 tyX6_ok ow_371 ow_293 ow_10 (fun base' i hi => ?_) (by omega) (by show ce + 1 ≤ 44; omega) (by show sl + 8 ≤ 1326; omega) dX8_init_69 ?_
  · rcases (by omega : i = 0 ∨ i = 1 ∨ i = 2 ∨ i = 3 ∨ i = 4 ∨ i = 5 ∨ i = 6 ∨ i = 7) with rfl | rfl | rfl | rfl | rfl | rfl | rfl | rfl
    all_goals first
      | rfl
      | exact congrArg Value.int (hz _ (Nat.le_refl _) _).1.symm
  refine oj_kn (KW_push.trans (KW_nest (M := [(11, [3, 3, 3, 0, 0, 0, 3, 3])])).symm) rfl ?_
  refine oj_dup dX8_init_72 rfl ?_
  refine oj_aload_n 2 dX8_init_73 rfl rfl ?_
  refine oj_callI [.ref 20] mi_RX8_40 rfl ow_295 (KW_is (i := 0) (L := [(11, [3, 3, 3, 0, 0, 0, 3, 3])]) rfl (by simp; omega)) (I6 (ks := KW ks 47 L) (o := 47 + L.length) hz (by omega) (KW_lo h1 (by decide) hN) (by omega)) ⟨by decide, by decide⟩ ⟨by show ce + 1 + 4 ≤ 44; omega, by show sl + 8 + 27 ≤ 1326; omega⟩ rfl (Nat.le_of_ble_eq_true rfl) dX8_init_74 (fun r ks' n' h' hq' => ?_)
  obtain ⟨rfl, rfl, rfl, rfl⟩ := hq'
  refine oj_kn KW_nest rfl ?_
  have hM : (L ++ [(11, [47 + L.length + 5, 47 + L.length + 6, 47 + L.length + 7, 0, 0, 0, 20 + 4, 47 + L.length + 8]), (0, [7]), (0, [7]), (0, [7]), (0, [6])] : List ob_K).length = L.length + 5 := by simp
  have a2 : (L ++ [(11, [47 + L.length + 5, 47 + L.length + 6, 47 + L.length + 7, 0, 0, 0, 20 + 4, 47 + L.length + 8]), (0, [7]), (0, [7]), (0, [7]), (0, [6])] : List ob_K)[2]? = some (4, codes) := by rw [List.getElem?_append_left h2]; exact hq
  have a3 : (L ++ [(11, [47 + L.length + 5, 47 + L.length + 6, 47 + L.length + 7, 0, 0, 0, 20 + 4, 47 + L.length + 8]), (0, [7]), (0, [7]), (0, [7]), (0, [6])] : List ob_K)[L.length]? = some (11, [47 + L.length + 5, 47 + L.length + 6, 47 + L.length + 7, 0, 0, 0, 20 + 4, 47 + L.length + 8]) := by rw [List.getElem?_append_right (Nat.le_refl _), Nat.sub_self]; rfl
  refine oj_aast (j := j) (ci := 6) (codes := codes) (KW_at (i := 2) a2 (by rw [hM]; omega) rfl (by omega)) (by rw [hcl]; exact vp_in_nI hj (by decide)) (nI_clamp (by omega)) (KW_at (i := L.length) a3 (by rw [hM]; omega) rfl (by omega)) rfl dX8_init_77 ?_
  refine oj_kn (KW_set (i := 2) (by rw [hM]; omega)) rfl ?_
  refine oj_iinc 0 dX8_init_78 rfl (v := nI (j + 1)) (nI_1 _) (by decide) (lv' := [(2, .int (nI (j + 1))), (0, .ref 47), (1, .ref 20)]) rfl ?_
  exact oj_goto 55 dX8_init_81 rfl k
def L8_0 : List ob_K := [(13, [52, 0, 0, 24, 53, 54, 55]), (0, [7]), (4, [3, 3, 3, 3, 3, 3, 3, 3]), (0, [7]), (0, [1024])]
def L8_1 : List ob_K := [(13, [52, 0, 0, 24, 53, 54, 55]), (0, [7]), (4, [56, 3, 3, 3, 3, 3, 3, 3]), (0, [7]), (0, [1024]), (11, [57, 58, 59, 0, 0, 0, 24, 60]), (0, [7]), (0, [7]), (0, [7]), (0, [6])]
def L8_2 : List ob_K := [(13, [52, 0, 0, 24, 53, 54, 55]), (0, [7]), (4, [56, 61, 3, 3, 3, 3, 3, 3]), (0, [7]), (0, [1024]), (11, [57, 58, 59, 0, 0, 0, 24, 60]), (0, [7]), (0, [7]), (0, [7]), (0, [6]), (11, [62, 63, 64, 0, 0, 0, 24, 65]), (0, [7]), (0, [7]), (0, [7]), (0, [6])]
def L8_3 : List ob_K := [(13, [52, 0, 0, 24, 53, 54, 55]), (0, [7]), (4, [56, 61, 66, 3, 3, 3, 3, 3]), (0, [7]), (0, [1024]), (11, [57, 58, 59, 0, 0, 0, 24, 60]), (0, [7]), (0, [7]), (0, [7]), (0, [6]), (11, [62, 63, 64, 0, 0, 0, 24, 65]), (0, [7]), (0, [7]), (0, [7]), (0, [6]), (11, [67, 68, 69, 0, 0, 0, 24, 70]), (0, [7]), (0, [7]), (0, [7]), (0, [6])]
def L8_4 : List ob_K := [(13, [52, 0, 0, 24, 53, 54, 55]), (0, [7]), (4, [56, 61, 66, 71, 3, 3, 3, 3]), (0, [7]), (0, [1024]), (11, [57, 58, 59, 0, 0, 0, 24, 60]), (0, [7]), (0, [7]), (0, [7]), (0, [6]), (11, [62, 63, 64, 0, 0, 0, 24, 65]), (0, [7]), (0, [7]), (0, [7]), (0, [6]), (11, [67, 68, 69, 0, 0, 0, 24, 70]), (0, [7]), (0, [7]), (0, [7]), (0, [6]), (11, [72, 73, 74, 0, 0, 0, 24, 75]), (0, [7]), (0, [7]), (0, [7]), (0, [6])]
def L8_5 : List ob_K := [(13, [52, 0, 0, 24, 53, 54, 55]), (0, [7]), (4, [56, 61, 66, 71, 76, 3, 3, 3]), (0, [7]), (0, [1024]), (11, [57, 58, 59, 0, 0, 0, 24, 60]), (0, [7]), (0, [7]), (0, [7]), (0, [6]), (11, [62, 63, 64, 0, 0, 0, 24, 65]), (0, [7]), (0, [7]), (0, [7]), (0, [6]), (11, [67, 68, 69, 0, 0, 0, 24, 70]), (0, [7]), (0, [7]), (0, [7]), (0, [6]), (11, [72, 73, 74, 0, 0, 0, 24, 75]), (0, [7]), (0, [7]), (0, [7]), (0, [6]), (11, [77, 78, 79, 0, 0, 0, 24, 80]), (0, [7]), (0, [7]), (0, [7]), (0, [6])]
def L8_6 : List ob_K := [(13, [52, 0, 0, 24, 53, 54, 55]), (0, [7]), (4, [56, 61, 66, 71, 76, 81, 3, 3]), (0, [7]), (0, [1024]), (11, [57, 58, 59, 0, 0, 0, 24, 60]), (0, [7]), (0, [7]), (0, [7]), (0, [6]), (11, [62, 63, 64, 0, 0, 0, 24, 65]), (0, [7]), (0, [7]), (0, [7]), (0, [6]), (11, [67, 68, 69, 0, 0, 0, 24, 70]), (0, [7]), (0, [7]), (0, [7]), (0, [6]), (11, [72, 73, 74, 0, 0, 0, 24, 75]), (0, [7]), (0, [7]), (0, [7]), (0, [6]), (11, [77, 78, 79, 0, 0, 0, 24, 80]), (0, [7]), (0, [7]), (0, [7]), (0, [6]), (11, [82, 83, 84, 0, 0, 0, 24, 85]), (0, [7]), (0, [7]), (0, [7]), (0, [6])]
def L8_7 : List ob_K := [(13, [52, 0, 0, 24, 53, 54, 55]), (0, [7]), (4, [56, 61, 66, 71, 76, 81, 86, 3]), (0, [7]), (0, [1024]), (11, [57, 58, 59, 0, 0, 0, 24, 60]), (0, [7]), (0, [7]), (0, [7]), (0, [6]), (11, [62, 63, 64, 0, 0, 0, 24, 65]), (0, [7]), (0, [7]), (0, [7]), (0, [6]), (11, [67, 68, 69, 0, 0, 0, 24, 70]), (0, [7]), (0, [7]), (0, [7]), (0, [6]), (11, [72, 73, 74, 0, 0, 0, 24, 75]), (0, [7]), (0, [7]), (0, [7]), (0, [6]), (11, [77, 78, 79, 0, 0, 0, 24, 80]), (0, [7]), (0, [7]), (0, [7]), (0, [6]), (11, [82, 83, 84, 0, 0, 0, 24, 85]), (0, [7]), (0, [7]), (0, [7]), (0, [6]), (11, [87, 88, 89, 0, 0, 0, 24, 90]), (0, [7]), (0, [7]), (0, [7]), (0, [6])]
def L8_8 : List ob_K := [(13, [52, 0, 0, 24, 53, 54, 55]), (0, [7]), (4, [56, 61, 66, 71, 76, 81, 86, 91]), (0, [7]), (0, [1024]), (11, [57, 58, 59, 0, 0, 0, 24, 60]), (0, [7]), (0, [7]), (0, [7]), (0, [6]), (11, [62, 63, 64, 0, 0, 0, 24, 65]), (0, [7]), (0, [7]), (0, [7]), (0, [6]), (11, [67, 68, 69, 0, 0, 0, 24, 70]), (0, [7]), (0, [7]), (0, [7]), (0, [6]), (11, [72, 73, 74, 0, 0, 0, 24, 75]), (0, [7]), (0, [7]), (0, [7]), (0, [6]), (11, [77, 78, 79, 0, 0, 0, 24, 80]), (0, [7]), (0, [7]), (0, [7]), (0, [6]), (11, [82, 83, 84, 0, 0, 0, 24, 85]), (0, [7]), (0, [7]), (0, [7]), (0, [6]), (11, [87, 88, 89, 0, 0, 0, 24, 90]), (0, [7]), (0, [7]), (0, [7]), (0, [6]), (11, [92, 93, 94, 0, 0, 0, 24, 95]), (0, [7]), (0, [7]), (0, [7]), (0, [6])]
set_option maxHeartbeats 1000000 in
theorem I8 {ks : Nat → ob_K} {h : ob_H} (hz : Fz 47 h) {c1 : ob_K} {m1 : Nat} (h1 : ob_is ks m1 20 c1) : ob_T yX8_init cX8_init 3 none { frames := 2, cells := 44, slots := 1326, locals := 61 } (KW ks 47 [(13, [3, 0, 0, 3, 3, 3, 3])]) 48 h [.ref 47, .ref 20] (fun r ks' n' h' => r = none ∧ ks' = KW ks 47 L8_8 ∧ n' = 92 ∧ h' = h) := by
  refine ob_T_of (ini := true) (by decide +kernel) (fun _ => rfl) (Nat.le_of_ble_eq_true rfl) ?_
  show ob_J RX8 cX8_init 3 { frames := 2, cells := 44, slots := 1326, locals := 61 } true none 0 0 (KW ks 47 [(13, [3, 0, 0, 3, 3, 3, 3])]) 48 h 0 [(0, .ref 47), (1, .ref 20)] [] _
  refine oj_aload_n 0 dX8_init_0 rfl rfl ?_
  refine oj_objInit (KW_at (i := 0) (L := [(13, [3, 0, 0, 3, 3, 3, 3])]) rfl (by decide) (by decide) (by decide)) ow_370 ow_27 ow_28 (by decide) (by decide) rfl dX8_init_1 ?_
  refine oj_aload_n 0 dX8_init_4 rfl rfl ?_
  refine oj_bipush dX8_init_5 cb_7 ?_
  refine oj_newa_i (N := 7) ow_152 (by decide) rfl (by decide) (fun k => ((hz.up (m := 48) (by decide)) 48 (Nat.le_refl _) k).1) (by decide) (by decide) (by decide) dX8_init_7 ?_
  refine oj_kn (ks' := KW ks 47 [(13, [3, 0, 0, 3, 3, 3, 3]), (0, [7])]) (n' := 49) (KW_pushN (by decide) rfl) rfl ?_
  refine oj_putr fl_RX8_11 (Or.inr ⟨rfl, RX8, TX8, 7, rfl, rfl⟩) (KW_at (i := 0) (L := [(13, [3, 0, 0, 3, 3, 3, 3]), (0, [7])]) rfl (by decide) (by decide) (by decide)) (KW_at (i := 1) (L := [(13, [3, 0, 0, 3, 3, 3, 3]), (0, [7])]) rfl (by decide) (by decide) (by decide)) (by decide) (fun _ => rfl) (fun _ => rfl) dX8_init_9 ?_
  refine oj_kn (ks' := KW ks 47 [(13, [52, 0, 0, 3, 3, 3, 3]), (0, [7])]) (n' := 49) (KW_setN (i := 0) (by decide) (by decide) rfl) rfl ?_
  refine oj_aload_n 0 dX8_init_12 rfl rfl ?_
  refine oj_iconst dX8_init_13 ci_0 ?_
  refine oj_puti fl_RX8_17 (Or.inl rfl) (KW_at (i := 0) (L := [(13, [52, 0, 0, 3, 3, 3, 3]), (0, [7])]) rfl (by decide) (by decide) (by decide)) rfl rfl rfl dX8_init_14 ?_
  rw [h_same ((hz) 47 (Nat.le_refl _) 1).1]
  refine oj_aload_n 0 dX8_init_17 rfl rfl ?_
  refine oj_iconst dX8_init_18 ci_0 ?_
  refine oj_puti fl_RX8_21 (Or.inl rfl) (KW_at (i := 0) (L := [(13, [52, 0, 0, 3, 3, 3, 3]), (0, [7])]) rfl (by decide) (by decide) (by decide)) rfl rfl rfl dX8_init_19 ?_
  rw [h_same ((hz) 47 (Nat.le_refl _) 2).1]
  refine oj_aload_n 0 dX8_init_22 rfl rfl ?_
  refine oj_bipush dX8_init_23 cb_8 ?_
  refine oj_newq (N := 8) ow_371 (by decide) rfl (by decide) (by decide) (by decide) (by decide) dX8_init_25 ?_
  refine oj_kn (ks' := KW ks 47 [(13, [52, 0, 0, 3, 3, 3, 3]), (0, [7]), (4, [3, 3, 3, 3, 3, 3, 3, 3])]) (n' := 50) (KW_pushN (by decide) rfl) rfl ?_
  refine oj_putr fl_RX8_26 (Or.inr ⟨rfl, RX8, TX8, 7, rfl, rfl⟩) (KW_at (i := 0) (L := [(13, [52, 0, 0, 3, 3, 3, 3]), (0, [7]), (4, [3, 3, 3, 3, 3, 3, 3, 3])]) rfl (by decide) (by decide) (by decide)) (KW_at (i := 2) (L := [(13, [52, 0, 0, 3, 3, 3, 3]), (0, [7]), (4, [3, 3, 3, 3, 3, 3, 3, 3])]) rfl (by decide) (by decide) (by decide)) (by decide) (fun _ => rfl) (fun _ => rfl) dX8_init_28 ?_
  refine oj_kn (ks' := KW ks 47 [(13, [52, 0, 0, 3, 53, 3, 3]), (0, [7]), (4, [3, 3, 3, 3, 3, 3, 3, 3])]) (n' := 50) (KW_setN (i := 0) (by decide) (by decide) rfl) rfl ?_
  refine oj_aload_n 0 dX8_init_31 rfl rfl ?_
  refine oj_bipush dX8_init_32 cb_7 ?_
  refine oj_newa_i (N := 7) ow_152 (by decide) rfl (by decide) (fun k => ((hz.up (m := 50) (by decide)) 50 (Nat.le_refl _) k).1) (by decide) (by decide) (by decide) dX8_init_34 ?_
  refine oj_kn (ks' := KW ks 47 [(13, [52, 0, 0, 3, 53, 3, 3]), (0, [7]), (4, [3, 3, 3, 3, 3, 3, 3, 3]), (0, [7])]) (n' := 51) (KW_pushN (by decide) rfl) rfl ?_
  refine oj_putr fl_RX8_30 (Or.inr ⟨rfl, RX8, TX8, 7, rfl, rfl⟩) (KW_at (i := 0) (L := [(13, [52, 0, 0, 3, 53, 3, 3]), (0, [7]), (4, [3, 3, 3, 3, 3, 3, 3, 3]), (0, [7])]) rfl (by decide) (by decide) (by decide)) (KW_at (i := 3) (L := [(13, [52, 0, 0, 3, 53, 3, 3]), (0, [7]), (4, [3, 3, 3, 3, 3, 3, 3, 3]), (0, [7])]) rfl (by decide) (by decide) (by decide)) (by decide) (fun _ => rfl) (fun _ => rfl) dX8_init_36 ?_
  refine oj_kn (ks' := KW ks 47 [(13, [52, 0, 0, 3, 53, 54, 3]), (0, [7]), (4, [3, 3, 3, 3, 3, 3, 3, 3]), (0, [7])]) (n' := 51) (KW_setN (i := 0) (by decide) (by decide) rfl) rfl ?_
  refine oj_aload_n 0 dX8_init_39 rfl rfl ?_
  refine oj_sipush dX8_init_40 cs_1024 ?_
  refine oj_newa_i (N := 1024) ow_152 (by decide) rfl (by decide) (fun k => ((hz.up (m := 51) (by decide)) 51 (Nat.le_refl _) k).1) (by decide) (by decide) (by decide) dX8_init_43 ?_
  refine oj_kn (ks' := KW ks 47 [(13, [52, 0, 0, 3, 53, 54, 3]), (0, [7]), (4, [3, 3, 3, 3, 3, 3, 3, 3]), (0, [7]), (0, [1024])]) (n' := 52) (KW_pushN (by decide) rfl) rfl ?_
  refine oj_putr fl_RX8_33 (Or.inr ⟨rfl, RX8, TX8, 7, rfl, rfl⟩) (KW_at (i := 0) (L := [(13, [52, 0, 0, 3, 53, 54, 3]), (0, [7]), (4, [3, 3, 3, 3, 3, 3, 3, 3]), (0, [7]), (0, [1024])]) rfl (by decide) (by decide) (by decide)) (KW_at (i := 4) (L := [(13, [52, 0, 0, 3, 53, 54, 3]), (0, [7]), (4, [3, 3, 3, 3, 3, 3, 3, 3]), (0, [7]), (0, [1024])]) rfl (by decide) (by decide) (by decide)) (by decide) (fun _ => rfl) (fun _ => rfl) dX8_init_45 ?_
  refine oj_kn (ks' := KW ks 47 [(13, [52, 0, 0, 3, 53, 54, 55]), (0, [7]), (4, [3, 3, 3, 3, 3, 3, 3, 3]), (0, [7]), (0, [1024])]) (n' := 52) (KW_setN (i := 0) (by decide) (by decide) rfl) rfl ?_
  refine oj_aload_n 0 dX8_init_48 rfl rfl ?_
  refine oj_aload_n 1 dX8_init_49 rfl rfl ?_
  refine oj_putr fl_RX8_36 (Or.inr ⟨rfl, RX8, TX8, 7, rfl, rfl⟩) (KW_at (i := 0) (L := [(13, [52, 0, 0, 3, 53, 54, 55]), (0, [7]), (4, [3, 3, 3, 3, 3, 3, 3, 3]), (0, [7]), (0, [1024])]) rfl (by decide) (by decide) (by decide)) (KW_loN (L := [(13, [52, 0, 0, 3, 53, 54, 55]), (0, [7]), (4, [3, 3, 3, 3, 3, 3, 3, 3]), (0, [7]), (0, [1024])]) h1 (by decide) (by decide) (by decide)) (by decide) (fun _ => rfl) (fun _ => rfl) dX8_init_50 ?_
  refine oj_kn (ks' := KW ks 47 [(13, [52, 0, 0, 24, 53, 54, 55]), (0, [7]), (4, [3, 3, 3, 3, 3, 3, 3, 3]), (0, [7]), (0, [1024])]) (n' := 52) (KW_setN (i := 0) (by decide) (by decide) rfl) rfl ?_
  refine oj_iconst dX8_init_53 ci_0 ?_
  refine oj_istore_n (lv' := [(2, .int (nI 0)), (0, .ref 47), (1, .ref 20)]) dX8_init_54 rfl (by decide) rfl ?_
  refine s8_step (ks := ks) (h := h) (L := L8_0) (L2 := L8_1) (n2 := 57) (j := 0) (ce := 4) (sl := 1046) (hz.up (by decide)) (by decide) (by decide) rfl rfl rfl h1 (by decide) (by decide) (by decide +kernel) (by decide) ?_
  refine s8_step (ks := ks) (h := h) (L := L8_1) (L2 := L8_2) (n2 := 62) (j := 1) (ce := 9) (sl := 1081) (hz.up (by decide)) (by decide) (by decide) rfl rfl rfl h1 (by decide) (by decide) (by decide +kernel) (by decide) ?_
  refine s8_step (ks := ks) (h := h) (L := L8_2) (L2 := L8_3) (n2 := 67) (j := 2) (ce := 14) (sl := 1116) (hz.up (by decide)) (by decide) (by decide) rfl rfl rfl h1 (by decide) (by decide) (by decide +kernel) (by decide) ?_
  refine s8_step (ks := ks) (h := h) (L := L8_3) (L2 := L8_4) (n2 := 72) (j := 3) (ce := 19) (sl := 1151) (hz.up (by decide)) (by decide) (by decide) rfl rfl rfl h1 (by decide) (by decide) (by decide +kernel) (by decide) ?_
  refine s8_step (ks := ks) (h := h) (L := L8_4) (L2 := L8_5) (n2 := 77) (j := 4) (ce := 24) (sl := 1186) (hz.up (by decide)) (by decide) (by decide) rfl rfl rfl h1 (by decide) (by decide) (by decide +kernel) (by decide) ?_
  refine s8_step (ks := ks) (h := h) (L := L8_5) (L2 := L8_6) (n2 := 82) (j := 5) (ce := 29) (sl := 1221) (hz.up (by decide)) (by decide) (by decide) rfl rfl rfl h1 (by decide) (by decide) (by decide +kernel) (by decide) ?_
  refine s8_step (ks := ks) (h := h) (L := L8_6) (L2 := L8_7) (n2 := 87) (j := 6) (ce := 34) (sl := 1256) (hz.up (by decide)) (by decide) (by decide) rfl rfl rfl h1 (by decide) (by decide) (by decide +kernel) (by decide) ?_
  refine s8_step (ks := ks) (h := h) (L := L8_7) (L2 := L8_8) (n2 := 92) (j := 7) (ce := 39) (sl := 1291) (hz.up (by decide)) (by decide) (by decide) rfl rfl rfl h1 (by decide) (by decide) (by decide +kernel) (by decide) ?_
  refine oj_iload_n 0 dX8_init_55 rfl rfl ?_
  refine oj_aload_n 1 dX8_init_56 rfl rfl ?_
  refine oj_getr (q := 49) fl_RX8_26 (KW_at (i := 0) (L := L8_8) rfl (by decide) (by decide) (by decide)) rfl (KW_at (i := 2) (L := L8_8) rfl (by decide) (by decide) (by decide)) dX8_init_57 ?_
  refine oj_qlen (v := 8) (KW_at (i := 2) (L := L8_8) rfl (by decide) (by decide) (by decide)) (by decide) dX8_init_60 ?_
  refine oj_icmp_ge 84 dX8_init_61 rfl (fun _ => ?_) (fun c => absurd (show (8 : Int32) ≤ nI 8 from by decide) c)
  exact oj_ret (r := none) ⟨trivial, rfl, rfl, rfl, rfl⟩ dX8_init_84 (by decide) (by decide)
