-- ===== the law up to its loop =====
theorem mi_RL_9_i : ob_mi RL 9 yX11_init cX11_init 1 none 0 := ⟨ow_23, ow_1, ow_25, by decide +kernel⟩
theorem mi_RL_12_i : ob_mi RL 12 yX12_init cX12_init 1 none 0 := ⟨ow_1195, ow_17, ow_1197, by decide +kernel⟩
def K00 : Nat → ob_K := fun _ => (0, [])
def h00 : ob_H := (fun _ _ => 0, fun _ _ => 0, 0)
theorem hz00 : Fz 0 h00 := fun _ _ _ => ⟨rfl, rfl⟩
def L12_0 : List ob_K := [(17, [3, 0, 0, 0, 0, 0, 0, 0, 0, 1, 3, 3, 3, 3, 3, 3, 3, 3, 3, 3, 0, 0, 0, 0, 0, 0, 3, 3, 3, 3, 3, 3, 3, 3, 3, 3, 3, 3, 3, 3, 3, 0, 0, 0, 0, 0, 0, 0, 0, 0, 0, 0, 0, 3, 3, 3, 3, 0, 3, 0, 0, 3, 0, 3, 3, 3, 3, 3, 3, 3, 0, 0, 3, 3, 3, 3])]
def L12_1 : List ob_K := [(17, [113, 0, 0, 0, 0, 0, 0, 0, 0, 1, 114, 115, 116, 117, 118, 119, 120, 121, 122, 123, 0, 0, 0, 0, 0, 0, 124, 125, 126, 127, 128, 129, 130, 131, 132, 133, 134, 135, 136, 137, 138, 0, 0, 0, 0, 0, 0, 0, 0, 0, 0, 0, 0, 139, 140, 141, 142, 0, 143, 0, 0, 144, 0, 145, 146, 147, 148, 149, 150, 151, 0, 0, 152, 153, 154, 155]), (0, [1600]), (1, [7]), (0, [640]), (0, [640]), (0, [2]), (0, [640]), (0, [640]), (0, [2]), (0, [160]), (0, [64]), (3, [2]), (0, [6]), (0, [7]), (0, [7]), (0, [7]), (0, [7]), (0, [7]), (0, [7]), (0, [49]), (0, [7]), (0, [7]), (0, [7]), (0, [7]), (0, [7]), (0, [7]), (0, [49]), (0, [24]), (0, [24]), (0, [7]), (0, [7]), (0, [960]), (0, [7]), (0, [8]), (0, [192]), (0, [30]), (0, [30]), (0, [30]), (0, [30]), (3, [30]), (0, [700]), (3, [100]), (3, [3]), (0, [72])]
theorem KS_as : ∀ q, q < 152 → q ≠ 4 → KW (KW K00 0 L11_32) 108 L12_1 q = KS q ∧ ((KS q).1 < 5 ∨ (KS q).2.all (fun c => !(c == 2)) = true) := by decide +kernel
theorem KS_4 : KW (KW K00 0 L11_32) 108 L12_1 4 = (10, [9, 0, 0, 5, 23, 0, 0, 0, 0, 0, 17, 0]) ∧ KS 4 = (10, [9, 0, 0, 5, 23, 0, 0, 0, 0, 0, 2, 0]) := by decide +kernel
theorem fv_d {base o k c t : Nat} {h : ob_H} (hc : c ≠ 2) : ob_fv base h o k c = ob_fv base (h_d h t) o k c := by
  match c with
  | 0 => rfl
  | 1 => rfl
  | 2 => exact absurd rfl hc
  | 3 => rfl
  | q + 4 => rfl
theorem fs_d {base o t : Nat} {h : ob_H} {L : List Nat} (hL : L.all (fun c => !(c == 2)) = true) : ob_fs base h o L = ob_fs base (h_d h t) o L := by
  apply List.ext_getElem?
  intro i
  unfold ob_fs
  rw [List.getElem?_mapIdx, List.getElem?_mapIdx]
  cases e : L[i]? with
  | none => rfl
  | some c =>
    have hm : c ∈ L := List.mem_of_getElem? e
    have h2 := List.all_eq_true.mp hL c hm
    have hc : c ≠ 2 := fun z => by rw [z] at h2; cases h2
    exact congrArg some (fv_d hc)
theorem cell_d {ct : Nat → ClassId} {base q t : Nat} {h : ob_H} {k : ob_K} (hL : k.1 < 5 ∨ k.2.all (fun c => !(c == 2)) = true) : ob_cell ct base h q k = ob_cell ct base (h_d h t) q k := by
  obtain ⟨a, L⟩ := k
  match a with
  | 0 => rfl
  | 1 => rfl
  | 2 => rfl
  | 3 => rfl
  | 4 => rfl
  | ci + 5 =>
    have hL' : L.all (fun c => !(c == 2)) = true := hL.resolve_left (fun z => absurd (show ci + 5 < 5 from z) (by omega))
    exact congrArg (fun f => (Sum.inr (ci, f) : va_E)) (fs_d hL')
theorem cell_KS (ct : Nat → ClassId) (base : Nat) (h : ob_H) (q : Nat) (hq : q < 152) : ob_cell ct base h q (KW (KW K00 0 L11_32) 108 L12_1 q) = ob_cell ct base (h_d h 13) q (KS q) := by
  by_cases e : q = 4
  · subst e
    rw [KS_4.1, KS_4.2]
    rfl
  · rw [(KS_as q hq e).1]
    exact cell_d (KS_as q hq e).2
theorem dflt_of {ty0 : Nat → FieldType} {codes : List Nat} {base' n N : Nat} {h : ob_H} (hz : ∀ k, h.1 n k = 0 ∧ h.2.1 n k = 0)
    (hc : ∀ j, j < N → (codes[j]? = some 0 ∧ defaultValue (ty0 j) = .int 0) ∨ (codes[j]? = some 1 ∧ defaultValue (ty0 j) = .long 0) ∨ (codes[j]? = some 3 ∧ defaultValue (ty0 j) = .null)) (j : Nat) (hj : j < N) : defaultValue (ty0 j) = vp_V (ob_fs base' h n codes) j := by
  have e : ∀ c, codes[j]? = some c → vp_V (ob_fs base' h n codes) j = ob_fv base' h n j c := fun c hc => by
    unfold vp_V ob_fs
    rw [List.getD_eq_getElem?_getD, List.getElem?_mapIdx, hc]
    rfl
  rcases hc j hj with ⟨a, b⟩ | ⟨a, b⟩ | ⟨a, b⟩
  · rw [b, e _ a]
    exact congrArg Value.int (hz j).1.symm
  · rw [b, e _ a]
    exact congrArg Value.long (hz j).2.symm
  · rw [b, e _ a]
    rfl
set_option maxRecDepth 100000 in
set_option maxHeartbeats 4000000 in
theorem law_all {L : Nat} {xs : Nat → Int32} (hL : L ≤ 3072) : ob_J RL cL_law 4 room_1 false (some (L, xs)) 0 0 (KW K00 0 []) 0 h00 0 [(0, .ref 100000)] [] PQ := by
  refine oj_new (ci := 11) (ty0 := tyX11) (codes := [3, 3, 3, 3, 3, 3, 3, 3, 3, 3, 3, 0]) rfl inX11 tyX11_ok ow_21 ow_22 ow_1 (fun base' j hj => dflt_of (N := 12) (hz00 0 (Nat.le_refl _)) (by decide +kernel) j hj) (by decide) (Nat.le_of_ble_eq_true rfl) (Nat.le_of_ble_eq_true rfl) dL_law_0 ?_
  refine oj_kn (ks' := KW K00 0 L11_0) (n' := 1) (KW_pushN (by decide) rfl) rfl ?_
  refine oj_dup dL_law_3 rfl ?_
  refine oj_callI [] mi_RL_9_i rfl ow_24 (KW_at (i := 0) (L := L11_0) rfl (by decide) (by decide) (by decide)) (I11 (ks := K00) hz00) ⟨Nat.le_of_ble_eq_true rfl, Nat.le_of_ble_eq_true rfl⟩ ⟨Nat.le_of_ble_eq_true rfl, Nat.le_of_ble_eq_true rfl⟩ rfl (Nat.le_of_ble_eq_true rfl) dL_law_4 (fun r ks' n' h1 hq => ?_)
  obtain ⟨rfl, rfl, rfl, hz, hcw, hcr, hwd, e42, hzz, ed⟩ := hq
  refine oj_astore_n (lv' := [(1, .ref 0), (0, .ref 100000)]) dL_law_7 rfl (by decide) rfl ?_
  refine oj_new (ci := 12) (ty0 := tyX12) (codes := [3, 0, 0, 0, 0, 0, 0, 0, 0, 1, 3, 3, 3, 3, 3, 3, 3, 3, 3, 3, 0, 0, 0, 0, 0, 0, 3, 3, 3, 3, 3, 3, 3, 3, 3, 3, 3, 3, 3, 3, 3, 0, 0, 0, 0, 0, 0, 0, 0, 0, 0, 0, 0, 3, 3, 3, 3, 0, 3, 0, 0, 3, 0, 3, 3, 3, 3, 3, 3, 3, 0, 0, 3, 3, 3, 3]) rfl inX12 tyX12_ok ow_1193 ow_1194 ow_17 (fun base' j hj => dflt_of (N := 76) (hz 108 (Nat.le_refl _)) (by decide +kernel) j hj) (by decide) (Nat.le_of_ble_eq_true rfl) (Nat.le_of_ble_eq_true rfl) dL_law_8 ?_
  refine oj_kn (ks' := KW (KW K00 0 L11_32) 108 L12_0) (n' := 109) (Eq.trans (KW_pushN (L2 := L11_32 ++ L12_0) (by decide) rfl) (Eq.symm (KW_nestN (by decide) rfl))) rfl ?_
  refine oj_dup dL_law_11 rfl ?_
  refine oj_callI [] mi_RL_12_i rfl ow_1196 (KW_at (i := 0) (L := L12_0) rfl (by decide) (by decide) (by decide)) (I12 (ks := KW K00 0 L11_32) (o := 108) hz (by decide)) ⟨Nat.le_of_ble_eq_true rfl, Nat.le_of_ble_eq_true rfl⟩ ⟨Nat.le_of_ble_eq_true rfl, Nat.le_of_ble_eq_true rfl⟩ rfl (Nat.le_of_ble_eq_true rfl) dL_law_12 (fun r ks' n' h2 hq => ?_)
  obtain ⟨rfl, rfl, rfl, e2⟩ := hq
  refine oj_astore_n (lv' := [(2, .ref 108), (1, .ref 0), (0, .ref 100000)]) dL_law_15 rfl (by decide) rfl ?_
  refine oj_iconst dL_law_16 ci_0 ?_
  refine oj_istore_n (lv' := [(3, .int (nI 0)), (2, .ref 108), (1, .ref 0), (0, .ref 100000)]) dL_law_17 rfl (by decide) rfl ?_
  refine oj_lv [3, 2, 1, 0] rfl ?_
  refine oj_kn (ks' := KW (KW K00 0 L11_32) 108 L12_1) (n' := 152) (congrArg (KW (KW K00 0 L11_32) 108) (by decide +kernel)) rfl ?_
  refine oj_conv (ks' := KS) (h' := h_d h2 13) (fun ct base q hq => cell_KS ct base h2 q hq) ?_
  have f2 : Fr (fun q _ => q = 108) h1 h2 := by rw [e2]; exact (Fr.st (P := fun q _ => q = 108) (Fr.st (P := fun q _ => q = 108) Fr.rf rfl) rfl)
  have a : ∀ k, h2.1 108 k = if k = 50 then 100 else if k = 3 then -1 else 0 := fun k => by
    rw [e2, h_i_1, h_i_1]
    by_cases c : k = 50
    · rw [if_pos ⟨rfl, c⟩, if_pos c]
    · rw [if_neg (fun z => c z.2), if_neg c]
      by_cases d : k = 3
      · rw [if_pos ⟨rfl, d⟩, if_pos d]
      · rw [if_neg (fun z => d z.2), if_neg d]
        exact (hz 108 (Nat.le_refl _) k).1
  have hcw2 : CW h2 tx_0.1 := hcw.fr f2 (fun q k p => by omega)
  have hcr2 : CR h2 0 34 (pu (bgn tx_0.1) 23 0) := hcr.fr f2 (fun q k p => by omega)
  have hwd2 : WdsR h2 := fun i hi => by rw [f2.l (by omega)]; exact hwd i hi
  have g : ∀ q k, q ≠ 108 → h2.1 q k = h1.1 q k := fun q k hq => f2.i hq
  obtain ⟨z1, z2, z3, z4, z5, z6, z7, z8, z9, z10⟩ := hzz
  have hr : Rel 0 (h_d h2 13) := Rel_0 (h := h_d h2 13) hcw2 hcr2 hwd2 ((g 4 2 (by decide)).trans e42) ((a 3).trans (by decide)) ((a 50).trans (by decide))
    ⟨(g _ _ (by decide)).trans z1, (g _ _ (by decide)).trans z2, (g _ _ (by decide)).trans z3, (g _ _ (by decide)).trans z4, (g _ _ (by decide)).trans z5, (g _ _ (by decide)).trans z6, (g _ _ (by decide)).trans z7, (g _ _ (by decide)).trans z8, (g _ _ (by decide)).trans z9, (g _ _ (by decide)).trans z10⟩
    (fun k n3 n50 => (a k).trans (by rw [if_neg n50, if_neg n3]))
    (fun q k hq => (g q k (by omega)).trans (hz q (by omega) k).1)
  exact law_loop hL (L / 6 + 1) 0 (h_d h2 13) (Nat.zero_le _) (by omega) hr
