-- ===== the constructors on the machine =====
theorem is_new {ks : Nat → ob_K} {n : Nat} {v : ob_K} (h : n + 1 ≤ 100000) : ob_is (ku ks n v) (n + 1) n v := ⟨Nat.lt_succ_self _, h, ku_s⟩
theorem is_up {ks : Nat → ob_K} {n o : Nat} {v kd : ob_K} (a : ob_is ks n o kd) (h : n + 1 ≤ 100000) : ob_is (ku ks n v) (n + 1) o kd := ⟨Nat.lt_succ_of_lt a.1, h, by rw [ku_n (Nat.ne_of_lt a.1)]; exact a.2.2⟩
theorem is_set {ks : Nat → ob_K} {n o : Nat} {v kd : ob_K} (a : ob_is ks n o kd) : ob_is (ku ks o v) n o v := ⟨a.1, a.2.1, ku_s⟩
theorem is_oth {ks : Nat → ob_K} {n o q : Nat} {v kd : ob_K} (a : ob_is ks n q kd) (h : q ≠ o) : ob_is (ku ks o v) n q kd := ⟨a.1, a.2.1, by rw [ku_n h]; exact a.2.2⟩
/-- nothing stands from n on -/
def Fz (n : Nat) (h : ob_H) : Prop := ∀ q, n ≤ q → ∀ k, h.1 q k = 0 ∧ h.2.1 q k = 0
theorem Fz.i {n o k : Nat} {v : Int32} {h : ob_H} (a : Fz n h) (ho : o < n) : Fz n (h_i h o k v) := fun q hq j => by
  refine ⟨?_, (a q hq j).2⟩
  rw [h_i_1, if_neg (by omega)]
  exact (a q hq j).1
theorem Fz.up {n m : Nat} {h : ob_H} (a : Fz n h) (hm : n ≤ m) : Fz m h := fun q hq => a q (Nat.le_trans hm hq)
def rm4 : Room := { frames := 1, cells := 2, slots := 332, locals := 40 }
/-- a formula is made -/
theorem I4 {ks : Nat → ob_K} {n o : Nat} {h : ob_H} (hk : ob_is ks n o (9, [3, 0, 3])) (hn : n + 2 ≤ 100000) (hz : Fz n h) : ob_T yX4_init cX4_init 1 none rm4 ks n h [.ref o] (fun r ks' n' h' => r = none ∧ ks' = ku (ku (ku (ku ks n (0, [300])) o (9, [n + 4, 0, 3])) (n + 1) (0, [32])) o (9, [n + 4, 0, n + 1 + 4]) ∧ n' = n + 1 + 1 ∧ h' = h_i h o 1 0) := by
  have k1 : ob_is (ku ks n (0, [300])) (n + 1) o (9, [3, 0, 3]) := is_up hk (by omega)
  have k2 : ob_is (ku (ku ks n (0, [300])) o (9, [n + 4, 0, 3])) (n + 1) o (9, [n + 4, 0, 3]) := is_set k1
  have k3 : ob_is (ku (ku (ku ks n (0, [300])) o (9, [n + 4, 0, 3])) (n + 1) (0, [32])) (n + 1 + 1) o (9, [n + 4, 0, 3]) := is_up k2 (by omega)
  refine ob_T_of (ini := true) (by decide +kernel) (fun _ => rfl) (Nat.le_of_ble_eq_true rfl) ?_
  show ob_J RX4 cX4_init 1 rm4 true none 0 0 ks n h 0 [(0, .ref o)] [] _
  refine oj_aload_n 0 dX4_init_0 rfl rfl ?_
  refine oj_objInit hk ow_141 ow_27 ow_28 (by decide) (by decide) rfl dX4_init_1 ?_
  refine oj_aload_n 0 dX4_init_4 rfl rfl ?_
  refine oj_sipush dX4_init_5 cs_300 ?_
  refine oj_newa_i (N := 300) ow_152 (by decide) rfl (by decide) (fun k => (hz n (Nat.le_refl _) k).1) (by omega) (by decide) (by decide) dX4_init_8 ?_
  refine oj_putr fl_RX4_9 (Or.inr ⟨rfl, RX4, TX4, 3, rfl, rfl⟩) k1 (is_new (by omega)) (by decide) (fun _ => rfl) (fun _ => rfl) dX4_init_10 ?_
  refine oj_aload_n 0 dX4_init_13 rfl rfl ?_
  refine oj_iconst dX4_init_14 ci_0 ?_
  refine oj_puti fl_RX4_13 (Or.inl rfl) k2 rfl rfl rfl dX4_init_15 ?_
  refine oj_aload_n 0 dX4_init_18 rfl rfl ?_
  refine oj_bipush dX4_init_19 cb_32 ?_
  refine oj_newa_i (N := 32) ow_152 (by decide) rfl (by decide) (fun k => ((hz.up (Nat.le_succ n)).i (o := o) (k := 1) (v := 0) (Nat.lt_succ_of_lt hk.1) (n + 1) (Nat.le_refl _) k).1) (by omega) (by decide) (by decide) dX4_init_21 ?_
  refine oj_putr fl_RX4_17 (Or.inr ⟨rfl, RX4, TX4, 3, rfl, rfl⟩) k3 (is_new (by omega)) (by show 2 < 3; decide) (fun _ => rfl) (fun _ => rfl) dX4_init_23 ?_
  exact oj_ret (r := none) ⟨trivial, rfl, rfl, rfl, rfl⟩ dX4_init_26 (by decide) (by decide)
