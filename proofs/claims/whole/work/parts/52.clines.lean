-- ===== the class's lines =====
theorem CL.st {h y : ob_H} {T : tx_T} {S : tx_S} {D : tx_D} {P : Nat → Nat → Prop} (c : CL h T S D) (f : Fr P h y) (hP : ∀ q k, P q k → q = 4 ∧ 7 ≤ k) : CL y T S D :=
  ⟨c.1.fr f fun q k p => by have := hP q k p; omega, c.2.1.fr (fun q k z => f.i fun p => by have := hP q k p; unfold DX at z; omega) (fun k => f.l fun p => by have := hP 19 k p; omega), c.2.2⟩
theorem bnd_l {α β : Type} {x : Sum tx_E α} {g : α → Sum tx_E β} {e : tx_E} (h : x = .inl e) : bnd x g = .inl e := by rw [h]; rfl
theorem bnd_r {α β : Type} {x : Sum tx_E α} {g : α → Sum tx_E β} {a : α} (h : x = .inr a) : bnd x g = g a := by rw [h]; rfl
theorem badT_l {α : Type} {S : tx_S} {c : Nat} : ∃ e, badT (α := α) S c = .inl e := ⟨_, rfl⟩
theorem cl_two {h : ob_H} {T : tx_T} {S : tx_S} {D : tx_D} {Q : Int32 → ob_H → Prop} (c : CL h T S D) (hk : 1 < kdT S) (q0 : ∀ e h', pTwo D S = .inl e → Fp PCc h h' → RsC h' e → Q 0 h')
    (q1 : ∀ x h', pTwo D S = .inr x → Fp PCc h h' → h'.1 4 8 = nI x.1 → h'.1 4 9 = nI x.2.1 → x.1 < D.1.1 → x.2.1 < D.1.1 → x.1 ≠ x.2.1 → kdT x.2.2 = 2 → CL h' T x.2.2 D → Q 1 h') : MX5_readTwoNames h Q := by
  obtain ⟨d1, d2, _⟩ := c.2.2
  unfold MX5_readTwoNames
  refine cl_next c hk fun h1 f1 e1 c1 => cl_find c1 (Lt_i fun y z => ?_)
  have fy : Fr (fun q k => q = 4 ∧ k = 8) h1 y := by rw [z]; exact Fr.rf.st (by omega)
  have cy : CL y T S.tail D := c1.st fy fun q k p => by omega
  have e8 : y.1 4 8 = tI (fdN D S.tail) := by rw [z, h_i_1, if_pos ⟨rfl, rfl⟩]
  have g1 : Fp PCc h y := f1.tr (fy.fp fun q k p => by unfold PCc; omega)
  unfold pTwo at q0 q1
  rw [e8]
  have nn : ∀ o, fdN D S.tail = some o → o < 2 ^ 31 := fun o ho => by
    unfold fdN at ho
    split at ho
    · have := (nmF_lt ho).2; omega
    · cases ho
  rw [show ((0 : Int32) ≤ tI (fdN D S.tail)) = (∃ o, fdN D S.tail = some o) from propext (tI_nn nn)]
  refine br_c (fun cc => ?_) (fun cc => ?_)
  · obtain ⟨a, ha⟩ := cc
    have hk2 : kdT S.tail = 2 := by
      unfold fdN at ha
      by_cases z : kdT S.tail = 2
      · exact z
      · rw [if_neg z] at ha; cases ha
    have hna : nmF D.2.1 (wdT S.tail) = some a := by unfold fdN at ha; rw [if_pos hk2] at ha; exact ha
    have hlt := (nmF_lt hna).2
    rw [if_neg (by omega), hna] at q0 q1
    simp only at q0 q1
    refine cl_next cy (by omega) fun h2 f2 e2 c2 => cl_find c2 (Lt_i fun y2 z2 => ?_)
    have fy2 : Fr (fun q k => q = 4 ∧ k = 9) h2 y2 := by rw [z2]; exact Fr.rf.st (by omega)
    have cy2 : CL y2 T S.tail.tail D := c2.st fy2 fun q k p => by omega
    have e9 : y2.1 4 9 = tI (fdN D S.tail.tail) := by rw [z2, h_i_1, if_pos ⟨rfl, rfl⟩]
    have e8' : y2.1 4 8 = nI a := by rw [fy2.i (by omega), (e2 4 8 (by omega)).1, e8, ha]; rfl
    have g2 : Fp PCc h y2 := (g1.tr f2).tr (fy2.fp fun q k p => by unfold PCc; omega)
    rw [e9, e8']
    have nn2 : ∀ o, fdN D S.tail.tail = some o → o < 2 ^ 31 := fun o ho => by
      unfold fdN at ho
      split at ho
      · have := (nmF_lt ho).2; omega
      · cases ho
    rw [show ((0 : Int32) ≤ tI (fdN D S.tail.tail)) = (∃ o, fdN D S.tail.tail = some o) from propext (tI_nn nn2)]
    refine br_c (fun cc2 => ?_) (fun cc2 => ?_)
    · obtain ⟨b, hb⟩ := cc2
      have hk3 : kdT S.tail.tail = 2 := by
        unfold fdN at hb
        by_cases z : kdT S.tail.tail = 2
        · exact z
        · rw [if_neg z] at hb; cases hb
      have hnb : nmF D.2.1 (wdT S.tail.tail) = some b := by unfold fdN at hb; rw [if_pos hk3] at hb; exact hb
      have hltb := (nmF_lt hnb).2
      rw [if_neg (by omega), hnb] at q0 q1
      simp only at q0 q1
      rw [hb, show (nI a = tI (some b)) = (a = b) from propext (nI_eq (by omega) (by omega))]
      refine br_c (fun ce => ?_) (fun ce => ?_)
      · rw [if_pos ce] at q0
        exact cl_refuse (c := 3) (α := Nat × Nat × tx_S) cy2.1 (by omega) fun e h' he f' r' => br_t rfl (q0 e h' he (g2.tr f') r')
      · rw [if_neg ce] at q1
        exact q1 _ y2 rfl g2 e8' (by rw [e9, hb]; rfl) (by simp only; omega) (by simp only; omega) ce hk3 cy2
    · rw [show (2 : Int32) = nI 2 from rfl, cy2.1.is 2 (by omega)]
      refine br_c (fun ck => ?_) (fun ck => ?_)
      · have hnb : nmF D.2.1 (wdT S.tail.tail) = none := by
          cases hz : nmF D.2.1 (wdT S.tail.tail) with
          | none => rfl
          | some o => exact absurd ⟨o, by unfold fdN; rw [if_pos ck]; exact hz⟩ cc2
        rw [if_neg (by omega), hnb] at q0
        exact cl_refuse (c := 5) (α := Nat × Nat × tx_S) cy2.1 (by omega) fun e h' he f' r' => q0 e h' he (g2.tr f') r'
      · rw [if_pos ck] at q0
        exact cl_bad (α := Nat × Nat × tx_S) cy2.1 fun e h' he f' r' => q0 e h' he (g2.tr f') r'
  · rw [show (2 : Int32) = nI 2 from rfl, cy.1.is 2 (by omega)]
    refine br_c (fun ck => ?_) (fun ck => ?_)
    · have hna : nmF D.2.1 (wdT S.tail) = none := by
        cases hz : nmF D.2.1 (wdT S.tail) with
        | none => rfl
        | some o => exact absurd ⟨o, by unfold fdN; rw [if_pos ck]; exact hz⟩ cc
      rw [if_neg (by omega), hna] at q0
      exact cl_refuse (c := 5) (α := Nat × Nat × tx_S) cy.1 (by omega) fun e h' he f' r' => q0 e h' he (g1.tr f') r'
    · rw [if_pos ck] at q0
      exact cl_bad (α := Nat × Nat × tx_S) cy.1 fun e h' he f' r' => q0 e h' he (g1.tr f') r'
theorem ctb_le (m : Nat) : ctb m ≤ 7 := cnt_le _ _
theorem suN_le {f : Nat → Nat} {b : Nat} (h : ∀ k, f k ≤ b) : ∀ n, suN f n ≤ b * n
  | 0 => Nat.zero_le _
  | n + 1 => by
    rw [suN, Nat.mul_succ]
    have := suN_le h n
    have := h n
    omega
theorem cl_whom {h : ob_H} {T : tx_T} {S : tx_S} {D : tx_D} {c most : Nat} {Q : Int32 → ob_H → Prop} (hc : c = 4 ∨ c = 5) (hmost : most < 100) (cl : CL h T S D) (hk : 1 < kdT S) (q0 : ∀ e h', pWhom c most D S = .inl e → Fp PCc h h' → RsC h' e → Q 0 h')
    (q1 : ∀ x h', pWhom c most D S = .inr x → Fp PCc h h' → CL h' T x.2 x.1 → Q 1 h') : MX5_readWhom (6 + c) (nI most) h Q := by
  have dd := cl.2.2
  obtain ⟨d1, d2, d3, d4, d5, d6, d7, d8, d9, d10, d11, d12, d13, d14, d15, d16, d17, d18, d19⟩ := dd
  have h128 : 2 ^ D.1.1 ≤ 128 := by
    have := Nat.pow_le_pow_right (show 0 < 2 by decide) (show D.1.1 ≤ 7 by omega)
    omega
  have hcount : (if c = 4 then D.2.2.2.1 else D.2.2.2.2.1) = suN (fun k => pcI (wv D.1 c k)) D.1.1 := by
    rcases hc with rfl | rfl
    · rw [if_pos rfl]; exact d17
    · rw [if_neg (by omega)]; exact d18
  unfold MX5_readWhom
  refine lo2c2 D.1.1 (by omega) (fun j x => x = nI (suN (fun k => pcI (wv D.1 c k)) j)) ?_ ?_ 0 (Nat.zero_le _) _ rfl
  · intro k j x hj hI hk1
    subst hI
    obtain ⟨m, m1, m2, _⟩ := d6 c hc j (by omega)
    unfold FX5_readWhom_5
    rw [cl.2.1.1, show ix (nI j) = j from nI_clamp (by omega), cl.2.1.2.2.1 c hc j (by omega), m2]
    refine br_f (nI_ge hj (by omega)) ⟨vp_in_nI (by omega) (by omega), cs_bits (by omega) (Lt_i fun v zv => Lt_eq (nI_1 _) (hk1 _ ?_))⟩
    rw [zv, nI_add, suN]
    rw [m2, pcI_nI (by omega)]
  · intro k x hI
    subst hI
    have hle : suN (fun k => pcI (wv D.1 c k)) D.1.1 ≤ 7 * D.1.1 := suN_le (fun k => ctb_le _) _
    unfold FX5_readWhom_5
    rw [cl.2.1.1]
    unfold pWhom at q0 q1
    rw [hcount] at q0 q1
    rw [nI_lt2 (by omega) (by omega)]
    refine br_t (nI_le (Nat.le_refl _) (by omega)) (br_c (fun cm => ?_) (fun cm => ?_))
    · rw [if_neg (by omega)] at q0 q1
      refine cl_two cl hk (fun e h' he f' r' => br_t rfl (q0 e h' (bnd_l he) f' r')) (fun x h1 hx f1 x8 x9 xa xb xne xk c1 => br_f (by decide) ?_)
      rw [bnd_r hx] at q0 q1
      obtain ⟨a, b, S2⟩ := x
      simp only at q0 q1 x8 x9 xa xb xne xk c1
      obtain ⟨m, m1, m2, _⟩ := d6 c hc a (by omega)
      have em : h1.1 (6 + c) a = wv D.1 c a := c1.2.1.2.2.1 c hc a (by omega)
      rw [x8, x9, show ix (nI a) = a from nI_clamp (by omega), em]
      refine ⟨vp_in_nI (by omega) (by omega), bit00 (α := True) (fun hb => ?_) (fun hb => ?_)⟩
      · rw [if_neg (by rw [hb]; decide)] at q0 q1
        refine Lt_i fun y z => ?_
        have fy : Fr (fun q k => q = 6 + c ∧ k = a) h1 y := by rw [z]; exact Fr.rf.st (by omega)
        have cy : CL y T S2 (setW D c a b) := by
          refine ⟨c1.1.fr fy fun q k p => by omega, ?_, DI_setW c1.2.2 hc xa xb hb⟩
          obtain ⟨a1, a2, a3, a4, a5, a6, a7, a8, a9, a10, a11, a12, a13⟩ := c1.2.1
          have en : ∀ c' k, c' ≠ c → wv (setW D c a b).1 c' k = wv D.1 c' k := fun c' k h => by rw [setW_at, if_neg (fun z => h z.1)]
          refine ⟨by rw [fy.i (by omega)]; exact a1, fun c' hc' k hk => ?_, fun c' hc' k hk => ?_, fun x y hx hy => ?_, ?_, ?_, ?_, ?_, a9.fr2 fun q k z => fy.i (by omega), a10.fr2 fun q k z => fy.i (by omega), fun k l hl => by rw [fy.l (by omega)]; exact a11 k l hl, by rw [fy.i (by omega)]; exact a12, by rw [fy.i (by omega)]; exact a13⟩
          · rw [fy.i (by omega), en c' k (by omega)]; exact a2 c' hc' k hk
          · rw [setW_at]
            by_cases e : c' = c ∧ k = a
            · obtain ⟨rfl, rfl⟩ := e
              rw [if_pos ⟨rfl, rfl⟩, z, h_i_1, if_pos ⟨rfl, rfl⟩]
            · rw [if_neg e, fy.i (by omega)]
              exact a3 c' hc' k hk
          · rw [fy.i (by omega), en 6 _ (by omega)]; exact a4 x y hx hy
          · rw [fy.i (by omega), en 7 _ (by omega)]; exact a5
          · rw [fy.i (by omega), en 7 _ (by omega)]; exact a6
          · rw [fy.i (by omega), en 7 _ (by omega)]; exact a7
          · rw [fy.i (by omega)]; exact a8
        have gy : Fp PCc h y := f1.tr (fy.fp fun q k p => by unfold PCc; omega)
        refine cl_next cy (by omega) fun h2 f2 e2 c2 => cl_take (k := 59) c2 (by omega) (by omega) (fun e h' he f' r' => q0 e h' (bnd_l he) ((gy.tr f2).tr f') r') (fun S' h' hs f' e' c' => q1 (setW D c a b, S') h' (bnd_r hs) ((gy.tr f2).tr f') c')
      · rw [if_pos hb] at q0
        exact cl_refuse (c := 3) (α := tx_D × tx_S) c1.1 (by omega) fun e h' he f' r' => q0 e h' he (f1.tr f') r'
    · rw [if_pos (by omega)] at q0
      exact cl_bad (α := tx_D × tx_S) cl.1 q0
theorem cl_join {h : ob_H} {T : tx_T} {S : tx_S} {D : tx_D} {Q : Int32 → ob_H → Prop} (cl : CL h T S D) (hk : 1 < kdT S) (q0 : ∀ e h', pJoin D S = .inl e → Fp PCc h h' → RsC h' e → Q 0 h')
    (q1 : ∀ x h', pJoin D S = .inr x → Fp PCc h h' → CL h' T x.2 x.1 → Q 1 h') : MX5_readJoined h Q := by
  have dd := cl.2.2
  obtain ⟨d1, d2, d3, d4, d5, d6, d7, d8, d9, d10, d11, d12, d13, d14, d15, d16, d17, d18, d19⟩ := dd
  have e46 := cl.2.1.2.2.2.2.2.2.2.2.2.2.2.2
  unfold MX5_readJoined
  unfold pJoin at q0 q1
  rw [e46, show (nI D.2.2.2.2.2.1 < (6 : Int32)) = (D.2.2.2.2.2.1 < 6) from by rw [show (6 : Int32) = nI 6 from rfl, nI_lt2 (by omega) (by omega)]]
  refine br_c (fun cm => ?_) (fun cm => ?_)
  · rw [if_neg (by omega)] at q0 q1
    refine cl_two cl hk (fun e h' he f' r' => br_t rfl (q0 e h' (bnd_l he) f' r')) (fun x h1 hx f1 x8 x9 xa xb xne xk c1 => br_f (by decide) ?_)
    rw [bnd_r hx] at q0 q1
    obtain ⟨a, b, S2⟩ := x
    simp only at q0 q1 x8 x9 xa xb xne xk c1
    have e1 : nI a * 7 + nI b = nI (7 * a + b) := nI_m7 a b
    have e2 : nI b * 7 + nI a = nI (7 * b + a) := nI_m7 b a
    rw [x8, x9, e1, show ix (nI (7 * a + b)) = 7 * a + b from nI_clamp (by omega), c1.2.1.2.2.2.1 a b (by omega) (by omega)]
    refine ⟨vp_in_nI (by omega) (by omega), br_c (fun c0 => ?_) (fun c0 => ?_)⟩
    · rw [if_neg (fun z => z c0)] at q0 q1
      refine cl_next c1 (by omega) fun h2 f2 e2' c2 => cl_amount (lo := 1) (hi := 99) c2 (by omega) (by omega) (fun e h' he f' r' => br_t rfl (q0 e h' (bnd_l he) ((f1.tr f2).tr f') r')) (fun x h3 hx3 rng f3 e7 c3 e3 => br_f (by decide) ?_)
      rw [bnd_r hx3] at q0 q1
      have k8 : h3.1 4 8 = nI a := by rw [(e3 4 8 (by omega) (by omega)).1, (e2' 4 8 (by omega)).1]; exact x8
      have k9 : h3.1 4 9 = nI b := by rw [(e3 4 9 (by omega) (by omega)).1, (e2' 4 9 (by omega)).1]; exact x9
      rw [k8, k9, e1, show ix (nI (7 * a + b)) = 7 * a + b from nI_clamp (by omega), e7]
      refine ⟨vp_in_nI (by omega) (by omega), Lt_i fun y z => ?_⟩
      have y8 : y.1 4 8 = nI a := by rw [z, h_i_1, if_neg (by omega)]; exact k8
      have y9 : y.1 4 9 = nI b := by rw [z, h_i_1, if_neg (by omega)]; exact k9
      have y7 : y.1 4 7 = nI x.1 := by rw [z, h_i_1, if_neg (by omega)]; exact e7
      rw [y8, y9, e2, show ix (nI (7 * b + a)) = 7 * b + a from nI_clamp (by omega), y7]
      refine ⟨vp_in_nI (by omega) (by omega), Lt_i fun y2 z2 => ?_⟩
      have y46 : y2.1 4 6 = nI D.2.2.2.2.2.1 := by rw [z2, h_i_1, if_neg (by omega), z, h_i_1, if_neg (by omega)]; exact c3.2.1.2.2.2.2.2.2.2.2.2.2.2.2
      rw [y46, nI_1]
      refine Lt_i fun y3 z3 => ?_
      have fy : Fr (fun q k => (q = 12 ∧ (k = 7 * a + b ∨ k = 7 * b + a)) ∨ (q = 4 ∧ k = 6)) h3 y3 := by rw [z3, z2, z]; exact ((Fr.rf.st (by omega)).st (by omega)).st (by omega)
      have cy : CL y3 T x.2 (setJ D a b x.1) := by
        refine ⟨c3.1.fr fy fun q k p => by omega, ?_, DI_setJ c3.2.2 xa xb rng.2 cm⟩
        obtain ⟨a1, a2, a3, a4, a5, a6, a7, a8, a9, a10, a11, a12, a13⟩ := c3.2.1
        have en : ∀ c' k, c' ≠ 6 → wv (setJ D a b x.1).1 c' k = wv D.1 c' k := fun c' k h => by rw [setJ_at, if_neg (fun z => h z.1)]
        refine ⟨by rw [fy.i (by omega)]; exact a1, fun c' hc' k hk => ?_, fun c' hc' k hk => ?_, fun u v hu hv => ?_, ?_, ?_, ?_, ?_, a9.fr2 fun q k z => fy.i (by omega), a10.fr2 fun q k z => fy.i (by omega), fun k l hl => by rw [fy.l (by omega)]; exact a11 k l hl, by rw [fy.i (by omega)]; exact a12, ?_⟩
        · rw [fy.i (by omega), en c' k (by omega)]; exact a2 c' hc' k hk
        · rw [fy.i (by omega), en c' k (by omega)]; exact a3 c' hc' k hk
        · rw [setJ_at, z3, h_i_1, if_neg (by omega), z2, h_i_1]
          by_cases w1 : 7 * u + v = 7 * b + a
          · rw [if_pos ⟨rfl, w1⟩, if_pos ⟨rfl, Or.inr w1⟩]
          · rw [if_neg (by omega), z, h_i_1]
            by_cases w2 : 7 * u + v = 7 * a + b
            · rw [if_pos ⟨rfl, w2⟩, if_pos ⟨rfl, Or.inl w2⟩]
            · rw [if_neg (by omega), if_neg (by omega)]
              exact a4 u v hu hv
        · rw [fy.i (by omega), en 7 _ (by omega)]; exact a5
        · rw [fy.i (by omega), en 7 _ (by omega)]; exact a6
        · rw [fy.i (by omega), en 7 _ (by omega)]; exact a7
        · rw [fy.i (by omega)]; exact a8
        · rw [z3, h_i_1, if_pos ⟨rfl, rfl⟩]; rfl
      have gy : Fp PCc h y3 := ((f1.tr f2).tr f3).tr (fy.fp fun q k p => by unfold PCc; omega)
      exact cl_take (k := 59) cy (by omega) (by omega) (fun e h' he f' r' => q0 e h' (bnd_l he) (gy.tr f') r') (fun S' h' hs f' e' c' => q1 (setJ D a b x.1, S') h' (bnd_r hs) (gy.tr f') c')
    · rw [if_pos c0] at q0
      exact cl_refuse (c := 3) (α := tx_D × tx_S) c1.1 (by omega) fun e h' he f' r' => q0 e h' he (f1.tr f') r'
  · rw [if_pos (by omega)] at q0
    exact cl_bad (α := tx_D × tx_S) cl.1 q0
