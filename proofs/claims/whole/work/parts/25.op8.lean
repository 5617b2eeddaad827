-- ===== odds, peril =====
theorem nI_rng {x : Int32} {n : Nat} (h0 : 0 ≤ x) (h1 : x ≤ nI n) (hn : n < 2 ^ 31) : x.toNatClampNeg ≤ n ∧ x = nI x.toNatClampNeg := by
  have a1 := Int32.le_iff_toInt_le.mp h0
  have a2 := Int32.le_iff_toInt_le.mp h1
  rw [show (0 : Int32).toInt = 0 by decide] at a1
  rw [nI_toInt hn] at a2
  have e : x.toNatClampNeg = x.toInt.toNat := rfl
  rw [e]
  refine ⟨by omega, ?_⟩
  apply Int32.toInt_inj.mp
  rw [nI_toInt (by omega)]
  omega
/-- who answers gives so many of a hundred -/
def chV (w : ob_W) (r : ob_P) (k : Nat) : Int32 := imx 0 (imn 100 (ansV w r k))
def chN (w : ob_W) (r : ob_P) (k : Nat) : Nat := (chV w r k).toNatClampNeg
theorem ch_ok {w : ob_W} {r : ob_P} {k : Nat} : chN w r k ≤ 100 ∧ chV w r k = nI (chN w r k) := by
  have h1 : 0 ≤ chV w r k ∧ chV w r k ≤ 100 := by
    unfold chV
    generalize ansV w r k = x
    unfold imx imn
    by_cases c : x < 100
    · rw [if_pos c]
      by_cases d : 0 < x
      · rw [if_pos d]; exact ⟨Int32.le_of_lt d, Int32.le_of_lt c⟩
      · rw [if_neg d]; exact ⟨Int32.le_refl _, by decide⟩
    · rw [if_neg c]
      decide
  exact nI_rng h1.1 h1.2 (by omega)
theorem ch_sub : ∀ c, c ≤ 100 → (100 : Int32) - nI c = nI (100 - c) := by
  have : ∀ c, c < 101 → (100 : Int32) - nI c = nI (100 - c) := by decide +kernel
  exact fun c h => this c (by omega)
/-- so many of the ways: those of P, of whom those of x stand -/
def pdN (w : ob_W) (r : ob_P) (P x : Nat) : Nat → Nat
  | 0 => 1
  | k + 1 => if tb P k = true then pdN w r P x k * (if tb x k = true then 100 - chN w r k else chN w r k) else pdN w r P x k
theorem pdN_le {w : ob_W} {r : ob_P} {P x : Nat} : ∀ {k}, pdN w r P x k ≤ 100 ^ cnt (tb P) k
  | 0 => Nat.le_refl _
  | k + 1 => by
    have ih := pdN_le (w := w) (r := r) (P := P) (x := x) (k := k)
    rw [pdN, cnt]
    by_cases h : tb P k = true
    · rw [if_pos h, if_pos h, Nat.pow_succ]
      refine Nat.mul_le_mul ih ?_
      have := (ch_ok (w := w) (r := r) (k := k)).1
      split <;> omega
    · rw [if_neg h, if_neg h]
      exact ih
theorem cnt_le7 {p : Nat → Bool} {n m : Nat} (h : n ≤ m) : cnt p n ≤ cnt p m := by
  induction m with
  | zero => have : n = 0 := by omega
            subst this; exact Nat.le_refl _
  | succ m ih =>
    by_cases e : n = m + 1
    · rw [e]; exact Nat.le_refl _
    · have := ih (by omega)
      rw [cnt]
      omega
theorem pdN_8 {w : ob_W} {r : ob_P} {P x n : Nat} (hn : n ≤ 7) (h4 : ctb P ≤ 4) : pdN w r P x n ≤ 100000000 := by
  have h1 := pdN_le (w := w) (r := r) (P := P) (x := x) (k := n)
  have h2 : cnt (tb P) n ≤ 4 := Nat.le_trans (cnt_le7 hn) h4
  have h3 : 100 ^ cnt (tb P) n ≤ 100 ^ 4 := Nat.pow_le_pow_right (by decide) h2
  omega
theorem cs_takeChances {h : ob_H} {w : ob_W} {r : ob_P} {Q : ob_H → Prop} (hW : WFW w) (hw : CW h w) (hr : CR h w.1 34 r) (hq : ∀ h', Fr SC h h' → (∀ k, k < w.1 → h'.1 94 k = chV w r k) → Q h') : MX7_takeChances h Q := by
  have hn7 := hW.1
  unfold MX7_takeChances
  refine lo2c1 w.1 (by omega) (fun j h1 => Fr SC h h1 ∧ ∀ k, k < j → h1.1 94 k = chV w r k) ?_ ?_ 0 (Nat.zero_le _) _ ⟨Fr.rf, fun k hk => absurd hk (Nat.not_lt_zero _)⟩
  · intro k j h1 hj hI hk
    obtain ⟨i1, i2⟩ := hI
    unfold FX7_takeChances_2
    rw [(hw.sc i1).1, show ix (nI j) = j from nI_clamp (by omega)]
    refine br_f (nI_ge hj (by omega)) (cs_answerOf hW (hw.sc i1) (hr.sc i1) hj (by omega) fun h2 f2 => ⟨vp_in_nI (by omega) (by omega), Lt_i fun y z => Lt_eq (nI_1 _) (hk _ ⟨?_, fun q hq => ?_⟩)⟩)
    · rw [z]; exact (i1.tr (f2.mono SC_CE34)).st (by unfold SC; omega)
    · rw [z, h_i_1]
      by_cases e : q = j
      · subst e
        rw [if_pos ⟨rfl, rfl⟩]
        rfl
      · rw [if_neg (by omega), f2.i (by unfold CE; omega)]
        exact i2 q (by omega)
  · intro k h1 hI
    obtain ⟨i1, i2⟩ := hI
    unfold FX7_takeChances_2
    rw [(hw.sc i1).1]
    exact br_t (nI_le (Nat.le_refl _) (by omega)) (hq h1 i1 i2)
theorem cs_ways {h : ob_H} {w : ob_W} {r : ob_P} {P x : Nat} {Q : Int32 → Prop} (hn7 : w.1 ≤ 7) (hw : CW h w) (hc : ∀ k, k < w.1 → h.1 94 k = chV w r k) (hP : P < 128) (hx : x < 128) (hq : Q (nI (pdN w r P x w.1))) : MX7_ways (nI P) (nI x) h Q := by
  unfold MX7_ways
  refine lo2c2 w.1 (by omega) (fun j a => a = nI (pdN w r P x j)) ?_ ?_ 0 (Nat.zero_le _) _ rfl
  · intro k j a hj hI hk
    subst hI
    obtain ⟨c1, c2⟩ := ch_ok (w := w) (r := r) (k := j)
    unfold FX7_ways_5
    rw [hw.1, show ix (nI j) = j from nI_clamp (by omega), hc j hj, c2, ch_sub _ c1, nI_mul, nI_mul]
    refine br_f (nI_ge hj (by omega)) (bit00 (α := True) (fun b => Lt_eq (nI_1 _) (hk _ ?_)) (fun b => bit00 (α := True) (fun b2 => ⟨vp_in_nI (by omega) (by omega), Lt_i fun y z => Lt_eq (nI_1 _) (hk _ ?_)⟩) (fun b2 => ⟨vp_in_nI (by omega) (by omega), Lt_i fun y z => Lt_eq (nI_1 _) (hk _ ?_)⟩)))
    · rw [bitI_nI hP (by omega)] at b
      rw [pdN, if_neg (by unfold tb; rw [b]; decide)]
    · rw [bitI_nI hP (by omega)] at b
      rw [bitI_nI hx (by omega)] at b2
      rw [z, pdN, if_pos b, if_neg (by unfold tb; rw [b2]; decide)]
    · rw [bitI_nI hP (by omega)] at b
      rw [bitI_nI hx (by omega)] at b2
      rw [z, pdN, if_pos b, if_pos b2]
  · intro k a hI
    subst hI
    unfold FX7_ways_5
    rw [hw.1]
    exact br_t (nI_le (Nat.le_refl _) (by omega)) hq
theorem rs_hundredths {h : ob_H} {w : ob_W} {r : ob_P} {k : Nat} {Q : Int32 → ob_H → Prop} (hW : WFW w) (hw : RW h w) (ha : Air h r) (hk : k < w.1) (hq : ∀ h', Fr SE h h' → Q (chV w r k) h') : MX12_hundredths (nI k) h Q := by
  unfold MX12_hundredths
  refine rs_answerOf hW hw ha hk fun h2 f2 => ?_
  have h3 := hq h2 f2
  unfold chV imx imn at h3
  generalize ansV w r k = x at *
  refine br_c (fun c => br_c (fun d => ?_) (fun d => ?_)) (fun c => ?_)
  · by_cases e : x < 100
    · rw [if_pos e] at h3
      by_cases e2 : 0 < x
      · rwa [if_pos e2] at h3
      · rw [if_neg e2] at h3
        have : x = 0 := Int32.le_antisymm (Int32.not_lt.mp e2) c
        rwa [this]
    · rw [if_neg e] at h3
      have : x = 100 := Int32.le_antisymm d (Int32.not_lt.mp e)
      rw [this]
      exact h3
  · rw [if_neg (fun e => d (Int32.le_of_lt e))] at h3
    exact h3
  · have c := Int32.not_le.mp c
    rw [if_pos (Int32.lt_trans c (by decide)), if_neg (Int32.not_lt.mpr (Int32.le_of_lt c))] at h3
    exact h3
theorem sub_rev2 : ∀ P, P < 128 → ∀ x, x < 128 → x &&& P = x → (P - x) &&& P = P - x ∧ P &&& (127 ^^^ x) = P - x := by decide +kernel
theorem sub_rev (P : Nat) (hP : P < 128) (x : Nat) (hx : x < 128) (h : x &&& P = x) : (P - x) &&& P = P - x ∧ P &&& (127 ^^^ x) = P - x ∧ ∀ k, k < 7 → P.testBit k = true → (P - x).testBit k = !x.testBit k := by
  obtain ⟨h1, h2⟩ := sub_rev2 P hP x hx h
  refine ⟨h1, h2, fun k hk hb => ?_⟩
  rw [← h2, Nat.testBit_and, Nat.testBit_xor, hb]
  have : ∀ i, i < 7 → Nat.testBit 127 i = true := by decide
  rw [this k hk]
  cases x.testBit k <;> rfl
theorem rs_standingA {h : ob_H} {w : ob_W} {r : ob_P} {Q : Int32 → ob_H → Prop} (hW : WFW w) (hw : RW h w) (hn : Nw h r) (hq : ∀ h', Fr SR h h' → Air h' r → Q (nI (mkS w r 2)) h') : MX12_standing h Q := by
  unfold MX12_standing
  refine rs_load hn fun h2 f2 a2 => ?_
  have g2 : Fr SR h h2 := f2.mono fun q k p => by unfold SR; omega
  exact rs_thatAre (hw.sr hW.1 g2).1 hW.1 a2 (hq h2 g2 a2)
theorem rs_shareOf {h : ob_H} {w : ob_W} {r : ob_P} {P y : Nat} {Q : Int32 → ob_H → Prop} (hW : WFW w) (hw : RW h w) (ha : Air h r) (hP : P < 128) (hy : y &&& P = y) (hq : ∀ h', Fr SE h h' → Q (nI (pdN w r P (P - y) w.1)) h') : MX12_shareOf (nI P) (nI y) h Q := by
  have hn7 := hW.1
  have hyl := sub_le hy
  unfold MX12_shareOf
  refine lo3c2 w.1 (by omega) (fun j a h1 => Fr SE h h1 ∧ a = nI (pdN w r P (P - y) j)) ?_ ?_ 0 (Nat.zero_le _) _ _ ⟨Fr.rf, rfl⟩
  · intro k j a h1 hj hI hk
    obtain ⟨i1, rfl⟩ := hI
    obtain ⟨c1, c2⟩ := ch_ok (w := w) (r := r) (k := j)
    have hb := (sub_rev P hP y (by omega) hy).2.2 j (by omega)
    have hw1 := hw.sr hn7 (i1.mono SE_SR)
    unfold FX12_shareOf_5
    rw [hw1.1]
    refine br_f (nI_ge hj (by omega)) (bit11 (fun b => ?_) (fun b => Lt_eq (nI_1 _) (hk _ _ ⟨i1, ?_⟩)))
    · rw [bitI_nI hP (by omega)] at b
      have hb := hb b
      refine bit11 (fun b2 => rs_hundredths hW hw1 (ha.se i1) hj fun h2 f2 => ?_) (fun b2 => rs_hundredths hW hw1 (ha.se i1) hj fun h2 f2 => ?_)
      · rw [bitI_nI (by omega) (by omega)] at b2
        rw [b2] at hb
        rw [c2, nI_mul]
        refine Lt_i fun y z => Lt_eq (nI_1 _) (hk _ _ ⟨i1.tr f2, ?_⟩)
        rw [z, pdN, if_pos b, if_neg (by unfold tb; rw [hb]; decide)]
      · rw [bitI_nI (by omega) (by omega)] at b2
        rw [b2] at hb
        rw [c2, ch_sub _ c1, nI_mul]
        refine Lt_i fun y z => Lt_eq (nI_1 _) (hk _ _ ⟨i1.tr f2, ?_⟩)
        rw [z, pdN, if_pos b, if_pos (by unfold tb; rw [hb]; decide)]
    · rw [bitI_nI hP (by omega)] at b
      rw [pdN, if_neg (by unfold tb; rw [b]; decide)]
  · intro k a h1 hI
    obtain ⟨i1, rfl⟩ := hI
    have hw1 := hw.sr hn7 (i1.mono SE_SR)
    unfold FX12_shareOf_5
    rw [hw1.1]
    exact br_t (nI_le (Nat.le_refl _) (by omega)) (hq h1 i1)
theorem cs_whole {h : ob_H} {P : Nat} {Q : Int32 → Prop} (hP : P < 128) (h4 : ctb P ≤ 4) (hq : Q (nI (100 ^ ctb P))) : MX7_whole (nI P) h Q := by
  unfold MX7_whole
  refine lo2c2 (ctb P) (by omega) (fun j a => a = nI (100 ^ j)) ?_ ?_ 0 (Nat.zero_le _) _ rfl
  · intro k j a hj hI hk
    subst hI
    unfold FX7_whole_4
    refine cs_bits hP (br_f (nI_ge hj (by omega)) (br_f (nI_ge (b := 4) (by omega) (by decide)) (Lt_i fun y z => Lt_eq (nI_1 _) (hk _ ?_))))
    rw [z, show (100 : Int32) = nI 100 from rfl, nI_mul, Nat.pow_succ]
  · intro k a hI
    subst hI
    unfold FX7_whole_4
    exact cs_bits hP (br_t (nI_le (Nat.le_refl _) (by omega)) hq)
theorem rs_power {h : ob_H} {n : Nat} {Q : Int32 → Prop} (h4 : n ≤ 4) (hq : Q (nI (100 ^ n))) : MX12_power 100 (nI n) h Q := by
  unfold MX12_power
  refine lo2c2 n (by omega) (fun j a => a = nI (100 ^ j)) ?_ ?_ 0 (Nat.zero_le _) _ rfl
  · intro k j a hj hI hk
    subst hI
    unfold FX12_power_4
    refine br_f (nI_ge hj (by omega)) (Lt_i fun y z => Lt_eq (nI_1 _) (hk _ ?_))
    rw [z, show (100 : Int32) = nI 100 from rfl, nI_mul, Nat.pow_succ]
  · intro k a hI
    subst hI
    unfold FX12_power_4
    exact br_t (nI_le (Nat.le_refl _) (by omega)) hq
def lowV (N D : Nat) (q : Int32) : Int32 := (if q = 0 then nI N else nI D) / nI (Nat.gcd D N)
theorem gcd_step {a b : Nat} : Nat.gcd b (a % b) = Nat.gcd a b := by rw [Nat.gcd_comm b (a % b), ← Nat.gcd_rec b a, Nat.gcd_comm]
theorem cs_lowest {h : ob_H} {N D : Nat} {q : Int32} {Q : Int32 → Prop} (hN : N < 2 ^ 31) (hD : D < 2 ^ 31) (h0 : 0 < D) (hq : Q (lowV N D q)) : MX7_lowest (nI N) (nI D) q h Q := by
  unfold MX7_lowest
  have fin : ∀ a, 0 < a → a < 2 ^ 31 → a = Nat.gcd D N → KX7_lowest_39 (nI N) (nI D) q (nI a) h Q := by
    intro a ha hal e
    unfold KX7_lowest_39 KX7_lowest_48
    unfold lowV at hq
    rw [← e] at hq
    refine br_c (fun c => br_f (nI_ne0 ha hal) ⟨nI_ne0 ha hal, ?_⟩) (fun c => br_f (nI_ne0 ha hal) ⟨nI_ne0 ha hal, ?_⟩)
    · rwa [if_pos c] at hq
    · rwa [if_neg c] at hq
  refine lo3c3 1000000 (by omega) (fun j a b => ∃ a' b', a = nI a' ∧ b = nI b' ∧ 0 < a' ∧ a' < 2 ^ 31 ∧ b' < 2 ^ 31 ∧ Nat.gcd a' b' = Nat.gcd D N ∧ j ≤ 70 ∧ (j = 0 ∨ (b' < a' ∧ a' * b' * 2 ^ j ≤ 2 ^ 64))) ?_ ?_ 0 (by omega) _ _ ⟨D, N, rfl, rfl, h0, hD, hN, rfl, by omega, Or.inl rfl⟩
  · intro k j a b hj hI hk
    obtain ⟨a', b', rfl, rfl, h1, h2, h3, h4, h5, h6⟩ := hI
    unfold FX7_lowest_8
    refine br_f (nI_ge (b := 1000000) hj (by decide)) (br_c (fun c => ?_) (fun c => ⟨c, ?_⟩))
    · have : b' = 0 := by
        have := (nI_eq (a := b') (b := 0) (by omega) (by omega)).mp c
        exact this
      subst this
      exact fin a' h1 h2 (by rw [← h4]; simp)
    · have hb : 0 < b' := by
        rcases Nat.eq_zero_or_pos b' with e | e
        · subst e; exact absurd rfl c
        · exact e
      have hm := Nat.mod_lt a' hb
      rw [irm_nI h2 h3]
      refine Lt_i fun y z => Lt_eq (nI_1 _) (hk _ _ ⟨b', a' % b', rfl, z, hb, h3, by omega, by rw [gcd_step, h4], ?_⟩)
      have hkey : b' * (a' % b') * 2 ^ (j + 1) ≤ 2 ^ 64 := by
        rcases h6 with rfl | ⟨h6, h7⟩
        · have : b' * (a' % b') ≤ 2 ^ 31 * 2 ^ 31 := Nat.mul_le_mul (by omega) (by omega)
          have : b' * (a' % b') * 2 ^ (0 + 1) ≤ 2 ^ 31 * 2 ^ 31 * 2 ^ (0 + 1) := Nat.mul_le_mul_right _ this
          exact Nat.le_trans this (by decide)
        · have h8 : (a' % b') * 2 ≤ a' := by
            have h9 := Nat.div_add_mod a' b'
            have h10 : 1 ≤ a' / b' := Nat.div_pos (by omega) hb
            have h11 : b' * 1 ≤ b' * (a' / b') := Nat.mul_le_mul_left _ h10
            omega
          calc b' * (a' % b') * 2 ^ (j + 1) = b' * ((a' % b') * 2) * 2 ^ j := by rw [Nat.pow_succ]; ac_rfl
            _ ≤ b' * a' * 2 ^ j := Nat.mul_le_mul_right _ (Nat.mul_le_mul_left _ h8)
            _ = a' * b' * 2 ^ j := by rw [Nat.mul_comm b' a']
            _ ≤ 2 ^ 64 := h7
      refine ⟨?_, Or.inr ⟨hm, hkey⟩⟩
      rcases h6 with rfl | ⟨h6, h7⟩
      · omega
      · have h8 : 1 * 2 ^ j ≤ a' * b' * 2 ^ j := Nat.mul_le_mul_right _ (Nat.mul_pos h1 hb)
        have h9 : 2 ^ j ≤ 2 ^ 64 := by omega
        have := (Nat.pow_le_pow_iff_right (a := 2) (by decide)).mp h9
        omega
  · intro k a b hI
    obtain ⟨a', b', _, _, _, _, _, _, h5, _⟩ := hI
    omega
theorem rs_partOf {h : ob_H} {N D : Nat} {q : Int32} {Q : Int32 → Prop} (hN : N < 2 ^ 31) (hD : D < 2 ^ 31) (h0 : 0 < D) (hq : Q (lowV N D q)) : MX12_partOf (nI N) (nI D) q h Q := by
  unfold MX12_partOf MX12_divisor
  refine lo2_i (fun a b => ∃ a' b', a = nI a' ∧ b = nI b' ∧ 0 < a' ∧ a' < 2 ^ 31 ∧ b' < 2 ^ 31 ∧ Nat.gcd a' b' = Nat.gcd D N) (fun a b => b.toNatClampNeg) ?_ ⟨D, N, rfl, rfl, h0, hD, hN, rfl⟩
  intro k a b hI hk
  obtain ⟨a', b', rfl, rfl, h1, h2, h3, h4⟩ := hI
  unfold FX12_divisor_4
  refine br_c (fun c => ?_) (fun c => ⟨?_, ?_⟩)
  · have : b' = 0 := by
      rw [show (0 : Int32) = nI 0 from rfl, nI_le2 h3 (by omega)] at c
      omega
    subst this
    have e : a' = Nat.gcd D N := by rw [← h4]; simp
    unfold lowV at hq
    rw [← e] at hq
    refine br_c (fun c => ⟨nI_ne0 h1 h2, ?_⟩) (fun c => ⟨nI_ne0 h1 h2, ?_⟩)
    · rwa [if_pos c] at hq
    · rwa [if_neg c] at hq
  · intro e
    rw [e] at c
    exact c (Int32.le_refl _)
  · have hb : 0 < b' := by
      rcases Nat.eq_zero_or_pos b' with e | e
      · subst e; exact absurd (Int32.le_refl _) c
      · exact e
    have hm := Nat.mod_lt a' hb
    rw [irm_nI h2 h3]
    refine Lt_i fun y z => hk _ _ ⟨b', a' % b', rfl, z, hb, h3, by omega, by rw [gcd_step, h4]⟩ ?_
    rw [z, nI_clamp (by omega), nI_clamp h3]
    exact hm
/-- who may be asked so -/
def okD (w : ob_W) (r : ob_P) (p q : Int32) (P : Nat) : Prop := (q = 0 ∨ q = 1) ∧ P < 128 ∧ p = nI P ∧ P &&& mkS w r 0 = P ∧ ctb P ≤ 4
theorem cs_canBeDrawn {h : ob_H} {w : ob_W} {r : ob_P} {p q : Int32} {Q : Int32 → Prop} (hn7 : w.1 ≤ 7) (hr : CR h w.1 34 r) (q1 : ∀ P, okD w r p q P → Q 1) (q0 : (¬ ∃ P, okD w r p q P) → Q 0) : MX11_canBeDrawn p q h Q := by
  have hl := mkS_lt (w := w) (r := r) (s := 0)
  have h27 := pw7 hn7
  have e0 : h.1 35 0 = nI (mkS w r 0) := hr.1 0 (by omega)
  unfold MX11_canBeDrawn KX11_canBeDrawn_21
  rw [e0]
  refine br_c (fun c => br_f (by decide) ?_) (fun c => br_t rfl (q0 ?_))
  · obtain ⟨P, h1, h2, h3⟩ := (sub_ok (by omega)).mp c
    have l1 : ctb P ≤ 7 := cnt_le _ _
    subst h2
    refine cs_bits h1 ?_
    rw [show (4 : Int32) = nI 4 from rfl, nI_lt2 (by omega) (by omega)]
    refine br_c (fun d => q0 ?_) (fun d => br_c (fun e => q1 P ⟨Or.inl e, h1, rfl, h3, by omega⟩) (fun e => br_c (fun e2 => q1 P ⟨Or.inr e2, h1, rfl, h3, by omega⟩) (fun e2 => q0 ?_)))
    · rintro ⟨P', _, a, b, _, cc⟩
      have := (nI_eq (by omega) (by omega)).mp b
      subst this
      omega
    · rintro ⟨P', a, _⟩
      exact a.elim e e2
  · rintro ⟨P, _, a, b, d, _⟩
    exact c ((sub_ok (by omega)).mpr ⟨P, a, b, d⟩)
theorem in01 {q : Int32} : (¬ q < 0 ∧ ¬ 1 < q) ↔ (q = 0 ∨ q = 1) := by
  constructor
  · rintro ⟨a2, b2⟩
    rw [Int32.lt_iff_toInt_lt] at a2 b2
    rw [show (0 : Int32).toInt = 0 by decide] at a2
    rw [show (1 : Int32).toInt = 1 by decide] at b2
    rcases (by omega : q.toInt = 0 ∨ q.toInt = 1) with e | e
    · exact Or.inl (Int32.toInt_inj.mp (by rw [e]; decide))
    · exact Or.inr (Int32.toInt_inj.mp (by rw [e]; decide))
  · rintro (rfl | rfl) <;> decide
theorem rs_canAsk {h : ob_H} {w : ob_W} {r : ob_P} {p q : Int32} {Q : Int32 → ob_H → Prop} (hW : WFW w) (hw : RW h w) (hn : Nw h r) (q1 : ∀ P, okD w r p q P → ∀ h', Fr SR h h' → Q 1 h') (q0 : (¬ ∃ P, okD w r p q P) → ∀ h', Fr SR h h' → Q 0 h') : MX12_canAsk p q h Q := by
  have hn7 := hW.1
  have hl := mkS_lt (w := w) (r := r) (s := 0)
  have h27 := pw7 hn7
  unfold MX12_canAsk MX12_all
  rw [hw.1, ja_full w.1 (by omega)]
  refine rs_isIn (fun a b => br_f (by decide) (rs_waitingNow hW hw hn fun h2 f2 => br_c (fun c => ?_) (fun c => q0 ?_ h2 f2))) (fun a => br_t rfl (q0 ?_ h Fr.rf))
  · obtain ⟨P, h1, h2, h3⟩ := (sub_ok (by omega)).mp c
    have l1 : ctb P ≤ 7 := cnt_le _ _
    subst h2
    refine rs_members h1 ?_
    rw [show (4 : Int32) = nI 4 from rfl, nI_lt2 (by omega) (by omega)]
    refine br_c (fun d => q0 ?_ _ f2) (fun d => rs_isIn (fun x y => br_f (by decide) (q1 P ⟨in01.mp ⟨x, y⟩, h1, rfl, h3, by omega⟩ _ f2)) (fun x => br_t rfl (q0 ?_ _ f2)))
    · rintro ⟨P', _, a, b, _, cc⟩
      have := (nI_eq (by omega) (by omega)).mp b
      subst this
      omega
    · rintro ⟨P', y, _⟩
      have := in01.mpr y
      exact x.elim this.1 this.2
  · rintro ⟨P, _, a, b, d, _⟩
    exact c ((sub_ok (by omega)).mpr ⟨P, a, b, d⟩)
  · rintro ⟨P, _, x, rfl, d, _⟩
    rcases a with a | a
    · exact nI_pos (by omega) a
    · have := sub_lt d hl
      rw [nI_lt2 (by omega) (by omega)] at a
      omega
theorem op_odds {B : Nat} (p q : Int32) : OK B (MX11_odds p q) (MX12_odds p q) := OK.ask fun h w r c _ => by
  obtain ⟨hW, hP, hw, hrw, hr, hn⟩ := c
  have hn7 := hW.1
  refine ⟨fun x => (∃ P, okD w r p q P ∧ x = lowV (pdN w r P 0 w.1) (100 ^ ctb P) q) ∨ ((¬ ∃ P, okD w r p q P) ∧ x = -1), fun Q hq => ?_, fun h1 f1 x hx Q hq => ?_⟩
  · unfold MX11_odds
    refine cs_canBeDrawn hn7 hr (fun P ok => br_f (by decide) ?_) (fun z => br_t rfl (hq _ h (Or.inr ⟨z, rfl⟩) Fr.rf))
    obtain ⟨ok1, ok2, rfl, ok4, ok5⟩ := ok
    have hd : 100 ^ ctb P ≤ 100 ^ 4 := Nat.pow_le_pow_right (by decide) ok5
    have hp := pdN_8 (w := w) (r := r) (P := P) (x := 0) hn7 ok5
    unfold MX7_oddsOf
    refine cs_takeChances hW hw hr fun h2 f2 c2 => ?_
    refine cs_ways (x := 0) hn7 (hw.sc f2) c2 ok2 (by omega) (cs_whole ok2 ok5 (cs_lowest (by omega) (by omega) (Nat.pow_pos (by decide)) ?_))
    exact hq _ h2 (Or.inl ⟨P, ⟨ok1, ok2, rfl, ok4, ok5⟩, rfl⟩) f2
  · have hn1 := hn.sc f1
    have hw1 := hrw.sc hn7 f1
    unfold MX12_odds
    refine rs_canAsk hW hw1 hn1 (fun P ok h2 f2 => br_f (by decide) ?_) (fun z h2 f2 => br_t rfl ?_)
    · obtain ⟨ok1, ok2, rfl, ok4, ok5⟩ := ok
      have hxv : x = lowV (pdN w r P 0 w.1) (100 ^ ctb P) q := by
        rcases hx with ⟨P', ⟨_, a, b, _⟩, hx⟩ | ⟨hx, _⟩
        · have := (nI_eq (by omega) (by omega)).mp b
          subst this
          exact hx
        · exact absurd ⟨P, ok1, ok2, rfl, ok4, ok5⟩ hx
      subst hxv
      have hd : 100 ^ ctb P ≤ 100 ^ 4 := Nat.pow_le_pow_right (by decide) ok5
      have hp := pdN_8 (w := w) (r := r) (P := P) (x := 0) hn7 ok5
      refine rs_load (hn1.sr f2) fun h3 f3 a3 => ?_
      have g3 : Fr SR h1 h3 := f2.tr (f3.mono fun q k p => by unfold SR; omega)
      refine rs_shareOf hW (hw1.sr hn7 g3) a3 ok2 (Nat.and_self _) fun h4 f4 => ?_
      rw [Nat.sub_self]
      refine rs_members ok2 (rs_power ok5 (rs_partOf (by omega) (by omega) (Nat.pow_pos (by decide)) ?_))
      exact hq h4 (g3.tr (f4.mono SE_SR))
    · rcases hx with ⟨P, ok, _⟩ | ⟨_, hx⟩
      · exact absurd ⟨P, ok⟩ z
      · subst hx
        exact hq h2 f2
def suN (f : Nat → Nat) : Nat → Nat
  | 0 => 0
  | n + 1 => suN f n + f n
theorem suN_hi {f : Nat → Nat} {n : Nat} : ∀ {m}, n ≤ m → (∀ k, n ≤ k → k < m → f k = 0) → suN f m = suN f n
  | 0, h, _ => by have : n = 0 := by omega
                  subst this; rfl
  | m + 1, h, hp => by
    by_cases e : n = m + 1
    · rw [e]
    · rw [suN, hp m (by omega) (by omega), suN_hi (m := m) (by omega) (fun k h1 h2 => hp k h1 (by omega))]
      rfl
theorem suN_head {f : Nat → Nat} : ∀ {n}, suN f (n + 1) = f 0 + suN (fun k => f (k + 1)) n
  | 0 => by simp [suN]
  | n + 1 => by
    rw [suN, suN_head (n := n), suN]
    omega
theorem suN_rev {f : Nat → Nat} : ∀ {n}, suN (fun k => f (n - k)) (n + 1) = suN f (n + 1)
  | 0 => rfl
  | n + 1 => by
    rw [suN_head]
    have e : (fun k => f (n + 1 - (k + 1))) = fun k => f (n - k) := by
      funext k
      rw [Nat.add_sub_add_right]
    rw [e, suN_rev (n := n), suN]
    simp only [Nat.sub_zero]
    conv => rhs; rw [suN, suN]
    omega
theorem suN_congr {f g : Nat → Nat} : ∀ {n}, (∀ k, k < n → f k = g k) → suN f n = suN g n
  | 0, _ => rfl
  | n + 1, h => by rw [suN, suN, suN_congr (fun k hk => h k (by omega)), h n (by omega)]
theorem suN_cnt {f : Nat → Nat} {p : Nat → Bool} {G : Nat} : ∀ {n}, (∀ k, k < n → f k ≤ if p k = true then G else 0) → suN f n ≤ cnt p n * G
  | 0, _ => by simp [suN]
  | n + 1, h => by
    have ih := suN_cnt (f := f) (p := p) (G := G) (n := n) (fun k hk => h k (by omega))
    have h1 := h n (by omega)
    rw [suN, cnt, Nat.add_mul]
    by_cases e : p n = true
    · rw [if_pos e] at h1 ⊢; omega
    · rw [if_neg e] at h1 ⊢; omega
theorem sub_16 : ∀ P, P < 128 → ctb P ≤ 4 → cnt (fun x => decide (x &&& P = x)) 128 ≤ 16 := by decide +kernel
def perT (w : ob_W) (r : ob_P) (P x : Nat) : Nat := if x &&& P = x ∧ ¬ wgV w (bitI (nI (mkS w r 2) ||| nI x)) < wv w 7 1 then pdN w r P x w.1 else 0
theorem per_le {w : ob_W} {r : ob_P} {P : Nat} (hn7 : w.1 ≤ 7) (hP : P < 128) (h4 : ctb P ≤ 4) : suN (perT w r P) 128 ≤ 1600000000 := by
  have h1 := suN_cnt (f := perT w r P) (p := fun x => decide (x &&& P = x)) (G := 100000000) (n := 128) (fun k hk => by
    unfold perT
    by_cases c : k &&& P = k ∧ ¬ wgV w (bitI (nI (mkS w r 2) ||| nI k)) < wv w 7 1
    · rw [if_pos c, if_pos (by simpa using c.1)]
      exact pdN_8 hn7 h4
    · rw [if_neg c]
      exact Nat.zero_le _)
  have h2 := sub_16 P hP h4
  have h3 : cnt (fun x => decide (x &&& P = x)) 128 * 100000000 ≤ 16 * 100000000 := Nat.mul_le_mul_right _ h2
  omega
theorem op_peril {B : Nat} (p q : Int32) : OK B (MX11_peril p q) (MX12_peril p q) := OK.ask fun h w r c _ => by
  obtain ⟨hW, hP, hw, hrw, hr, hn⟩ := c
  have hn7 := hW.1
  have hl := mkS_lt (w := w) (r := r) (s := 0)
  have h27 := pw7 hn7
  refine ⟨fun x => (∃ P, okD w r p q P ∧ x = lowV (suN (perT w r P) 128) (100 ^ ctb P) q) ∨ ((¬ ∃ P, okD w r p q P) ∧ x = -1), fun Q hq => ?_, fun h1 f1 x hx Q hq => ?_⟩
  · unfold MX11_peril
    refine cs_canBeDrawn hn7 hr (fun P ok => br_f (by decide) ?_) (fun z => br_t rfl (hq _ h (Or.inr ⟨z, rfl⟩) Fr.rf))
    obtain ⟨ok1, ok2, rfl, ok4, ok5⟩ := ok
    have hd : 100 ^ ctb P ≤ 100 ^ 4 := Nat.pow_le_pow_right (by decide) ok5
    have hp := per_le (w := w) (r := r) hn7 ok2 ok5
    unfold MX7_perilOf
    refine cs_takeChances hW hw hr fun h2 f2 c2 => ?_
    have e2 : h2.1 35 2 = nI (mkS w r 2) := (hr.sc f2).1 2 (by omega)
    refine lo2c2 128 (by omega) (fun j a => a = nI (suN (perT w r P) j)) ?_ ?_ 0 (Nat.zero_le _) _ rfl
    · intro k j a hj hI hk
      subst hI
      unfold FX7_perilOf_9
      rw [e2]
      have hsub : (nI j &&& (nI P ^^^ (-1)) = 0) ↔ j &&& P = j := by
        rw [sub_ok ok2]
        constructor
        · rintro ⟨k, hk, e, hh⟩
          have : j = k := (nI_eq (by omega) (by omega)).mp e
          subst this
          exact hh
        · exact fun h => ⟨j, hj, rfl, h⟩
      refine br_f (nI_ge (b := 128) hj (by decide)) (br_c (fun c => cs_isBarredBy hn7 (hw.sc f2) ?_) (fun c => Lt_eq (nI_1 _) (hk _ ?_)))
      · by_cases d : wgV w (bitI (nI (mkS w r 2) ||| nI j)) < wv w 7 1
        · rw [if_pos d]
          refine br_t rfl (Lt_eq (nI_1 _) (hk _ ?_))
          rw [suN, perT, if_neg (fun z => z.2 d)]; rfl
        · rw [if_neg d]
          refine br_f (by decide) (cs_ways hn7 (hw.sc f2) c2 ok2 hj (Lt_i fun y z => Lt_eq (nI_1 _) (hk _ ?_)))
          rw [z, nI_add, suN, perT, if_pos ⟨hsub.mp c, d⟩]
      · rw [suN, perT, if_neg (fun z => c (hsub.mpr z.1))]; rfl
    · intro k a hI
      subst hI
      unfold FX7_perilOf_9
      refine br_t (nI_le (a := 128) (Nat.le_refl _) (by decide)) (cs_whole ok2 ok5 (cs_lowest (by omega) (by omega) (Nat.pow_pos (by decide)) ?_))
      exact hq _ h2 (Or.inl ⟨P, ⟨ok1, ok2, rfl, ok4, ok5⟩, rfl⟩) f2
  · have hn1 := hn.sc f1
    have hw1 := hrw.sc hn7 f1
    unfold MX12_peril
    refine rs_canAsk hW hw1 hn1 (fun P ok h2 f2 => br_f (by decide) ?_) (fun z h2 f2 => br_t rfl ?_)
    · obtain ⟨ok1, ok2, rfl, ok4, ok5⟩ := ok
      have hxv : x = lowV (suN (perT w r P) 128) (100 ^ ctb P) q := by
        rcases hx with ⟨P', ⟨_, a, b, _⟩, hx⟩ | ⟨hx, _⟩
        · have := (nI_eq (by omega) (by omega)).mp b
          subst this
          exact hx
        · exact absurd ⟨P, ok1, ok2, rfl, ok4, ok5⟩ hx
      subst hxv
      have hd : 100 ^ ctb P ≤ 100 ^ 4 := Nat.pow_le_pow_right (by decide) ok5
      have hp := per_le (w := w) (r := r) hn7 ok2 ok5
      have hrev : suN (perT w r P) 128 = suN (fun y => perT w r P (P - y)) (P + 1) := by
        rw [suN_rev]
        refine suN_hi (by omega) (fun k h1 _ => ?_)
        unfold perT
        exact if_neg fun z => by have := sub_le z.1; omega
      rw [hrev] at hp hq
      refine rs_standingA hW (hw1.sr hn7 f2) (hn1.sr f2) fun h3 f3 a3 => ?_
      have g3 := f2.tr f3
      refine lo3c2 (P + 1) (by omega) (fun j a h4 => Fr SR h1 h4 ∧ Air h4 r ∧ a = nI (suN (fun y => perT w r P (P - y)) j)) ?_ ?_ 0 (Nat.zero_le _) _ _ ⟨g3, a3, rfl⟩
      · intro k j a h4 hj hI hk
        obtain ⟨i1, i2, rfl⟩ := hI
        have hsub : (nI j &&& (nI P ^^^ (-1)) = 0) ↔ j &&& P = j := by
          rw [sub_ok ok2]
          constructor
          · rintro ⟨k, hk, e, hh⟩
            have : j = k := (nI_eq (by omega) (by omega)).mp e
            subst this
            exact hh
          · exact fun h => ⟨j, by omega, rfl, h⟩
        have hw4 := hw1.sr hn7 i1
        unfold FX12_peril_22
        refine br_f (nI_nlt (by omega) (by omega)) (br_c (fun c => ?_) (fun c => Lt_eq (nI_1 _) (hk _ _ ⟨i1, i2, ?_⟩)))
        · have hs := hsub.mp c
          obtain ⟨s1, s2, s3⟩ := sub_rev P ok2 j (by omega) hs
          rw [ja_andn _ (by omega) _ ok2, s2]
          refine rs_isBarred hW hw4 ?_
          by_cases d : wgV w (bitI (nI (mkS w r 2) ||| nI (P - j))) < wv w 7 1
          · rw [if_pos d]
            refine br_t rfl (Lt_eq (nI_1 _) (hk _ _ ⟨i1, i2, ?_⟩))
            rw [suN, perT, if_neg (fun z => z.2 d)]; rfl
          · rw [if_neg d]
            refine br_f (by decide) (rs_shareOf hW hw4 i2 ok2 hs fun h5 f5 => Lt_i fun y z => Lt_eq (nI_1 _) (hk _ _ ⟨i1.tr (f5.mono SE_SR), i2.se f5, ?_⟩))
            rw [z, nI_add, suN, perT, if_pos ⟨s1, d⟩]
        · rw [suN, perT, if_neg, Nat.add_zero]
          rintro ⟨z, _⟩
          apply c
          apply hsub.mpr
          have := (sub_rev P ok2 (P - j) (by omega) z).1
          rw [show P - (P - j) = j by omega] at this
          exact this
      · intro k a h4 hI
        obtain ⟨i1, i2, rfl⟩ := hI
        unfold FX12_peril_22
        exact br_t (nI_lt (by omega) (by omega)) (rs_members ok2 (rs_power ok5 (rs_partOf (by omega) (by omega) (Nat.pow_pos (by decide)) (hq h4 i1))))
    · rcases hx with ⟨P, ok, _⟩ | ⟨_, hx⟩
      · exact absurd ⟨P, ok⟩ z
      · subst hx
        exact hq h2 f2
