-- ===== sums, weight, crowd, tarry, swap =====
theorem nI_mul (a b : Nat) : nI a * nI b = nI (a * b) := (Int32.ofNat_mul a b).symm
theorem nI_m7 (a b : Nat) : nI a * 7 + nI b = nI (7 * a + b) := by
  rw [show (7 : Int32) = nI 7 from rfl, nI_mul, nI_add, Nat.mul_comm]
theorem nI_7m (a b : Nat) : 7 * nI a + nI b = nI (7 * a + b) := by
  rw [show (7 : Int32) = nI 7 from rfl, nI_mul, nI_add]
def su (f : Nat → Int32) : Nat → Int32
  | 0 => 0
  | n + 1 => su f n + f n
theorem su_congr {f g : Nat → Int32} : ∀ {n}, (∀ k, k < n → f k = g k) → su f n = su g n
  | 0, _ => rfl
  | n + 1, h => by rw [su, su, su_congr (fun k hk => h k (by omega)), h n (by omega)]
theorem su_zero : ∀ {n} {f : Nat → Int32}, (∀ k, k < n → f k = 0) → su f n = 0
  | 0, _, _ => rfl
  | n + 1, f, h => by rw [su, su_zero (fun k hk => h k (by omega)), h n (by omega)]; rfl
theorem su_add {f g : Nat → Int32} : ∀ {n}, su (fun k => f k + g k) n = su f n + su g n
  | 0 => rfl
  | n + 1 => by rw [su, su, su, su_add]; ac_rfl
theorem su_swap {f : Nat → Nat → Int32} {m : Nat} : ∀ {n}, su (fun a => su (fun b => f a b) m) n = su (fun b => su (fun a => f a b) n) m
  | 0 => (su_zero (fun _ _ => rfl)).symm
  | n + 1 => by
    rw [su, su_swap (n := n)]
    rw [← su_add]
    rfl
/-- the graves of those, and the joined graves of each two -/
def wgV (w : ob_W) (p : Nat → Bool) : Int32 := su (fun a => if p a = true then wv w 0 a + su (fun b => if a < b ∧ p b = true then wv w 6 (7 * a + b) else 0) w.1 else 0) w.1
theorem wgV_sym {w : ob_W} {p : Nat → Bool} (hW : WFW w) : wgV w p = su (fun a => if p a = true then wv w 0 a + su (fun b => if b < a ∧ p b = true then wv w 6 (7 * a + b) else 0) w.1 else 0) w.1 := by
  have e1 : wgV w p = su (fun a => if p a = true then wv w 0 a else 0) w.1 + su (fun a => su (fun b => if p a = true ∧ a < b ∧ p b = true then wv w 6 (7 * a + b) else 0) w.1) w.1 := by
    unfold wgV
    rw [← su_add]
    apply su_congr
    intro a _
    by_cases h : p a = true
    · simp [h]
    · rw [if_neg h, if_neg h, su_zero (fun b _ => if_neg (fun z => h z.1))]
      rfl
  have e2 : su (fun a => if p a = true then wv w 0 a + su (fun b => if b < a ∧ p b = true then wv w 6 (7 * a + b) else 0) w.1 else 0) w.1 = su (fun a => if p a = true then wv w 0 a else 0) w.1 + su (fun a => su (fun b => if p a = true ∧ b < a ∧ p b = true then wv w 6 (7 * a + b) else 0) w.1) w.1 := by
    rw [← su_add]
    apply su_congr
    intro a _
    by_cases h : p a = true
    · simp [h]
    · rw [if_neg h, if_neg h, su_zero (fun b _ => if_neg (fun z => h z.1))]
      rfl
  rw [e1, e2]
  congr 1
  rw [su_swap]
  apply su_congr
  intro a ha
  apply su_congr
  intro b hb
  have := hW.2.2.2.2.1 a b ha hb
  rw [this]
  by_cases h1 : p a = true <;> by_cases h2 : p b = true <;> simp [h1, h2]
theorem bit00 {x : Int32} {o : Nat} {α : Prop} {A B : Prop} (h1 : bitI x o = false → A) (h2 : bitI x o = true → B) : ((x >>> (nI o &&& 31)) &&& 1 = 0 → A) ∧ (¬ (x >>> (nI o &&& 31)) &&& 1 = 0 → B) :=
  br_c (fun c => h1 (bit0.mp c)) (fun c => h2 (by cases h : bitI x o with | true => rfl | false => exact absurd (bit0.mpr h) c))
theorem bit11 {x : Int32} {o : Nat} {A B : Prop} (h1 : bitI x o = true → A) (h2 : bitI x o = false → B) : ((x >>> (nI o &&& 31)) &&& 1 = 1 → A) ∧ (¬ (x >>> (nI o &&& 31)) &&& 1 = 1 → B) :=
  br_c (fun c => h1 (bit1.mp c)) (fun c => h2 (by cases h : bitI x o with | false => rfl | true => exact absurd (bit1.mpr h) c))
theorem cs_weigh {h : ob_H} {w : ob_W} {x : Int32} {Q : Int32 → Prop} (hn7 : w.1 ≤ 7) (hw : CW h w) (hq : Q (wgV w (bitI x))) : MX7_weigh x h Q := by
  unfold MX7_weigh
  refine lo2c2 w.1 (by omega) (fun j a => a = su (fun a => if bitI x a = true then wv w 0 a + su (fun b => if a < b ∧ bitI x b = true then wv w 6 (7 * a + b) else 0) w.1 else 0) j) ?_ ?_ 0 (Nat.zero_le _) _ rfl
  · intro k j a hj hI hk
    subst hI
    have ej : ix (nI j) = j := nI_clamp (by omega)
    unfold FX7_weigh_4
    rw [hw.1, ej, hw.2.1 0 (by omega) j hj]
    refine br_f (nI_ge hj (by omega)) (bit00 (α := True) (fun c => ?_) (fun c => ⟨vp_in_nI (by omega) (by omega), Lt_i fun y1 z1 => ?_⟩))
    · refine Lt_eq (nI_1 _) (hk _ ?_)
      rw [su, c]
      simp
    · rw [nI_1]
      refine Lt_i fun y2 z2 => ?_
      rw [z2]
      refine lo2c2 w.1 (by omega) (fun i a => j < i ∧ a = y1 + su (fun b => if j < b ∧ bitI x b = true then wv w 6 (7 * j + b) else 0) i) ?_ ?_ (j + 1) (by omega) _ ⟨Nat.lt_succ_self _, ?_⟩
      · intro k2 i a hi hI hk2
        obtain ⟨hji, rfl⟩ := hI
        unfold FX7_weigh_40
        rw [hw.1]
        refine br_f (nI_ge hi (by omega)) (bit00 (α := True) (fun c2 => ?_) (fun c2 => ?_))
        · refine Lt_i fun y3 z3 => Lt_eq (nI_1 _) (hk2 _ ⟨by omega, ?_⟩)
          rw [z3, su, c2]
          simp [Int32.add_assoc]
        · rw [nI_m7, show ix (nI (7 * j + i)) = 7 * j + i from nI_clamp (by omega), hw.2.2.1 j i hj hi]
          refine ⟨vp_in_nI (by omega) (by omega), Lt_i fun y3 z3 => Lt_eq (nI_1 _) (hk2 _ ⟨by omega, ?_⟩)⟩
          rw [z3, su, if_pos ⟨hji, c2⟩, Int32.add_assoc]
      · intro k2 a hI
        obtain ⟨hji, rfl⟩ := hI
        unfold FX7_weigh_40
        rw [hw.1]
        refine br_t (nI_le (Nat.le_refl _) (by omega)) (Lt_eq (nI_1 _) (hk _ ?_))
        rw [z1, su, if_pos c, Int32.add_assoc]
      · rw [su_zero (fun b hb => if_neg (by omega))]
        simp
  · intro k a hI
    subst hI
    unfold FX7_weigh_4
    rw [hw.1]
    exact br_t (nI_le (Nat.le_refl _) (by omega)) hq
theorem rs_weightOf {h : ob_H} {w : ob_W} {x : Int32} {Q : Int32 → Prop} (hW : WFW w) (hw : RW h w) (hq : Q (wgV w (bitI x))) : MX12_weightOf x h Q := by
  have hn7 := hW.1
  unfold MX12_weightOf
  rw [wgV_sym hW] at hq
  refine lo2c2 w.1 (by omega) (fun j a => a = su (fun a => if bitI x a = true then wv w 0 a + su (fun b => if b < a ∧ bitI x b = true then wv w 6 (7 * a + b) else 0) w.1 else 0) j) ?_ ?_ 0 (Nat.zero_le _) _ rfl
  · intro k j a hj hI hk
    subst hI
    have ej : ix (nI j) = j := nI_clamp (by omega)
    have w0 := hw.2.1 0 (by omega) j hj
    rw [show 128 + 0 = 128 from rfl] at w0
    unfold FX12_weightOf_4
    rw [hw.1, ej, w0]
    refine br_f (nI_ge hj (by omega)) (bit00 (α := True) (fun c => ?_) (fun c => ⟨vp_in_nI (by omega) (by omega), Lt_i fun y1 z1 => ?_⟩))
    · refine Lt_eq (nI_1 _) (hk _ ?_)
      rw [su, c]
      simp
    · have hsplit : ∀ i, i ≤ w.1 → j ≤ i → su (fun b => if b < j ∧ bitI x b = true then wv w 6 (7 * j + b) else 0) i = su (fun b => if b < j ∧ bitI x b = true then wv w 6 (7 * j + b) else 0) j := by
        intro i
        induction i with
        | zero => intro _ h; have : j = 0 := by omega
                  subst this; rfl
        | succ i ih =>
          intro h1 h2
          by_cases e : j = i + 1
          · rw [← e]
          · rw [su, ih (by omega) (by omega), if_neg (by omega)]; simp
      refine lo2c2 j (by omega) (fun i a => a = y1 + su (fun b => if b < j ∧ bitI x b = true then wv w 6 (7 * j + b) else 0) i) ?_ ?_ 0 (Nat.zero_le _) _ ?_
      · intro k2 i a hi hI hk2
        subst hI
        unfold FX12_weightOf_35
        refine br_f (nI_ge hi (by omega)) (bit11 (fun c2 => ?_) (fun c2 => ?_))
        · rw [nI_7m, show ix (nI (7 * j + i)) = 7 * j + i from nI_clamp (by omega), hw.2.2.1 j i hj (by omega)]
          refine ⟨vp_in_nI (by omega) (by omega), Lt_i fun y3 z3 => Lt_eq (nI_1 _) (hk2 _ ?_)⟩
          rw [z3, su, if_pos ⟨hi, c2⟩, Int32.add_assoc]
        · refine Lt_i fun y3 z3 => Lt_eq (nI_1 _) (hk2 _ ?_)
          rw [z3, su, c2]
          simp [Int32.add_assoc]
      · intro k2 a hI
        subst hI
        unfold FX12_weightOf_35
        refine br_t (nI_le (Nat.le_refl _) (by omega)) (Lt_eq (nI_1 _) (hk _ ?_))
        rw [z1, su, if_pos c, hsplit w.1 (Nat.le_refl _) (by omega), Int32.add_assoc]
      · simp [su]
  · intro k a hI
    subst hI
    unfold FX12_weightOf_4
    rw [hw.1]
    exact br_t (nI_le (Nat.le_refl _) (by omega)) hq
theorem cs_isBarredBy {h : ob_H} {w : ob_W} {x : Int32} {Q : Int32 → Prop} (hn7 : w.1 ≤ 7) (hw : CW h w) (hq : Q (if wgV w (bitI x) < wv w 7 1 then 0 else 1)) : MX7_isBarredBy x h Q := by
  unfold MX7_isBarredBy
  refine cs_weigh hn7 hw ?_
  rw [hw.2.2.2.2.1]
  exact br_c (fun c => by rwa [if_pos c] at hq) (fun c => by rwa [if_neg c] at hq)
theorem rs_isBarred {h : ob_H} {w : ob_W} {x : Int32} {Q : Int32 → Prop} (hW : WFW w) (hw : RW h w) (hq : Q (if wgV w (bitI x) < wv w 7 1 then 0 else 1)) : MX12_isBarred x h Q := by
  unfold MX12_isBarred
  refine rs_weightOf hW hw ?_
  rw [hw.2.2.2.2.1]
  exact br_c (fun c => by rwa [if_pos c] at hq) (fun c => by rwa [if_neg c] at hq)
/-- those that are s now -/
abbrev mkS (w : ob_W) (r : ob_P) (s : Int32) : Nat := mk (isS r s) w.1
theorem rs_standing {h : ob_H} {w : ob_W} {r : ob_P} {Q : Int32 → ob_H → Prop} (hW : WFW w) (hw : RW h w) (hn : Nw h r) (hq : ∀ h', Fr SR h h' → Q (nI (mkS w r 2)) h') : MX12_standing h Q := by
  unfold MX12_standing
  refine rs_load hn fun h2 f2 a2 => ?_
  have g2 : Fr SR h h2 := f2.mono fun q k p => by unfold SR; omega
  exact rs_thatAre (hw.sr hW.1 g2).1 hW.1 a2 (hq h2 g2)
theorem rs_waitingNow {h : ob_H} {w : ob_W} {r : ob_P} {Q : Int32 → ob_H → Prop} (hW : WFW w) (hw : RW h w) (hn : Nw h r) (hq : ∀ h', Fr SR h h' → Q (nI (mkS w r 0)) h') : MX12_waitingNow h Q := by
  unfold MX12_waitingNow
  refine rs_load hn fun h2 f2 a2 => ?_
  have g2 : Fr SR h h2 := f2.mono fun q k p => by unfold SR; omega
  exact rs_thatAre (hw.sr hW.1 g2).1 hW.1 a2 (hq h2 g2)
theorem op_weight {B : Nat} : OK B (fun h Q => MX11_weight h fun x => Q x h) MX12_weight := OK.ask fun h w r c _ => by
  obtain ⟨hW, hP, hw, hrw, hr, hn⟩ := c
  have hn7 := hW.1
  refine ⟨fun x => x = wgV w (bitI (nI (mkS w r 2))), fun Q hq => ?_, fun h1 f1 x hx Q hq => ?_⟩
  · show MX11_weight h fun x => Q x h
    unfold MX11_weight
    rw [hr.1 2 (by omega)]
    exact cs_weigh hn7 hw (hq _ h rfl Fr.rf)
  · subst hx
    unfold MX12_weight
    exact rs_standing hW (hrw.sc hn7 f1) (hn.sc f1) fun h2 f2 => rs_weightOf hW ((hrw.sc hn7 f1).sr hn7 f2) (hq h2 f2)
/-- with whom he is brought -/
def b5 (w : ob_W) (j : Nat) : Nat := (wv w 5 j).toNatClampNeg
def crS (w : ob_W) (m : Nat) : Nat → Nat
  | 0 => m
  | j + 1 => crS w m j ||| (if (crS w m j).testBit j = true then b5 w j else 0)
def crI (w : ob_W) (m : Nat) : Nat → Nat
  | 0 => m
  | k + 1 => crS w (crI w m k) w.1
theorem b5_ok {w : ob_W} {j : Nat} (hW : WFW w) (hj : j < w.1) : b5 w j < 2 ^ w.1 ∧ wv w 5 j = nI (b5 w j) := by
  obtain ⟨_, _, _, h4, _⟩ := hW
  obtain ⟨_, _, _, _, _, _, _, _, m, hm, e⟩ := h4 j hj
  have h7 : 2 ^ w.1 ≤ 2 ^ 7 := Nat.pow_le_pow_right (by decide) ‹_›
  have : b5 w j = m := by unfold b5; rw [e, nI_clamp (by omega)]
  rw [this]
  exact ⟨hm, e⟩
theorem crS_lt {w : ob_W} {m : Nat} (hW : WFW w) (hm : m < 2 ^ w.1) : ∀ {j}, j ≤ w.1 → crS w m j < 2 ^ w.1
  | 0, _ => hm
  | j + 1, hj => by
    rw [crS]
    refine Nat.or_lt_two_pow (crS_lt hW hm (by omega)) ?_
    split
    · exact (b5_ok hW hj).1
    · exact Nat.two_pow_pos _
theorem crI_lt {w : ob_W} {m : Nat} (hW : WFW w) (hm : m < 2 ^ w.1) : ∀ {k}, crI w m k < 2 ^ w.1
  | 0 => hm
  | k + 1 => crS_lt hW (crI_lt hW hm) (Nat.le_refl _)
theorem crS_bit {w : ob_W} {m i : Nat} (h : m.testBit i = true) : ∀ {j}, (crS w m j).testBit i = true
  | 0 => h
  | j + 1 => by rw [crS, Nat.testBit_or, crS_bit h]; rfl
theorem cnt_bits_lt {a b n : Nat} (ha : a < 2 ^ n) (hb : b < 2 ^ n) (h : ∀ i, a.testBit i = true → b.testBit i = true) (hne : a ≠ b) : cnt (fun i => a.testBit i) n + 1 ≤ cnt (fun i => b.testBit i) n := by
  have : ∃ i, i < n ∧ b.testBit i = true ∧ a.testBit i = false := by
    apply Classical.byContradiction
    intro hc
    apply hne
    apply Nat.eq_of_testBit_eq
    intro i
    by_cases hi : i < n
    · cases hb2 : b.testBit i with
      | true => cases ha2 : a.testBit i with
        | true => rfl
        | false => exact absurd ⟨i, hi, hb2, ha2⟩ hc
      | false => cases ha2 : a.testBit i with
        | false => rfl
        | true => rw [h i ha2] at hb2; exact absurd hb2 (by decide)
    · have h1 : 2 ^ n ≤ 2 ^ i := Nat.pow_le_pow_right (by decide) (by omega)
      rw [Nat.testBit_lt_two_pow (Nat.lt_of_lt_of_le ha h1), Nat.testBit_lt_two_pow (Nat.lt_of_lt_of_le hb h1)]
  obtain ⟨i, h1, h2, h3⟩ := this
  exact cnt_lt (o := i) (fun k _ hk => h k hk) h1 h2 h3
theorem crI_fix {w : ob_W} {m k : Nat} (h : crI w m (k + 1) = crI w m k) : ∀ d, crI w m (k + d) = crI w m k
  | 0 => rfl
  | d + 1 => by
    have h1 : crI w m (k + d + 1) = crS w (crI w m (k + d)) w.1 := rfl
    rw [← Nat.add_assoc, h1, crI_fix h d]
    exact h
theorem crI_grow {w : ob_W} {m : Nat} (hW : WFW w) (hm : m < 2 ^ w.1) (h1 : 1 ≤ cnt (fun i => m.testBit i) w.1) : ∀ {k}, crI w m (k + 1) ≠ crI w m k → k + 2 ≤ cnt (fun i => (crI w m (k + 1)).testBit i) w.1
  | 0, h => by
    have := cnt_bits_lt hm (crI_lt hW hm (k := 1)) (fun i hi => crS_bit hi) (fun e => h e.symm)
    show 0 + 2 ≤ cnt (fun i => (crI w m 1).testBit i) w.1
    omega
  | k + 1, h => by
    have hk : crI w m (k + 1) ≠ crI w m k := fun e => h (by rw [crI_fix e 2, ← crI_fix e 1])
    have := crI_grow hW hm h1 hk
    have h2 := cnt_bits_lt (crI_lt hW hm (k := k + 1)) (crI_lt hW hm (k := k + 2)) (fun i hi => crS_bit hi) (fun e => h e.symm)
    show k + 1 + 2 ≤ cnt (fun i => (crI w m (k + 1 + 1)).testBit i) w.1
    have e : k + 1 + 1 = k + 2 := rfl
    rw [e]
    omega
theorem crI_7 {w : ob_W} {m : Nat} (hW : WFW w) (hm : m < 2 ^ w.1) (h1 : 1 ≤ cnt (fun i => m.testBit i) w.1) : crI w m 7 = crI w m w.1 := by
  have hn7 := hW.1
  have hf : crI w m (w.1 + 1) = crI w m w.1 := by
    apply Classical.byContradiction
    intro hc
    have := crI_grow hW hm h1 hc
    have := cnt_le (fun i => (crI w m (w.1 + 1)).testBit i) w.1
    omega
  have := crI_fix hf (7 - w.1)
  rwa [show w.1 + (7 - w.1) = 7 by omega] at this
theorem op_crowd {B : Nat} (p : Int32) : OK B (fun h Q => MX11_crowd p h fun x => Q x h) (fun h Q => MX12_crowd p h fun x => Q x h) := OK.ask fun h w r c _ => by
  obtain ⟨hW, hP, hw, hrw, hr, hn⟩ := c
  have hn7 := hW.1
  have h27 : 2 ^ w.1 ≤ 2 ^ 7 := Nat.pow_le_pow_right (by decide) hn7
  have hlt : ∀ o, o < w.1 → 2 ^ o < 2 ^ w.1 := fun o ho => Nat.pow_lt_pow_right (by decide) ho
  refine ⟨fun x => (∃ o, o < w.1 ∧ p = nI o ∧ x = nI (crI w (2 ^ o) w.1)) ∨ (¬ (∃ o, o < w.1 ∧ p = nI o) ∧ x = -1), fun Q hq => ?_, fun h1 f1 x hx Q hq => ?_⟩
  · show MX11_crowd p h fun x => Q x h
    unfold MX11_crowd
    refine cs_isTold hn7 hw.1 (fun ⟨o, ho, e⟩ => ?_) (fun z => br_t rfl (hq _ h (Or.inr ⟨z, rfl⟩) Fr.rf))
    subst e
    refine br_f (by decide) ?_
    unfold MX2_crowdOf
    rw [ja_shl o (by omega)]
    refine Lt_i fun y0 z0 => ?_
    subst z0
    refine lo2c2 w.1 (by omega) (fun j a => a = nI (crI w (2 ^ o) j)) ?_ ?_ 0 (Nat.zero_le _) _ rfl
    · intro k j a hj hI hk
      subst hI
      have hm := crI_lt hW (hlt o ho) (k := j)
      unfold FX2_crowdOf_6
      rw [hw.1]
      refine br_f (nI_ge hj (by omega)) ?_
      refine lo2c2 w.1 (by omega) (fun i a => a = nI (crS w (crI w (2 ^ o) j) i)) ?_ ?_ 0 (Nat.zero_le _) _ rfl
      · intro k2 i a hi hI hk2
        subst hI
        have hm2 := crS_lt hW hm (j := i) (by omega)
        have hb := b5_ok hW hi
        unfold FX2_crowdOf_17
        rw [hw.1, show ix (nI i) = i from nI_clamp (by omega), show (20 + 6 : Nat) = 21 + 5 from rfl, hw.2.1 5 (by omega) i hi, hb.2]
        refine br_f (nI_ge hi (by omega)) (bit00 (α := True) (fun c2 => ?_) (fun c2 => ?_))
        · rw [bitI_nI (by omega) (by omega)] at c2
          refine Lt_i fun y3 z3 => Lt_eq (nI_1 _) (hk2 _ ?_)
          rw [z3, crS, c2]
          simp
        · rw [bitI_nI (by omega) (by omega)] at c2
          refine ⟨vp_in_nI (by omega) (by omega), Lt_i fun y3 z3 => Lt_eq (nI_1 _) (hk2 _ ?_)⟩
          rw [z3, crS, if_pos c2, ja_or _ _ (by omega) (by omega)]
      · intro k2 a hI
        subst hI
        unfold FX2_crowdOf_17
        rw [hw.1]
        exact br_t (nI_le (Nat.le_refl _) (by omega)) (Lt_eq (nI_1 _) (hk _ rfl))
    · intro k a hI
      subst hI
      unfold FX2_crowdOf_6
      rw [hw.1]
      exact br_t (nI_le (Nat.le_refl _) (by omega)) (hq _ h (Or.inl ⟨o, ho, rfl, rfl⟩) Fr.rf)
  · show MX12_crowd p h1 fun x => Q x h1
    have hw1 := hrw.sc hn7 f1
    unfold MX12_crowd
    refine rs_isOne hn7 hw1.1 (fun ⟨o, ho, e⟩ => ?_) (fun z => ?_)
    · subst e
      have hxv : x = nI (crI w (2 ^ o) w.1) := by
        rcases hx with ⟨o', ho', e, hx⟩ | ⟨hx, _⟩
        · have : o = o' := (nI_eq (by omega) (by omega)).mp e
          subst this
          exact hx
        · exact absurd ⟨o, ho, rfl⟩ hx
      subst hxv
      refine br_f (by decide) ?_
      rw [ja_shl o (by omega)]
      refine Lt_i fun y0 z0 => ?_
      subst z0
      rw [← crI_7 hW (hlt o ho) (by
        have h1 : cnt (fun i => (0 : Nat).testBit i) w.1 + 1 ≤ cnt (fun i => (2 ^ o).testBit i) w.1 := cnt_lt (o := o) (fun k _ hk => by simp at hk) ho (by simp [Nat.testBit_two_pow]) (by simp)
        omega)] at hq
      refine lo2c2 7 (by omega) (fun j a => a = nI (crI w (2 ^ o) j)) ?_ ?_ 0 (Nat.zero_le _) _ rfl
      · intro k j a hj hI hk
        subst hI
        have hm := crI_lt hW (hlt o ho) (k := j)
        unfold FX12_crowd_16
        refine br_f (nI_ge (b := 7) hj (by decide)) ?_
        refine lo2c2 w.1 (by omega) (fun i a => a = nI (crS w (crI w (2 ^ o) j) i)) ?_ ?_ 0 (Nat.zero_le _) _ rfl
        · intro k2 i a hi hI hk2
          subst hI
          have hm2 := crS_lt hW hm (j := i) (by omega)
          have hb := b5_ok hW hi
          unfold FX12_crowd_25
          rw [hw1.1, show ix (nI i) = i from nI_clamp (by omega), show (133 : Nat) = 128 + 5 from rfl, hw1.2.1 5 (by omega) i hi, hb.2]
          refine br_f (nI_ge hi (by omega)) (bit11 (fun c2 => ?_) (fun c2 => ?_))
          · rw [bitI_nI (by omega) (by omega)] at c2
            refine ⟨vp_in_nI (by omega) (by omega), Lt_i fun y3 z3 => Lt_eq (nI_1 _) (hk2 _ ?_)⟩
            rw [z3, crS, if_pos c2, ja_or _ _ (by omega) (by omega)]
          · rw [bitI_nI (by omega) (by omega)] at c2
            refine Lt_i fun y3 z3 => Lt_eq (nI_1 _) (hk2 _ ?_)
            rw [z3, crS, c2]
            simp
        · intro k2 a hI
          subst hI
          unfold FX12_crowd_25
          rw [hw1.1]
          exact br_t (nI_le (Nat.le_refl _) (by omega)) (Lt_eq (nI_1 _) (hk _ rfl))
      · intro k a hI
        subst hI
        unfold FX12_crowd_16
        exact br_t (nI_le (b := 7) (Nat.le_refl _) (by omega)) (hq h1 Fr.rf)
    · rcases hx with ⟨o, ho, e, hx⟩ | ⟨_, hx⟩
      · exact absurd ⟨o, ho, e⟩ z
      · subst hx
        exact br_t rfl (hq h1 Fr.rf)
theorem lev_id {w : ob_W} {r : ob_P} (h : ∀ o, o < w.1 → lvs w r o = false) : lev w r = r := by
  funext k
  unfold lev
  exact if_neg fun z => by rw [h k z.1] at z; exact absurd z.2 (by decide)
theorem pas_0 {w : ob_W} {r : ob_P} (h : ∀ o, o < w.1 → lvs w r o = false) : pas w r 0 = r := by
  have e : pu r 21 (r 21 + 0) = r := by
    funext k
    unfold pu
    by_cases e : k = 21
    · subst e; simp
    · rw [if_neg e]
  unfold pas
  rw [e, lev_id h]
/-- the least wait up to j with the earliest dusk -/
def tar (w : ob_W) (r : ob_P) : Nat → Nat × Int32
  | 0 => (0, dsk w r)
  | j + 1 => if dsk w (pas w r (nI (j + 1))) < (tar w r j).2 then (j + 1, dsk w (pas w r (nI (j + 1)))) else tar w r j
theorem op_tarry {B : Nat} (p : Int32) : OK B (MX11_tarry p) (MX12_tarry p) := OK.ask fun h w r c _ => by
  obtain ⟨hW, hP, hw, hrw, hr, hn⟩ := c
  have hn7 := hW.1
  refine ⟨fun x => x = if p < 0 ∨ 1 < p then -1 else if p = 0 then nI (tar w r 60).1 else (tar w r 60).2, fun Q hq => ?_, fun h1 f1 x hx Q hq => ?_⟩
  · unfold MX11_tarry
    refine br_c (fun c => hq _ h (by rw [if_pos (Or.inl c)]) Fr.rf) (fun c => br_c (fun c2 => ?_) (fun c2 => hq _ h (by rw [if_pos (Or.inr (Int32.not_le.mp c2))]) Fr.rf))
    have hno : ¬ (p < 0 ∨ 1 < p) := by rintro (z | z); exact c z; exact absurd c2 (Int32.not_le.mpr z)
    unfold MX0_findTarry
    have step : ∀ j (k : Int32 → ob_H → Prop) h1, j ≤ 60 → Fr SC h h1 → (0 < j → h1.1 92 3 = nI (tar w r (j - 1)).1 ∧ h1.1 92 4 = (tar w r (j - 1)).2) → (∀ h2, Fr SC h h2 → h2.1 92 3 = nI (tar w r j).1 ∧ h2.1 92 4 = (tar w r j).2 → k (nI (j + 1)) h2) → FX0_findTarry_2 60 (fun h8 => (p = 0 → Q (h8.1 92 3) h8) ∧ (¬ p = 0 → Q (h8.1 92 4) h8)) k (nI j) h1 := by
      intro j k h1 hj i1 i2 hk
      unfold FX0_findTarry_2
      refine br_f (by rw [show (60 : Int32) = nI 60 from rfl, nI_lt2 (by omega) (by omega)]; omega) ?_
      refine cs_copy hn7 (hr.sc i1) (by omega) fun h2 f2 r2 => ?_
      have g2 : Fr SC h h2 := i1.tr (f2.mono fun q k p => by unfold SC; omega)
      refine cs_letPass hn7 (hw.sc g2) r2 (by omega) fun h3 f3 r3 => ?_
      have g3 : Fr SC h h3 := g2.tr (f3.mono fun q k p => by unfold CM at p; unfold SC; omega)
      refine cs_follow hW (hw.sc g3) r3 fun h4 f4 _ _ => ?_
      have g4 : Fr SC h h4 := g3.tr (f4.mono SC_CG)
      have e92 : ∀ k, h4.1 92 k = h1.1 92 k := fun k => by rw [f4.i (by unfold CG; omega), f3.i (by unfold CM; omega), f2.i (by omega)]
      cases j with
      | zero =>
        refine br_t rfl (Lt_i fun y1 z1 => Lt_i fun y2 z2 => Lt_eq (nI_1 _) (hk _ ?_ ⟨?_, ?_⟩))
        · rw [z2, z1]
          exact (g4.st (by unfold SC; omega)).st (by unfold SC; omega)
        · rw [z2, h_i_1, if_neg (by omega), z1, h_i_1, if_pos (by omega)]
          rfl
        · rw [z2, h_i_1, if_pos (by omega)]
          rw [show nI 0 = (0 : Int32) from rfl, pas_0 hP.2.2]
          rfl
      | succ i =>
        obtain ⟨b1, b2⟩ := i2 (by omega)
        rw [Nat.add_sub_cancel] at b1 b2
        rw [e92, b2]
        refine br_f (nI_ne0 (by omega) (by omega)) (br_c (fun c => Lt_eq (nI_1 _) (hk _ g4 ?_)) (fun c => Lt_i fun y1 z1 => Lt_i fun y2 z2 => Lt_eq (nI_1 _) (hk _ ?_ ⟨?_, ?_⟩)))
        · rw [tar, if_neg (Int32.not_lt.mpr c), e92, e92]
          exact ⟨b1, b2⟩
        · rw [z2, z1]
          exact (g4.st (by unfold SC; omega)).st (by unfold SC; omega)
        · rw [z2, h_i_1, if_neg (by omega), z1, h_i_1, if_pos (by omega), tar, if_pos (Int32.not_le.mp c)]
        · rw [z2, h_i_1, if_pos (by omega), tar, if_pos (Int32.not_le.mp c)]
    refine lo2c1 61 (by omega) (fun j h1 => Fr SC h h1 ∧ (0 < j → h1.1 92 3 = nI (tar w r (j - 1)).1 ∧ h1.1 92 4 = (tar w r (j - 1)).2)) ?_ ?_ 0 (Nat.zero_le _) _ ⟨Fr.rf, fun z => absurd z (Nat.lt_irrefl _)⟩
    · intro k j h1 hj hI hk
      exact step j k h1 (by omega) hI.1 hI.2 fun h2 f2 e => hk h2 ⟨f2, fun _ => by rw [Nat.add_sub_cancel]; exact e⟩
    · intro k h1 hI
      obtain ⟨i1, i2⟩ := hI
      obtain ⟨b1, b2⟩ := i2 (by omega)
      unfold FX0_findTarry_2
      refine br_t (by decide) ?_
      show (p = 0 → Q (h1.1 92 3) h1) ∧ (¬ p = 0 → Q (h1.1 92 4) h1)
      rw [b1, b2]
      refine br_c (fun c => hq _ h1 ?_ i1) (fun c => hq _ h1 ?_ i1)
      · rw [if_neg hno, if_pos c]
      · rw [if_neg hno, if_neg c]
  · subst hx
    have hn1 := hn.sc f1
    have hw1 := hrw.sc hn7 f1
    unfold MX12_tarry
    refine rs_isIn (fun a b => br_f (by decide) ?_) (fun a => br_t rfl ?_)
    · rw [if_neg (by rintro (z | z); exact a z; exact b z)] at hq
      refine rs_duskNow hW hw1 hn1 fun h2 f2 _ _ => ?_
      refine lo4c3 61 (by omega) (fun j a b h2 => Fr SR h1 h2 ∧ 1 ≤ j ∧ a = nI (tar w r (j - 1)).1 ∧ b = (tar w r (j - 1)).2) ?_ ?_ 1 (by omega) _ _ _ ⟨f2, by omega, rfl, rfl⟩
      · intro k j a b h2 hj hI hk
        obtain ⟨i1, i2, rfl, rfl⟩ := hI
        obtain ⟨i, rfl⟩ : ∃ i, j = i + 1 := ⟨j - 1, by omega⟩
        rw [Nat.add_sub_cancel]
        unfold FX12_tarry_21
        refine br_f (by rw [show (60 : Int32) = nI 60 from rfl, nI_lt2 (by omega) (by omega)]; omega) ?_
        refine rs_load (hn1.sr i1) fun h3 f3 a3 => ?_
        have g3 : Fr SR h1 h3 := i1.tr (f3.mono (fun q k p => by unfold SR; omega))
        rw [a3 21 (by omega)]
        refine Lt_i fun y z => ?_
        subst z
        have g4 : Fr SR h1 (h_i h3 136 21 (r 21 + nI (i + 1))) := g3.st (by unfold SR; omega)
        refine rs_leave hn7 (hw1.sr hn7 g4) a3.put fun h5 f5 a5 => ?_
        have g5 := g4.tr (f5.mono (P' := SR) (fun q k p => by unfold SR; omega))
        refine rs_goOn hW (hw1.sr hn7 g5) a5 fun h6 f6 _ _ => ?_
        have g6 := g5.tr f6
        show (dsk w (pas w r (nI (i + 1))) < (tar w r i).2 → _) ∧ (¬ dsk w (pas w r (nI (i + 1))) < (tar w r i).2 → _)
        have et : ∀ c : dsk w (pas w r (nI (i + 1))) < (tar w r i).2, tar w r (i + 1) = (i + 1, dsk w (pas w r (nI (i + 1)))) := fun c => by rw [tar, if_pos c]
        have ef : ∀ c : ¬ dsk w (pas w r (nI (i + 1))) < (tar w r i).2, tar w r (i + 1) = tar w r i := fun c => by rw [tar, if_neg c]
        refine br_c (fun c => Lt_eq (nI_1 _) (hk _ _ _ ⟨g6, by omega, ?_, ?_⟩)) (fun c => Lt_eq (nI_1 _) (hk _ _ _ ⟨g6, by omega, ?_, ?_⟩))
        · rw [Nat.add_sub_cancel, et c]
        · rw [Nat.add_sub_cancel, et c]
          rfl
        · rw [Nat.add_sub_cancel, ef c]
        · rw [Nat.add_sub_cancel, ef c]
      · intro k a b h2 hI
        obtain ⟨i1, i2, e1, e2⟩ := hI
        simp only [Nat.reduceSub] at e1 e2
        unfold FX12_tarry_21
        refine br_t (by decide) ?_
        rw [e1, e2]
        refine br_c (fun c => ?_) (fun c => ?_)
        · rw [if_pos c] at hq
          exact hq h2 i1
        · rw [if_neg c] at hq
          exact hq h2 i1
    · rw [if_pos a] at hq
      exact hq h1 Fr.rf
