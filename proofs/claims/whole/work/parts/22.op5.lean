-- ===== swap; subsets; purchase, threat, bars, about, boast =====
def swS (w : ob_W) (r : ob_P) (x : Option (Nat × Nat) × Int32) (i j : Nat) : Option (Nat × Nat) × Int32 := if isS r 0 i = true ∧ isS r 0 j = true ∧ dsk w (exc r i j) < x.2 then (some (i, j), dsk w (exc r i j)) else x
def swI (w : ob_W) (r : ob_P) (x : Option (Nat × Nat) × Int32) (i : Nat) : Nat → Option (Nat × Nat) × Int32
  | 0 => x
  | j + 1 => if i < j then swS w r (swI w r x i j) i j else swI w r x i j
def swO (w : ob_W) (r : ob_P) : Nat → Option (Nat × Nat) × Int32
  | 0 => (none, dsk w r)
  | i + 1 => swI w r (swO w r i) i w.1
theorem swI_0 {w : ob_W} {r : ob_P} {x : Option (Nat × Nat) × Int32} {i : Nat} : ∀ {j}, j ≤ i + 1 → swI w r x i j = x
  | 0, _ => rfl
  | j + 1, h => by rw [swI, if_neg (by omega), swI_0 (by omega)]
def SwC (h : ob_H) (x : Int32) (y : Option (Nat × Nat) × Int32) : Prop := h.1 92 4 = y.2 ∧ (x = 0 ∨ x = 1) ∧ (y.1 = none → x = 0) ∧ ∀ a b, y.1 = some (a, b) → x = 1 ∧ h.1 92 0 = nI a ∧ h.1 92 1 = nI b
theorem SwC.fr {h h' : ob_H} {x : Int32} {y : Option (Nat × Nat) × Int32} (a : SwC h x y) (e : ∀ k, h'.1 92 k = h.1 92 k) : SwC h' x y := by
  obtain ⟨a1, a2, a3, a4⟩ := a
  refine ⟨by rw [e]; exact a1, a2, a3, fun a b hy => ?_⟩
  rw [e, e]
  exact a4 a b hy
theorem cs_duskExchanged {h : ob_H} {w : ob_W} {r : ob_P} {a b : Nat} {Q : Int32 → ob_H → Prop} (hW : WFW w) (hw : CW h w) (hr : CR h w.1 34 r) (ha : a < w.1) (hb : b < w.1) (hq : ∀ h', Fr SC h h' → (∀ k, h'.1 92 k = h.1 92 k) → Q (dsk w (exc r a b)) h') : MX0_duskExchanged (nI a) (nI b) h Q := by
  have hn7 := hW.1
  unfold MX0_duskExchanged
  refine cs_copy hn7 hr (by omega) fun h2 f2 r2 => ?_
  have g2 : Fr SC h h2 := f2.mono fun q k p => by unfold SC; omega
  refine cs_exchange hn7 r2 ha hb fun h3 f3 r3 => ?_
  have g3 : Fr SC h h3 := g2.tr (f3.mono fun q k p => by unfold SC; omega)
  exact cs_follow hW (hw.sc g3) r3 fun h4 f4 _ _ => hq h4 (g3.tr (f4.mono SC_CG)) fun k => by rw [f4.i (by unfold CG; omega), f3.i (by omega), f2.i (by omega)]
theorem cs_findSwap {h : ob_H} {w : ob_W} {r : ob_P} {Q : Int32 → ob_H → Prop} (hW : WFW w) (hw : CW h w) (hr : CR h w.1 34 r) (hq : ∀ x h', Fr SC h h' → SwC h' x (swO w r w.1) → Q x h') : MX0_findSwap h Q := by
  have hn7 := hW.1
  unfold MX0_findSwap
  have e0 : (0 : Int32) = nI (mk (fun _ => false) w.1) := by rw [mk_none (fun _ _ => rfl)]; rfl
  conv => arg 1; rw [e0]
  refine cs_duskWithout hW hw hr (fun k _ hk => absurd hk (by decide)) fun h2 f2 => ?_
  rw [mov_none (fun _ _ => rfl)]
  refine Lt_i fun y z => ?_
  have g2 : Fr SC h y := by rw [z]; exact f2.st (by unfold SC; omega)
  refine lo3c2 w.1 (by omega) (fun i x h1 => Fr SC h h1 ∧ SwC h1 x (swO w r i)) ?_ ?_ 0 (Nat.zero_le _) _ _ ⟨g2, by rw [z, h_i_1, if_pos (by omega)]; rfl, Or.inl rfl, fun _ => rfl, fun a b hy => by simp [swO] at hy⟩
  · intro k i x h1 hi hI hk
    obtain ⟨i1, i2⟩ := hI
    unfold FX0_findSwap_13
    rw [(hw.sc i1).1]
    refine br_f (nI_ge hi (by omega)) ?_
    rw [nI_1]
    refine Lt_i fun y0 z0 => ?_
    rw [z0]
    refine lo3c2 w.1 (by omega) (fun j x h1 => Fr SC h h1 ∧ i < j ∧ SwC h1 x (swI w r (swO w r i) i j)) ?_ ?_ (i + 1) (by omega) _ _ ⟨i1, by omega, by rw [swI_0 (by omega)]; exact i2⟩
    · intro k2 j x h1 hj hI hk2
      obtain ⟨i1, hij, i2⟩ := hI
      unfold FX0_findSwap_28
      rw [(hw.sc i1).1]
      refine br_f (nI_ge hj (by omega)) ?_
      have same : swI w r (swO w r i) i (j + 1) = swI w r (swO w r i) i j → ∀ s0, s0 = h1.1 92 4 → KX0_findSwap_74 x (nI i) (nI j) s0 h1 Q k k2 := by
        intro e s0 es
        unfold KX0_findSwap_74
        refine br_t (by rw [es]; exact Int32.le_refl _) (Lt_eq (nI_1 _) (hk2 _ _ ⟨i1, by omega, ?_⟩))
        rw [e]
        exact i2
      refine cs_waits hn7 (hr.sc i1) hi ?_
      cases hz1 : isS r 0 i with
      | false =>
        refine br_t rfl (same ?_ _ rfl)
        rw [swI, if_pos hij, swS, if_neg (by rw [hz1]; simp)]
      | true =>
        refine br_f (by decide) (cs_waits hn7 (hr.sc i1) hj ?_)
        cases hz2 : isS r 0 j with
        | false =>
          refine br_t rfl (same ?_ _ rfl)
          rw [swI, if_pos hij, swS, if_neg (by rw [hz2]; simp)]
        | true =>
          refine br_f (by decide) (cs_duskExchanged hW (hw.sc i1) (hr.sc i1) hi hj fun h3 f3 e92 => ?_)
          have i3 := i2.fr e92
          have g3 := i1.tr f3
          unfold KX0_findSwap_74
          rw [i3.1]
          refine br_c (fun c => Lt_eq (nI_1 _) (hk2 _ _ ⟨g3, by omega, ?_⟩)) (fun c => Lt_i fun y1 z1 => Lt_i fun y2 z2 => Lt_i fun y3 z3 => Lt_eq (nI_1 _) (hk2 _ _ ⟨?_, by omega, ?_⟩))
          · rw [swI, if_pos hij, swS, if_neg (fun z => Int32.not_lt.mpr c z.2.2)]
            exact i3
          · rw [z3, z2, z1]
            exact ((g3.st (by unfold SC; omega)).st (by unfold SC; omega)).st (by unfold SC; omega)
          · rw [swI, if_pos hij, swS, if_pos ⟨hz1, hz2, Int32.not_le.mp c⟩]
            refine ⟨?_, Or.inr rfl, fun hy => (Option.some_ne_none _ hy).elim, fun a b hy => ?_⟩
            · rw [z3, h_i_1, if_pos (by omega)]
            · simp only [Option.some.injEq, Prod.mk.injEq] at hy
              obtain ⟨rfl, rfl⟩ := hy
              refine ⟨rfl, ?_, ?_⟩
              · rw [z3, h_i_1, if_neg (by omega), z2, h_i_1, if_neg (by omega), z1, h_i_1, if_pos (by omega)]
              · rw [z3, h_i_1, if_neg (by omega), z2, h_i_1, if_pos (by omega)]
    · intro k2 x h1 hI
      obtain ⟨i1, hij, i2⟩ := hI
      unfold FX0_findSwap_28
      rw [(hw.sc i1).1]
      exact br_t (nI_le (Nat.le_refl _) (by omega)) (Lt_eq (nI_1 _) (hk _ _ ⟨i1, i2⟩))
  · intro k x h1 hI
    obtain ⟨i1, i2⟩ := hI
    unfold FX0_findSwap_13
    rw [(hw.sc i1).1]
    exact br_t (nI_le (Nat.le_refl _) (by omega)) ⟨by rcases i2.2.1 with rfl | rfl <;> rfl, hq x h1 i1 i2⟩
theorem rs_changeNumbers {h : ob_H} {r : ob_P} {a b : Nat} {Q : ob_H → Prop} (ha : Air h r) (h1 : a < 7) (h2 : b < 7) (hq : ∀ h', Fr (fun q _ => q = 136) h h' → Air h' (exc r a b) → Q h') : MX12_changeNumbers (nI a) (nI b) h Q := by
  unfold MX12_changeNumbers
  have e1 : (14 : Int32) + nI a = nI (14 + a) := nI_add 14 a
  have e2 : (14 : Int32) + nI b = nI (14 + b) := nI_add 14 b
  rw [e1, e2, show ix (nI (14 + a)) = 14 + a from nI_clamp (by omega), show ix (nI (14 + b)) = 14 + b from nI_clamp (by omega), ha (14 + a) (by omega), ha (14 + b) (by omega)]
  refine ⟨vp_in_nI (by omega) (by omega), Lt_i fun y1 z1 => ⟨vp_in_nI (by omega) (by omega), Lt_i fun y2 z2 => Lt_i fun y3 z3 => ?_⟩⟩
  rw [z3, z2, z1]
  refine hq _ (Fr.st (P := fun q _ => q = 136) (Fr.st (P := fun q _ => q = 136) Fr.rf rfl) rfl) ?_
  exact ha.put.put
theorem div_7 : ∀ a, a < 7 → ∀ b, b < 7 → nI (7 * a + b) / 7 = nI a ∧ irm (nI (7 * a + b)) 7 = nI b := by decide +kernel
def SwR (x2 x3 : Int32) (y : Option (Nat × Nat) × Int32) : Prop := x2 = y.2 ∧ (y.1 = none → x3 = -1) ∧ ∀ a b, y.1 = some (a, b) → a < 7 ∧ b < 7 ∧ x3 = nI (7 * a + b)
def swV (y : Option (Nat × Nat) × Int32) (p : Int32) : Int32 := match y.1 with
  | none => -1
  | some x => if p = 0 then nI x.1 else if p = 1 then nI x.2 else y.2
theorem op_swap {B : Nat} (p : Int32) : OK B (MX11_swap p) (MX12_swap p) := OK.ask fun h w r c _ => by
  obtain ⟨hW, hP, hw, hrw, hr, hn⟩ := c
  have hn7 := hW.1
  refine ⟨fun x => x = if p < 0 ∨ 2 < p then -1 else swV (swO w r w.1) p, fun Q hq => ?_, fun h1 f1 x hx Q hq => ?_⟩
  · unfold MX11_swap
    refine br_c (fun c => hq _ h (by rw [if_pos (Or.inl c)]) Fr.rf) (fun c => br_c (fun c2 => hq _ h (by rw [if_pos (Or.inr c2)]) Fr.rf) (fun c2 => ?_))
    have hno : ¬ (p < 0 ∨ 2 < p) := by rintro (z | z); exact c z; exact c2 z
    refine cs_findSwap hW hw hr fun x h1 f1 i2 => ?_
    have hf : ∀ v, v = swV (swO w r w.1) p → Q v h1 := fun v e => hq v h1 (by rw [if_neg hno]; exact e) f1
    obtain ⟨a1, a2, a3, a4⟩ := i2
    unfold swV at hf
    cases hy : (swO w r w.1).1 with
    | none =>
      rw [hy] at hf
      rw [a3 hy]
      exact br_t rfl (hf _ rfl)
    | some y =>
      rw [hy] at hf
      obtain ⟨b1, b2, b3⟩ := a4 y.1 y.2 hy
      rw [b1, b2, b3, a1]
      refine br_f (by decide) (br_c (fun d => hf _ (by simp [d])) (fun d => br_c (fun d2 => hf _ (by simp [d2])) (fun d2 => hf _ (by simp [d, d2]))))
  · subst hx
    have hn1 := hn.sc f1
    have hw1 := hrw.sc hn7 f1
    unfold MX12_swap
    refine rs_isIn (fun a b => br_f (by decide) ?_) (fun a => br_t rfl ?_)
    · rw [if_neg (by rintro (z | z); exact a z; exact b z)] at hq
      refine rs_duskNow hW hw1 hn1 fun h2 f2 _ _ => ?_
      refine lo4c3 w.1 (by omega) (fun i a b h2 => Fr SR h1 h2 ∧ SwR a b (swO w r i)) ?_ ?_ 0 (Nat.zero_le _) _ _ _ ⟨f2, rfl, fun _ => rfl, fun a b hy => by simp [swO] at hy⟩
      · intro k i a b h2 hi hI hk
        obtain ⟨i1, i2⟩ := hI
        unfold FX12_swap_21
        rw [(hw1.sr hn7 i1).1]
        refine br_f (nI_ge hi (by omega)) ?_
        rw [nI_1]
        refine Lt_i fun y0 z0 => ?_
        rw [z0]
        refine lo4c3 w.1 (by omega) (fun j a b h2 => Fr SR h1 h2 ∧ i < j ∧ SwR a b (swI w r (swO w r i) i j)) ?_ ?_ (i + 1) (by omega) _ _ _ ⟨i1, by omega, by rw [swI_0 (by omega)]; exact i2⟩
        · intro k2 j a b h2 hj hI hk2
          obtain ⟨i1, hij, i2⟩ := hI
          unfold FX12_swap_36
          rw [(hw1.sr hn7 i1).1, show ix (nI i) = i from nI_clamp (by omega), show ix (nI j) = j from nI_clamp (by omega), (hn1.sr i1) i (by omega), (hn1.sr i1) j (by omega)]
          refine br_f (nI_ge hj (by omega)) ⟨vp_in_nI (by omega) (by omega), br_c (fun c1 => ⟨vp_in_nI (by omega) (by omega), br_c (fun c2 => ?_) (fun c2 => ?_)⟩) (fun c1 => ?_)⟩
          · refine rs_load (hn1.sr i1) fun h3 f3 a3 => ?_
            have g3 : Fr SR h1 h3 := i1.tr (f3.mono (fun q k p => by unfold SR; omega))
            refine rs_changeNumbers a3 (by omega) (by omega) fun h4 f4 a4 => ?_
            have g4 : Fr SR h1 h4 := g3.tr (f4.mono (fun q k p => by unfold SR; omega))
            refine rs_goOn hW (hw1.sr hn7 g4) a4 fun h5 f5 _ _ => ?_
            have g5 := g4.tr f5
            rw [i2.1]
            refine br_c (fun d => ?_) (fun d => ?_)
            · rw [nI_7m]
              refine Lt_i fun y1 z1 => Lt_eq (nI_1 _) (hk2 _ _ _ ⟨g5, by omega, ?_⟩)
              rw [swI, if_pos hij, swS, if_pos ⟨by simpa [isS] using c1, by simpa [isS] using c2, d⟩]
              refine ⟨rfl, fun hy => (Option.some_ne_none _ hy).elim, fun a b hy => ?_⟩
              simp only [Option.some.injEq, Prod.mk.injEq] at hy
              obtain ⟨rfl, rfl⟩ := hy
              exact ⟨by omega, by omega, z1⟩
            · refine Lt_eq (nI_1 _) (hk2 _ _ _ ⟨g5, by omega, ?_⟩)
              rw [swI, if_pos hij, swS, if_neg (fun z => d z.2.2)]
              exact ⟨rfl, i2.2⟩
          · refine Lt_eq (nI_1 _) (hk2 _ _ _ ⟨i1, by omega, ?_⟩)
            rw [swI, if_pos hij, swS, if_neg (fun z => c2 (by simpa [isS] using z.2.1))]
            exact i2
          · refine Lt_eq (nI_1 _) (hk2 _ _ _ ⟨i1, by omega, ?_⟩)
            rw [swI, if_pos hij, swS, if_neg (fun z => c1 (by simpa [isS] using z.1))]
            exact i2
        · intro k2 a b h2 hI
          obtain ⟨i1, hij, i2⟩ := hI
          unfold FX12_swap_36
          rw [(hw1.sr hn7 i1).1]
          exact br_t (nI_le (Nat.le_refl _) (by omega)) (Lt_eq (nI_1 _) (hk _ _ _ ⟨i1, i2⟩))
      · intro k a b h2 hI
        obtain ⟨i1, i2⟩ := hI
        unfold FX12_swap_21
        rw [(hw1.sr hn7 i1).1]
        refine br_t (nI_le (Nat.le_refl _) (by omega)) ?_
        have hf : ∀ v, v = swV (swO w r w.1) p → Q v h2 := fun v e => by rw [e]; exact hq h2 i1
        obtain ⟨a1, a2, a3⟩ := i2
        unfold swV at hf
        cases hy : (swO w r w.1).1 with
        | none =>
          rw [hy] at hf
          rw [a2 hy]
          exact br_f (by decide) (hf _ rfl)
        | some y =>
          rw [hy] at hf
          obtain ⟨b1, b2, b3⟩ := a3 y.1 y.2 hy
          obtain ⟨e1, e2⟩ := div_7 y.1 b1 y.2 b2
          rw [b3, e1, e2, a1]
          refine br_t (nI_le (a := 0) (by omega) (by omega)) (br_c (fun d => hf _ (by simp [d])) (fun d => br_c (fun d2 => hf _ (by simp [d2])) (fun d2 => hf _ (by simp [d, d2]))))
    · rw [if_pos a] at hq
      exact hq h1 Fr.rf
-- subsets of a mask
theorem sub_ok {x : Int32} {m : Nat} (hm : m < 128) : (x &&& (nI m ^^^ (-1)) = 0) ↔ ∃ k, k < 128 ∧ x = nI k ∧ k &&& m = k := by
  constructor
  · intro h
    have h1 : x &&& nI m = x := by
      apply Int32.toBitVec_inj.mp
      have h2 : (x &&& (nI m ^^^ (-1))).toBitVec = (0 : Int32).toBitVec := by rw [h]
      simp only [Int32.toBitVec_and, Int32.toBitVec_xor] at h2 ⊢
      apply BitVec.eq_of_getLsbD_eq
      intro i hi
      have h3 := congrArg (fun b => b.getLsbD i) h2
      have e1 : (-1 : Int32).toBitVec = BitVec.allOnes 32 := by decide
      have e0 : (0 : Int32).toBitVec = 0#32 := by decide
      simp only [BitVec.getLsbD_and, BitVec.getLsbD_xor, e1, e0, BitVec.getLsbD_allOnes, BitVec.getLsbD_zero, hi, decide_true] at h3 ⊢
      revert h3
      cases x.toBitVec.getLsbD i <;> cases (nI m).toBitVec.getLsbD i <;> simp
    have h2 : x = nI (x.toBitVec.toNat &&& m) := by
      rw [← h1]
      apply Int32.toBitVec_inj.mp
      apply BitVec.eq_of_toNat_eq
      have e : (nI m).toBitVec.toNat = m := by
        show (BitVec.ofNat 32 m).toNat = m
        rw [BitVec.toNat_ofNat]
        omega
      have hle : x.toBitVec.toNat &&& m ≤ m := Nat.and_le_right
      rw [h1]
      show x.toBitVec.toNat = (BitVec.ofNat 32 (x.toBitVec.toNat &&& m)).toNat
      rw [BitVec.toNat_ofNat, Nat.mod_eq_of_lt (by omega)]
      have := congrArg (fun y : Int32 => y.toBitVec.toNat) h1
      simp only [Int32.toBitVec_and, BitVec.toNat_and, e] at this
      exact this.symm
    have hle : x.toBitVec.toNat &&& m ≤ m := Nat.and_le_right
    refine ⟨x.toBitVec.toNat &&& m, by omega, h2, ?_⟩
    rw [Nat.and_assoc, Nat.and_self]
  · rintro ⟨k, hk, rfl, h⟩
    rw [ja_andn _ hm _ hk]
    have : k &&& (127 ^^^ m) = 0 := by
      apply Nat.eq_of_testBit_eq
      intro i
      have h1 := congrArg (fun y : Nat => y.testBit i) h
      rw [Nat.testBit_and, Nat.testBit_xor, Nat.zero_testBit]
      simp only [Nat.testBit_and] at h1
      by_cases hi : i < 7
      · have : Nat.testBit 127 i = true := by
          have : ∀ i, i < 7 → Nat.testBit 127 i = true := by decide
          exact this i hi
        rw [this]
        revert h1
        cases k.testBit i <;> cases m.testBit i <;> simp
      · have h2 : 2 ^ 7 ≤ 2 ^ i := Nat.pow_le_pow_right (by decide) (by omega)
        rw [Nat.testBit_lt_two_pow (x := k) (by omega)]
        rfl
    rw [this]
    rfl
