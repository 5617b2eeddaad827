-- ===== purchase, threat, bars, about, boast =====
abbrev tb (m k : Nat) : Bool := m.testBit k
abbrev ctb (m : Nat) : Nat := cnt (tb m) 7
theorem mk_tb {n m : Nat} (hm : m < 2 ^ n) : mk (tb m) n = m := by
  apply Nat.eq_of_testBit_eq
  intro k
  rw [mk_bit]
  by_cases hk : k < n
  · simp [hk]
  · simp [hk]
    exact Nat.testBit_lt_two_pow (Nat.lt_of_lt_of_le hm (Nat.pow_le_pow_right (by decide) (by omega)))
theorem rs_members {m : Nat} {h : ob_H} {Q : Int32 → Prop} (hm : m < 128) (hq : Q (nI (ctb m))) : MX12_members (nI m) h Q := by
  unfold MX12_members
  refine lo2c2 7 (by omega) (fun j a => a = nI (cnt (tb m) j)) ?_ ?_ 0 (Nat.zero_le _) _ rfl
  · intro k j a hj hI hk
    subst hI
    unfold FX12_members_4
    refine br_f (nI_ge (b := 7) hj (by decide)) ?_
    rw [ja_bit j hj m hm]
    refine Lt_i fun y z => Lt_eq (nI_1 _) (hk _ ?_)
    rw [z]
    show nI (cnt (tb m) j) + (if m.testBit j = true then 1 else 0) = nI (cnt (tb m) j + (if m.testBit j = true then 1 else 0))
    by_cases e : m.testBit j = true
    · rw [if_pos e, if_pos e, nI_1]
    · rw [if_neg e, if_neg e]; simp
  · intro k a hI
    subst hI
    unfold FX12_members_4
    exact br_t (nI_le (a := 7) (Nat.le_refl _) (by decide)) hq
theorem cs_bits {m : Nat} {h : ob_H} {Q : Int32 → Prop} (hm : m < 128) (hq : Q (nI (ctb m))) : MJ6_bitCount_0f7a4 (nI m) h Q := by
  have e : mk (tb m) 7 = m := mk_tb (n := 7) (by omega)
  rw [← e]
  exact cs_bitCount (Nat.le_refl _) hq
def prV (w : ob_W) (p : Nat → Bool) : Int32 := su (fun k => if p k = true then wv w 3 k else 0) w.1
theorem cs_priceOf {h : ob_H} {w : ob_W} {m : Nat} {Q : Int32 → Prop} (hn7 : w.1 ≤ 7) (hw : CW h w) (hm : m < 128) (hq : Q (prV w (tb m))) : MX0_priceOf (nI m) h Q := by
  unfold MX0_priceOf
  refine lo2c2 w.1 (by omega) (fun j a => a = su (fun k => if tb m k = true then wv w 3 k else 0) j) ?_ ?_ 0 (Nat.zero_le _) _ rfl
  · intro k j a hj hI hk
    subst hI
    unfold FX0_priceOf_4
    rw [hw.1, show ix (nI j) = j from nI_clamp (by omega), show (24 : Nat) = 21 + 3 from rfl, hw.2.1 3 (by omega) j hj]
    refine br_f (nI_ge hj (by omega)) (bit00 (α := True) (fun c => ?_) (fun c => ⟨vp_in_nI (by omega) (by omega), ?_⟩))
    · rw [bitI_nI hm (by omega)] at c
      refine Lt_i fun y z => Lt_eq (nI_1 _) (hk _ ?_)
      rw [z, su, if_neg (by unfold tb; rw [c]; decide)]
    · rw [bitI_nI hm (by omega)] at c
      refine Lt_i fun y z => Lt_eq (nI_1 _) (hk _ ?_)
      rw [z, su, if_pos c]
  · intro k a hI
    subst hI
    unfold FX0_priceOf_4
    rw [hw.1]
    exact br_t (nI_le (Nat.le_refl _) (by omega)) hq
theorem rs_priceOf {h : ob_H} {w : ob_W} {m : Nat} {Q : Int32 → Prop} (hn7 : w.1 ≤ 7) (hw : RW h w) (hm : m < 128) (hq : Q (prV w (tb m))) : MX12_priceOf (nI m) h Q := by
  unfold MX12_priceOf
  refine lo2c2 w.1 (by omega) (fun j a => a = su (fun k => if tb m k = true then wv w 3 k else 0) j) ?_ ?_ 0 (Nat.zero_le _) _ rfl
  · intro k j a hj hI hk
    subst hI
    unfold FX12_priceOf_4
    rw [hw.1, show ix (nI j) = j from nI_clamp (by omega), show (131 : Nat) = 128 + 3 from rfl, hw.2.1 3 (by omega) j hj]
    refine br_f (nI_ge hj (by omega)) (bit11 (fun c => ⟨vp_in_nI (by omega) (by omega), ?_⟩) (fun c => ?_))
    · rw [bitI_nI hm (by omega)] at c
      refine Lt_i fun y z => Lt_eq (nI_1 _) (hk _ ?_)
      rw [z, su, if_pos c]
    · rw [bitI_nI hm (by omega)] at c
      refine Lt_i fun y z => Lt_eq (nI_1 _) (hk _ ?_)
      rw [z, su, if_neg (by unfold tb; rw [c]; decide)]
  · intro k a hI
    subst hI
    unfold FX12_priceOf_4
    rw [hw.1]
    exact br_t (nI_le (Nat.le_refl _) (by omega)) hq
/-- the price as a number -/
def prN (w : ob_W) (p : Nat → Bool) : Nat → Nat
  | 0 => 0
  | k + 1 => prN w p k + (if p k = true then (wv w 3 k).toNatClampNeg else 0)
theorem pr_99 {w : ob_W} {o : Nat} (hW : WFW w) (ho : o < w.1) : (wv w 3 o).toNatClampNeg ≤ 99 ∧ wv w 3 o = nI (wv w 3 o).toNatClampNeg := by
  obtain ⟨_, _, _, h4, _⟩ := hW
  obtain ⟨_, _, _, _, _, h1, h2, _⟩ := h4 o ho
  have a1 := Int32.le_iff_toInt_le.mp h1
  have a2 := Int32.le_iff_toInt_le.mp h2
  rw [show (0 : Int32).toInt = 0 by decide] at a1
  rw [show (99 : Int32).toInt = 99 by decide] at a2
  have e : wv w 3 o = nI ((wv w 3 o).toInt.toNat) := by
    apply Int32.toInt_inj.mp
    rw [nI_toInt (by omega)]
    omega
  have e2 : (wv w 3 o).toNatClampNeg = (wv w 3 o).toInt.toNat := rfl
  rw [e2]
  exact ⟨by omega, e⟩
theorem prV_N {w : ob_W} {p : Nat → Bool} (hW : WFW w) : ∀ {j}, j ≤ w.1 → prN w p j ≤ 99 * j ∧ su (fun k => if p k = true then wv w 3 k else 0) j = nI (prN w p j)
  | 0, _ => ⟨by simp [prN], rfl⟩
  | j + 1, h => by
    obtain ⟨a, b⟩ := prV_N hW (p := p) (j := j) (by omega)
    obtain ⟨c, d⟩ := pr_99 hW (o := j) (by omega)
    rw [su, prN, b]
    by_cases e : p j = true
    · rw [if_pos e, if_pos e]
      refine ⟨by omega, ?_⟩
      rw [← nI_add, ← d]
    · rw [if_neg e, if_neg e]
      exact ⟨by omega, by simp⟩
theorem prN_le {w : ob_W} {p q : Nat → Bool} (h : ∀ k, p k = true → q k = true) : ∀ {j}, prN w p j ≤ prN w q j
  | 0 => Nat.le_refl _
  | j + 1 => by
    rw [prN, prN]
    have := prN_le (w := w) h (j := j)
    by_cases e : p j = true
    · rw [if_pos e, if_pos (h j e)]; omega
    · rw [if_neg e]; omega
def btr (w : ob_W) (a b : Nat) : Prop := prV w (tb a) < prV w (tb b) ∨ (prV w (tb a) = prV w (tb b) ∧ ctb a < ctb b)
theorem sub_lt {a W n : Nat} (h : a &&& W = a) (hW : W < 2 ^ n) : a < 2 ^ n := Nat.lt_of_le_of_lt (h ▸ Nat.and_le_right) hW
theorem sub_tb {a W k : Nat} (h : a &&& W = a) (hk : tb a k = true) : tb W k = true := by
  have := congrArg (fun x : Nat => x.testBit k) h
  simp only [Nat.testBit_and] at this
  unfold tb at hk ⊢
  rw [hk] at this
  simpa using this
theorem sub_le {a W : Nat} (h : a &&& W = a) : a ≤ W := h ▸ Nat.and_le_right
/-- a part of all is better than all -/
theorem btr_sub {w : ob_W} {a W : Nat} (hW : WFW w) (hs : a &&& W = a) (h7 : W < 2 ^ w.1) (hne : a ≠ W) : btr w a W := by
  have hn7 := hW.1
  obtain ⟨a1, a2⟩ := prV_N hW (p := tb a) (Nat.le_refl _)
  obtain ⟨b1, b2⟩ := prV_N hW (p := tb W) (Nat.le_refl _)
  have hle := prN_le (w := w) (p := tb a) (q := tb W) (fun k hk => sub_tb hs hk) (j := w.1)
  have hc := cnt_bits_lt (n := 7) (sub_lt hs (Nat.lt_of_lt_of_le h7 (pw7 hn7))) (Nat.lt_of_lt_of_le h7 (pw7 hn7)) (fun k hk => sub_tb hs hk) hne
  unfold btr prV
  rw [a2, b2]
  by_cases e : prN w (tb a) w.1 = prN w (tb W) w.1
  · refine Or.inr ⟨by rw [e], hc⟩
  · refine Or.inl ?_
    rw [nI_lt2 (by omega) (by omega)]
    omega
theorem btr_not {w : ob_W} {a W : Nat} (hW : WFW w) (hs : a &&& W = a) (h7 : W < 2 ^ w.1) (hne : a ≠ W) : ¬ btr w W a := by
  have hn7 := hW.1
  obtain ⟨a1, a2⟩ := prV_N hW (p := tb a) (Nat.le_refl _)
  obtain ⟨b1, b2⟩ := prV_N hW (p := tb W) (Nat.le_refl _)
  have hle := prN_le (w := w) (p := tb a) (q := tb W) (fun k hk => sub_tb hs hk) (j := w.1)
  have hc := cnt_bits_lt (n := 7) (sub_lt hs (Nat.lt_of_lt_of_le h7 (pw7 hn7))) (Nat.lt_of_lt_of_le h7 (pw7 hn7)) (fun k hk => sub_tb hs hk) hne
  unfold btr prV
  rw [a2, b2]
  rintro (h | ⟨_, h⟩)
  · rw [nI_lt2 (by omega) (by omega)] at h
    omega
  · have hc' : ctb a + 1 ≤ ctb W := hc
    omega
theorem mkS_lt {w : ob_W} {r : ob_P} {s : Int32} : mkS w r s < 2 ^ w.1 := mk_lt _ _
/-- the best part of those who wait, below m, that makes the dusk so early -/
def pbC (w : ob_W) (r : ob_P) (lim : Int32) (m : Nat) (x : Option Nat) : Bool := decide (m &&& mkS w r 0 = m) && (match x with
  | none => true
  | some b => decide (prV w (tb m) < prV w (tb b)) || (decide (prV w (tb m) = prV w (tb b)) && decide (ctb m < ctb b))) && decide (¬ lim < dsk w (mov w.1 (tb m) 5 r))
def pb (w : ob_W) (r : ob_P) (lim : Int32) : Nat → Option Nat
  | 0 => none
  | m + 1 => if pbC w r lim m (pb w r lim m) = true then some m else pb w r lim m
theorem pbC_iff {w : ob_W} {r : ob_P} {lim : Int32} {m : Nat} {x : Option Nat} : pbC w r lim m x = true ↔ (m &&& mkS w r 0 = m ∧ (∀ b, x = some b → btr w m b) ∧ ¬ lim < dsk w (mov w.1 (tb m) 5 r)) := by
  unfold pbC btr
  cases x with
  | none => simp
  | some b => simp [and_assoc]
theorem pb_t {w : ob_W} {r : ob_P} {lim : Int32} {m : Nat} (h : m &&& mkS w r 0 = m ∧ (∀ b, pb w r lim m = some b → btr w m b) ∧ ¬ lim < dsk w (mov w.1 (tb m) 5 r)) : pb w r lim (m + 1) = some m := by
  rw [pb, if_pos (pbC_iff.mpr h)]
theorem pb_f {w : ob_W} {r : ob_P} {lim : Int32} {m : Nat} (h : ¬ (m &&& mkS w r 0 = m ∧ (∀ b, pb w r lim m = some b → btr w m b) ∧ ¬ lim < dsk w (mov w.1 (tb m) 5 r))) : pb w r lim (m + 1) = pb w r lim m := by
  rw [pb, if_neg (fun z => h (pbC_iff.mp z))]
theorem pb_lt {w : ob_W} {r : ob_P} {lim : Int32} : ∀ {m b}, pb w r lim m = some b → b < m ∧ b &&& mkS w r 0 = b
  | 0, b, h => by cases h
  | m + 1, b, h => by
    rw [pb] at h
    split at h
    · rename_i hc
      cases h
      exact ⟨by omega, (pbC_iff.mp hc).1⟩
    · obtain ⟨h1, h2⟩ := pb_lt h
      exact ⟨by omega, h2⟩
theorem cs_without {h : ob_H} {w : ob_W} {r : ob_P} {m : Nat} {Q : Int32 → ob_H → Prop} (hW : WFW w) (hw : CW h w) (hr : CR h w.1 34 r) (hm : m &&& mkS w r 0 = m) (hq : ∀ h', Fr SC h h' → (∀ k, h'.1 92 k = h.1 92 k) → Q (dsk w (mov w.1 (tb m) 5 r)) h') : MX0_duskWithout (nI m) h Q := by
  have hn7 := hW.1
  have e : mk (tb m) w.1 = m := mk_tb (sub_lt hm mkS_lt)
  unfold MX0_duskWithout
  refine cs_copy hn7 hr (by omega) fun h2 f2 r2 => ?_
  have g2 : Fr SC h h2 := f2.mono fun q k p => by unfold SC; omega
  conv => arg 2; rw [← e]
  refine cs_move hn7 r2 (a := 0) (b := 5) (by omega) (by omega) (by omega) (fun k hk hb => ?_) fun h3 f3 r3 => ?_
  · have := sub_tb hm hb
    unfold tb at this
    rw [mk_bit] at this
    simp [hk, isS] at this
    exact this
  · have g3 : Fr SC h h3 := g2.tr (f3.mono fun q k p => by unfold SC; omega)
    exact cs_follow hW (hw.sc g3) r3 fun h4 f4 _ _ => hq h4 (g3.tr (f4.mono SC_CG)) fun k => by rw [f4.i (by unfold CG; omega), f3.i (by omega), f2.i (by omega)]
theorem cs_isCheaper {h : ob_H} {w : ob_W} {m b : Nat} {Q : Int32 → Prop} (hn7 : w.1 ≤ 7) (hw : CW h w) (hm : m < 128) (hb : b < 128) (e0 : h.1 92 0 = nI b) (e2 : h.1 92 2 = prV w (tb b)) (q1 : btr w m b → Q 1) (q0 : ¬ btr w m b → Q 0) : MX0_isCheaper (nI m) h Q := by
  unfold MX0_isCheaper
  refine cs_priceOf hn7 hw hm ?_
  rw [e0, e2]
  refine br_c (fun c => q1 (Or.inl c)) (fun c => br_c (fun c2 => cs_bits hm (cs_bits hb ?_)) (fun c2 => q0 ?_))
  · have l1 : ctb b ≤ 7 := cnt_le _ _
    have l2 : ctb m ≤ 7 := cnt_le _ _
    rw [nI_le2 (by omega) (by omega)]
    refine br_c (fun d => q0 ?_) (fun d => q1 (Or.inr ⟨c2, by omega⟩))
    rintro (z | ⟨_, z⟩)
    · exact c z
    · omega
  · rintro (z | ⟨z, _⟩)
    · exact c z
    · exact c2 z
theorem gd_some {o : Option Nat} {b d : Nat} (h : o = some b) : o.getD d = b := by rw [h]; rfl
theorem gd_none {o : Option Nat} {d : Nat} (h : o = none) : o.getD d = d := by rw [h]; rfl
theorem cs_findPurchase {h : ob_H} {w : ob_W} {r : ob_P} {lim : Int32} {Q : Int32 → ob_H → Prop} (hW : WFW w) (hw : CW h w) (hr : CR h w.1 34 r)
    (q0 : ¬ r 21 ≤ lim → Q 0 h) (q1 : r 21 ≤ lim → ∀ h', Fr SC h h' → h'.1 92 0 = nI ((pb w r lim (mkS w r 0)).getD (mkS w r 0)) → h'.1 92 2 = prV w (tb ((pb w r lim (mkS w r 0)).getD (mkS w r 0))) → Q 1 h') : MX0_findPurchase lim h Q := by
  have hn7 := hW.1
  have hl := mkS_lt (w := w) (r := r) (s := 0)
  have h27 := pw7 hn7
  unfold MX0_findPurchase
  have e35 : h.1 35 0 = nI (mkS w r 0) := hr.1 0 (by omega)
  rw [hr.2.2.2.1, e35]
  refine br_c (fun c => ?_) q0
  refine Lt_i fun y0 z0 => Lt_i fun y1 z1 => ?_
  subst z0
  have g1 : Fr SC h y1 := by rw [z1]; exact Fr.rf.st (by unfold SC; omega)
  refine cs_priceOf hn7 (hw.sc g1) (by omega) (Lt_i fun y2 z2 => ?_)
  have g2 : Fr SC h y2 := by rw [z2]; exact g1.st (by unfold SC; omega)
  refine lo2c1 (mkS w r 0) (by omega) (fun m h1 => Fr SC h h1 ∧ h1.1 92 0 = nI ((pb w r lim m).getD (mkS w r 0)) ∧ h1.1 92 2 = prV w (tb ((pb w r lim m).getD (mkS w r 0)))) ?_ ?_ 0 (Nat.zero_le _) _ ⟨g2, ?_, ?_⟩
  · intro k m h1 hm hI hk
    obtain ⟨i1, i2, i3⟩ := hI
    have hgd : (pb w r lim m).getD (mkS w r 0) < 128 := by
      cases hp : pb w r lim m with
      | none => rw [gd_none rfl]; omega
      | some b => rw [gd_some rfl]; have := (pb_lt hp).1; omega
    unfold FX0_findPurchase_39
    refine br_f (nI_ge hm (by omega)) (br_c (fun c1 => ?_) (fun c1 => Lt_eq (nI_1 _) (hk _ ?_)))
    · have hs : m &&& mkS w r 0 = m := by
        obtain ⟨k, hk, e, hh⟩ := (sub_ok (by omega)).mp c1
        have : m = k := (nI_eq (by omega) (by omega)).mp e
        subst this
        exact hh
      have hbt : btr w m ((pb w r lim m).getD (mkS w r 0)) ↔ ∀ b, pb w r lim m = some b → btr w m b := by
        cases hp : pb w r lim m with
        | none =>
          rw [gd_none rfl]
          exact ⟨fun _ b hb => (Option.some_ne_none _ hb.symm).elim, fun _ => btr_sub hW hs hl (by omega)⟩
        | some b =>
          rw [gd_some rfl]
          exact ⟨fun z b' hb => by cases hb; exact z, fun z => z b rfl⟩
      have keep : ¬ ((∀ b, pb w r lim m = some b → btr w m b) ∧ ¬ lim < dsk w (mov w.1 (tb m) 5 r)) → pb w r lim (m + 1) = pb w r lim m := fun z => by
        rw [pb_f (fun y => z y.2)]
      refine cs_isCheaper hn7 (hw.sc i1) (by omega) hgd i2 i3 (fun cb => br_f (by decide) ?_) (fun cb => br_t rfl (Lt_eq (nI_1 _) (hk _ ?_)))
      · refine cs_without hW (hw.sc i1) (hr.sc i1) hs fun h2 f2 e92 => ?_
        have g2 := i1.tr f2
        refine br_c (fun d => Lt_eq (nI_1 _) (hk _ ?_)) (fun d => ?_)
        · rw [keep (fun z => z.2 d), e92, e92]
          exact ⟨g2, i2, i3⟩
        · have ep : pb w r lim (m + 1) = some m := pb_t ⟨hs, hbt.mp cb, d⟩
          refine Lt_i fun y1 z1 => ?_
          have g3 : Fr SC h y1 := by rw [z1]; exact g2.st (by unfold SC; omega)
          refine cs_priceOf hn7 (hw.sc g3) (by omega) (Lt_i fun y2 z2 => Lt_eq (nI_1 _) (hk _ ?_))
          rw [ep, gd_some rfl]
          refine ⟨by rw [z2]; exact g3.st (by unfold SC; omega), ?_, ?_⟩
          · rw [z2, h_i_1, if_neg (by omega), z1, h_i_1, if_pos (by omega)]
          · rw [z2, h_i_1, if_pos (by omega)]
      · rw [keep (fun z => cb (hbt.mpr z.1))]
        exact ⟨i1, i2, i3⟩
    · rw [pb_f]
      · exact ⟨i1, i2, i3⟩
      · rintro ⟨hs, _⟩
        exact c1 ((sub_ok (by omega)).mpr ⟨m, by omega, rfl, hs⟩)
  · intro k h1 hI
    obtain ⟨i1, i2, i3⟩ := hI
    unfold FX0_findPurchase_39
    exact br_t (nI_le (Nat.le_refl _) (by omega)) (q1 c h1 i1 i2 i3)
  · rw [z2, h_i_1, if_neg (by omega), z1, h_i_1, if_pos (by omega)]
    rfl
  · rw [z2, h_i_1, if_pos (by omega)]
    rfl
theorem best_none {w : ob_W} {r : ob_P} {p : Nat → Bool} : ∀ {j}, (∀ k, k < j → p k = false) → best w r p j = none
  | 0, _ => rfl
  | j + 1, h => by rw [best_succ, best_none (fun k hk => h k (by omega)), h j (by omega)]; rfl
theorem dsk_all {w : ob_W} {r : ob_P} (hn7 : w.1 ≤ 7) : dsk w (mov w.1 (tb (mkS w r 0)) 5 r) = r 21 := by
  have : trn w (mov w.1 (tb (mkS w r 0)) 5 r) = none := by
    unfold trn
    apply best_none
    intro k hk
    unfold isS mov
    by_cases e : r k = 0
    · rw [if_pos ⟨hk, by unfold tb; rw [mk_bit]; simp [hk, isS, e]⟩]
      decide
    · by_cases c : k < w.1 ∧ tb (mkS w r 0) k = true
      · rw [if_pos c]; decide
      · rw [if_neg c]; simpa using e
  unfold dsk gn
  rw [gon_none this]
  exact mov_hi hn7 (by omega)
theorem pb_end {w : ob_W} {r : ob_P} {lim : Int32} (hW : WFW w) (h : r 21 ≤ lim) : pb w r lim (mkS w r 0 + 1) = some ((pb w r lim (mkS w r 0)).getD (mkS w r 0)) := by
  cases hp : pb w r lim (mkS w r 0) with
  | none =>
    rw [gd_none rfl, pb_t]
    refine ⟨Nat.and_self _, fun b hb => (Option.some_ne_none b (hb.symm.trans hp)).elim, ?_⟩
    rw [dsk_all hW.1]
    exact Int32.not_lt.mpr h
  | some b =>
    obtain ⟨h1, h2⟩ := pb_lt hp
    rw [gd_some rfl, pb_f, hp]
    rintro ⟨_, z, _⟩
    exact btr_not hW h2 mkS_lt (by omega) (z b hp)
theorem pb_no {w : ob_W} {r : ob_P} {lim : Int32} (hW : WFW w) {M : Nat} (hM : r 21 = nI M) (hM2 : M ≤ 1000000) (h : ¬ r 21 ≤ lim) : ∀ m, pb w r lim m = none
  | 0 => rfl
  | m + 1 => by
    rw [pb_f, pb_no hW hM hM2 h m]
    rintro ⟨_, _, z⟩
    obtain ⟨m', a, b, c⟩ := dsk_min (r := mov w.1 (tb m) 5 r) (m := M) hW (by rw [mov_hi hW.1 (by omega)]; exact hM)
    rw [c, Int32.not_lt] at z
    apply h
    rw [hM]
    exact Int32.le_trans (nI_le a (by omega)) z
def purV (w : ob_W) (r : ob_P) (lim q : Int32) : Int32 := match pb w r lim (mkS w r 0 + 1) with
  | none => -1
  | some b => if q = 0 then prV w (tb b) else nI b
theorem op_purchase {B : Nat} (hB : B ≤ 100000) (p q : Int32) : OK B (MX11_purchase p q) (MX12_purchase p q) := OK.ask fun h w r c _ => by
  obtain ⟨hW, hP, hw, hrw, hr, hn⟩ := c
  have hn7 := hW.1
  have hl := mkS_lt (w := w) (r := r) (s := 0)
  have h27 := pw7 hn7
  obtain ⟨M, hM1, hM2⟩ := hP.2.1
  refine ⟨fun x => x = if p < 0 ∨ 9999 < p ∨ ¬ (q = 0 ∨ q = 1) then -1 else purV w r p q, fun Q hq => ?_, fun h1 f1 x hx Q hq => ?_⟩
  · unfold MX11_purchase
    have k0 : (p < 0 ∨ 9999 < p ∨ ¬ (q = 0 ∨ q = 1)) → KX11_purchase_25 p q 0 h Q := fun c => by
      unfold KX11_purchase_25
      exact br_t rfl (hq _ h (by rw [if_pos c]) Fr.rf)
    have k1 : ¬ (p < 0 ∨ 9999 < p ∨ ¬ (q = 0 ∨ q = 1)) → KX11_purchase_25 p q 1 h Q := fun c => by
      unfold KX11_purchase_25
      refine br_f (by decide) (cs_findPurchase hW hw hr (fun d => br_t rfl (hq _ h ?_ Fr.rf)) (fun d h2 f2 e1 e2 => ?_))
      · rw [if_neg c, purV, pb_no hW hM2 (by omega) d]
      · have hf : ∀ v, v = purV w r p q → Q v h2 := fun v e => hq v h2 (by rw [if_neg c]; exact e) f2
        unfold purV at hf
        rw [pb_end hW d] at hf
        rw [e1, e2]
        refine br_f (by decide) (br_c (fun d2 => hf _ (by simp [d2])) (fun d2 => hf _ (by simp [d2])))
    refine br_c (fun c => k0 (Or.inl c)) (fun c => br_c (fun c2 => k0 (Or.inr (Or.inl c2))) (fun c2 => br_c (fun c3 => k1 ?_) (fun c3 => br_c (fun c4 => k1 ?_) (fun c4 => k0 (Or.inr (Or.inr ?_))))))
    · rintro (z | z | z)
      · exact c z
      · exact c2 z
      · exact z (Or.inl c3)
    · rintro (z | z | z)
      · exact c z
      · exact c2 z
      · exact z (Or.inr c4)
    · rintro (z | z)
      · exact c3 z
      · exact c4 z
  · subst hx
    have hn1 := hn.sc f1
    have hw1 := hrw.sc hn7 f1
    unfold MX12_purchase
    refine rs_isIn (fun a b => br_f (by decide) ?_) (fun a => br_t rfl ?_)
    · refine rs_isIn (fun a2 b2 => br_f (by decide) ?_) (fun a2 => br_t rfl ?_)
      · have hq01 : q = 0 ∨ q = 1 := by
          rw [Int32.lt_iff_toInt_lt] at a2 b2
          rw [show (0 : Int32).toInt = 0 by decide] at a2
          rw [show (1 : Int32).toInt = 1 by decide] at b2
          rcases (by omega : q.toInt = 0 ∨ q.toInt = 1) with e | e
          · exact Or.inl (Int32.toInt_inj.mp (by rw [e]; decide))
          · exact Or.inr (Int32.toInt_inj.mp (by rw [e]; decide))
        rw [if_neg (by rintro (z | z | z); exact a z; exact b z; exact z hq01)] at hq
        refine rs_waitingNow hW hw1 hn1 fun h2 f2 => ?_
        refine lo3c2 (mkS w r 0 + 1) (by omega) (fun m x h3 => Fr SR h1 h3 ∧ (pb w r p m = none → x = -1) ∧ ∀ b, pb w r p m = some b → x = nI b) ?_ ?_ 0 (Nat.zero_le _) _ _ ⟨f2, fun _ => rfl, fun b hb => by cases hb⟩
        · intro k m x h3 hm hI hk
          obtain ⟨i1, i2, i3⟩ := hI
          have skip : pb w r p (m + 1) = pb w r p m → ∀ h4, Fr SR h1 h4 → k x (nI (m + 1)) h4 := fun e h4 g4 => hk _ _ ⟨g4, by rw [e]; exact i2, by rw [e]; exact i3⟩
          unfold FX12_purchase_33
          refine br_f (nI_nlt (by omega) (by omega)) (br_c (fun c1 => ?_) (fun c1 => Lt_eq (nI_1 _) (skip ?_ _ i1)))
          · have hs : m &&& mkS w r 0 = m := by
              obtain ⟨k, hk, e, hh⟩ := (sub_ok (by omega)).mp c1
              have : m = k := (nI_eq (by omega) (by omega)).mp e
              subst this
              exact hh
            have k0 : ¬ (∀ b, pb w r p m = some b → btr w m b) → KX12_purchase_104 p q (nI (mkS w r 0)) x (nI m) 0 h3 Q k := fun c => by
              unfold KX12_purchase_104
              exact br_t rfl (Lt_eq (nI_1 _) (skip (pb_f (fun y => c y.2.1)) _ i1))
            have k1 : (∀ b, pb w r p m = some b → btr w m b) → KX12_purchase_104 p q (nI (mkS w r 0)) x (nI m) 1 h3 Q k := fun c => by
              unfold KX12_purchase_104
              refine br_f (by decide) ?_
              have e : mk (tb m) w.1 = m := mk_tb (sub_lt hs mkS_lt)
              conv => arg 1; rw [← e]
              refine rs_duskWithout hW (hw1.sr hn7 i1) (hn1.sr i1) fun h4 f4 => ?_
              have g4 := i1.tr f4
              refine br_c (fun d => Lt_eq (nI_1 _) (skip (pb_f (fun y => y.2.2 d)) _ g4)) (fun d => ?_)
              have ep : pb w r p (m + 1) = some m := pb_t ⟨hs, c, d⟩
              refine Lt_eq (nI_1 _) (hk _ _ ⟨g4, fun hy => (Option.some_ne_none _ (ep.symm.trans hy)).elim, fun b hb => ?_⟩)
              have := Option.some.inj (ep.symm.trans hb)
              rw [this]
            cases hp : pb w r p m with
            | none =>
              rw [i2 hp] at k1 ⊢
              exact br_t (by decide) (k1 fun b hb => (Option.some_ne_none b (hb.symm.trans hp)).elim)
            | some b =>
              have hbl := (pb_lt hp).1
              have l1 : ctb b ≤ 7 := cnt_le _ _
              have l2 : ctb m ≤ 7 := cnt_le _ _
              rw [i3 b hp] at k1 k0 ⊢
              have hall : btr w m b → ∀ b', pb w r p m = some b' → btr w m b' := fun z b' hb => by
                have := Option.some.inj (hp.symm.trans hb)
                rw [← this]
                exact z
              have hw3 := hw1.sr hn7 i1
              refine br_f (nI_pos (by omega)) (rs_priceOf hn7 hw3 (by omega) (rs_priceOf hn7 hw3 (by omega) (br_c (fun d => k1 (hall (Or.inl d))) (fun d => rs_priceOf hn7 hw3 (by omega) (rs_priceOf hn7 hw3 (by omega) (br_c (fun d2 => rs_members (by omega) (rs_members (by omega) ?_)) (fun d2 => k0 fun z => ?_)))))))
              · rw [nI_le2 (by omega) (by omega)]
                refine br_c (fun d3 => k0 fun z => ?_) (fun d3 => k1 (hall (Or.inr ⟨d2, by omega⟩)))
                rcases z b hp with z | ⟨_, z⟩
                · exact d z
                · omega
              · rcases z b hp with z | ⟨z, _⟩
                · exact d z
                · exact d2 z
          · rw [pb_f]
            rintro ⟨hs, _⟩
            exact c1 ((sub_ok (by omega)).mpr ⟨m, by omega, rfl, hs⟩)
        · intro k x h3 hI
          obtain ⟨i1, i2, i3⟩ := hI
          have hw3 := hw1.sr hn7 i1
          unfold FX12_purchase_33
          refine br_t (nI_lt (by omega) (by omega)) ?_
          have hf : ∀ v, v = purV w r p q → Q v h3 := fun v e => by rw [e]; exact hq h3 i1
          unfold purV at hf
          cases hp : pb w r p (mkS w r 0 + 1) with
          | none =>
            rw [hp] at hf
            rw [i2 hp]
            exact br_f (by decide) (hf _ rfl)
          | some b =>
            rw [hp] at hf
            have := (pb_lt hp).1
            rw [i3 b hp]
            refine br_t (nI_pos' (by omega)) (br_c (fun d => rs_priceOf hn7 hw3 (by omega) (hf _ ?_)) (fun d => hf _ ?_))
            · simp [d]
            · simp [d]
      · rw [if_pos] at hq
        · exact hq h1 Fr.rf
        · refine Or.inr (Or.inr ?_)
          rintro (z | z)
          · subst z; rcases a2 with z | z <;> exact absurd z (by decide)
          · subst z; rcases a2 with z | z <;> exact absurd z (by decide)
    · rw [if_pos (by rcases a with z | z; exact Or.inl z; exact Or.inr (Or.inl z))] at hq
      exact hq h1 Fr.rf
