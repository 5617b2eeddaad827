-- ===== ask =====
def lfC (f : Nat → Bool) (v : Nat → Option Nat) (x : Option Nat) (n : Nat) : Nat := cnt (fun g => f g && decide (v g = x)) n
def mxU (F : Nat → Nat) : Nat → Nat
  | 0 => 0
  | j + 1 => max (mxU F j) (F j)
def mxL (m : Nat) (f : Nat → Bool) (v : Nat → Option Nat) (n : Nat) : Nat := max (lfC f v none n) (mxU (fun o => lfC f v (some o) n) m)
theorem mxU_cg {F G : Nat → Nat} : ∀ {j}, (∀ k, k < j → F k = G k) → mxU F j = mxU G j
  | 0, _ => rfl
  | j + 1, h => by unfold mxU; rw [mxU_cg (fun k hk => h k (by omega)), h j (by omega)]
theorem mxU_one {F G : Nat → Nat} {o : Nat} (h2 : F o ≤ G o) : ∀ {j}, o < j → (∀ k, k < j → k ≠ o → F k = G k) → mxU G j = max (mxU F j) (G o)
  | 0, h, _ => absurd h (Nat.not_lt_zero _)
  | j + 1, h, hk => by
    unfold mxU
    by_cases e : o = j
    · subst e
      rw [mxU_cg (F := F) (G := G) fun k h => hk k (by omega) (by omega)]
      omega
    · rw [mxU_one h2 (j := j) (by omega) (fun k h => hk k (by omega)), hk j (by omega) (fun z => e z.symm)]
      omega
theorem mxU_le {F : Nat → Nat} {b : Nat} (h : ∀ k, F k ≤ b) : ∀ j, mxU F j ≤ b
  | 0 => Nat.zero_le _
  | j + 1 => by unfold mxU; have := mxU_le h j; have := h j; omega
theorem lfC_le {f : Nat → Bool} {v : Nat → Option Nat} {x : Option Nat} {n : Nat} : lfC f v x n ≤ n := cnt_le _ _
theorem lfC_s {f : Nat → Bool} {v : Nat → Option Nat} {x : Option Nat} {n : Nat} : lfC f v x (n + 1) = lfC f v x n + (if f n = true ∧ v n = x then 1 else 0) := by
  unfold lfC
  rw [cnt]
  congr 1
  by_cases h : f n = true ∧ v n = x
  · rw [if_pos h, if_pos (by rw [h.1, h.2]; simp)]
  · rw [if_neg h, if_neg (by simpa using h)]
theorem mxL_no {m : Nat} {f : Nat → Bool} {v : Nat → Option Nat} {n : Nat} (h : f n = false) : mxL m f v (n + 1) = mxL m f v n := by
  have e : ∀ x, lfC f v x (n + 1) = lfC f v x n := fun x => by rw [lfC_s, if_neg (by rw [h]; simp)]; rfl
  unfold mxL
  rw [e none, mxU_cg fun k _ => e (some k)]
theorem mxL_yes {m : Nat} {f : Nat → Bool} {v : Nat → Option Nat} {n : Nat} (h : f n = true) (hv : ∀ o, v n = some o → o < m) : mxL m f v (n + 1) = max (mxL m f v n) (lfC f v (v n) (n + 1)) := by
  have e : ∀ x, x ≠ v n → lfC f v x (n + 1) = lfC f v x n := fun x hx => by rw [lfC_s, if_neg (fun z => hx z.2.symm)]; rfl
  have e1 : lfC f v (v n) n ≤ lfC f v (v n) (n + 1) := by rw [lfC_s]; omega
  unfold mxL
  cases hz : v n with
  | none =>
    rw [hz] at e e1
    rw [mxU_cg fun k _ => e (some k) (by simp)]
    omega
  | some o =>
    rw [hz] at e e1
    rw [e none (by simp), mxU_one (F := fun o => lfC f v (some o) n) (G := fun o => lfC f v (some o) (n + 1)) (o := o) e1 (hv o hz) (fun k _ hk => (e (some k) (fun z => hk (by simpa using z))).symm)]
    omega
theorem imx_nI {a b : Nat} (ha : a < 2 ^ 31) (hb : b < 2 ^ 31) : imx (nI a) (nI b) = nI (max a b) := by
  unfold imx
  by_cases h : a < b
  · rw [if_pos ((nI_ltI ha hb).mpr h), Nat.max_eq_right (by omega)]
  · rw [if_neg (fun z => h ((nI_ltI ha hb).mp z)), Nat.max_eq_left (by omega)]
def oix (x : Option Nat) : Nat := match x with
  | some o => o
  | none => 7
theorem hdI_7 (x : Option Nat) : hdI x 7 = nI (oix x) := by cases x <;> rfl
theorem cs_mostLeft {h : ob_H} {m p : Nat} {f : Nat → Bool} {v : Nat → Option Nat} {Q : Int32 → ob_H → Prop} (hm : m ≤ 7) (hp : p < 7) (hf : ∀ g, g < 100 → h.1 105 g = tru (f g)) (hd : ∀ g, g < 100 → h.1 104 (g * 7 + p) = hdI (v g) 7) (hv : ∀ g o, v g = some o → o < m)
    (hq : ∀ h', Fr (fun q k => q = 106) h h' → Q (nI (mxL m f v 100)) h') : MX9_mostLeft (nI p) h Q := by
  unfold MX9_mostLeft
  refine lo2c1 8 (by omega) (fun j h1 => Fr (fun q k => q = 106) h h1 ∧ ∀ i, i < j → h1.1 106 i = 0) ?_ ?_ 0 (Nat.zero_le _) _ ⟨Fr.rf, fun i hi => absurd hi (Nat.not_lt_zero _)⟩
  · intro k1 j h1 hj hI hk
    obtain ⟨i1, i2⟩ := hI
    unfold FX9_mostLeft_2
    rw [show ix (nI j) = j from nI_clamp (by omega)]
    refine br_f (nI_ge (b := 8) hj (by decide)) ⟨vp_in_nI (by omega) (by omega), Lt_i fun y z => Lt_eq (nI_1 _) (hk _ ⟨?_, fun i hi => ?_⟩)⟩
    · rw [z]; exact Fr.st (P := fun q k => q = 106) i1 rfl
    · rw [z, h_i_1]
      by_cases e : i = j
      · rw [if_pos ⟨rfl, e⟩]
      · rw [if_neg (by omega)]; exact i2 i (by omega)
  · intro k1 h1 hI
    obtain ⟨i1, i2⟩ := hI
    unfold FX9_mostLeft_2
    refine br_t (nI_le (a := 8) (Nat.le_refl _) (by decide)) ?_
    refine lo3c2 100 (by omega) (fun j x h2 => Fr (fun q k => q = 106) h h2 ∧ x = nI (mxL m f v j) ∧ ∀ x, (∀ o, x = some o → o < 7) → h2.1 106 (oix x) = nI (lfC f v x j)) ?_ ?_ 0 (Nat.zero_le _) _ _ ⟨i1, ?_, fun x hx => ?_⟩
    · intro k2 j x h2 hj hI hk
      obtain ⟨j1, rfl, j3⟩ := hI
      unfold FX9_mostLeft_28
      rw [show ix (nI j) = j from nI_clamp (by omega), j1.i (q := 105) (by omega), hf j hj]
      refine br_f (nI_ge (b := 100) hj (by decide)) ⟨vp_in_nI (by omega) (by omega), ?_⟩
      cases hz : f j with
      | false =>
        refine br_t rfl (Lt_eq (nI_1 _) (hk _ _ ⟨j1, by rw [mxL_no hz], fun x hx => ?_⟩))
        rw [j3 x hx, lfC_s, if_neg (by rw [hz]; simp)]
        rfl
      | true =>
        have ho : oix (v j) < 8 := by
          cases hx : v j with
          | none => decide
          | some o => have := hv j o hx; show o < 8; omega
        have hx7 : ∀ o, v j = some o → o < 7 := fun o e => by have := hv j o e; omega
        rw [nI_7, show ix (nI (j * 7 + p)) = j * 7 + p from nI_clamp (by omega), j1.i (q := 104) (by omega), hd j hj, hdI_7]
        refine br_f (by decide) ⟨vp_in_nI (by omega) (by omega), Lt_i fun u zu => ?_⟩
        subst zu
        rw [show ix (nI (oix (v j))) = oix (v j) from nI_clamp (by omega), j3 (v j) hx7, show nI (lfC f v (v j) j) + 1 = nI (lfC f v (v j) (j + 1)) by rw [lfC_s, if_pos ⟨hz, rfl⟩]; exact nI_add _ 1]
        refine ⟨vp_in_nI (by omega) (by omega), Lt_i fun y z => Lt_i fun u2 zu2 => Lt_eq (nI_1 _) (hk _ _ ⟨?_, ?_, fun x hx => ?_⟩)⟩
        · rw [z]; exact Fr.st (P := fun q k => q = 106) j1 rfl
        · have l1 : lfC f v (v j) (j + 1) ≤ 101 := Nat.le_trans lfC_le (by omega)
          have l2 : mxL m f v j ≤ 101 := by
            unfold mxL
            have a1 := lfC_le (f := f) (v := v) (x := none) (n := j)
            have a2 := mxU_le (F := fun o => lfC f v (some o) j) (b := j) (fun k => lfC_le) m
            omega
          rw [zu2, z, h_i_1, if_pos ⟨rfl, rfl⟩, imx_nI (by omega) (by omega), mxL_yes hz (hv j)]
        · rw [z, h_i_1]
          by_cases e : x = v j
          · rw [e, if_pos ⟨rfl, rfl⟩]
          · have : oix x ≠ oix (v j) := fun z => e (by
              cases hx2 : x with
              | none =>
                cases hv2 : v j with
                | none => rfl
                | some o => rw [hx2, hv2] at z; have := hx7 o hv2; exact absurd z.symm (by show ¬ o = 7; omega)
              | some a =>
                cases hv2 : v j with
                | none => rw [hx2, hv2] at z; have := hx a hx2; exact absurd z (by show ¬ a = 7; omega)
                | some o => rw [hx2, hv2] at z; exact congrArg some z)
            rw [if_neg (fun z => this z.2), j3 x hx, lfC_s, if_neg (fun z => e z.2.symm)]
            rfl
    · intro k2 x h2 hI
      obtain ⟨j1, rfl, j3⟩ := hI
      unfold FX9_mostLeft_28
      exact br_t (nI_le (a := 100) (Nat.le_refl _) (by decide)) (hq h2 j1)
    · have : mxL m f v 0 = 0 := by
        unfold mxL
        have a2 := mxU_le (F := fun o => lfC f v (some o) 0) (b := 0) (fun k => lfC_le) m
        have a1 := lfC_le (f := f) (v := v) (x := none) (n := 0)
        omega
      rw [this]; rfl
    · have : oix x < 8 := by
        cases hx2 : x with
        | none => decide
        | some o => have := hx o hx2; show o < 8; omega
      rw [i2 _ this]; rfl
/-- the first of the least -/
def bpl (F : Nat → Nat) : Nat → Nat
  | 0 => 0
  | j + 1 => if j = 0 then 0 else if F j < F (bpl F j) then j else bpl F j
theorem bpl_lt {F : Nat → Nat} : ∀ {j}, 0 < j → bpl F j < j
  | 0, h => absurd h (Nat.lt_irrefl _)
  | j + 1, _ => by
    unfold bpl
    by_cases e : j = 0
    · rw [if_pos e]; omega
    · rw [if_neg e]
      split
      · omega
      · have := bpl_lt (F := F) (j := j) (by omega); omega
theorem cs_findPlace {h : ob_H} {m : Nat} {f : Nat → Bool} {v : Nat → Nat → Option Nat} {Q : ob_H → Prop} (hm : m ≤ 7) (hf : ∀ g, g < 100 → h.1 105 g = tru (f g)) (hd : ∀ g, g < 100 → ∀ p, p < 7 → h.1 104 (g * 7 + p) = hdI (v p g) 7) (hv : ∀ p g o, v p g = some o → o < m)
    (hq : ∀ h', Fr (fun q k => q = 106 ∨ (q = 98 ∧ (k = 2 ∨ k = 3))) h h' → h'.1 98 2 = nI (bpl (fun p => mxL m f (v p) 100) 7) → h'.1 98 3 = nI (mxL m f (v (bpl (fun p => mxL m f (v p) 100) 7)) 100) → Q h') : MX9_findPlace h Q := by
  have hle : ∀ p, mxL m f (v p) 100 ≤ 100 := fun p => by
    unfold mxL
    have a1 := lfC_le (f := f) (v := v p) (x := none) (n := 100)
    have a2 := mxU_le (F := fun o => lfC f (v p) (some o) 100) (b := 100) (fun k => lfC_le) m
    omega
  unfold MX9_findPlace
  refine lo2c1 7 (by omega) (fun j h1 => Fr (fun q k => q = 106 ∨ (q = 98 ∧ (k = 2 ∨ k = 3))) h h1 ∧ (0 < j → h1.1 98 2 = nI (bpl (fun p => mxL m f (v p) 100) j) ∧ h1.1 98 3 = nI (mxL m f (v (bpl (fun p => mxL m f (v p) 100) j)) 100))) ?_ ?_ 0 (Nat.zero_le _) _ ⟨Fr.rf, fun z => absurd z (Nat.lt_irrefl _)⟩
  · intro k1 j h1 hj hI hk
    obtain ⟨i1, i2⟩ := hI
    unfold FX9_findPlace_2
    refine br_f (nI_ge (b := 7) hj (by decide)) (cs_mostLeft (f := f) (v := v j) hm hj (fun g hg => by rw [i1.i (by omega)]; exact hf g hg) (fun g hg => by rw [i1.i (by omega)]; exact hd g hg j hj) (hv j) fun h2 f2 => ?_)
    have g2 : Fr (fun q k => q = 106 ∨ (q = 98 ∧ (k = 2 ∨ k = 3))) h h2 := i1.tr (f2.mono fun q k p => Or.inl p)
    have put : bpl (fun p => mxL m f (v p) 100) (j + 1) = j → Lt (h_i h2 98 2 (nI j)) fun h22 => Lt (h_i h22 98 3 (nI (mxL m f (v j) 100))) fun h24 => Lt (nI j + 1 : Int32) fun v26 => k1 v26 h24 := by
      intro e
      refine Lt_i fun y1 z1 => Lt_i fun y2 z2 => Lt_eq (nI_1 _) (hk _ ⟨?_, fun _ => ⟨?_, ?_⟩⟩)
      · rw [z2, z1]; exact (g2.st (by omega)).st (by omega)
      · rw [z2, h_i_1, if_neg (by omega), z1, h_i_1, if_pos ⟨rfl, rfl⟩, e]
      · rw [z2, h_i_1, if_pos ⟨rfl, rfl⟩, e]
    refine br_c (fun c => put ?_) (fun c => ?_)
    · have : j = 0 := (nI_eq (b := 0) (by omega) (by omega)).mp c
      subst this
      rfl
    · have hj0 : j ≠ 0 := fun e => c (by rw [e]; rfl)
      obtain ⟨d1, d2⟩ := i2 (by omega)
      have e3 : h2.1 98 3 = nI (mxL m f (v (bpl (fun p => mxL m f (v p) 100) j)) 100) := by rw [f2.i (by omega)]; exact d2
      have e2 : h2.1 98 2 = nI (bpl (fun p => mxL m f (v p) 100) j) := by rw [f2.i (by omega)]; exact d1
      have l1 := hle j
      have l2 := hle (bpl (fun p => mxL m f (v p) 100) j)
      rw [e3]
      refine br_c (fun cz => Lt_eq (nI_1 _) (hk _ ⟨g2, fun _ => ?_⟩)) (fun cz => put ?_)
      · have hz := (nI_leI (by omega) (by omega)).mp cz
        have e : bpl (fun p => mxL m f (v p) 100) (j + 1) = bpl (fun p => mxL m f (v p) 100) j := by
          rw [bpl, if_neg hj0, if_neg (Nat.not_lt.mpr hz)]
        rw [e]
        exact ⟨e2, e3⟩
      · rw [bpl, if_neg hj0, if_pos]
        apply Nat.lt_of_not_le
        intro z
        exact cz ((nI_leI (by omega) (by omega)).mpr z)
  · intro k1 h1 hI
    unfold FX9_findPlace_2
    exact br_t (nI_le (a := 7) (Nat.le_refl _) (by decide)) (hq h1 hI.1 (hI.2 (by omega)).1 (hI.2 (by omega)).2)
def xoJ (j : Nat) : Option Nat := if j = 0 then none else some (j - 1)
theorem xoJ_eq {x : Option Nat} {j : Nat} (hx : ∀ o, x = some o → o < 7) (hj : j < 8) : hdI x (-1) = nI j - 1 ↔ x = xoJ j := by
  unfold xoJ
  by_cases e : j = 0
  · subst e
    rw [if_pos rfl, show nI 0 - 1 = (-1 : Int32) by decide]
    cases x with
    | none => exact ⟨fun _ => rfl, fun _ => rfl⟩
    | some o =>
      have := hx o rfl
      refine ⟨fun z => ?_, fun z => by cases z⟩
      have z : nI o = (-1 : Int32) := z
      have : decide ((-1 : Int32) < 0) = decide (nI o < 0) := by rw [z]
      rw [decide_eq_false (nI_pos (n := o) (by omega))] at this
      exact absurd this (by decide)
  · rw [if_neg e, show nI j - 1 = nI (j - 1) from nI_sub (b := 1) (by omega)]
    exact hd_eq hx (by omega) (Or.inl rfl)
theorem rs_leftBy {h : ob_H} {m p : Nat} {f : Nat → Bool} {v : Nat → Option Nat} {Q : Int32 → Prop} (hm : m ≤ 7) (hp : p < 7) (h48 : h.1 108 48 = nI m) (hf : ∀ g, g < 100 → h.1 149 g = tru (f g)) (hd : ∀ g, g < 100 → h.1 148 (7 * g + p) = hdI (v g) (-1)) (hv : ∀ g o, v g = some o → o < m)
    (hq : Q (nI (mxL m f v 100))) : MX12_leftBy (nI p) h Q := by
  unfold MX12_leftBy
  have hmx : ∀ j, mxU (fun i => lfC f v (xoJ i) 100) (j + 1) = max (lfC f v none 100) (mxU (fun o => lfC f v (some o) 100) j) := by
    intro j
    induction j with
    | zero => simp [mxU, xoJ]
    | succ j ih =>
      rw [mxU, ih, mxU]
      have : xoJ (j + 1) = some j := by unfold xoJ; rw [if_neg (by omega)]; rfl
      rw [this]
      omega
  refine lo2_i (fun x y => ∃ j, j ≤ m + 1 ∧ y = nI j - 1 ∧ x = nI (mxU (fun i => lfC f v (xoJ i) 100) j)) (fun _ y => m + 1 - (y + 1).toNatClampNeg) ?_ ⟨0, Nat.zero_le _, by decide, rfl⟩
  intro k1 x y hI hk
  obtain ⟨j, hj, rfl, rfl⟩ := hI
  unfold FX12_leftBy_4
  rw [h48]
  by_cases e : j = m + 1
  · subst e
    rw [hmx] at *
    refine br_t ?_ hq
    rw [nI_pred]
    exact nI_le (Nat.le_refl _) (by omega)
  · have hle : mxU (fun i => lfC f v (xoJ i) 100) j ≤ 100 := mxU_le (fun k => lfC_le) j
    refine br_f ?_ ?_
    · rw [Int32.le_iff_toInt_le, nI_toInt (by omega)]
      cases j with
      | zero => rw [show (nI 0 - 1 : Int32).toInt = -1 by decide]; omega
      | succ j => rw [nI_pred, nI_toInt (by omega)]; omega
    · refine lo2c2 100 (by omega) (fun i x => x = nI (lfC f v (xoJ j) i)) ?_ ?_ 0 (Nat.zero_le _) _ rfl
      · intro k2 i x hi hI hk2
        subst hI
        have st : ∀ s : Int32, (s = if f i = true ∧ v i = xoJ j then 1 else 0) → KX12_leftBy_58 (nI p) (nI (mxU (fun i => lfC f v (xoJ i) 100) j)) (nI j - 1) (nI i) s (nI (lfC f v (xoJ j) i)) h Q k1 k2 := by
          intro s hs
          unfold KX12_leftBy_58
          refine rs_truth (Lt_i fun u zu => Lt_eq (nI_1 _) (hk2 _ ?_))
          rw [zu, lfC_s, hs]
          by_cases c : f i = true ∧ v i = xoJ j
          · rw [if_pos c, if_pos c]; exact nI_add _ 1
          · rw [if_neg c, if_neg c]; simp
        unfold FX12_leftBy_18
        rw [show ix (nI i) = i from nI_clamp (by omega), hf i hi, nI_7m, show ix (nI (7 * i + p)) = 7 * i + p from nI_clamp (by omega), hd i hi]
        refine br_f (by rw [show (99 : Int32) = nI 99 from rfl, nI_lt2 (by omega) (by omega)]; omega) ⟨vp_in_nI (by omega) (by omega), ?_⟩
        cases hz : f i with
        | false => exact br_t rfl (st 0 (by rw [if_neg (by rw [hz]; simp)]))
        | true =>
          have hx := xoJ_eq (x := v i) (j := j) (fun o ho => by have := hv i o ho; omega) (by omega)
          exact br_f (by decide) ⟨vp_in_nI (by omega) (by omega), br_c (fun c => st 1 (by rw [if_pos ⟨hz, hx.mp c⟩])) (fun c => st 0 (by rw [if_neg (fun z => c (hx.mpr z.2))]))⟩
      · intro k2 x hI
        subst hI
        have l1 : lfC f v (xoJ j) 100 ≤ 100 := lfC_le
        unfold FX12_leftBy_18
        have hms : (nI j - 1 + 1 : Int32) = nI j := Int32.sub_add_cancel ..
        have done : ∀ x, x = nI (mxU (fun i => lfC f v (xoJ i) 100) (j + 1)) → Lt (nI j - 1 + 1 : Int32) fun v => k1 x v := by
          intro x hx
          refine Lt_i fun u zu => hk x u ⟨j + 1, by omega, by rw [zu, hms, nI_pred], hx⟩ ?_
          rw [zu, hms, nI_1, nI_clamp (by omega), nI_clamp (by omega)]
          omega
        refine br_t (by decide) (br_c (fun c => done _ ?_) (fun c => done _ ?_))
        · rw [mxU, Nat.max_eq_left ((nI_leI (by omega) (by omega)).mp c)]
        · rw [mxU, Nat.max_eq_right]
          apply Nat.le_of_lt
          apply Nat.lt_of_not_le
          intro z
          exact c ((nI_leI (by omega) (by omega)).mpr z)
theorem op_ask {B : Nat} (p q : Int32) : OK B (MX11_ask p q) (MX12_ask p q) := by
  intro h hr
  obtain ⟨w, r, c, d⟩ := hr
  have idle := Rel.idle c d
  have hW := c.1
  have hn7 := hW.1
  have no : (p < 0 ∨ (1 : Int32) < p) → MX12_ask p q h (fun r2 h2 => (-1 : Int32) = r2 ∧ Rel (B + 60) h2) := by
    intro z
    unfold MX12_ask
    exact rs_isIn (fun a b => absurd z (by rintro (y | y); exact a y; exact b y)) (fun _ => br_t rfl ⟨rfl, idle⟩)
  unfold MX11_ask
  refine br_c (fun c => no (Or.inl c)) (fun c0 => br_c (fun c => no (Or.inr c)) (fun c1 => ?_))
  refine cs_mark hW c.2.2.1 d.2.2.2.2.2.2.1 d.2.2.2.2.2.2.2.1 (fun e => br_t rfl ?_) (fun h0 h1 f1 e21 e12 fc => ?_)
  · show MX12_ask p q h _
    unfold MX12_ask
    exact rs_isIn (fun a b => br_f (by decide) (rs_layFits hW c.2.2.2.1 d.2.2.2.2.2.2.1 SgE.rf (fun _ => br_t rfl ⟨rfl, idle⟩) (fun z => absurd e (by omega)))) (fun _ => br_t rfl ⟨rfl, idle⟩)
  · have hle := cnt_le (fitS h w q) 100
    refine br_c (fun cz => ?_) (fun cz => ?_)
    · have e0 : cnt (fitS h w q) 100 = 0 := (nI_eq (b := 0) (by omega) (by omega)).mp cz
      have f1' : Fr (AkC w.1) h h1 := f1.mono fun q k p => Or.inl p
      show MX12_ask p q h1 _
      unfold MX12_ask
      exact rs_isIn (fun a b => br_f (by decide) (rs_layFits hW (c.2.2.2.1.ak hn7 f1') d.2.2.2.2.2.2.1 (SgE.ak f1') (fun z => absurd z (by omega)) (fun _ h2 f2 e128 fr => br_t cz ⟨rfl, Rel.fit c d h0 f1' e21 e12 fc.1 f2 e128⟩))) (fun z => absurd z (by rintro (y | y); exact c0 y; exact c1 y))
    · have hvm : ∀ p g o, hdA w (nI g) p = some o → o < w.1 := fun p g o hz => hdA_lt hz
      refine cs_findPlace (m := w.1) (f := fitS h w q) (v := fun p g => hdA w (nI g) p) hn7 fc.2 (fun g hg p hp => fc.1 g hg p hp) hvm fun h2 f2 e2 e3 => ?_
      generalize hb : bpl (fun p => mxL w.1 (fitS h w q) (fun g => hdA w (nI g) p) 100) 7 = b at *
      have hb7 : b < 7 := by rw [← hb]; exact bpl_lt (by omega)
      have f2' : Fr (AkC w.1) h h2 := (f1.mono fun q k p => Or.inl p).tr (f2.mono fun q k p => by rcases p with p | p; exact Or.inr (Or.inr p); exact Or.inr (Or.inl p))
      have e21' : h2.1 21 (w.1 - 1) = h.1 21 (w.1 - 1) := by rw [f2.i (by omega)]; exact e21
      have e12' : h2.1 98 12 = 1 := by rw [f2.i (by omega)]; exact e12
      have hd2 : Hrd1 h2 w := fun g hg p hp => by rw [f2.i (by omega)]; exact fc.1 g hg p hp
      have hlm : ∀ p, mxL w.1 (fitS h w q) (fun g => hdA w (nI g) p) 100 ≤ 100 := fun p => by
        unfold mxL
        have a1 := lfC_le (f := fitS h w q) (v := fun g => hdA w (nI g) p) (x := none) (n := 100)
        have a2 := mxU_le (F := fun o => lfC (fitS h w q) (fun g => hdA w (nI g) p) (some o) 100) (b := 100) (fun k => lfC_le) w.1
        omega
      have ref : ∀ Q : Int32 → ob_H → Prop, (∀ h3, Rel (B + 60) h3 → (p = 0 → Q (nI (b + 1)) h3) ∧ (p ≠ 0 → Q (nI (mxL w.1 (fitS h w q) (fun g => hdA w (nI g) b) 100)) h3)) → MX12_ask p q h2 Q := by
        intro Q hQ
        unfold MX12_ask
        refine rs_isIn (fun _ _ => br_f (by decide) (rs_layFits hW (c.2.2.2.1.ak hn7 f2') d.2.2.2.2.2.2.1 (SgE.ak f2') (fun z => absurd z (by omega)) (fun _ h3 f3 e128 fr => br_f cz ?_))) (fun z => absurd z (by rintro (y | y); exact c0 y; exact c1 y))
        have rel := Rel.fit c d h0 f2' e21' e12' hd2 f3 e128
        have h48 : h3.1 108 48 = nI w.1 := by rw [f3.i (by unfold LkW SR; omega)]; exact (c.2.2.2.1.ak hn7 f2').1
        have lb : ∀ j, j < 7 → ∀ Q : Int32 → Prop, Q (nI (mxL w.1 (fitS h w q) (fun g => hdA w (nI g) j) 100)) → MX12_leftBy (nI j) h3 Q := fun j hj Q hq => rs_leftBy hn7 hj h48 fr.2 (fun g hg => fr.1 g hg j hj) (fun g o hz => hdA_lt hz) hq
        refine lo2c2 7 (by omega) (fun j x => 0 < j ∧ x = nI (bpl (fun p => mxL w.1 (fitS h w q) (fun g => hdA w (nI g) p) 100) j)) ?_ ?_ 1 (by omega) _ ⟨by omega, rfl⟩
        · intro k1 j x hj hI hk
          obtain ⟨hj0, rfl⟩ := hI
          have hbl := bpl_lt (F := fun p => mxL w.1 (fitS h w q) (fun g => hdA w (nI g) p) 100) hj0
          have l1 := hlm j
          have l2 := hlm (bpl (fun p => mxL w.1 (fitS h w q) (fun g => hdA w (nI g) p) 100) j)
          unfold FX12_ask_24
          refine br_f (nI_ge (b := 7) hj (by decide)) (lb j hj _ (lb _ (by omega) _ (br_c (fun cc => Lt_eq (nI_1 _) (hk _ ⟨by omega, ?_⟩)) (fun cc => Lt_eq (nI_1 _) (hk _ ⟨by omega, ?_⟩)))))
          · have hz := (nI_leI (by omega) (by omega)).mp cc
            rw [bpl, if_neg (by omega), if_neg (Nat.not_lt.mpr hz)]
          · rw [bpl, if_neg (by omega), if_pos]
            apply Nat.lt_of_not_le
            intro z
            exact cc ((nI_leI (by omega) (by omega)).mpr z)
        · intro k1 x hI
          obtain ⟨_, rfl⟩ := hI
          rw [hb]
          unfold FX12_ask_24
          refine br_t (nI_le (a := 7) (Nat.le_refl _) (by decide)) (br_c (fun cc => ?_) (fun cc => lb b hb7 _ ((hQ h3 rel).2 cc)))
          rw [nI_1]
          exact (hQ h3 rel).1 cc
      rw [e2, e3, nI_1]
      exact br_c (fun cc => ref _ fun h3 rel => ⟨fun _ => ⟨rfl, rel⟩, fun z => absurd cc z⟩) (fun cc => ref _ fun h3 rel => ⟨fun z => absurd z cc, fun _ => ⟨rfl, rel⟩⟩)
