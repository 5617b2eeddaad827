-- ===== the class's tokens: a step =====
theorem WdsR.fr {h h' : ob_H} {P : Nat → Nat → Prop} (a : WdsR h) (f : Fr P h h') (hP : ∀ k, ¬ P 3 k) : WdsR h' := fun i hi => by rw [f.l (hP i)]; exact a i hi
theorem wix_rng (l : List Nat) : wix l = 2 ∨ (100 ≤ wix l ∧ wix l < 120) := by
  unfold wix
  by_cases h : l ∈ wdsL
  · rw [if_pos h]
    right
    have := List.idxOf_lt_length_of_mem h
    have h20 : wdsL.length = 20 := rfl
    omega
  · rw [if_neg h]; exact Or.inl rfl
theorem run_len {T : tx_T} {q : Nat} {f : Nat → Bool} (hq : q ≤ T.1) : q + run f T q ≤ T.1 := (run_ok (d := T.1 - q) rfl hq).1
theorem run_in {T : tx_T} {q i : Nat} {f : Nat → Bool} (hq : q ≤ T.1) (hi : i < run f T q) : f (T.2 (q + i)) = true := (run_ok (d := T.1 - q) rfl hq).2.1 i hi
theorem run_out {T : tx_T} {q : Nat} {f : Nat → Bool} (hq : q ≤ T.1) (h : q + run f T q < T.1) : f (T.2 (q + run f T q)) = false := (run_ok (d := T.1 - q) rfl hq).2.2 h
theorem wrd_lt {T : tx_T} {q : Nat} (hq : q ≤ T.1) : ∀ {m}, m ≤ run isLt T q → LtL (wrd T q m) := by
  intro m hm c hc
  unfold wrd at hc
  rw [List.mem_map] at hc
  obtain ⟨i, hi, rfl⟩ := hc
  have := run_in (f := isLt) hq (i := i) (by have := List.mem_range.mp hi; omega)
  unfold isLt at this
  exact of_decide_eq_true this
def WrC (q k : Nat) : Prop := q = 1 ∧ (k = 2 ∨ k = 5 ∨ k = 6)
theorem cs_readWord {h : ob_H} {T : tx_T} {q : Nat} {Q : ob_H → Prop} (hT : TT h T) (hwd : WdsR h) (hqn : q ≤ T.1) (hat : h.1 1 6 = nI q)
    (hq : ∀ h', Fr WrC h h' → h'.1 1 2 = nI (if 8 < run isLt T q then 1 else wix (wrd T q (run isLt T q))) → h'.2.1 1 5 = Int64.ofNat (cd5 (wrd T q (run isLt T q))) → h'.1 1 6 = nI (q + run isLt T q) → Q h') : MX10_readWord h Q := by
  have hn := hT.1
  have hm := run_len (f := isLt) hqn
  unfold MX10_readWord
  refine lo3c2 (run isLt T q) (by omega) (fun j x h1 => x = Int64.ofNat (cd5 (wrd T q j)) ∧ Fr (fun q k => q = 1 ∧ k = 6) h h1 ∧ h1.1 1 6 = nI (q + j)) ?_ ?_ 0 (Nat.zero_le _) _ _ ⟨rfl, Fr.rf, hat⟩
  · intro k j x h1 hj hI hk
    obtain ⟨rfl, i2, i3⟩ := hI
    have e1 : h1.1 1 1 = nI T.1 := by rw [i2.i (by omega)]; exact hT.2.1
    obtain ⟨b1, b2⟩ := hT.2.2 (q + j) (by omega)
    have e2 : h1.1 2 (q + j) = sb (T.2 (q + j)) := by rw [i2.i (by omega)]; exact b2
    have hl := run_in (f := isLt) hqn hj
    unfold FX10_readWord_4
    rw [e1, i3, show ix (nI (q + j)) = q + j from nI_clamp (by omega), e2]
    refine br_f (nI_ge (by omega) (by omega)) ⟨vp_in_nI (by omega) (by omega), cs_isLetter b1 ?_⟩
    rw [hl]
    refine br_f (by decide) ?_
    unfold MX10_withLetter
    rw [letter64 b1 hl, ← cd5_s, ← wrd_s]
    refine Lt_eq (nI_1 _) (Lt_i fun y z => hk _ _ ⟨rfl, ?_, ?_⟩)
    · rw [z]; exact i2.st ⟨rfl, rfl⟩
    · rw [z, h_i_1, if_pos ⟨rfl, rfl⟩]
      exact nI_1 _
  · intro k x h1 hI
    obtain ⟨rfl, i2, i3⟩ := hI
    have e1 : h1.1 1 1 = nI T.1 := by rw [i2.i (by omega)]; exact hT.2.1
    have fin : KX10_readWord_60 (Int64.ofNat (cd5 (wrd T q (run isLt T q)))) (nI (run isLt T q)) h1 Q := by
      unfold KX10_readWord_60
      refine Lt_i fun y z => ?_
      have ey : y.2.1 1 5 = Int64.ofNat (cd5 (wrd T q (run isLt T q))) := by rw [z, h_l_2, if_pos ⟨rfl, rfl⟩]
      have e6 : y.1 1 6 = nI (q + run isLt T q) := by rw [z, h_l_1]; exact i3
      have fy : Fr WrC h y := by rw [z]; exact (i2.mono fun q k p => by unfold WrC; omega).sl (by unfold WrC; omega)
      refine br_c (fun c => Lt_i fun y2 z2 => ?_) (fun c => Lt_i fun y2 z2 => ?_)
      · have h8 : 8 < run isLt T q := (nI_ltI (a := 8) (by omega) (by omega)).mp c
        rw [if_pos h8] at hq
        refine lo2c1 20 (by omega) (fun j h3 => h3 = y2) ?_ ?_ 0 (Nat.zero_le _) _ rfl
        · intro k3 j h3 hj e _
          subst e
          unfold FX10_readWord_83
          refine br_f (nI_ge (b := 20) hj (by decide)) (br_f ?_ (hq h3 ?_ ?_ ?_ ?_))
          · rw [z2, h_i_1, if_pos ⟨rfl, rfl⟩]; decide
          · rw [z2]; exact fy.st (by unfold WrC; omega)
          · rw [z2, h_i_1, if_pos ⟨rfl, rfl⟩]; rfl
          · rw [z2]; exact ey
          · rw [z2, h_i_1, if_neg (by omega)]; exact e6
        · intro k3 h3 e
          subst e
          unfold FX10_readWord_83
          refine br_t (nI_le (a := 20) (Nat.le_refl _) (by decide)) (hq h3 ?_ ?_ ?_ ?_)
          · rw [z2]; exact fy.st (by unfold WrC; omega)
          · rw [z2, h_i_1, if_pos ⟨rfl, rfl⟩]; rfl
          · rw [z2]; exact ey
          · rw [z2, h_i_1, if_neg (by omega)]; exact e6
      · have h8 : ¬ 8 < run isLt T q := fun z => c ((nI_ltI (a := 8) (by omega) (by omega)).mpr z)
        rw [if_neg h8] at hq
        have f2 : Fr WrC h y2 := by rw [z2]; exact fy.st (by unfold WrC; omega)
        refine cs_words (hwd.fr f2 fun k => by unfold WrC; omega) (wrd_lt hqn (Nat.le_refl _)) (by rw [wrd_len]; omega) (by rw [z2, h_i_1, if_pos ⟨rfl, rfl⟩]) fun h4 f4 e4 => hq h4 (f2.tr (f4.mono fun q k p => by unfold WrC; omega)) e4 ?_ ?_
        · rw [f4.l (by omega), z2]; exact ey
        · rw [f4.i (by omega), z2, h_i_1, if_neg (by omega)]; exact e6
    unfold FX10_readWord_4
    rw [e1, i3, show ix (nI (q + run isLt T q)) = q + run isLt T q from nI_clamp (by omega)]
    refine br_c (fun _ => fin) (fun c => ?_)
    have hlt : q + run isLt T q < T.1 := by
      apply Classical.byContradiction
      intro z
      exact c (nI_le (by omega) (by omega))
    obtain ⟨b1, b2⟩ := hT.2.2 _ hlt
    have e2 : h1.1 2 (q + run isLt T q) = sb (T.2 (q + run isLt T q)) := by rw [i2.i (by omega)]; exact b2
    refine ⟨vp_in_nI (by omega) (by omega), ?_⟩
    rw [e2]
    refine cs_isLetter b1 ?_
    rw [run_out hqn hlt]
    exact br_t rfl fin
def NuC (q k : Nat) : Prop := q = 1 ∧ (k = 2 ∨ k = 4 ∨ k = 6)
theorem digit32 {a v : Nat} (hv : v < 256) (hd : isDg v = true) : ((nI a * 10) + sb v) - 48 = nI (a * 10 + (v - 48)) := by
  have key : ∀ v, v < 256 → isDg v = true → sb v = nI v ∧ 48 ≤ v := by decide +kernel
  obtain ⟨e, h48⟩ := key v hv hd
  rw [e, show (10 : Int32) = nI 10 from rfl, nI_mul, nI_add, show (48 : Int32) = nI 48 from rfl, nI_sub (by omega)]
  congr 1
  omega
theorem cs_readNumber {h : ob_H} {T : tx_T} {q : Nat} {Q : ob_H → Prop} (hT : TT h T) (hqn : q ≤ T.1) (hat : h.1 1 6 = nI q)
    (hq : ∀ h', Fr NuC h h' → h'.1 1 2 = nI (if 4 < run isDg T q ∨ (q + run isDg T q < T.1 ∧ isLt (T.2 (q + run isDg T q)) = true) then 1 else 3) → h'.1 1 4 = nI (vl T q (run isDg T q)) → h'.1 1 6 = nI (q + run isDg T q) → Q h') : MX10_readNumber h Q := by
  have hn := hT.1
  have hm := run_len (f := isDg) hqn
  unfold MX10_readNumber
  refine Lt_i fun y0 z0 => ?_
  refine lo2c1 (run isDg T q) (by omega) (fun j h1 => Fr (fun q k => q = 1 ∧ (k = 4 ∨ k = 6)) h h1 ∧ h1.1 1 4 = nI (vl T q j) ∧ h1.1 1 6 = nI (q + j)) ?_ ?_ 0 (Nat.zero_le _) _ ⟨?_, ?_, ?_⟩
  · intro k j h1 hj hI hk
    obtain ⟨i2, i3, i4⟩ := hI
    have e1 : h1.1 1 1 = nI T.1 := by rw [i2.i (by omega)]; exact hT.2.1
    obtain ⟨b1, b2⟩ := hT.2.2 (q + j) (by omega)
    have e2 : h1.1 2 (q + j) = sb (T.2 (q + j)) := by rw [i2.i (by omega)]; exact b2
    have hl := run_in (f := isDg) hqn hj
    unfold FX10_readNumber_7
    rw [e1, i4, show ix (nI (q + j)) = q + j from nI_clamp (by omega), e2, i3]
    refine br_f (nI_ge (by omega) (by omega)) ⟨vp_in_nI (by omega) (by omega), cs_isDigit b1 ?_⟩
    rw [hl, digit32 b1 hl]
    refine br_f (by decide) (Lt_i fun y z => Lt_eq (nI_1 _) (Lt_i fun y2 z2 => hk _ ⟨?_, ?_, ?_⟩))
    · rw [z2, z]; exact (i2.st (by omega)).st (by omega)
    · rw [z2, h_i_1, if_neg (by omega), z, h_i_1, if_pos ⟨rfl, rfl⟩]
      rfl
    · rw [z2, h_i_1, if_pos ⟨rfl, rfl⟩, z, h_i_1, if_neg (by omega), i4]
      exact nI_1 _
  · intro k h1 hI
    obtain ⟨i2, i3, i4⟩ := hI
    have e1 : h1.1 1 1 = nI T.1 := by rw [i2.i (by omega)]; exact hT.2.1
    have put : ∀ v : Nat, (v = if 4 < run isDg T q ∨ (q + run isDg T q < T.1 ∧ isLt (T.2 (q + run isDg T q)) = true) then 1 else 3) → ∀ y, y = h_i h1 1 2 (nI v) → Q y := by
      intro v hv y z
      refine hq y ?_ ?_ ?_ ?_
      · rw [z]; exact (i2.mono fun q k p => by unfold NuC; omega).st (by unfold NuC; omega)
      · rw [z, h_i_1, if_pos ⟨rfl, rfl⟩, hv]
      · rw [z, h_i_1, if_neg (by omega)]; exact i3
      · rw [z, h_i_1, if_neg (by omega)]; exact i4
    have fin : ∀ b : Bool, (b = true ↔ (q + run isDg T q < T.1 ∧ isLt (T.2 (q + run isDg T q)) = true)) → KX10_readNumber_104 (nI (run isDg T q)) (tru b) h1 Q := by
      intro b hb
      unfold KX10_readNumber_104
      refine br_c (fun c => Lt_i fun y z => put 1 ?_ y z) (fun c => ?_)
      · rw [if_pos (Or.inl ((nI_ltI (a := 4) (by omega) (by omega)).mp c))]
      · have h4 : ¬ 4 < run isDg T q := fun z => c ((nI_ltI (a := 4) (by omega) (by omega)).mpr z)
        cases b with
        | false =>
          refine br_t rfl (Lt_i fun y z => put 3 ?_ y z)
          rw [if_neg]
          rintro (x | x)
          · exact h4 x
          · exact absurd (hb.mpr x) (by decide)
        | true =>
          refine br_f (by decide) (Lt_i fun y z => put 1 ?_ y z)
          rw [if_pos (Or.inr (hb.mp rfl))]
    unfold FX10_readNumber_7
    rw [e1, i4, show ix (nI (q + run isDg T q)) = q + run isDg T q from nI_clamp (by omega)]
    have k73 : KX10_readNumber_73 (nI (run isDg T q)) h1 Q := by
      unfold KX10_readNumber_73
      rw [e1, i4, show ix (nI (q + run isDg T q)) = q + run isDg T q from nI_clamp (by omega)]
      refine br_c (fun c => fin false ?_) (fun c => ?_)
      · have := (nI_leI (by omega) (by omega)).mp c
        constructor
        · intro z; exact absurd z (by decide)
        · intro z; omega
      · have hlt : q + run isDg T q < T.1 := by
          apply Classical.byContradiction
          intro z
          exact c (nI_le (by omega) (by omega))
        obtain ⟨b1, b2⟩ := hT.2.2 _ hlt
        have e2 : h1.1 2 (q + run isDg T q) = sb (T.2 (q + run isDg T q)) := by rw [i2.i (by omega)]; exact b2
        refine ⟨vp_in_nI (by omega) (by omega), ?_⟩
        rw [e2]
        refine cs_isLetter b1 ?_
        cases hz : isLt (T.2 (q + run isDg T q)) with
        | true => exact br_f (by decide) (fin true ⟨fun _ => ⟨hlt, hz⟩, fun _ => rfl⟩)
        | false => exact br_t rfl (fin false ⟨fun z => absurd z (by decide), fun z => by rw [hz] at z; exact absurd z.2 (by decide)⟩)
    refine br_c (fun _ => k73) (fun c => ?_)
    have hlt : q + run isDg T q < T.1 := by
      apply Classical.byContradiction
      intro z
      exact c (nI_le (by omega) (by omega))
    obtain ⟨b1, b2⟩ := hT.2.2 _ hlt
    have e2 : h1.1 2 (q + run isDg T q) = sb (T.2 (q + run isDg T q)) := by rw [i2.i (by omega)]; exact b2
    refine ⟨vp_in_nI (by omega) (by omega), ?_⟩
    rw [e2]
    refine cs_isDigit b1 ?_
    rw [run_out hqn hlt]
    exact br_t rfl k73
  · rw [z0]; exact Fr.rf.st (by omega)
  · rw [z0, h_i_1, if_pos ⟨rfl, rfl⟩]; rfl
  · rw [z0, h_i_1, if_neg (by omega)]; exact hat
theorem cs_step {h : ob_H} {T : tx_T} {p : Nat} {Q : ob_H → Prop} (hT : TT h T) (hwd : WdsR h) (hp : p ≤ T.1) (hat : h.1 1 6 = nI p) (hq : ∀ h', Fr TkC h h' → CT h' (tk T p) → Q h') : MX10_step h Q := by
  have hn := hT.1
  have hm := run_len (f := isBl) hp
  unfold MX10_step
  have at52 : ∀ h1, Fr (fun q k => q = 1 ∧ k = 6) h h1 → h1.1 1 6 = nI (p + run isBl T p) → KX10_step_52 h1 Q := by
    intro h1 f1 e6
    unfold tk at hq
    generalize p + run isBl T p = q at *
    have hT1 : TT h1 T := hT.fr fun q k z => f1.i (by omega)
    unfold KX10_step_52
    rw [e6]
    refine Lt_i fun y z => ?_
    have y6 : y.1 1 6 = nI q := by rw [z, h_i_1, if_neg (by omega)]; exact e6
    have y3 : y.1 1 3 = nI q := by rw [z, h_i_1, if_pos ⟨rfl, rfl⟩]
    have fy : Fr TkC h y := by rw [z]; exact (f1.mono fun q k p => by unfold TkC; omega).st (by unfold TkC; omega)
    have hTy : TT y T := hT.fr fun q k z => fy.i (by unfold TkC; omega)
    have hwy : WdsR y := hwd.fr fy fun k => by unfold TkC; omega
    rw [y6, hTy.2.1]
    refine br_c (fun c => ?_) (fun c => ?_)
    · have hlt : q < T.1 := (nI_ltI (by omega) (by omega)).mp c
      obtain ⟨b1, b2⟩ := hTy.2.2 q hlt
      rw [show ix (nI q) = q from nI_clamp (by omega), b2]
      refine ⟨vp_in_nI (by omega) (by omega), Lt_i fun v zv => ?_⟩
      subst zv
      refine cs_isLetter b1 ?_
      have ge : ¬ T.1 ≤ q := by omega
      cases hl : isLt (T.2 q) with
      | true =>
        have et : tkq T q = (if 8 < run isLt T q then 1 else wix (wrd T q (run isLt T q)), q, 0, wrd T q (run isLt T q), q + run isLt T q) := by
          unfold tkq; rw [if_neg ge, if_pos hl]
        rw [et] at hq
        refine br_f (by decide) (cs_readWord hTy hwy (by omega) y6 fun h2 f2 d2 d5 d6 => hq h2 (fy.tr (f2.mono fun q k p => by unfold WrC at p; unfold TkC; omega)) ⟨d2, by rw [f2.i (by unfold WrC; omega)]; exact y3, fun z => ?_, fun _ => d5, fun _ => d6⟩)
        exfalso
        simp only at z
        by_cases h8 : 8 < run isLt T q
        · rw [if_pos h8] at z; omega
        · rw [if_neg h8] at z; have := wix_rng (wrd T q (run isLt T q)); omega
      | false =>
        refine br_t rfl (cs_isDigit b1 ?_)
        have nl : ¬ isLt (T.2 q) = true := by rw [hl]; decide
        cases hd : isDg (T.2 q) with
        | true =>
          have et : tkq T q = (if 4 < run isDg T q ∨ (q + run isDg T q < T.1 ∧ isLt (T.2 (q + run isDg T q)) = true) then 1 else 3, q, vl T q (run isDg T q), [], q + run isDg T q) := by
            unfold tkq; rw [if_neg ge, if_neg nl, if_pos hd]
          rw [et] at hq
          refine br_f (by decide) (cs_readNumber hTy (by omega) y6 fun h2 f2 d2 d4 d6 => hq h2 (fy.tr (f2.mono fun q k p => by unfold NuC at p; unfold TkC; omega)) ⟨d2, by rw [f2.i (by unfold NuC; omega)]; exact y3, fun _ => d4, fun z => ?_, fun _ => d6⟩)
          exfalso
          simp only at z
          split at z <;> omega
        | false =>
          have nd : ¬ isDg (T.2 q) = true := by rw [hd]; decide
          have et : tkq T q = (if isSg (T.2 q) = true then T.2 q else 1, q, 0, [], q + 1) := by
            unfold tkq; rw [if_neg ge, if_neg nl, if_neg nd]
          rw [et] at hq
          refine br_t rfl (cs_isSign b1 ?_)
          have key : ∀ v, v < 256 → isSg v = true → sb v = nI v ∧ 37 ≤ v := by decide +kernel
          have put : ∀ (s : Nat) (sI : Int32), sI = nI s → (if isSg (T.2 q) = true then T.2 q else 1) = s → s ≠ 3 → s ≠ 2 → Lt (h_i y 1 2 sI) fun h38 => Lt (h_i h38 1 6 ((h38.1 1 6) + (1))) fun h40 => Q h40 := by
            intro s sI es ek n3 n2
            subst es
            rw [ek] at hq
            refine Lt_i fun x1 v1 => Lt_i fun x2 v2 => hq x2 ?_ ⟨?_, ?_, fun z => absurd z n3, fun z => absurd z n2, fun _ => ?_⟩
            · rw [v2, v1]; exact (fy.st (by unfold TkC; omega)).st (by unfold TkC; omega)
            · rw [v2, h_i_1, if_neg (by omega), v1, h_i_1, if_pos ⟨rfl, rfl⟩]
            · rw [v2, h_i_1, if_neg (by omega), v1, h_i_1, if_neg (by omega)]; exact y3
            · rw [v2, h_i_1, if_pos ⟨rfl, rfl⟩, v1, h_i_1, if_neg (by omega), y6]
              exact nI_1 _
          cases hs : isSg (T.2 q) with
          | true =>
            obtain ⟨k1, k2⟩ := key _ b1 hs
            exact br_f (by decide) (put (T.2 q) _ k1 (by rw [hs]; rfl) (by omega) (by omega))
          | false => exact br_t rfl (put 1 _ rfl (by rw [hs]; rfl) (by omega) (by omega))
    · have ge : T.1 ≤ q := by
        apply Classical.byContradiction
        intro z
        exact c ((nI_ltI (by omega) (by omega)).mpr (by omega))
      have et : tkq T q = (0, q, 0, [], q) := by unfold tkq; rw [if_pos ge]
      rw [et] at hq
      refine Lt_i fun x v => hq x ?_ ⟨?_, ?_, fun z => absurd (show (0 : Nat) = 3 from z) (by decide), fun z => absurd (show (0 : Nat) = 2 from z) (by decide), fun _ => ?_⟩
      · rw [v]; exact fy.st (by unfold TkC; omega)
      · rw [v, h_i_1, if_pos ⟨rfl, rfl⟩]; rfl
      · rw [v, h_i_1, if_neg (by omega)]; exact y3
      · rw [v, h_i_1, if_neg (by omega)]; exact y6
  refine lo1_i (fun h1 => ∃ j, j ≤ run isBl T p ∧ Fr (fun q k => q = 1 ∧ k = 6) h h1 ∧ h1.1 1 6 = nI (p + j)) (fun h1 => p + run isBl T p - (h1.1 1 6).toNatClampNeg) ?_ ⟨0, Nat.zero_le _, Fr.rf, hat⟩
  intro k h1 hI hk
  obtain ⟨j, hj, f1, e6⟩ := hI
  have hT1 : TT h1 T := hT.fr fun q k z => f1.i (by omega)
  unfold FX10_step_0
  rw [hT1.2.1, e6, show ix (nI (p + j)) = p + j from nI_clamp (by omega)]
  refine br_c (fun c => ?_) (fun c => ?_)
  · have := (nI_leI (by omega) (by omega)).mp c
    exact at52 h1 f1 (by rw [e6, show j = run isBl T p by omega])
  · have hlt : p + j < T.1 := by
      apply Classical.byContradiction
      intro z
      exact c (nI_le (by omega) (by omega))
    obtain ⟨b1, b2⟩ := hT1.2.2 _ hlt
    rw [b2]
    have nxt : isBl (T.2 (p + j)) = true → Lt (h_i h1 1 6 (nI (p + j) + 1)) fun h57 => k h57 := by
      intro hb
      have hj' : j < run isBl T p := by
        apply Classical.byContradiction
        intro z
        have e : j = run isBl T p := by omega
        have := run_out (f := isBl) hp (by rw [← e]; exact hlt)
        rw [← e, hb] at this
        exact absurd this (by decide)
      rw [nI_1]
      refine Lt_i fun y z => hk y ⟨j + 1, hj', ?_, ?_⟩ ?_
      · rw [z]; exact f1.st ⟨rfl, rfl⟩
      · rw [z, h_i_1, if_pos ⟨rfl, rfl⟩]; rfl
      · rw [z, h_i_1, if_pos ⟨rfl, rfl⟩, e6, nI_clamp (by omega), nI_clamp (by omega)]
        omega
    refine ⟨vp_in_nI (by omega) (by omega), br_c (fun cb => nxt ?_) (fun cb => br_c (fun cb2 => nxt ?_) (fun cb2 => at52 h1 f1 ?_))⟩
    · unfold isBl
      rw [(sb_eq (c := 32) b1 (by omega)).mp cb]; rfl
    · unfold isBl
      rw [(sb_eq (c := 10) b1 (by omega)).mp cb2]; rfl
    · have hb : isBl (T.2 (p + j)) = false := by
        unfold isBl
        refine decide_eq_false ?_
        rintro (z | z)
        · exact cb ((sb_eq (c := 32) b1 (by omega)).mpr z)
        · exact cb2 ((sb_eq (c := 10) b1 (by omega)).mpr z)
      have : j = run isBl T p := by
        apply Classical.byContradiction
        intro z
        have := run_in (f := isBl) hp (i := j) (by omega)
        rw [hb] at this
        exact absurd this (by decide)
      rw [e6, this]
