-- ===== the class reads a text =====
def tx_0 : tx_D := ((0, (fun c k => if c = 7 ∧ k = 1 then 100 else 0), (fun j => if j = 0 then [(1, 0)] else [(0, 100)])), [], (fun _ => false), 0, 0, 0, 0)
theorem DI_0 : DI tx_0 := by
  have ev : ∀ c k, ¬ (c = 7 ∧ k = 1) → wv tx_0.1 c k = 0 := fun c k h => if_neg h
  refine ⟨Nat.zero_le _, rfl, fun l hl => (by cases hl), fun i j l hi => (by cases hi), fun k hk => absurd hk (Nat.not_lt_zero _), fun c hc k hk => ⟨0, by decide, ev c k (by omega), fun _ => rfl⟩, fun a b ha hb => ⟨by rw [ev 6 _ (by omega), ev 6 _ (by omega)], 0, by omega, ev 6 _ (by omega), fun _ => rfl⟩, ⟨0, by decide, ev 7 0 (by omega)⟩, by decide, ev 7 3 (by omega), by unfold WFf; decide, by unfold WFf; decide, by decide, by decide, fun _ => rfl, fun _ => rfl, rfl, rfl, by decide⟩
theorem cs_clear {h : ob_H} {Q : ob_H → Prop} (hq : ∀ h', Fr (fun q _ => 5 ≤ q ∧ q ≤ 18) h h' → (h'.1 5 0 = 0 ∧ h'.1 5 8 = 0 ∧ h'.1 5 9 = 100 ∧ h'.1 5 10 = 0 ∧ h'.1 5 11 = 0) → (∀ k, k < 7 → h'.1 10 k = 0 ∧ h'.1 11 k = 0) → (∀ k, k < 49 → h'.1 12 k = 0) → CF h' 13 [(1, 0)] → CF h' 16 [(0, 100)] → Q h') : MX2_clear 5 h Q := by
  unfold MX2_clear
  refine Lt_i fun y1 z1 => Lt_i fun y2 z2 => Lt_i fun y3 z3 => Lt_i fun y4 z4 => Lt_i fun y5 z5 => ?_
  have f5 : Fr (fun q k => q = 5) h y5 := by rw [z5, z4, z3, z2, z1]; refine Fr.st (Fr.st (Fr.st (Fr.st (Fr.st Fr.rf ?_) ?_) ?_) ?_) ?_ <;> rfl
  have v5 : y5.1 5 0 = 0 ∧ y5.1 5 8 = 0 ∧ y5.1 5 9 = 100 ∧ y5.1 5 10 = 0 ∧ y5.1 5 11 = 0 := by
    rw [z5, z4, z3, z2, z1]
    refine ⟨rfl, rfl, rfl, rfl, rfl⟩
  refine lo2c1 7 (by omega) (fun j h1 => Fr (fun q k => q = 10 ∨ q = 11) y5 h1 ∧ ∀ k, k < j → h1.1 10 k = 0 ∧ h1.1 11 k = 0) ?_ ?_ 0 (Nat.zero_le _) _ ⟨Fr.rf, fun k hk => absurd hk (Nat.not_lt_zero _)⟩
  · intro k j h1 hj hI hk
    obtain ⟨i1, i2⟩ := hI
    unfold FX2_clear_28
    rw [show ix (nI j) = j from nI_clamp (by omega)]
    refine br_f (nI_ge (b := 7) hj (by decide)) ⟨vp_in_nI (by omega) (by omega), Lt_i fun u1 w1 => Lt_i fun u2 w2 => Lt_eq (nI_1 _) (hk _ ⟨?_, fun i hi => ?_⟩)⟩
    · rw [w2, w1]; exact (i1.st (by omega)).st (by omega)
    · rw [w2, w1]
      by_cases e : i = j
      · subst e
        rw [h_i_1, if_neg (by omega), h_i_1, if_pos ⟨rfl, rfl⟩, h_i_1, if_pos ⟨rfl, rfl⟩]
        exact ⟨rfl, rfl⟩
      · rw [h_i_1, if_neg (by omega), h_i_1, if_neg (by omega), h_i_1, if_neg (by omega), h_i_1, if_neg (by omega)]
        exact i2 i (by omega)
  · intro k h1 hI
    obtain ⟨i1, i2⟩ := hI
    unfold FX2_clear_28
    refine br_t (nI_le (a := 7) (Nat.le_refl _) (by decide)) ?_
    refine lo2c1 49 (by omega) (fun j h2 => Fr (fun q k => q = 12) h1 h2 ∧ ∀ k, k < j → h2.1 12 k = 0) ?_ ?_ 0 (Nat.zero_le _) _ ⟨Fr.rf, fun k hk => absurd hk (Nat.not_lt_zero _)⟩
    · intro k j h2 hj hI hk
      obtain ⟨j1, j2⟩ := hI
      unfold FX2_clear_56
      rw [show ix (nI j) = j from nI_clamp (by omega)]
      refine br_f (nI_ge (b := 49) hj (by decide)) ⟨vp_in_nI (by omega) (by omega), Lt_i fun u1 w1 => Lt_eq (nI_1 _) (hk _ ⟨?_, fun i hi => ?_⟩)⟩
      · rw [w1]; exact Fr.st (P := fun q k => q = 12) j1 rfl
      · rw [w1, h_i_1]
        by_cases e : i = j
        · rw [if_pos ⟨rfl, e⟩]
        · rw [if_neg (by omega)]; exact j2 i (by omega)
    · intro k h2 hI
      obtain ⟨j1, j2⟩ := hI
      unfold FX2_clear_56 MX4_clear
      refine br_t (nI_le (a := 49) (Nat.le_refl _) (by decide)) (Lt_i fun u1 w1 => ?_)
      have c1 : CF u1 13 [] := ⟨by rw [w1]; rfl, fun k hk => absurd hk (Nat.not_lt_zero _)⟩
      refine cs_add (s := (1, 0)) c1 (by decide) (by decide) fun u2 g2 c2 => Lt_i fun u3 w3 => ?_
      have c3 : CF u3 16 [] := ⟨by rw [w3]; rfl, fun k hk => absurd hk (Nat.not_lt_zero _)⟩
      refine cs_add (s := (0, 100)) c3 (by decide) (by decide) fun u4 g4 c4 => ?_
      have e1 : ∀ q k, q ≠ 13 → q ≠ 14 → q ≠ 16 → q ≠ 17 → u4.1 q k = h2.1 q k := fun q k n1 n2 n3 n4 => by rw [g4.i (by omega), w3, h_i_1, if_neg (by omega), g2.i (by omega), w1, h_i_1, if_neg (by omega)]
      refine hq u4 ?_ ?_ (fun k hk => ?_) (fun k hk => ?_) ?_ c4
      · refine Fr.tr (h1 := u3) ?_ (g4.mono fun q k p => by omega)
        rw [w3]
        refine Fr.st (Fr.tr (h1 := u1) ?_ (g2.mono fun q k p => by omega)) (by omega)
        rw [w1]
        exact (((f5.mono fun q k p => by omega).tr (i1.mono fun q k p => by omega)).tr (j1.mono fun q k p => by omega)).st (by omega)
      · have e5 : ∀ k, u4.1 5 k = y5.1 5 k := fun k => by rw [e1 _ _ (by omega) (by omega) (by omega) (by omega), j1.i (by omega), i1.i (by omega)]
        rw [e5, e5, e5, e5, e5]; exact v5
      · rw [e1 _ _ (by omega) (by omega) (by omega) (by omega), e1 _ _ (by omega) (by omega) (by omega) (by omega), j1.i (by omega), j1.i (by omega)]
        exact i2 k hk
      · rw [e1 _ _ (by omega) (by omega) (by omega) (by omega)]
        exact j2 k hk
      · exact c2.fr2 fun q k z => by rw [g4.i (by omega), w3, h_i_1, if_neg (by omega)]
set_option maxHeartbeats 1000000 in
theorem cs_read {h : ob_H} {T : tx_T} {S0 : tx_S} {Q : Int32 → ob_H → Prop} (hT : TT h T) (hwd : WdsR h) (h0 : hdT S0 = tk T 0) (hS : Str T S0) (hl : S0.length ≤ 1601)
    (q0 : ∀ e h', pRead 1601 tx_0 S0 = .inl e → Fp PCc h h' → RsC h' e → Q 0 h') (q1 : ∀ D h', pRead 1601 tx_0 S0 = .inr D → Fp PCc h h' → CD h' D → DI D → h'.1 4 1 = 0 → h'.1 4 2 = -1 → Q 1 h') : MX5_read h Q := by
  generalize hR : pRead 1601 tx_0 S0 = R at *
  unfold MX5_read MX10_rewind
  refine cs_clear fun h1 f1 v1 v2 v3 v4 v5 => Lt_i fun y1 z1 => Lt_i fun y2 z2 => Lt_i fun y3 z3 => Lt_i fun y4 z4 => Lt_i fun y5 z5 => ?_
  have f5 : Fr (fun q k => (q = 4 ∧ (k = 1 ∨ k = 2 ∨ k = 5 ∨ k = 6)) ∨ (q = 1 ∧ k = 6)) h1 y5 := by rw [z5, z4, z3, z2, z1]; refine Fr.st (Fr.st (Fr.st (Fr.st (Fr.st Fr.rf ?_) ?_) ?_) ?_) ?_ <;> omega
  have g5 : Fp PCc h y5 := (f1.fp fun q k p => by unfold PCc; omega).tr (f5.fp fun q k p => by unfold PCc; omega)
  have hT5 : TT y5 T := (hT.fr (h' := h1) fun q k z => f1.i (by omega)).fr fun q k z => f5.i (by omega)
  have hw5 : WdsR y5 := (hwd.fr f1 fun k => by omega).fr f5 fun k => by omega
  refine cs_step (p := 0) hT5 hw5 (Nat.zero_le _) (by rw [z5, h_i_1, if_pos ⟨rfl, rfl⟩]; rfl) fun y6 f6 c6 => ?_
  have g6 : Fp PCc h y6 := g5.tr (f6.fp TkC_P)
  have e6 : ∀ q k, q ≠ 1 → y6.1 q k = y5.1 q k := fun q k hq => f6.i (by unfold TkC; omega)
  have cl0 : CL y6 T S0 tx_0 := by
    refine ⟨⟨hT5.fr fun q k z => f6.i (by unfold TkC; omega), ⟨hw5.fr f6 fun k => by unfold TkC; omega, ?_, ?_⟩, hS, by rw [h0]; exact c6⟩, ?_, DI_0⟩
    · rw [e6 _ _ (by omega), z5, h_i_1, if_neg (by omega), z4, h_i_1, if_neg (by omega), z3, h_i_1, if_neg (by omega), z2, h_i_1, if_neg (by omega), z1, h_i_1, if_pos ⟨rfl, rfl⟩]
    · rw [e6 _ _ (by omega), z5, h_i_1, if_neg (by omega), z4, h_i_1, if_neg (by omega), z3, h_i_1, if_neg (by omega), z2, h_i_1, if_pos ⟨rfl, rfl⟩]
    · have ex : ∀ q k, 5 ≤ q → y6.1 q k = h1.1 q k := fun q k hq => by rw [e6 _ _ (by omega), f5.i (by omega)]
      have ev : ∀ c k, ¬ (c = 7 ∧ k = 1) → wv tx_0.1 c k = 0 := fun c k h => if_neg h
      refine ⟨by rw [ex _ _ (by omega)]; exact v1.1, fun c hc k hk => absurd hk (Nat.not_lt_zero _), fun c hc k hk => ?_, fun a b ha hb => ?_, ?_, ?_, ?_, ?_, v4.fr2 fun q k z => ex q k (by omega), v5.fr2 fun q k z => ex q k (by omega), fun k l hl => (by cases hl), ?_, ?_⟩
      · rw [ex _ _ (by omega), ev c k (by omega)]
        rcases hc with rfl | rfl
        · exact (v2 k hk).1
        · exact (v2 k hk).2
      · rw [ex _ _ (by omega), ev 6 _ (by omega)]; exact v3 _ (by omega)
      · rw [ex _ _ (by omega), ev 7 0 (by omega)]; exact v1.2.1
      · rw [ex _ _ (by omega)]; exact v1.2.2.1
      · rw [ex _ _ (by omega), ev 7 2 (by omega)]; exact v1.2.2.2.1
      · rw [ex _ _ (by omega)]; exact v1.2.2.2.2
      · rw [e6 _ _ (by omega), z5, h_i_1, if_neg (by omega), z4, h_i_1, if_neg (by omega), z3, h_i_1, if_pos ⟨rfl, rfl⟩]; rfl
      · rw [e6 _ _ (by omega), z5, h_i_1, if_neg (by omega), z4, h_i_1, if_pos ⟨rfl, rfl⟩]; rfl
  refine lo3c2 1601 (by omega) (fun j x h2 => Fp PCc h h2 ∧ ((x = 1 ∧ ∃ D S, CL h2 T S D ∧ pRead (1601 - j) D S = R ∧ S.length + j ≤ 1601) ∨ (x = 0 ∧ ∃ e, R = .inl e ∧ RsC h2 e))) ?_ ?_ 0 (Nat.zero_le _) _ _ ⟨g6, Or.inl ⟨rfl, tx_0, S0, cl0, hR, by omega⟩⟩
  · intro k j x h2 hj hI hk
    obtain ⟨i1, i2⟩ := hI
    unfold FX5_read_38
    refine br_f (by rw [show (1600 : Int32) = nI 1600 from rfl, nI_lt2 (by omega) (by omega)]; omega) ?_
    rcases i2 with ⟨rfl, D, S, c, hr, hlen⟩ | ⟨rfl, e, he, r⟩
    rotate_left
    · exact br_t rfl ⟨rfl, q0 e h2 he i1 r⟩
    obtain ⟨m, hm⟩ : ∃ m, 1601 - j = m + 1 := ⟨1601 - j - 1, by omega⟩
    have hm2 : 1601 - (j + 1) = m := by omega
    rw [hm, pRead] at hr
    refine br_f (by decide) ?_
    rw [show (106 : Int32) = nI 106 from rfl, show (110 : Int32) = nI 110 from rfl, show (111 : Int32) = nI 111 from rfl, show (112 : Int32) = nI 112 from rfl, show (113 : Int32) = nI 113 from rfl, show (114 : Int32) = nI 114 from rfl, show (115 : Int32) = nI 115 from rfl, show (116 : Int32) = nI 116 from rfl,
      show (h2.1 1 2 = 0) = (kdT S = 0) from by rw [show (0 : Int32) = nI 0 from rfl]; exact c.1.is 0 (by omega), c.1.is 106 (by omega), c.1.is 110 (by omega), c.1.is 111 (by omega), c.1.is 112 (by omega), c.1.is 113 (by omega), c.1.is 114 (by omega), c.1.is 115 (by omega), c.1.is 116 (by omega)]
    refine br_c (fun ck => ?_) (fun ck => ?_)
    · rw [if_pos ck] at hr
      exact ⟨rfl, q1 D h2 hr.symm i1 c.2.1 c.2.2 c.1.2.1.2.1 c.1.2.1.2.2⟩
    rw [if_neg ck] at hr
    -- a line is read
    have bad : ∀ e h', pLine D S = .inl e → Fp PCc h2 h' → RsC h' e → Lt (nI j + 1 : Int32) fun v => k 0 v h' := fun e h' he f' r' =>
      Lt_eq (nI_1 _) (hk 0 h' ⟨i1.tr f', Or.inr ⟨rfl, e, by rw [he] at hr; exact hr.symm, r'⟩⟩)
    have good : ∀ (y : tx_D × tx_S) h', 1 < kdT S → pLine D S = .inr y → Fp PCc h2 h' → CL h' T y.2 y.1 → Lt (nI j + 1 : Int32) fun v => k 1 v h' := fun y h' hk1 hy f' c' =>
      Lt_eq (nI_1 _) (hk 1 h' ⟨i1.tr f', Or.inl ⟨rfl, y.1, y.2, c', by rw [hm2]; rw [hy] at hr; exact hr, by have := pLine_len c.1.2.2.1.sok (by omega) hy hk1; omega⟩⟩)
    unfold pLine at bad good
    refine br_c (fun ck => ?_) (fun c106 => ?_)
    · rw [if_pos ck] at bad good
      exact cl_obj c (by omega) bad (fun y h' hy => good y h' (by omega) hy)
    rw [if_neg c106] at bad good
    refine br_c (fun ck => ?_) (fun c110 => ?_)
    · rw [if_pos ck] at bad good
      exact cl_whom (c := 4) (most := 12) (Or.inl rfl) (by omega) c (by omega) bad (fun y h' hy => good y h' (by omega) hy)
    rw [if_neg c110] at bad good
    refine br_c (fun ck => ?_) (fun c111 => ?_)
    · rw [if_pos ck] at bad good
      exact cl_whom (c := 5) (most := 6) (Or.inr rfl) (by omega) c (by omega) bad (fun y h' hy => good y h' (by omega) hy)
    rw [if_neg c111] at bad good
    refine br_c (fun ck => ?_) (fun c112 => ?_)
    · rw [if_pos ck] at bad good
      exact cl_join c (by omega) bad (fun y h' hy => good y h' (by omega) hy)
    rw [if_neg c112] at bad good
    refine br_c (fun ck => ?_) (fun c113 => ?_)
    · rw [if_pos ck] at bad good
      exact cl_form (i := 0) (by omega) c ck bad (fun y h' hy => good y h' (by omega) hy)
    rw [if_neg c113] at bad good
    refine br_c (fun ck => ?_) (fun c114 => ?_)
    · rw [if_pos ck] at bad good
      exact cl_form (i := 1) (by omega) c ck bad (fun y h' hy => good y h' (by omega) hy)
    rw [if_neg c114] at bad good
    refine br_c (fun ck => ?_) (fun c115 => ?_)
    · rw [if_pos ck] at bad good
      exact cl_amt (Q := fun r h' => Lt (nI j + 1 : Int32) fun v => k r v h') (i := 2) (lo := 1) (Or.inl rfl) (by omega) c ck bad (fun y h' hy => good y h' (by omega) hy)
    rw [if_neg c115] at bad good
    refine br_c (fun ck => ?_) (fun c116 => ?_)
    · rw [if_pos ck] at bad good
      exact cl_amt (Q := fun r h' => Lt (nI j + 1 : Int32) fun v => k r v h') (i := 3) (lo := 0) (Or.inr rfl) (by omega) c ck bad (fun y h' hy => good y h' (by omega) hy)
    rw [if_neg c116] at bad good
    exact cl_bad (α := tx_D × tx_S) c.1 bad
  · intro k x h2 hI
    obtain ⟨i1, i2⟩ := hI
    unfold FX5_read_38
    refine br_t (by decide) ?_
    rcases i2 with ⟨rfl, D, S, c, hr, hlen⟩ | ⟨rfl, e, he, r⟩
    · exfalso
      have h0 : S.length = 0 := by omega
      have := List.length_eq_zero_iff.mp h0
      have hs := c.1.2.2.1
      rw [this] at hs
      exact hs
    · exact ⟨rfl, q0 e h2 he i1 r⟩
