-- ===== a wedding, the reference =====
def RG (q k : Nat) : Prop := RQ1 q k ∨ (q = 108 ∧ (k = 48 ∨ k = 49 ∨ k = 50 ∨ k = 23 ∨ k = 59 ∨ k = 60 ∨ k = 62 ∨ k = 70)) ∨ (114 ≤ q ∧ q ≤ 116) ∨ (128 ≤ q ∧ q ≤ 136) ∨ q = 150
theorem rs_76 {h : ob_H} {j len : Nat} {Q : Int32 → ob_H → Prop} {k47 : Int32 → ob_H → Prop} (hj : j < 2) (hl : len ≤ 300) (hk : ∀ h', Fr (fun q k => (q = 116 ∧ k = j) ∨ ((q = 114 ∨ q = 115) ∧ 320 * j ≤ k ∧ k < 320 * j + len)) h h' → h'.1 116 j = nI len → (∀ k, k < len → h'.1 114 (320 * j + k) = h.1 111 (320 * j + k) ∧ h'.1 115 (320 * j + k) = h.1 112 (320 * j + k)) → k47 (nI (j + 1)) h') : KX12_wedding_76 (nI j) (nI len) (nI j) h Q k47 := by
  have e320 : (320 : Int32) * nI j = nI (320 * j) := by rw [show (320 : Int32) = nI 320 from rfl, nI_mul]
  unfold KX12_wedding_76
  rw [show ix (nI j) = j from nI_clamp (by omega)]
  refine ⟨vp_in_nI (by omega) (by omega), Lt_i fun y z => Lt_eq e320 ?_⟩
  have fy : Fr (fun q k => q = 116 ∧ k = j) h y := by rw [z]; exact Fr.rf.st ⟨rfl, rfl⟩
  have y16 : y.1 116 j = nI len := by rw [z, h_i_1, if_pos ⟨rfl, rfl⟩]
  refine lo2c1 (320 * j + len) (by omega) (fun x h1 => 320 * j ≤ x ∧ Fr (fun q k => (q = 114 ∨ q = 115) ∧ 320 * j ≤ k ∧ k < 320 * j + len) y h1 ∧ ∀ k, 320 * j + k < x → h1.1 114 (320 * j + k) = h.1 111 (320 * j + k) ∧ h1.1 115 (320 * j + k) = h.1 112 (320 * j + k)) ?_ ?_ (320 * j) (by omega) _ ⟨Nat.le_refl _, Fr.rf, fun k hk => by omega⟩
  · intro k x h1 hx hI hk1
    obtain ⟨i0, i1, i2⟩ := hI
    unfold FX12_wedding_83
    rw [show ix (nI j) = j from nI_clamp (by omega), i1.i (by omega), y16, e320, nI_add, show ix (nI x) = x from nI_clamp (by omega)]
    refine ⟨vp_in_nI (by omega) (by omega), br_f (nI_ge hx (by omega)) ⟨vp_in_nI (by omega) (by omega), Lt_i fun u w => Lt_i fun u2 w2 => Lt_eq (nI_1 _) (hk1 u2 ⟨by omega, ?_, fun k hk => ?_⟩)⟩⟩
    · rw [w2, w]; exact (i1.st (by omega)).st (by omega)
    · have e14 : u2.1 114 (320 * j + k) = if 320 * j + k = x then h1.1 111 x else h1.1 114 (320 * j + k) := by
        rw [w2, h_i_1, if_neg (by omega), w, h_i_1]
        by_cases e : 320 * j + k = x
        · rw [if_pos ⟨rfl, e⟩, if_pos e]
        · rw [if_neg (by omega), if_neg e]
      have e15 : u2.1 115 (320 * j + k) = if 320 * j + k = x then h1.1 112 x else h1.1 115 (320 * j + k) := by
        rw [w2, h_i_1]
        by_cases e : 320 * j + k = x
        · rw [if_pos ⟨rfl, e⟩, if_pos e, w, h_i_1, if_neg (by omega)]
        · rw [if_neg (by omega), if_neg e, w, h_i_1, if_neg (by omega)]
      rw [e14, e15]
      by_cases e : 320 * j + k = x
      · rw [if_pos e, if_pos e, e, i1.i (by omega), i1.i (by omega), fy.i (by omega), fy.i (by omega)]
        exact ⟨rfl, rfl⟩
      · rw [if_neg e, if_neg e]
        exact i2 k (by omega)
  · intro k h1 hI
    obtain ⟨i0, i1, i2⟩ := hI
    unfold FX12_wedding_83
    rw [show ix (nI j) = j from nI_clamp (by omega), i1.i (by omega), y16, e320, nI_add]
    exact ⟨vp_in_nI (by omega) (by omega), br_t (nI_le (Nat.le_refl _) (by omega)) (Lt_eq (nI_1 _) (hk h1 ((fy.mono fun q k p => by omega).tr (i1.mono fun q k p => by omega)) (by rw [i1.i (by omega)]; exact y16) fun k hk => i2 k (by omega)))⟩
/-- the told one becomes the wedding -/
theorem rs_wedding {h : ob_H} {T : tx_T} {S0 : tx_S} {Q : Int32 → ob_H → Prop} (hT : T.1 ≤ 1600 ∧ h.1 108 1 = nI T.1 ∧ ∀ k, k < T.1 → T.2 k < 256 ∧ h.1 109 k = nI (T.2 k)) (h0 : hdT S0 = tk T 0) (hS : Str T S0) (hl : S0.length ≤ 1601)
    (q0 : ∀ e h', pRead 1601 tx_0 S0 = .inl e → Fr RQ1 h h' → h'.1 108 1 = 0 → RsR h' e → Q (-1) h')
    (q1 : ∀ D h', pRead 1601 tx_0 S0 = .inr D → Fr RG h h' → h'.1 108 1 = 0 → DI D → RW h' D.1 → Nw h' (pu (bgn D.1) 23 (wv D.1 7 2)) → h'.1 108 2 = 0 → h'.1 108 3 = -1 → (h'.1 108 59 = 0 ∧ h'.1 108 60 = 0 ∧ h'.1 108 70 = 0 ∧ h'.1 108 62 = 0 ∧ ∀ b, b < 3 → h'.1 150 b = 0) → Q (nI D.1.1) h') : MX12_wedding h Q := by
  unfold MX12_wedding
  refine rs_read hT h0 hS hl (fun e h' he f' e1 r' => br_f r'.pos.1 (q0 e h' he f' e1 r')) (fun D h1 hD f1 e1 rd d c2 c3 => ?_)
  have d1 := d.1
  have d10 := d.2.2.2.2.2.2.2.2.2.1
  have d11 := d.2.2.2.2.2.2.2.2.2.2.1
  have d12 := d.2.2.2.2.2.2.2.2.2.2.2.1
  have d13 := d.2.2.2.2.2.2.2.2.2.2.2.2.1
  have d14 := d.2.2.2.2.2.2.2.2.2.2.2.2.2.1
  have d15 := d.2.2.2.2.2.2.2.2.2.2.2.2.2.2.1
  have d16 := d.2.2.2.2.2.2.2.2.2.2.2.2.2.2.2.1
  obtain ⟨a1, a2, a3, a4, a5, a6, a7, ⟨a8, a9, a10, a11⟩, _, _, a16⟩ := rd
  rw [c2]
  refine br_t (by decide) (Lt_i fun y1 z1 => Lt_i fun y2 z2 => Lt_i fun y3 z3 => Lt_i fun y4 z4 => ?_)
  have f4 : Fr (fun q k => q = 108 ∧ (k = 48 ∨ k = 49 ∨ k = 50 ∨ k = 23)) h1 y4 := by
    rw [z4, z3, z2, z1]
    repeat (first | exact Fr.rf | refine Fr.st ?_ (by omega))
  have v4 : y4.1 108 48 = h1.1 108 41 ∧ y4.1 108 49 = h1.1 108 47 ∧ y4.1 108 50 = h1.1 108 45 ∧ y4.1 108 23 = h1.1 108 22 := by
    rw [z4, z3, z2, z1]
    exact ⟨rfl, rfl, rfl, rfl⟩
  rw [a1, a4, a5, a7] at v4
  have gl : ∀ f, f < 2 → (D.1.2.2 f).length ≤ 300 ∧ 0 < (D.1.2.2 f).length ∧ y4.1 119 f = tru (D.2.2.1 f) ∧ (D.2.2.1 f = true → GO h1 f (D.1.2.2 f)) ∧ (D.2.2.1 f = false → D.1.2.2 f = if f = 0 then [(1, 0)] else [(0, 100)]) := by
    intro f hf
    rcases (by omega : f = 0 ∨ f = 1) with rfl | rfl
    · exact ⟨d11.2, d13, by rw [f4.i (by omega)]; exact a8, a16 0 hf, fun z => by rw [if_pos rfl]; exact d15 z⟩
    · exact ⟨d12.2, d14, by rw [f4.i (by omega)]; exact a9, a16 1 hf, fun z => by rw [if_neg (by omega)]; exact d16 z⟩
  refine lo2c1 2 (by omega) (fun j h2 => Fr (fun q k => 114 ≤ q ∧ q ≤ 116) y4 h2 ∧ ∀ f, f < j → RFm h2 f (D.1.2.2 f)) ?_ ?_ 0 (Nat.zero_le _) _ ⟨Fr.rf, fun k hk => absurd hk (Nat.not_lt_zero _)⟩
  · intro k j h2 hj hI hk
    obtain ⟨i1, i2⟩ := hI
    obtain ⟨b1, b2, b3, b4, b5⟩ := gl j hj
    have keep : ∀ h' : ob_H, Fr (fun q k => (q = 116 ∧ k = j) ∨ ((q = 114 ∨ q = 115) ∧ 320 * j ≤ k ∧ k < 320 * j + 300)) h2 h' → ∀ f, f < j → RFm h' f (D.1.2.2 f) := by
      intro h' f' f hf
      have hl := (gl f (by omega)).1
      rcases i2 f hf with ⟨r1, r2, r3⟩ | ⟨r1, r2⟩
      · exact Or.inl ⟨by rw [f'.i (by omega)]; exact r1, r2, fun k hk => by rw [f'.i (by omega), f'.i (by omega)]; exact r3 k hk⟩
      · exact Or.inr ⟨by rw [f'.i (by omega)]; exact r1, r2⟩
    unfold FX12_wedding_47
    rw [show ix (nI j) = j from nI_clamp (by omega), i1.i (by omega), b3]
    refine br_f (nI_ge (b := 2) hj (by decide)) ⟨vp_in_nI (by omega) (by omega), ?_⟩
    cases hf : D.2.2.1 j with
    | false =>
      refine br_t rfl (rs_76 (len := 0) hj (by omega) fun h' f' e16 _ => hk h' ⟨i1.tr (f'.mono fun q k p => by omega), fun f hf2 => ?_⟩)
      by_cases e : f = j
      · rw [e]; exact Or.inr ⟨e16, b5 hf⟩
      · exact keep h' (f'.mono fun q k p => by omega) f (by omega)
    | true =>
      obtain ⟨o1, o2⟩ := b4 hf
      have e13 : h2.1 113 j = nI (D.1.2.2 j).length := by rw [i1.i (by omega), f4.i (by omega)]; exact o1
      rw [e13]
      refine br_f (by decide) (rs_76 hj b1 fun h' f' e16 ec => hk h' ⟨i1.tr (f'.mono fun q k p => by omega), fun f hf2 => ?_⟩)
      by_cases e : f = j
      · subst e
        refine Or.inl ⟨e16, b2, fun k hk => ?_⟩
        rw [(ec k hk).1, (ec k hk).2, i1.i (by omega), i1.i (by omega), f4.i (by omega), f4.i (by omega)]
        exact o2 k hk
      · exact keep h' (f'.mono fun q k p => by omega) f (by omega)
  intro k h2 hI
  obtain ⟨i1, i2⟩ := hI
  unfold FX12_wedding_47
  refine br_t (nI_le (a := 2) (Nat.le_refl _) (by decide)) ?_
  have e48 : h2.1 108 48 = nI D.1.1 := by rw [i1.i (by omega)]; exact v4.1
  refine lo2c1 D.1.1 (by omega) (fun j h3 => Fr (fun q _ => 128 ≤ q ∧ q ≤ 133) h2 h3 ∧ ∀ c, c < 6 → ∀ k, k < j → h3.1 (128 + c) k = h2.1 (121 + c) k) ?_ ?_ 0 (Nat.zero_le _) _ ⟨Fr.rf, fun c hc k hk => absurd hk (Nat.not_lt_zero _)⟩
  · intro k j h3 hj hI hk
    obtain ⟨j1, j2⟩ := hI
    unfold FX12_wedding_137
    rw [j1.i (by omega), e48, show ix (nI j) = j from nI_clamp (by omega)]
    refine br_f (nI_ge hj (by omega)) ⟨vp_in_nI (by omega) (by omega), Lt_i fun u1 w1 => Lt_i fun u2 w2 => Lt_i fun u3 w3 => Lt_i fun u4 w4 => Lt_i fun u5 w5 => Lt_i fun u6 w6 => Lt_eq (nI_1 _) (hk u6 ⟨?_, fun c hc k hk2 => ?_⟩)⟩
    · rw [w6, w5, w4, w3, w2, w1]
      exact (((((j1.st (by omega)).st (by omega)).st (by omega)).st (by omega)).st (by omega)).st (by omega)
    · have g6 : Fr (fun q k => (128 ≤ q ∧ q ≤ 133) ∧ k = j) h3 u6 := by
        rw [w6, w5, w4, w3, w2, w1]
        repeat (first | exact Fr.rf | refine Fr.st ?_ (by omega))
      by_cases e : k = j
      · subst e
        rcases (by omega : c = 0 ∨ c = 1 ∨ c = 2 ∨ c = 3 ∨ c = 4 ∨ c = 5) with rfl | rfl | rfl | rfl | rfl | rfl
        · rw [w6, h_i_1, if_neg (by omega), w5, h_i_1, if_neg (by omega), w4, h_i_1, if_neg (by omega), w3, h_i_1, if_neg (by omega), w2, h_i_1, if_neg (by omega), w1, h_i_1, if_pos ⟨rfl, rfl⟩, j1.i (by omega)]
        · rw [w6, h_i_1, if_neg (by omega), w5, h_i_1, if_neg (by omega), w4, h_i_1, if_neg (by omega), w3, h_i_1, if_neg (by omega), w2, h_i_1, if_pos ⟨rfl, rfl⟩, w1, h_i_1, if_neg (by omega), j1.i (by omega)]
        · rw [w6, h_i_1, if_neg (by omega), w5, h_i_1, if_neg (by omega), w4, h_i_1, if_neg (by omega), w3, h_i_1, if_pos ⟨rfl, rfl⟩, w2, h_i_1, if_neg (by omega), w1, h_i_1, if_neg (by omega), j1.i (by omega)]
        · rw [w6, h_i_1, if_neg (by omega), w5, h_i_1, if_neg (by omega), w4, h_i_1, if_pos ⟨rfl, rfl⟩, w3, h_i_1, if_neg (by omega), w2, h_i_1, if_neg (by omega), w1, h_i_1, if_neg (by omega), j1.i (by omega)]
        · rw [w6, h_i_1, if_neg (by omega), w5, h_i_1, if_pos ⟨rfl, rfl⟩, w4, h_i_1, if_neg (by omega), w3, h_i_1, if_neg (by omega), w2, h_i_1, if_neg (by omega), w1, h_i_1, if_neg (by omega), j1.i (by omega)]
        · rw [w6, h_i_1, if_pos ⟨rfl, rfl⟩, w5, h_i_1, if_neg (by omega), w4, h_i_1, if_neg (by omega), w3, h_i_1, if_neg (by omega), w2, h_i_1, if_neg (by omega), w1, h_i_1, if_neg (by omega), j1.i (by omega)]
      · rw [g6.i (by omega)]
        exact j2 c hc k (by omega)
  intro k h3 hI
  obtain ⟨j1, j2⟩ := hI
  have e48' : h3.1 108 48 = nI D.1.1 := by rw [j1.i (by omega)]; exact e48
  unfold FX12_wedding_137
  rw [e48']
  refine br_t (nI_le (Nat.le_refl _) (by omega)) ?_
  refine lo2c1 (7 * D.1.1) (by omega) (fun j h4 => Fr (fun q _ => q = 134) h3 h4 ∧ ∀ k, k < j → h4.1 134 k = h3.1 127 k) ?_ ?_ 0 (Nat.zero_le _) _ ⟨Fr.rf, fun k hk => absurd hk (Nat.not_lt_zero _)⟩
  · intro k j h4 hj hI hk
    obtain ⟨l1, l2⟩ := hI
    unfold FX12_wedding_225
    rw [l1.i (by omega), e48', show (7 : Int32) * nI D.1.1 = nI (7 * D.1.1) from by rw [show (7 : Int32) = nI 7 from rfl, nI_mul], show ix (nI j) = j from nI_clamp (by omega)]
    refine br_f (nI_ge hj (by omega)) ⟨vp_in_nI (by omega) (by omega), Lt_i fun u1 w1 => Lt_eq (nI_1 _) (hk u1 ⟨by rw [w1]; exact Fr.st (P := fun q _ => q = 134) l1 rfl, fun i hi => ?_⟩)⟩
    rw [w1, h_i_1]
    by_cases e : i = j
    · rw [if_pos ⟨rfl, e⟩, e, l1.i (by omega)]
    · rw [if_neg (by omega)]; exact l2 i (by omega)
  intro k h4 hI
  obtain ⟨l1, l2⟩ := hI
  have g4 : Fr (fun q _ => (114 ≤ q ∧ q ≤ 116) ∨ (128 ≤ q ∧ q ≤ 134)) y4 h4 := ((i1.mono fun q k p => by omega).tr (j1.mono fun q k p => by omega)).tr (l1.mono fun q k p => by omega)
  unfold FX12_wedding_225
  rw [l1.i (by omega), e48', show (7 : Int32) * nI D.1.1 = nI (7 * D.1.1) from by rw [show (7 : Int32) = nI 7 from rfl, nI_mul]]
  refine br_t (nI_le (Nat.le_refl _) (by omega)) ?_
  refine rs_begin (w := D.1) d1 (by rw [g4.i (by omega)]; exact v4.1) (by rw [g4.i (by omega)]; exact v4.2.1) fun h5 f5 air5 => Lt_i fun y6 z6 => ?_
  have e46 : h5.1 108 46 = wv D.1 7 2 := by rw [f5.i (by omega), g4.i (by omega), f4.i (by omega)]; exact a6
  rw [e46] at z6
  have air6 : Air y6 (pu (bgn D.1) 23 (wv D.1 7 2)) := by rw [z6]; exact air5.put
  have f6 : Fr (fun q _ => q = 136) h5 y6 := by rw [z6]; exact Fr.rf.st rfl
  refine rs_keepAir air6 fun h7 f7 nw7 => Lt_i fun u1 w1 => Lt_i fun u2 w2 => Lt_i fun u3 w3 => Lt_i fun u4 w4 => ?_
  have g7 : Fr (fun q k => q = 108 ∧ (k = 59 ∨ k = 60 ∨ k = 70 ∨ k = 62)) h7 u4 := by
    rw [w4, w3, w2, w1]
    repeat (first | exact Fr.rf | refine Fr.st ?_ (by omega))
  have v7 : u4.1 108 59 = 0 ∧ u4.1 108 60 = 0 ∧ u4.1 108 70 = 0 ∧ u4.1 108 62 = 0 := by
    rw [w4, w3, w2, w1]
    exact ⟨rfl, rfl, rfl, rfl⟩
  refine lo2c1 3 (by omega) (fun j h8 => Fr (fun q _ => q = 150) u4 h8 ∧ ∀ b, b < j → h8.1 150 b = 0) ?_ ?_ 0 (Nat.zero_le _) _ ⟨Fr.rf, fun k hk => absurd hk (Nat.not_lt_zero _)⟩
  · intro k j h8 hj hI hk
    obtain ⟨m1, m2⟩ := hI
    unfold FX12_wedding_295
    rw [show ix (nI j) = j from nI_clamp (by omega)]
    refine br_f (nI_ge (b := 3) hj (by decide)) ⟨vp_in_nI (by omega) (by omega), Lt_i fun u1 w1 => Lt_eq (nI_1 _) (hk u1 ⟨by rw [w1]; exact Fr.st (P := fun q _ => q = 150) m1 rfl, fun i hi => ?_⟩)⟩
    rw [w1, h_i_1]
    by_cases e : i = j
    · rw [if_pos ⟨rfl, e⟩]; rfl
    · rw [if_neg (by omega)]; exact m2 i (by omega)
  intro k h8 hI
  obtain ⟨m1, m2⟩ := hI
  -- what has changed behind the copies
  have t8 : Fr (fun q k => q = 135 ∨ q = 136 ∨ q = 150 ∨ (q = 108 ∧ (k = 59 ∨ k = 60 ∨ k = 70 ∨ k = 62))) h4 h8 := ((((f5.mono fun q k p => by omega).tr (f6.mono fun q k p => by omega)).tr (f7.mono fun q k p => by omega)).tr (g7.mono fun q k p => by omega)).tr (m1.mono fun q k p => by omega)
  have e48z : h8.1 108 48 = nI D.1.1 := by rw [t8.i (by omega), g4.i (by omega)]; exact v4.1
  unfold FX12_wedding_295
  rw [e48z]
  refine br_t (nI_le (a := 3) (Nat.le_refl _) (by decide)) (q1 D h8 hD ?_ ?_ d ⟨e48z, fun c hc k hk => ?_, fun a b ha hb => ?_, ?_, ?_, ?_, ?_, ?_⟩ ?_ ?_ ?_ ⟨?_, ?_, ?_, ?_, m2⟩)
  · refine (((f1.mono (P' := RG) fun q k p => Or.inl p).tr (f4.mono (P' := RG) fun q k p => by unfold RG; omega)).tr (g4.mono (P' := RG) fun q k p => by unfold RG; omega)).tr (t8.mono (P' := RG) fun q k p => by unfold RG; omega)
  · rw [t8.i (by omega), g4.i (by omega), f4.i (by omega)]; exact e1
  · rw [t8.i (by omega), l1.i (by omega), j2 c hc k hk, i1.i (by omega), f4.i (by omega)]; exact a2 c hc k hk
  · rw [t8.i (by omega), l2 _ (by omega), j1.i (by omega), i1.i (by omega), f4.i (by omega)]; exact a3 a b ha hb
  · rw [t8.i (by omega), g4.i (by omega)]; exact v4.2.1
  · rw [t8.i (by omega), g4.i (by omega)]; exact v4.2.2.1
  · rw [t8.i (by omega), g4.i (by omega), d10]; exact v4.2.2.2
  · have := i2 0 (by omega)
    have e : ∀ q k, 114 ≤ q → q ≤ 116 → h8.1 q k = h2.1 q k := fun q k h1 h2 => by rw [t8.i (by omega), l1.i (by omega), j1.i (by omega)]
    unfold RFm at this ⊢
    rw [e 116 _ (by omega) (by omega)]
    rcases this with ⟨r1, r2, r3⟩ | r
    · exact Or.inl ⟨r1, r2, fun k hk => by rw [e 114 _ (by omega) (by omega), e 115 _ (by omega) (by omega)]; exact r3 k hk⟩
    · exact Or.inr r
  · have := i2 1 (by omega)
    have e : ∀ q k, 114 ≤ q → q ≤ 116 → h8.1 q k = h2.1 q k := fun q k h1 h2 => by rw [t8.i (by omega), l1.i (by omega), j1.i (by omega)]
    unfold RFm at this ⊢
    rw [e 116 _ (by omega) (by omega)]
    rcases this with ⟨r1, r2, r3⟩ | r
    · exact Or.inl ⟨r1, r2, fun k hk => by rw [e 114 _ (by omega) (by omega), e 115 _ (by omega) (by omega)]; exact r3 k hk⟩
    · exact Or.inr r
  · exact fun k hk => by rw [m1.i (by omega), g7.i (by omega)]; exact nw7 k hk
  · rw [t8.i (by omega), g4.i (by omega), f4.i (by omega)]; exact c2
  · rw [t8.i (by omega), g4.i (by omega), f4.i (by omega)]; exact c3
  · rw [m1.i (by omega)]; exact v7.1
  · rw [m1.i (by omega)]; exact v7.2.1
  · rw [m1.i (by omega)]; exact v7.2.2.1
  · rw [m1.i (by omega)]; exact v7.2.2.2
