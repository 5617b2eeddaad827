-- ===== a wedding, the class =====
theorem DI_WFW {D : tx_D} (d : DI D) : WFW D.1 := by
  obtain ⟨d1, d2, d3, d4, d5, d6, d7, d8, d9, d10, d11, d12, d13, d14, d15, d16, d17, d18, d19⟩ := d
  refine ⟨d1, d11, d12, fun o ho => ?_, fun a b ha hb => (d7 a b (by omega) (by omega)).1, d8⟩
  obtain ⟨⟨x0, a0, b0⟩, ⟨x1, a1, a1', b1⟩, ⟨x2, a2, b2⟩, ⟨x3, a3, b3⟩⟩ := d5 o ho
  obtain ⟨m4, c4, e4, _⟩ := d6 4 (Or.inl rfl) o (by omega)
  obtain ⟨m5, c5, e5, _⟩ := d6 5 (Or.inr rfl) o (by omega)
  rw [b0, b1, b2, b3]
  exact ⟨nI_le (a := 0) (Nat.zero_le _) (by omega), nI_le (b := 99) a0 (by decide), nI_le (a := 1) a1 (by omega), nI_le (b := 60) a1' (by decide), nI_le (a := 0) (Nat.zero_le _) (by omega), nI_le (a := 0) (Nat.zero_le _) (by omega), nI_le (b := 99) a3 (by decide), ⟨m4, c4, e4⟩, ⟨m5, c5, e5⟩⟩
theorem hc_at {h : ob_H} {p o n k : Nat} (hk : k < n) : (h_c h p 0 o 0 n).1 o k = h.1 p k := by
  rw [h_c_1, if_pos rfl, if_pos ⟨Nat.zero_le _, by omega⟩, Nat.sub_zero, Nat.zero_add]
theorem hc_ne {h : ob_H} {p o n q k : Nat} (hq : q ≠ o) : (h_c h p 0 o 0 n).1 q k = h.1 q k := by
  rw [h_c_1, if_neg hq]
theorem cs_formCopy {h : ob_H} {o p : Nat} {L : List ob_S} {Q : ob_H → Prop} (c : CF h p L) (hl : L.length ≤ 300) (h1 : p + 1 < o) (hq : ∀ h', Fr (fun q _ => q = o ∨ q = o + 1) h h' → CF h' o L → Q h') : MX4_copy o p h Q := by
  unfold MX4_copy
  refine Lt_i fun y z => ?_
  have e : y.1 o 1 = nI L.length := by rw [z, h_i_1, if_pos ⟨rfl, rfl⟩]; exact c.1
  rw [e, show ix (nI L.length) = L.length from nI_clamp (by omega)]
  refine ⟨nI_pos (by omega), by omega, by omega, Lt_i fun y2 z2 => hq y2 ?_ ⟨?_, fun k hk => ?_⟩⟩
  · rw [z2, z]; exact (Fr.st (P := fun q _ => q = o ∨ q = o + 1) Fr.rf (Or.inl rfl)).cp fun k _ _ => Or.inr rfl
  · rw [z2, hc_ne (by omega)]; exact e
  · rw [z2, hc_at hk, z, h_i_1, if_neg (by omega)]
    exact c.2 k hk
theorem cs_copyW {h : ob_H} {D : tx_D} {Q : ob_H → Prop} (c : CD h D) (d : DI D) (hq : ∀ h', Fr (fun q _ => 20 ≤ q ∧ q ≤ 33) h h' → CW h' D.1 → Q h') : MX2_copy 20 5 h Q := by
  have d1 := d.1
  have d10 := d.2.2.2.2.2.2.2.2.2.1
  have d11 := d.2.2.2.2.2.2.2.2.2.2.1
  have d12 := d.2.2.2.2.2.2.2.2.2.2.2.1
  obtain ⟨a1, a2, a3, a4, a5, a6, a7, a8, a9, a10, a11, a12, a13⟩ := c
  unfold MX2_copy
  refine Lt_i fun y1 z1 => Lt_i fun y2 z2 => Lt_i fun y3 z3 => Lt_i fun y4 z4 => Lt_i fun y5 z5 => Lt_i fun y6 z6 => Lt_i fun y7 z7 => Lt_i fun y8 z8 => Lt_i fun y9 z9 => Lt_i fun y10 z10 => Lt_i fun y11 z11 => Lt_i fun y12 z12 => ?_
  have f5 : Fr (fun q _ => q = 20) h y5 := by
    rw [z5, z4, z3, z2, z1]
    refine Fr.st (Fr.st (Fr.st (Fr.st (Fr.st Fr.rf ?_) ?_) ?_) ?_) ?_ <;> rfl
  have v5 : y5.1 20 0 = h.1 5 0 ∧ y5.1 20 8 = h.1 5 8 ∧ y5.1 20 9 = h.1 5 9 ∧ y5.1 20 10 = h.1 5 10 ∧ y5.1 20 11 = h.1 5 11 := by
    rw [z5, z4, z3, z2, z1]
    exact ⟨rfl, rfl, rfl, rfl, rfl⟩
  have n20 : ∀ q k, (q < 21 ∨ 27 < q) → y12.1 q k = y5.1 q k := fun q k hq => by
    rw [z12, hc_ne (by omega), z11, hc_ne (by omega), z10, hc_ne (by omega), z9, hc_ne (by omega), z8, hc_ne (by omega), z7, hc_ne (by omega), z6, hc_ne (by omega)]
  have r0 : ∀ k, k < 7 → y12.1 21 k = h.1 6 k := fun k hk => by
    rw [z12, hc_ne (by omega), z11, hc_ne (by omega), z10, hc_ne (by omega), z9, hc_ne (by omega), z8, hc_ne (by omega), z7, hc_ne (by omega), z6, hc_at hk, f5.i (by omega)]
  have r1 : ∀ k, k < 7 → y12.1 22 k = h.1 7 k := fun k hk => by
    rw [z12, hc_ne (by omega), z11, hc_ne (by omega), z10, hc_ne (by omega), z9, hc_ne (by omega), z8, hc_ne (by omega), z7, hc_at hk, z6, hc_ne (by omega), f5.i (by omega)]
  have r2 : ∀ k, k < 7 → y12.1 23 k = h.1 8 k := fun k hk => by
    rw [z12, hc_ne (by omega), z11, hc_ne (by omega), z10, hc_ne (by omega), z9, hc_ne (by omega), z8, hc_at hk, z7, hc_ne (by omega), z6, hc_ne (by omega), f5.i (by omega)]
  have r3 : ∀ k, k < 7 → y12.1 24 k = h.1 9 k := fun k hk => by
    rw [z12, hc_ne (by omega), z11, hc_ne (by omega), z10, hc_ne (by omega), z9, hc_at hk, z8, hc_ne (by omega), z7, hc_ne (by omega), z6, hc_ne (by omega), f5.i (by omega)]
  have r4 : ∀ k, k < 7 → y12.1 25 k = h.1 10 k := fun k hk => by
    rw [z12, hc_ne (by omega), z11, hc_ne (by omega), z10, hc_at hk, z9, hc_ne (by omega), z8, hc_ne (by omega), z7, hc_ne (by omega), z6, hc_ne (by omega), f5.i (by omega)]
  have r5 : ∀ k, k < 7 → y12.1 26 k = h.1 11 k := fun k hk => by
    rw [z12, hc_ne (by omega), z11, hc_at hk, z10, hc_ne (by omega), z9, hc_ne (by omega), z8, hc_ne (by omega), z7, hc_ne (by omega), z6, hc_ne (by omega), f5.i (by omega)]
  have r6 : ∀ k, k < 49 → y12.1 27 k = h.1 12 k := fun k hk => by
    rw [z12, hc_at hk, z11, hc_ne (by omega), z10, hc_ne (by omega), z9, hc_ne (by omega), z8, hc_ne (by omega), z7, hc_ne (by omega), z6, hc_ne (by omega), f5.i (by omega)]
  have f12 : Fr (fun q _ => 20 ≤ q ∧ q ≤ 33) h y12 := by
    rw [z12, z11, z10, z9, z8, z7, z6]
    refine Fr.cp (Fr.cp (Fr.cp (Fr.cp (Fr.cp (Fr.cp (Fr.cp (f5.mono fun q k p => by omega) ?_) ?_) ?_) ?_) ?_) ?_) ?_ <;> intro k _ _ <;> omega
  refine cs_formCopy (o := 28) (p := 13) (a9.fr2 fun q k z => by rw [n20 _ _ (by omega), f5.i (by omega)]) d11.2 (by omega) fun u1 g1 c1 => cs_formCopy (o := 31) (p := 16) (a10.fr2 fun q k z => by rw [g1.i (by omega), n20 _ _ (by omega), f5.i (by omega)]) d12.2 (by omega) fun u2 g2 c2 => ?_
  have ex : ∀ q k, q < 28 → u2.1 q k = y12.1 q k := fun q k hq => by rw [g2.i (by omega), g1.i (by omega)]
  refine hq u2 ((f12.tr (g1.mono fun q k p => by omega)).tr (g2.mono fun q k p => by omega)) ⟨?_, fun cc hc k hk => ?_, fun a b ha hb => ?_, ?_, ?_, ?_, ?_, c1.fr2 fun q k z => g2.i (by omega), c2⟩
  · rw [ex _ _ (by omega), n20 _ _ (by omega), v5.1]; exact a1
  · rw [ex _ _ (by omega)]
    rcases (by omega : cc = 0 ∨ cc = 1 ∨ cc = 2 ∨ cc = 3 ∨ cc = 4 ∨ cc = 5) with rfl | rfl | rfl | rfl | rfl | rfl
    · rw [r0 k (by omega)]; exact a2 0 (by omega) k hk
    · rw [r1 k (by omega)]; exact a2 1 (by omega) k hk
    · rw [r2 k (by omega)]; exact a2 2 (by omega) k hk
    · rw [r3 k (by omega)]; exact a2 3 (by omega) k hk
    · rw [r4 k (by omega)]; exact a3 4 (by omega) k (by omega)
    · rw [r5 k (by omega)]; exact a3 5 (by omega) k (by omega)
  · rw [ex _ _ (by omega), r6 _ (by omega)]; exact a4 a b (by omega) (by omega)
  · rw [ex _ _ (by omega), n20 _ _ (by omega), v5.2.1]; exact a5
  · rw [ex _ _ (by omega), n20 _ _ (by omega), v5.2.2.1]; exact a6
  · rw [ex _ _ (by omega), n20 _ _ (by omega), v5.2.2.2.1]; exact a7
  · rw [ex _ _ (by omega), n20 _ _ (by omega), v5.2.2.2.2, d10]; exact a8
def PCw (q k : Nat) : Prop := PCc q k ∨ (q = 1 ∧ k = 1)
def PCg (q k : Nat) : Prop := PCw q k ∨ (20 ≤ q ∧ q ≤ 37) ∨ (q = 95 ∧ (k = 0 ∨ k = 1 ∨ k = 4 ∨ k = 6)) ∨ (q = 98 ∧ (k = 0 ∨ k = 12)) ∨ (q = 0 ∧ k = 11)
theorem cs_wedding {h : ob_H} {T : tx_T} {S0 : tx_S} {Q : Int32 → ob_H → Prop} (hT : TT h T) (hwd : WdsR h) (h0 : hdT S0 = tk T 0) (hS : Str T S0) (hl : S0.length ≤ 1601)
    (q0 : ∀ e h', pRead 1601 tx_0 S0 = .inl e → Fp PCw h h' → RsC h' e → h'.1 1 1 = 0 → Q (-1) h')
    (q1 : ∀ D h', pRead 1601 tx_0 S0 = .inr D → Fp PCg h h' → DI D → CW h' D.1 → CR h' D.1.1 34 (pu (bgn D.1) 23 (wv D.1 7 2)) → h'.1 4 1 = 0 → h'.1 4 2 = -1 → (h'.1 1 1 = 0 ∧ h'.1 95 0 = 0 ∧ h'.1 95 1 = 0 ∧ h'.1 95 4 = 0 ∧ h'.1 95 6 = 0 ∧ h'.1 98 0 = 0 ∧ h'.1 98 12 = 0 ∧ h'.1 0 11 = 0) → Q (nI D.1.1) h') : MX11_wedding h Q := by
  unfold MX11_wedding
  refine cs_read hT hwd h0 hS hl (fun e h1 he f1 r1 => Lt_i fun y z => br_t rfl (q0 e y he ?_ ?_ ?_)) (fun D h1 hD f1 c1 d1 e1 e2 => Lt_i fun y z => br_f (by decide) ?_)
  · refine Fp.tr (h1 := h1) (fun q k n => f1 q k fun p => n (Or.inl p)) (fun q k n => ?_)
    rw [z]
    refine ⟨?_, rfl⟩
    rw [h_i_1, if_neg (fun w => n (Or.inr w))]
  · obtain ⟨ra, rb⟩ := r1
    exact ⟨by rw [z, h_i_1, if_neg (by omega)]; exact ra, by rw [z, h_i_1, if_neg (by omega)]; exact rb⟩
  · rw [z, h_i_1, if_pos ⟨rfl, rfl⟩]
  have fy : Fr (fun q k => q = 1 ∧ k = 1) h1 y := by rw [z]; exact Fr.rf.st ⟨rfl, rfl⟩
  have cy : CD y D := c1.fr (fun q k z => fy.i (by unfold DX at z; omega)) (fun k => fy.l (by omega))
  refine cs_copyW cy d1 fun y2 f2 c2 => cs_begin (DI_WFW d1) c2 (by omega) fun y3 f3 c3 => ?_
  unfold MX1_forgetActs MX1_emptyBoxes MX9_forget
  refine Lt_i fun u1 w1 => Lt_i fun u2 w2 => Lt_i fun u3 w3 => Lt_i fun u4 w4 => Lt_i fun u5 w5 => Lt_i fun u6 w6 => Lt_i fun u7 w7 => ?_
  have f7 : Fr (fun q k => (q = 95 ∧ (k = 0 ∨ k = 1 ∨ k = 4 ∨ k = 6)) ∨ (q = 98 ∧ (k = 0 ∨ k = 12)) ∨ (q = 0 ∧ k = 11)) y3 u7 := by
    rw [w7, w6, w5, w4, w3, w2, w1]
    repeat (first | exact Fr.rf | refine Fr.st ?_ (by omega))
  have v7 : u7.1 95 0 = 0 ∧ u7.1 95 1 = 0 ∧ u7.1 95 4 = 0 ∧ u7.1 95 6 = 0 ∧ u7.1 98 0 = 0 ∧ u7.1 98 12 = 0 ∧ u7.1 0 11 = 0 := by
    rw [w7, w6, w5, w4, w3, w2, w1]
    exact ⟨rfl, rfl, rfl, rfl, rfl, rfl, rfl⟩
  have g : Fp PCg h u7 := by
    refine Fp.tr (h1 := h1) (fun q k n => f1 q k fun p => n (Or.inl (Or.inl p))) ?_
    refine (((fy.fp (P' := PCg) fun q k p => by unfold PCg PCw; omega).tr (f2.fp fun q k p => by unfold PCg; omega)).tr (f3.fp fun q k p => by unfold PCg; omega)).tr (f7.fp fun q k p => by unfold PCg; omega)
  have ev : ∀ q k, q < 20 → q ≠ 0 → u7.1 q k = y.1 q k := fun q k hq h0 => by rw [f7.i (by omega), f3.i (by omega), f2.i (by omega)]
  have c7 : CW u7 D.1 := (c2.fr f3 fun q k p => by omega).fr f7 fun q k p => by omega
  rw [c7.1]
  refine q1 D u7 hD g d1 c7 (c3.fr f7 fun q k p => by omega) ?_ ?_ ⟨?_, v7⟩
  · rw [ev _ _ (by omega) (by omega), fy.i (by omega)]; exact e1
  · rw [ev _ _ (by omega) (by omega), fy.i (by omega)]; exact e2
  · rw [ev _ _ (by omega) (by omega), z, h_i_1, if_pos ⟨rfl, rfl⟩]
