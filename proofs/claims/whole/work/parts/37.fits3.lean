-- ===== fits, sure, ask: the operations =====
/-- what the class writes for them -/
def AkC (n q k : Nat) : Prop := MkW n q k ∨ (q = 98 ∧ (k = 2 ∨ k = 3)) ∨ q = 106
theorem Rel.fit {B : Nat} {h h1 h2 : ob_H} {w : ob_W} {r : ob_P} (c : Core B h w r) (d : Rest B h w) (h0 : 0 < w.1) (f1 : Fr (AkC w.1) h h1) (e21 : h1.1 21 (w.1 - 1) = h.1 21 (w.1 - 1)) (e12 : h1.1 98 12 = 1) (hd : Hrd1 h1 w) (f2 : Fr (LkW w.1) h1 h2) (e128 : h2.1 128 (w.1 - 1) = h1.1 128 (w.1 - 1)) : Rel (B + 60) h2 := by
  have f : Fr (fun q k => AkC w.1 q k ∨ LkW w.1 q k) h h2 := (f1.mono fun q k p => Or.inl p).tr (f2.mono fun q k p => Or.inr p)
  have x21 : h2.1 21 (w.1 - 1) = h.1 21 (w.1 - 1) := by rw [f2.i (by unfold LkW SR; omega)]; exact e21
  have x128 : h2.1 128 (w.1 - 1) = h.1 128 (w.1 - 1) := by rw [e128, f1.i (by unfold AkC MkW HW CG; omega)]
  have hc : Core B (h2.1, h.2) w r := c.frx (P := fun q k => h2.1 q k ≠ h.1 q k) ⟨fun q k n => ⟨Decidable.not_not.mp n, rfl⟩, rfl⟩ fun q k z p => by
    apply p
    by_cases z1 : q = 21 ∧ k = w.1 - 1
    · rw [z1.1, z1.2]; exact x21
    · by_cases z2 : q = 128 ∧ k = w.1 - 1
      · rw [z2.1, z2.2]; exact x128
      · refine f.i fun y => ?_
        unfold CX at z
        unfold AkC MkW HW CG LkW SR at y
        omega
  have hc2 : Core B h2 w r := hc
  have hx : ∀ q k, RX q k → ¬ ((q = 98 ∧ k = 12) ∨ q = 104) → h2.1 q k = h.1 q k := fun q k z y => f.i fun p => by
    have z := RX_q z
    unfold AkC MkW HW CG LkW SR at p
    omega
  refine Rel.up (B := B) ⟨w, r, hc2, ?_⟩ (by omega)
  obtain ⟨b1, b2, b3, b4, b5, b6, b7, b8, b9⟩ := d
  refine ⟨TapeR.fr b1 fun q k z => hx q k (Or.inl z) (by omega), FaultR.fr b2 fun q k z => hx q k (Or.inr (Or.inl z)) (by omega), TimeR.fr b3 fun q k z => hx q k (Or.inr (Or.inr (Or.inl z))) (by omega), LyR.fr b4 fun q k z => hx q k (Or.inr (Or.inr (Or.inr (Or.inl z)))) (by omega), ArcR.fr b5 fun q k z => hx q k (Or.inr (Or.inr (Or.inr (Or.inr (Or.inl z))))) (by omega), BoxR.fr b6 fun q k z => hx q k (Or.inr (Or.inr (Or.inr (Or.inr (Or.inr (Or.inl z)))))) (by omega), SgR.fr b7 fun q k z => hx q k (Or.inr (Or.inr (Or.inr (Or.inr (Or.inr (Or.inr (Or.inl z))))))) (by omega), ?_, fun i hi => by rw [f.l (by unfold AkC MkW HW CG LkW SR; omega)]; exact b9 i hi⟩
  right
  refine ⟨by rw [f2.i (by unfold LkW SR; omega)]; exact e12, h0, fun g hg p hp => ?_⟩
  rw [f2.i (by unfold LkW SR; omega), hd g hg p hp]
  unfold hdI
  cases hdA w (nI g) p <;> rfl
theorem SgE.rf {h : ob_H} : SgE h h := ⟨⟨rfl, rfl⟩, fun _ _ _ => rfl⟩
theorem SgE.ak {h h1 : ob_H} {n : Nat} (f : Fr (AkC n) h h1) : SgE h h1 := ⟨⟨f.i (by unfold AkC MkW HW CG; omega), f.i (by unfold AkC MkW HW CG; omega)⟩, fun q k z => f.i (by unfold AkC MkW HW CG; omega)⟩
theorem RW.ak {h h1 : ob_H} {w : ob_W} {n : Nat} (hn7 : w.1 ≤ 7) (a : RW h w) (f : Fr (AkC n) h h1) : RW h1 w := a.fr hn7 f fun q k p => by unfold AkC MkW HW CG at p; omega
theorem op_fits {B : Nat} (p : Int32) : OK B (MX11_fits p) (MX12_fits p) := by
  intro h hr
  obtain ⟨w, r, c, d⟩ := hr
  have idle := Rel.idle c d
  have hW := c.1
  unfold MX11_fits
  refine cs_mark hW c.2.2.1 d.2.2.2.2.2.2.1 d.2.2.2.2.2.2.2.1 (fun e => ?_) (fun h0 h1 f1 e21 e12 fc => ?_)
  · show MX12_fits p h _
    unfold MX12_fits
    exact rs_layFits hW c.2.2.2.1 d.2.2.2.2.2.2.1 SgE.rf (fun _ => ⟨rfl, idle⟩) (fun z => absurd e (by omega))
  · have f1' : Fr (AkC w.1) h h1 := f1.mono fun q k p => Or.inl p
    show MX12_fits p h1 _
    unfold MX12_fits
    exact rs_layFits hW (c.2.2.2.1.ak hW.1 f1') d.2.2.2.2.2.2.1 (SgE.ak f1') (fun z => absurd z (by omega)) (fun _ h2 f2 e128 _ => ⟨rfl, Rel.fit c d h0 f1' e21 e12 fc.1 f2 e128⟩)
theorem cnt_some {f : Nat → Bool} : ∀ {n}, cnt f n ≠ 0 → ∃ g, g < n ∧ f g = true
  | 0, h => absurd rfl h
  | n + 1, h => by
    cases hf : f n with
    | true => exact ⟨n, by omega, hf⟩
    | false =>
      rw [cnt, hf] at h
      obtain ⟨g, h1, h2⟩ := cnt_some (f := f) (n := n) (by simpa using h)
      exact ⟨g, by omega, h2⟩
def Least (f : Nat → Bool) (g : Nat) : Prop := g < 100 ∧ f g = true ∧ ∀ k, k < g → f k = false
def Most (f : Nat → Bool) (g : Nat) : Prop := g < 100 ∧ f g = true ∧ ∀ k, g < k → k < 100 → f k = false
theorem Least.one {f : Nat → Bool} {a b : Nat} (h1 : Least f a) (h2 : Least f b) : a = b := by
  rcases Nat.lt_trichotomy a b with h | h | h
  · have := h2.2.2 a h; rw [h1.2.1] at this; exact absurd this (by decide)
  · exact h
  · have := h1.2.2 b h; rw [h2.2.1] at this; exact absurd this (by decide)
theorem Most.one {f : Nat → Bool} {a b : Nat} (h1 : Most f a) (h2 : Most f b) : a = b := by
  rcases Nat.lt_trichotomy a b with h | h | h
  · have := h1.2.2 b h h2.1; rw [h2.2.1] at this; exact absurd this (by decide)
  · exact h
  · have := h2.2.2 a h h1.1; rw [h1.2.1] at this; exact absurd this (by decide)
theorem cs_leastFitting {h : ob_H} {f : Nat → Bool} {Q : Int32 → Prop} (hf : ∀ g, g < 100 → h.1 105 g = tru (f g)) (hne : ∃ g, g < 100 ∧ f g = true) (hq : ∀ g, Least f g → Q (nI g)) : MX9_leastFitting h Q := by
  unfold MX9_leastFitting
  refine lo1c1 100 (by omega) (fun j => ∀ k, k < j → f k = false) ?_ ?_ 0 (Nat.zero_le _) (fun k hk => absurd hk (Nat.not_lt_zero _))
  · intro k1 j hj hI hk
    unfold FX9_leastFitting_2
    rw [show ix (nI j) = j from nI_clamp (by omega), hf j hj]
    refine br_f (nI_ge (b := 100) hj (by decide)) ⟨vp_in_nI (by omega) (by omega), ?_⟩
    cases hz : f j with
    | true => exact br_f (by decide) (hq j ⟨hj, hz, hI⟩)
    | false =>
      refine br_t rfl (Lt_eq (nI_1 _) (hk fun k h1 => ?_))
      by_cases e : k = j
      · rw [e]; exact hz
      · exact hI k (by omega)
  · intro k1 hI
    obtain ⟨g, h1, h2⟩ := hne
    have := hI g h1
    rw [h2] at this
    exact absurd this (by decide)
theorem cs_greatestFitting {h : ob_H} {f : Nat → Bool} {Q : Int32 → Prop} (hf : ∀ g, g < 100 → h.1 105 g = tru (f g)) (hne : ∃ g, g < 100 ∧ f g = true) (hq : ∀ g, Most f g → Q (nI g)) : MX9_greatestFitting h Q := by
  unfold MX9_greatestFitting
  refine lo1_i (fun x => ∃ j, j ≤ 100 ∧ x = nI j - 1 ∧ ∀ k, j ≤ k → k < 100 → f k = false) (fun x => (x + 1).toNatClampNeg) ?_ ⟨100, Nat.le_refl _, by decide, fun k h1 h2 => absurd h2 (by omega)⟩
  intro k1 x hI hk
  obtain ⟨j, hj, rfl, hI⟩ := hI
  cases j with
  | zero =>
    obtain ⟨g, h1, h2⟩ := hne
    have := hI g (Nat.zero_le _) h1
    rw [h2] at this
    exact absurd this (by decide)
  | succ m =>
    have e : nI (m + 1) - 1 = nI m := nI_pred m
    unfold FX9_greatestFitting_3
    rw [e, show ix (nI m) = m from nI_clamp (by omega), hf m (by omega)]
    refine br_f (nI_pos (by omega)) ⟨vp_in_nI (by omega) (by omega), ?_⟩
    cases hz : f m with
    | true => exact br_f (by decide) (hq m ⟨by omega, hz, fun k h1 h2 => hI k (by omega) h2⟩)
    | false =>
      refine br_t rfl (Lt_i fun v zv => hk v ⟨m, by omega, by rw [zv, Int32.sub_eq_add_neg], fun k h1 h2 => ?_⟩ ?_)
      · by_cases e : k = m
        · rw [e]; exact hz
        · exact hI k (by omega) h2
      · rw [zv, show nI m + (-1 : Int32) + 1 = nI m by rw [Int32.add_assoc]; simp, Int32.sub_add_cancel, nI_clamp (by omega), nI_clamp (by omega)]
        omega
theorem rs_sureLoop {h : ob_H} {f : Nat → Bool} {p : Int32} {Q : Int32 → ob_H → Prop} (hp : p = 0 ∨ p = 1) (hf : ∀ g, g < 100 → h.1 149 g = tru (f g)) (hne : ∃ g, g < 100 ∧ f g = true) (q0 : p = 0 → ∀ g, Least f g → Q (nI g) h) (q1 : p = 1 → ∀ g, Most f g → Q (nI g) h) : lo2 (FX12_sure_24 p h Q) (-1) (0) := by
  refine lo2c2 100 (by omega) (fun j x => (x = -1 ∧ ∀ k, k < j → f k = false) ∨ (∃ g, g < j ∧ x = nI g ∧ f g = true ∧ ((p = 0 ∧ ∀ k, k < g → f k = false) ∨ (p = 1 ∧ ∀ k, g < k → k < j → f k = false)))) ?_ ?_ 0 (Nat.zero_le _) _ (Or.inl ⟨rfl, fun k hk => absurd hk (Nat.not_lt_zero _)⟩)
  · intro k1 j x hj hI hk
    unfold FX12_sure_24
    rw [show ix (nI j) = j from nI_clamp (by omega), hf j hj]
    refine br_f (by rw [show (99 : Int32) = nI 99 from rfl, nI_lt2 (by omega) (by omega)]; omega) ⟨vp_in_nI (by omega) (by omega), ?_⟩
    cases hz : f j with
    | false =>
      refine br_t rfl (Lt_eq (nI_1 _) (hk _ ?_))
      rcases hI with ⟨rfl, hI⟩ | ⟨g, g1, rfl, g3, g4⟩
      · refine Or.inl ⟨rfl, fun k h1 => ?_⟩
        by_cases e : k = j
        · rw [e]; exact hz
        · exact hI k (by omega)
      · refine Or.inr ⟨g, by omega, rfl, g3, ?_⟩
        rcases g4 with g4 | ⟨g4, g5⟩
        · exact Or.inl g4
        · refine Or.inr ⟨g4, fun k h1 h2 => ?_⟩
          by_cases e : k = j
          · rw [e]; exact hz
          · exact g5 k h1 (by omega)
    | true =>
      refine br_f (by decide) ?_
      rcases hI with ⟨rfl, hI⟩ | ⟨g, g1, rfl, g3, g4⟩
      · refine br_t (by decide) (Lt_eq (nI_1 _) (hk _ (Or.inr ⟨j, by omega, rfl, hz, ?_⟩)))
        rcases hp with e | e
        · exact Or.inl ⟨e, hI⟩
        · exact Or.inr ⟨e, fun k h1 h2 => absurd h2 (by omega)⟩
      · refine br_f (nI_pos (by omega)) (br_c (fun c => Lt_eq (nI_1 _) (hk _ (Or.inr ⟨j, by omega, rfl, hz, Or.inr ⟨c, fun k h1 h2 => absurd h2 (by omega)⟩⟩))) (fun c => Lt_eq (nI_1 _) (hk _ (Or.inr ⟨g, by omega, rfl, g3, ?_⟩))))
        rcases g4 with g4 | ⟨g4, g5⟩
        · exact Or.inl g4
        · exact absurd g4 c
  · intro k1 x hI
    unfold FX12_sure_24
    refine br_t (by decide) ?_
    rcases hI with ⟨rfl, hI⟩ | ⟨g, g1, rfl, g3, g4⟩
    · obtain ⟨g, h1, h2⟩ := hne
      have := hI g h1
      rw [h2] at this
      exact absurd this (by decide)
    · rcases g4 with ⟨e, g5⟩ | ⟨e, g5⟩
      · exact q0 e g ⟨g1, g3, g5⟩
      · exact q1 e g ⟨g1, g3, g5⟩
theorem p01 {p : Int32} (h0 : ¬ p < 0) (h1 : ¬ (1 : Int32) < p) : p = 0 ∨ p = 1 := by
  obtain ⟨a, b⟩ := nI_rng (n := 1) (Int32.not_lt.mp h0) (Int32.not_lt.mp h1) (by decide)
  rw [b]
  have : p.toNatClampNeg = 0 ∨ p.toNatClampNeg = 1 := by omega
  rcases this with e | e <;> rw [e] <;> decide
theorem op_sure {B : Nat} (p q : Int32) : OK B (MX11_sure p q) (MX12_sure p q) := by
  intro h hr
  obtain ⟨w, r, c, d⟩ := hr
  have idle := Rel.idle c d
  have hW := c.1
  have no : (p < 0 ∨ (1 : Int32) < p) → MX12_sure p q h (fun r2 h2 => (-1 : Int32) = r2 ∧ Rel (B + 60) h2) := by
    intro z
    unfold MX12_sure
    exact rs_isIn (fun a b => absurd z (by rintro (y | y); exact a y; exact b y)) (fun _ => br_t rfl ⟨rfl, idle⟩)
  unfold MX11_sure
  refine br_c (fun c => no (Or.inl c)) (fun c0 => br_c (fun c => no (Or.inr c)) (fun c1 => ?_))
  refine cs_mark hW c.2.2.1 d.2.2.2.2.2.2.1 d.2.2.2.2.2.2.2.1 (fun e => br_t rfl ?_) (fun h0 h1 f1 e21 e12 fc => ?_)
  · show MX12_sure p q h _
    unfold MX12_sure
    exact rs_isIn (fun a b => br_f (by decide) (rs_layFits hW c.2.2.2.1 d.2.2.2.2.2.2.1 SgE.rf (fun _ => br_t rfl ⟨rfl, idle⟩) (fun z => absurd e (by omega)))) (fun _ => br_t rfl ⟨rfl, idle⟩)
  · have f1' : Fr (AkC w.1) h h1 := f1.mono fun q k p => Or.inl p
    have ref : ∀ Q : Int32 → ob_H → Prop, (cnt (fitS h w q) 100 = 0 → ∀ h2, Rel (B + 60) h2 → Q (-1) h2) → (cnt (fitS h w q) 100 ≠ 0 → ∀ h2, Rel (B + 60) h2 → (p = 0 → ∀ g, Least (fitS h w q) g → Q (nI g) h2) ∧ (p = 1 → ∀ g, Most (fitS h w q) g → Q (nI g) h2)) → MX12_sure p q h1 Q := by
      intro Q q0 q1
      unfold MX12_sure
      refine rs_isIn (fun a b => br_f (by decide) (rs_layFits hW (c.2.2.2.1.ak hW.1 f1') d.2.2.2.2.2.2.1 (SgE.ak f1') (fun z => absurd z (by omega)) (fun _ h2 f2 e128 fr => ?_))) (fun z => absurd z (by rintro (y | y); exact c0 y; exact c1 y))
      have rel := Rel.fit c d h0 f1' e21 e12 fc.1 f2 e128
      have hle := cnt_le (fitS h w q) 100
      refine br_c (fun cz => q0 ((nI_eq (b := 0) (by omega) (by omega)).mp cz) h2 rel) (fun cz => ?_)
      have hne : cnt (fitS h w q) 100 ≠ 0 := fun e => cz (by rw [e]; rfl)
      exact rs_sureLoop (p01 c0 c1) fr.2 (cnt_some hne) (q1 hne h2 rel).1 (q1 hne h2 rel).2
    have hle := cnt_le (fitS h w q) 100
    refine br_c (fun cz => ?_) (fun cz => ?_)
    · have e0 : cnt (fitS h w q) 100 = 0 := (nI_eq (b := 0) (by omega) (by omega)).mp cz
      exact ref _ (fun _ h2 rel => ⟨rfl, rel⟩) (fun z => absurd e0 z)
    · have hne : cnt (fitS h w q) 100 ≠ 0 := fun e => cz (by rw [e]; rfl)
      refine br_c (fun cp => cs_leastFitting fc.2 (cnt_some hne) fun g hg => ref _ (fun z => absurd z hne) (fun _ h2 rel => ⟨fun _ g' hg' => ⟨by rw [hg.one hg'], rel⟩, fun z => by rw [cp] at z; exact absurd z (by decide)⟩)) (fun cp => cs_greatestFitting fc.2 (cnt_some hne) fun g hg => ref _ (fun z => absurd z hne) (fun _ h2 rel => ⟨fun z => absurd z cp, fun _ g' hg' => ⟨by rw [hg.one hg'], rel⟩⟩))
