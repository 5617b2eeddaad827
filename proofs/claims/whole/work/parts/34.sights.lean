-- ===== what is seen =====
theorem Rest.sg {B : Nat} {h h2 : ob_H} {w : ob_W} {r : ob_P} {P : Nat → Nat → Prop} (c : Core B h w r) (d : Rest B h w) (f : Fr P h h2) (hP : ∀ q k, P q k → SX q k ∨ (q = 98 ∧ (k = 0 ∨ k = 1)) ∨ (99 ≤ q ∧ q ≤ 103) ∨ (q = 108 ∧ (k = 70 ∨ k = 71)) ∨ (143 ≤ q ∧ q ≤ 147)) (s : SgR h2 w) (t : TimeR h2) : Rel (B + 60) h2 := by
  have hx : ∀ q k, RX q k → (¬ (q = 98 ∧ (k = 0 ∨ k = 1)) ∧ ¬ (99 ≤ q ∧ q ≤ 103) ∧ ¬ (q = 108 ∧ (k = 70 ∨ k = 71)) ∧ ¬ (143 ≤ q ∧ q ≤ 147)) → h2.1 q k = h.1 q k := fun q k z y => f.i (fun p => by
    have s := SX_RX q k z
    rcases hP q k p with p | p | p | p | p
    · exact s p
    · exact y.1 p
    · exact y.2.1 p
    · exact y.2.2.1 p
    · exact y.2.2.2 p)
  refine Rel.up (B := B) ⟨w, r, c.frx f (fun q k z p => ?_), ?_⟩ (by omega)
  · unfold CX at z
    rcases hP q k p with p | p | p | p | p
    · unfold SX SC SR at p; omega
    all_goals omega
  · obtain ⟨b1, b2, b3, b4, b5, b6, b7, b8, b9⟩ := d
    have e3 : ∀ i, h2.2.1 3 i = h.2.1 3 i := fun i => f.l fun p => by
      rcases hP 3 i p with p | p | p | p | p
      · unfold SX SC SR at p; omega
      all_goals omega
    refine ⟨TapeR.fr b1 fun q k z => hx q k (Or.inl z) (by omega), FaultR.fr b2 fun q k z => hx q k (Or.inr (Or.inl z)) (by omega), t, LyR.fr b4 fun q k z => hx q k (Or.inr (Or.inr (Or.inr (Or.inl z)))) (by omega), ArcR.fr b5 fun q k z => hx q k (Or.inr (Or.inr (Or.inr (Or.inr (Or.inl z))))) (by omega), BoxR.fr b6 fun q k z => hx q k (Or.inr (Or.inr (Or.inr (Or.inr (Or.inr (Or.inl z)))))) (by omega), s, HrdR.fr b8 fun q k z => hx q k (Or.inr (Or.inr (Or.inr (Or.inr (Or.inr (Or.inr (Or.inr (Or.inl z)))))))) (by omega), fun i hi => by rw [e3]; exact b9 i hi⟩
theorem op_later {B : Nat} (p : Int32) : OK B (MX11_later p) (MX12_later p) := by
  intro h hr
  obtain ⟨w, r, c, d⟩ := hr
  have idle := Rel.idle c d
  obtain ⟨t, t1, t2, t3⟩ : TimeR h := d.2.2.1
  have no : (p < 0 ∨ (1000 : Int32) < p ∨ ¬ nI t + p ≤ 100000) → MX12_later p h (fun r2 h2 => (-1 : Int32) = r2 ∧ Rel (B + 60) h2) := by
    intro z
    unfold MX12_later
    rw [t3]
    refine br_c (fun _ => ⟨rfl, idle⟩) (fun z0 => br_c (fun _ => ⟨rfl, idle⟩) (fun z3 => br_c (fun z4 => ?_) (fun _ => ⟨rfl, idle⟩)))
    rcases z with y | y | y
    · exact absurd y z0
    · exact absurd y z3
    · exact absurd z4 y
  unfold MX11_later MX9_passTime
  rw [t2]
  refine br_c (fun c => no (Or.inl c)) (fun c0 => br_c (fun c1 => no (Or.inr (Or.inl c1))) (fun c1 => br_c (fun c2 => ?_) (fun c2 => no (Or.inr (Or.inr c2)))))
  obtain ⟨hm, em⟩ := nI_rng (n := 1000) (Int32.not_lt.mp c0) (Int32.not_lt.mp c1) (by decide)
  generalize p.toNatClampNeg = m at *
  subst em
  rw [nI_add]
  refine Lt_i fun y1 z1 => ?_
  rw [nI_add] at c2
  have hle : t + m ≤ 100000 := (nI_leI (a := t + m) (b := 100000) (by omega) (by omega)).mp c2
  have e1 : y1.1 98 1 = nI (t + m) := by rw [z1, h_i_1, if_pos ⟨rfl, rfl⟩]
  show MX12_later (nI m) y1 (fun r2 h2 => y1.1 98 1 = r2 ∧ Rel (B + 60) h2)
  rw [e1]
  have e71 : y1.1 108 71 = nI t := by rw [z1, h_i_1, if_neg (by omega)]; exact t3
  unfold MX12_later
  rw [e71, nI_add]
  refine br_f c0 (br_f c1 (br_t c2 (Lt_i fun y2 z2 => ?_)))
  have e2 : y2.1 108 71 = nI (t + m) := by rw [z2, h_i_1, if_pos ⟨rfl, rfl⟩]
  show nI (t + m) = y2.1 108 71 ∧ Rel (B + 60) y2
  have f : Fr (fun q k => (q = 98 ∧ k = 1) ∨ (q = 108 ∧ k = 71)) h y2 := by
    rw [z2, z1]
    exact (Fr.rf.st (by omega)).st (by omega)
  refine ⟨e2.symm, Rest.sg c d f (fun q k p => by omega) (SgR.fr d.2.2.2.2.2.2.1 fun q k z => f.i (by omega)) ⟨t + m, hle, ?_, e2⟩⟩
  rw [z2, h_i_1, if_neg (by omega)]
  exact e1
theorem op_untell {B : Nat} (p : Int32) : OK B (MX11_untell p) (MX12_untell p) := by
  intro h hr
  obtain ⟨w, r, c, d⟩ := hr
  have idle := Rel.idle c d
  obtain ⟨n, s1, s2, s3, s4⟩ : SgR h w := d.2.2.2.2.2.2.1
  obtain ⟨t, t1, t2, t3⟩ : TimeR h := d.2.2.1
  have no : (p < 0 ∨ nI n ≤ p) → MX12_untell p h (fun r2 h2 => (0 : Int32) = r2 ∧ Rel (B + 60) h2) := by
    intro z
    unfold MX12_untell
    rw [s3]
    refine rs_isIn (fun a b => ?_) (fun _ => br_t rfl ⟨rfl, idle⟩)
    rcases z with y | y
    · exact absurd y a
    · exfalso
      apply b
      rw [Int32.lt_iff_toInt_lt]
      rw [Int32.le_iff_toInt_le, nI_toInt (by omega)] at y
      rcases Nat.eq_zero_or_pos n with rfl | hp
      · rw [show (nI 0 - 1 : Int32).toInt = -1 by decide]
        have := Int32.not_lt.mp a
        rw [Int32.le_iff_toInt_le, show (0 : Int32).toInt = 0 by decide] at this
        omega
      · rw [show nI n - 1 = nI (n - 1) from nI_sub (b := 1) hp, nI_toInt (by omega)]
        omega
  unfold MX11_untell MX9_takeBack
  rw [s2]
  refine br_c (fun c => no (Or.inl c)) (fun c0 => br_c (fun c1 => no (Or.inr c1)) (fun c1 => ?_))
  obtain ⟨i, hi, rfl⟩ : ∃ i, i < n ∧ p = nI i := by
    rcases pk_ix p (n := n) (by omega) with y | y | y
    · exact absurd y c0
    · exact absurd y c1
    · exact y
  obtain ⟨P, o, q1, q2, q3, q4, q5, q6, q7, q8, q9, q10, q11⟩ := s4 i hi
  have ei : ix (nI i) = i := nI_clamp (by omega)
  rw [ei, q11]
  have go : ∀ h1, h1.1 108 70 = nI n → h1.1 146 i = h.1 146 i → ∀ Q : Int32 → ob_H → Prop, ((h.1 146 i < 0 → Lt (h_i h1 146 i (h1.1 108 71)) fun h13 => Q 1 h13) ∧ (¬ h.1 146 i < 0 → Q 0 h1)) → MX12_untell (nI i) h1 Q := by
    intro h1 e1 e2 Q hq
    unfold MX12_untell
    rw [e1]
    refine rs_isIn (fun a b => br_f (by decide) ⟨vp_in_nI (by omega) (by omega), ?_⟩) (fun z => ?_)
    · rw [ei, e2]
      exact hq
    · exfalso
      rcases z with y | y
      · exact c0 y
      · rw [show nI n - 1 = nI (n - 1) from nI_sub (b := 1) (by omega)] at y
        have := (nI_ltI (a := n - 1) (b := i) (by omega) (by omega)).mp y
        omega
  refine ⟨vp_in_nI (by omega) (by omega), br_c (fun cz => Lt_i fun y1 z1 => ?_) (fun cz => go h s3 rfl _ (br_f cz ⟨rfl, idle⟩))⟩
  refine go y1 (by rw [z1, h_i_1, if_neg (by omega)]; exact s3) (by rw [z1, h_i_1, if_neg (by omega)]) _ (br_t cz (Lt_i fun y2 z2 => ?_))
  rw [t2] at z1
  have e71 : y1.1 108 71 = nI t := by rw [z1, h_i_1, if_neg (by omega)]; exact t3
  rw [e71] at z2
  have f : Fr (fun q k => q = 103 ∨ q = 146) h y2 := by
    rw [z2, z1]
    exact (Fr.rf.st (by omega)).st (by omega)
  refine ⟨rfl, Rest.sg c d f (fun q k p => by omega) ⟨n, s1, by rw [f.i (by omega)]; exact s2, by rw [f.i (by omega)]; exact s3, fun j hj => ?_⟩ (TimeR.fr d.2.2.1 fun q k z => f.i (by omega))⟩
  rw [f.i (q := 143) (by omega), f.i (q := 144) (by omega), f.i (q := 145) (by omega), f.i (q := 147) (by omega), f.i (q := 99) (by omega), f.i (q := 100) (by omega), f.i (q := 101) (by omega), f.i (q := 102) (by omega)]
  obtain ⟨P, o, q1, q2, q3, q4, q5, q6, q7, q8, q9, q10, q11⟩ := s4 j hj
  refine ⟨P, o, q1, q2, q3, q4, q5, q6, q7, q8, q9, q10, ?_⟩
  rw [z2, h_i_1, h_i_1, z1, h_i_1, h_i_1]
  by_cases e : j = i
  · rw [if_neg (by omega), if_pos ⟨rfl, e⟩, if_pos ⟨rfl, e⟩]
  · rw [if_neg (by omega), if_neg (by omega), if_neg (by omega), if_neg (by omega)]
    exact q11
theorem op_seen {B : Nat} (p q s : Int32) (hs : s = 0 ∨ s = 1) : OK B (MX11_seen p q s) (MX12_seen p q s) := by
  intro h hr
  obtain ⟨w, r, c, d⟩ := hr
  have idle := Rel.idle c d
  have hn7 := c.1.1
  obtain ⟨n, s1, s2, s3, s4⟩ : SgR h w := d.2.2.2.2.2.2.1
  obtain ⟨t, t1, t2, t3⟩ : TimeR h := d.2.2.1
  have hnar : vp_nar .boolean s = s := by rcases hs with rfl | rfl <;> decide
  have no : (p < 1 ∨ (7 : Int32) < p ∨ ¬ (∃ o, o < w.1 ∧ q = nI o) ∨ n = 30) → MX12_seen p q s h (fun r2 h2 => (-1 : Int32) = r2 ∧ Rel (B + 60) h2) := by
    intro z
    unfold MX12_seen
    rw [s3]
    refine rs_isIn (fun a b => br_f (by decide) ?_) (fun _ => br_t rfl ⟨rfl, idle⟩)
    refine rs_isOne hn7 c.2.2.2.1.1 (fun y => br_f (by decide) ?_) (fun _ => br_t rfl ⟨rfl, idle⟩)
    rcases z with z | z | z | z
    · exact absurd z a
    · exact absurd z b
    · exact absurd y z
    · exact br_t (by rw [z]; rfl) ⟨rfl, idle⟩
  unfold MX11_seen
  refine br_c (fun c1 => ?_) (fun c1 => br_c (fun c7 => ?_) (fun c7 => cs_isTold hn7 c.2.2.1.1 (fun hq => br_f (by decide) ?_) (fun hq => br_t rfl ?_)))
  · unfold KX11_seen_24
    exact br_t rfl (no (Or.inl c1))
  · unfold KX11_seen_24
    exact br_t rfl (no (Or.inr (Or.inl c7)))
  · unfold KX11_seen_24 MX9_tell
    rw [s2]
    refine br_f (by decide) (br_c (fun c30 => ?_) (fun c30 => no (Or.inr (Or.inr (Or.inr ?_)))))
    · have hn30 : n < 30 := (nI_ltI (a := n) (b := 30) (by omega) (by omega)).mp c30
      obtain ⟨o, ho, rfl⟩ := hq
      obtain ⟨hm, em⟩ := nI_rng (n := 7) (Int32.le_trans (by decide) (Int32.not_lt.mp c1)) (Int32.not_lt.mp c7) (by decide)
      have hm1 : 1 ≤ p.toNatClampNeg := by
        rw [em] at c1
        apply Classical.byContradiction
        intro z
        have : p.toNatClampNeg = 0 := by omega
        rw [this] at c1
        exact c1 (by decide)
      generalize p.toNatClampNeg = m at *
      subst em
      rw [show ix (nI n) = n from nI_clamp (by omega), hnar]
      have bn : vp_in (nI n) 30 := vp_in_nI (by omega) (by omega)
      refine ⟨bn, Lt_i fun y1 z1 => ?_⟩
      have e1 : y1.1 98 0 = nI n := by rw [z1, h_i_1, if_neg (by omega)]; exact s2
      rw [e1, show ix (nI n) = n from nI_clamp (by omega)]
      refine ⟨bn, Lt_i fun y2 z2 => ?_⟩
      have e2 : y2.1 98 0 = nI n := by rw [z2, h_i_1, if_neg (by omega)]; exact e1
      rw [e2, show ix (nI n) = n from nI_clamp (by omega)]
      refine ⟨bn, Lt_i fun y3 z3 => ?_⟩
      have e3 : y3.1 98 0 = nI n := by rw [z3, h_i_1, if_neg (by omega)]; exact e2
      have t3' : y3.1 98 1 = nI t := by rw [z3, h_i_1, if_neg (by omega), z2, h_i_1, if_neg (by omega), z1, h_i_1, if_neg (by omega)]; exact t2
      rw [e3, t3', show ix (nI n) = n from nI_clamp (by omega)]
      refine ⟨bn, Lt_i fun y4 z4 => ?_⟩
      have e4 : y4.1 98 0 = nI n := by rw [z4, h_i_1, if_neg (by omega)]; exact e3
      rw [e4, show ix (nI n) = n from nI_clamp (by omega)]
      refine ⟨bn, Lt_i fun y5 z5 => ?_⟩
      have e5 : y5.1 98 0 = nI n := by rw [z5, h_i_1, if_neg (by omega)]; exact e4
      rw [e5, show nI n + 1 = nI (n + 1) from nI_add n 1]
      refine Lt_i fun y6 z6 => ?_
      have e6 : y6.1 98 0 = nI (n + 1) := by rw [z6, h_i_1, if_pos ⟨rfl, rfl⟩]
      rw [e6, show nI (n + 1) - 1 = nI n from nI_pred n]
      have f6 : Fr (fun q k => (q = 98 ∧ k = 0) ∨ (99 ≤ q ∧ q ≤ 103)) h y6 := by
        rw [z6, z5, z4, z3, z2, z1]
        refine Fr.st (Fr.st (Fr.st (Fr.st (Fr.st (Fr.st Fr.rf ?_) ?_) ?_) ?_) ?_) ?_ <;> omega
      have g70 : y6.1 108 70 = nI n := by rw [f6.i (by omega)]; exact s3
      have g71 : y6.1 108 71 = nI t := by rw [f6.i (by omega)]; exact t3
      show MX12_seen (nI m) (nI o) s y6 (fun r2 h2 => nI n = r2 ∧ Rel (B + 60) h2)
      unfold MX12_seen
      rw [g70, hnar, show ix (nI n) = n from nI_clamp (by omega)]
      refine rs_isIn (fun _ _ => br_f (by decide) (rs_isOne hn7 (n := w.1) (by rw [f6.i (by omega)]; exact c.2.2.2.1.1) (fun _ => br_f (by decide) (br_f ?_ ⟨bn, Lt_i fun x1 v1 => ?_⟩)) (fun z => absurd ⟨o, ho, rfl⟩ z))) (fun z => absurd z (by rintro (y | y); exact c1 y; exact c7 y))
      · intro z
        have := (nI_eq (a := n) (b := 30) (by omega) (by omega)).mp z
        omega
      have d1 : x1.1 108 70 = nI n := by rw [v1, h_i_1, if_neg (by omega)]; exact g70
      rw [d1, show ix (nI n) = n from nI_clamp (by omega)]
      refine ⟨bn, Lt_i fun x2 v2 => ?_⟩
      have d2 : x2.1 108 70 = nI n := by rw [v2, h_i_1, if_neg (by omega)]; exact d1
      rw [d2, show ix (nI n) = n from nI_clamp (by omega)]
      refine ⟨bn, Lt_i fun x3 v3 => ?_⟩
      have d3 : x3.1 108 70 = nI n := by rw [v3, h_i_1, if_neg (by omega)]; exact d2
      have d71 : x3.1 108 71 = nI t := by rw [v3, h_i_1, if_neg (by omega), v2, h_i_1, if_neg (by omega), v1, h_i_1, if_neg (by omega)]; exact g71
      rw [d3, d71, show ix (nI n) = n from nI_clamp (by omega)]
      refine ⟨bn, Lt_i fun x4 v4 => ?_⟩
      have d4 : x4.1 108 70 = nI n := by rw [v4, h_i_1, if_neg (by omega)]; exact d3
      rw [d4, show ix (nI n) = n from nI_clamp (by omega)]
      refine ⟨bn, Lt_i fun x5 v5 => ?_⟩
      have d5 : x5.1 108 70 = nI n := by rw [v5, h_i_1, if_neg (by omega)]; exact d4
      rw [d5, show nI n + 1 = nI (n + 1) from nI_add n 1]
      refine Lt_i fun x6 v6 => ?_
      have d6 : x6.1 108 70 = nI (n + 1) := by rw [v6, h_i_1, if_pos ⟨rfl, rfl⟩]
      rw [d6, show nI (n + 1) - 1 = nI n from nI_pred n]
      have f7 : Fr (fun q k => (q = 108 ∧ k = 70) ∨ (143 ≤ q ∧ q ≤ 147)) y6 x6 := by
        rw [v6, v5, v4, v3, v2, v1]
        refine Fr.st (Fr.st (Fr.st (Fr.st (Fr.st (Fr.st Fr.rf ?_) ?_) ?_) ?_) ?_) ?_ <;> omega
      have f : Fr (fun q k => (q = 98 ∧ k = 0) ∨ (99 ≤ q ∧ q ≤ 103) ∨ (q = 108 ∧ k = 70) ∨ (143 ≤ q ∧ q ≤ 147)) h x6 := (f6.mono fun q k p => by omega).tr (f7.mono fun q k p => by omega)
      refine ⟨rfl, Rest.sg c d f (fun q k p => by omega) ⟨n + 1, by omega, ?_, d6, fun j hj => ?_⟩ (TimeR.fr d.2.2.1 fun q k z => f.i (by omega))⟩
      · rw [f7.i (by omega)]; exact e6
      have c99 : x6.1 99 j = if j = n then nI m - 1 else h.1 99 j := by
        by_cases e : j = n
        · rw [f7.i (by omega), z6, h_i_1, if_neg (by omega), z5, h_i_1, if_neg (by omega), z4, h_i_1, if_neg (by omega), z3, h_i_1, if_neg (by omega), z2, h_i_1, if_neg (by omega), z1, h_i_1, if_pos ⟨rfl, e⟩, if_pos e]
        · rw [f7.i (by omega), z6, h_i_1, if_neg (by omega), z5, h_i_1, if_neg (by omega), z4, h_i_1, if_neg (by omega), z3, h_i_1, if_neg (by omega), z2, h_i_1, if_neg (by omega), z1, h_i_1, if_neg (by omega), if_neg e]
      have c100 : x6.1 100 j = if j = n then nI o else h.1 100 j := by
        by_cases e : j = n
        · rw [f7.i (by omega), z6, h_i_1, if_neg (by omega), z5, h_i_1, if_neg (by omega), z4, h_i_1, if_neg (by omega), z3, h_i_1, if_neg (by omega), z2, h_i_1, if_pos ⟨rfl, e⟩, if_pos e]
        · rw [f7.i (by omega), z6, h_i_1, if_neg (by omega), z5, h_i_1, if_neg (by omega), z4, h_i_1, if_neg (by omega), z3, h_i_1, if_neg (by omega), z2, h_i_1, if_neg (by omega), z1, h_i_1, if_neg (by omega), if_neg e]
      have c101 : x6.1 101 j = if j = n then s else h.1 101 j := by
        by_cases e : j = n
        · rw [f7.i (by omega), z6, h_i_1, if_neg (by omega), z5, h_i_1, if_neg (by omega), z4, h_i_1, if_neg (by omega), z3, h_i_1, if_pos ⟨rfl, e⟩, if_pos e]
        · rw [f7.i (by omega), z6, h_i_1, if_neg (by omega), z5, h_i_1, if_neg (by omega), z4, h_i_1, if_neg (by omega), z3, h_i_1, if_neg (by omega), z2, h_i_1, if_neg (by omega), z1, h_i_1, if_neg (by omega), if_neg e]
      have c102 : x6.1 102 j = if j = n then nI t else h.1 102 j := by
        by_cases e : j = n
        · rw [f7.i (by omega), z6, h_i_1, if_neg (by omega), z5, h_i_1, if_neg (by omega), z4, h_i_1, if_pos ⟨rfl, e⟩, if_pos e]
        · rw [f7.i (by omega), z6, h_i_1, if_neg (by omega), z5, h_i_1, if_neg (by omega), z4, h_i_1, if_neg (by omega), z3, h_i_1, if_neg (by omega), z2, h_i_1, if_neg (by omega), z1, h_i_1, if_neg (by omega), if_neg e]
      have c103 : x6.1 103 j = if j = n then -1 else h.1 103 j := by
        by_cases e : j = n
        · rw [f7.i (by omega), z6, h_i_1, if_neg (by omega), z5, h_i_1, if_pos ⟨rfl, e⟩, if_pos e]
        · rw [f7.i (by omega), z6, h_i_1, if_neg (by omega), z5, h_i_1, if_neg (by omega), z4, h_i_1, if_neg (by omega), z3, h_i_1, if_neg (by omega), z2, h_i_1, if_neg (by omega), z1, h_i_1, if_neg (by omega), if_neg e]
      have c143 : x6.1 143 j = if j = n then nI m else h.1 143 j := by
        by_cases e : j = n
        · rw [v6, h_i_1, if_neg (by omega), v5, h_i_1, if_neg (by omega), v4, h_i_1, if_neg (by omega), v3, h_i_1, if_neg (by omega), v2, h_i_1, if_neg (by omega), v1, h_i_1, if_pos ⟨rfl, e⟩, if_pos e]
        · rw [v6, h_i_1, if_neg (by omega), v5, h_i_1, if_neg (by omega), v4, h_i_1, if_neg (by omega), v3, h_i_1, if_neg (by omega), v2, h_i_1, if_neg (by omega), v1, h_i_1, if_neg (by omega), f6.i (by omega), if_neg e]
      have c144 : x6.1 144 j = if j = n then nI o else h.1 144 j := by
        by_cases e : j = n
        · rw [v6, h_i_1, if_neg (by omega), v5, h_i_1, if_neg (by omega), v4, h_i_1, if_neg (by omega), v3, h_i_1, if_neg (by omega), v2, h_i_1, if_pos ⟨rfl, e⟩, if_pos e]
        · rw [v6, h_i_1, if_neg (by omega), v5, h_i_1, if_neg (by omega), v4, h_i_1, if_neg (by omega), v3, h_i_1, if_neg (by omega), v2, h_i_1, if_neg (by omega), v1, h_i_1, if_neg (by omega), f6.i (by omega), if_neg e]
      have c147 : x6.1 147 j = if j = n then s else h.1 147 j := by
        by_cases e : j = n
        · rw [v6, h_i_1, if_neg (by omega), v5, h_i_1, if_neg (by omega), v4, h_i_1, if_neg (by omega), v3, h_i_1, if_pos ⟨rfl, e⟩, if_pos e]
        · rw [v6, h_i_1, if_neg (by omega), v5, h_i_1, if_neg (by omega), v4, h_i_1, if_neg (by omega), v3, h_i_1, if_neg (by omega), v2, h_i_1, if_neg (by omega), v1, h_i_1, if_neg (by omega), f6.i (by omega), if_neg e]
      have c145 : x6.1 145 j = if j = n then nI t else h.1 145 j := by
        by_cases e : j = n
        · rw [v6, h_i_1, if_neg (by omega), v5, h_i_1, if_neg (by omega), v4, h_i_1, if_pos ⟨rfl, e⟩, if_pos e]
        · rw [v6, h_i_1, if_neg (by omega), v5, h_i_1, if_neg (by omega), v4, h_i_1, if_neg (by omega), v3, h_i_1, if_neg (by omega), v2, h_i_1, if_neg (by omega), v1, h_i_1, if_neg (by omega), f6.i (by omega), if_neg e]
      have c146 : x6.1 146 j = if j = n then -1 else h.1 146 j := by
        by_cases e : j = n
        · rw [v6, h_i_1, if_neg (by omega), v5, h_i_1, if_pos ⟨rfl, e⟩, if_pos e]
        · rw [v6, h_i_1, if_neg (by omega), v5, h_i_1, if_neg (by omega), v4, h_i_1, if_neg (by omega), v3, h_i_1, if_neg (by omega), v2, h_i_1, if_neg (by omega), v1, h_i_1, if_neg (by omega), f6.i (by omega), if_neg e]
      rw [c99, c100, c101, c102, c103, c143, c144, c145, c146, c147]
      by_cases e : j = n
      · simp only [if_pos e]
        refine ⟨m, o, hm1, hm, ho, ?_, nI_sub (b := 1) hm1, ?_, ?_, ?_, hs, ?_, ?_⟩ <;> first | trivial | rfl
      · simp only [if_neg e]
        exact s4 j (by omega)
    · apply Classical.byContradiction
      intro z
      exact c30 ((nI_ltI (a := n) (b := 30) (by omega) (by omega)).mpr (by omega))
  · unfold KX11_seen_24
    exact br_t rfl (no (Or.inr (Or.inr (Or.inl hq))))
