-- ===== a wedding is told =====
def PV (q k : Nat) : Prop := PCw q k ∨ RQ1 q k
theorem WFP_bgn {w : ob_W} {v : Int32} {B : Nat} (hW : WFW w) : WFP w (pu (bgn w) 23 v) B := by
  have hn := hW.1
  have e : ∀ k, k ≠ 23 → pu (bgn w) 23 v k = bgn w k := fun k hk => by unfold pu; rw [if_neg hk]
  refine ⟨fun o ho => ?_, ⟨0, Nat.zero_le _, ?_⟩, fun o ho => ?_⟩
  · rw [e o (by omega)]
    unfold bgn
    rw [if_pos ho]
    by_cases c : bitI (wv w 7 0) o = true
    · rw [if_pos c]; exact ⟨6, by omega, rfl⟩
    · rw [if_neg c]; exact ⟨0, by omega, rfl⟩
  · rw [e 21 (by omega)]
    unfold bgn
    rw [if_neg (by omega), if_neg (by omega)]
    rfl
  · unfold lvs
    rw [e 21 (by omega), e (7 + o) (by omega)]
    have e1 : bgn w 21 = 0 := by unfold bgn; rw [if_neg (by omega), if_neg (by omega)]
    have e2 : bgn w (7 + o) = 0 := by unfold bgn; rw [if_neg (by omega), if_neg (by omega)]
    rw [e1, e2]
    have h0 := (hW.2.2.2.1 o ho).2.2.2.2.1
    have : ¬ wv w 2 o < (0 : Int32) - 0 := by
      intro z
      have z2 : wv w 2 o < 0 := z
      exact Int32.lt_irrefl (Int32.lt_of_lt_of_le z2 h0)
    rw [decide_eq_false this, Bool.and_false]
set_option maxHeartbeats 1000000 in
theorem op_wedding {B : Nat} : OK B MX11_wedding MX12_wedding := by
  intro h hr
  obtain ⟨w, r, core, rest⟩ := hr
  obtain ⟨b1, b2, b3, b4, b5, b6, b7, b8, b9⟩ := rest
  obtain ⟨len, t1, t2, t3, t4⟩ := b1
  have tv : ∀ k, k < len → (h.1 109 k).toNatClampNeg < 256 ∧ h.1 2 k = sb (h.1 109 k).toNatClampNeg ∧ h.1 109 k = nI (h.1 109 k).toNatClampNeg := by
    intro k hk
    obtain ⟨v, v1, v2, v3⟩ := t4 k hk
    rw [v2, nI_clamp (by omega)]
    exact ⟨v1, v3, rfl⟩
  obtain ⟨S0, s1, s2, s3⟩ := Str_ex (T := (len, fun k => (h.1 109 k).toNatClampNeg)) len 0 (Nat.sub_zero _) (Nat.zero_le _)
  have refT : ∀ h1 : ob_H, (∀ q k, q = 109 ∨ (q = 108 ∧ k = 1) → h1.1 q k = h.1 q k) → len ≤ 1600 ∧ h1.1 108 1 = nI len ∧ ∀ k, k < len → (h.1 109 k).toNatClampNeg < 256 ∧ h1.1 109 k = nI (h.1 109 k).toNatClampNeg := fun h1 e =>
    ⟨t1, by rw [e _ _ (by omega)]; exact t3, fun k hk => ⟨(tv k hk).1, by rw [e _ _ (by omega)]; exact (tv k hk).2.2⟩⟩
  refine cs_wedding (T := (len, fun k => (h.1 109 k).toNatClampNeg)) ⟨t1, t2, fun k hk => ⟨(tv k hk).1, (tv k hk).2.1⟩⟩ b9 s1 s2 (by omega) (fun e h1 he f1 c1 z1 => ?_) (fun D h1 hD f1 d cw cr c41 c42 zs => ?_)
  · refine rs_wedding (T := (len, fun k => (h.1 109 k).toNatClampNeg)) (refT h1 fun q k z => (f1 q k (by unfold PCw PCc; omega)).1) s1 s2 (by omega) (fun e' h2 he' f2 z2 r2 => ⟨rfl, ?_⟩) (fun D h2 hD f2 z2 d rw' nw x2 x3 zz => ?_)
    · have ee : e' = e := by rw [he] at he'; cases he'; rfl
      subst ee
      have f : Fr PV h (h2.1, h2.2.1, h.2.2) := ⟨fun q k n => ⟨(f2.i fun p => n (Or.inr p)).trans (f1 q k fun p => n (Or.inl p)).1, (f2.l fun p => n (Or.inr p)).trans (f1 q k fun p => n (Or.inl p)).2⟩, rfl⟩
      have ev : ∀ q k, ¬ PV q k → h2.1 q k = h.1 q k := fun q k n => f.i n
      obtain ⟨k1, k2, k3, k4, k5, k6⟩ := core
      have hP : ∀ q k, PV q k → (q = 1 ∨ (4 ≤ q ∧ q ≤ 19)) ∨ (q = 108 ∧ (k ≤ 9 ∨ (20 ≤ k ∧ k ≤ 25 ∧ k ≠ 23) ∨ (41 ≤ k ∧ k ≤ 47) ∨ k = 51 ∨ k = 52)) ∨ (110 ≤ q ∧ q ≤ 113) ∨ q = 117 ∨ q = 119 ∨ (121 ≤ q ∧ q ≤ 127) := fun q k p => by unfold PV PCw PCc RQ1 RQ at p; omega
      have no : ∀ q k, ¬ ((q = 1 ∨ (4 ≤ q ∧ q ≤ 19)) ∨ (q = 108 ∧ (k ≤ 9 ∨ (20 ≤ k ∧ k ≤ 25 ∧ k ≠ 23) ∨ (41 ≤ k ∧ k ≤ 47) ∨ k = 51 ∨ k = 52)) ∨ (110 ≤ q ∧ q ≤ 113) ∨ q = 117 ∨ q = 119 ∨ (121 ≤ q ∧ q ≤ 127)) → h2.1 q k = h.1 q k := fun q k n => ev q k fun p => n (hP q k p)
      have C2 : Core B (h2.1, h2.2.1, h.2.2) w r := ⟨k1, k2, k3.fr f fun q k p => by have := hP q k p; omega, k4.fr k1.1 f fun q k p => by have := hP q k p; omega, k5.fr f fun q k p => by have := hP q k p; omega, fun k hk => by rw [f.i fun p => by have := hP _ _ p; omega]; exact k6 k hk⟩
      have C3 : Core B h2 w r := C2
      refine ⟨w, r, C3.up (by omega), ?_⟩
      have R3 : Rest B h2 w := by
        refine ⟨⟨0, by omega, ?_, z2, fun k hk => absurd hk (Nat.not_lt_zero _)⟩, ⟨?_, ?_⟩, b3.fr fun q k z => no q k (by omega), b4.fr fun q k z => no q k (by omega), b5.fr fun q k z => no q k (by omega), b6.fr fun q k z => no q k (by omega), b7.fr fun q k z => no q k (by omega), b8.fr fun q k z => no q k (by omega), fun i hi => ?_⟩
        · rw [f2.i (by unfold RQ1 RQ; omega)]; exact z1
        · rw [f2.i (by unfold RQ1 RQ; omega), c1.1, r2.2.1]
        · rw [f2.i (by unfold RQ1 RQ; omega), c1.2, r2.2.2]
        · rw [f2.l (by unfold RQ1 RQ; omega), (f1 3 i (by unfold PCw PCc; omega)).2]; exact b9 i hi
      exact R3.up (by omega)
    · rw [he] at hD; cases hD
  · refine rs_wedding (T := (len, fun k => (h.1 109 k).toNatClampNeg)) (refT h1 fun q k z => (f1 q k (by unfold PCg PCw PCc; omega)).1) s1 s2 (by omega) (fun e' h2 he' f2 z2 r2 => ?_) (fun D' h2 hD' f2 z2 d' rw' nw x2 x3 zz => ?_)
    · rw [hD] at he'; cases he'
    · have ee : D' = D := by rw [hD] at hD'; cases hD'; rfl
      subst ee
      obtain ⟨y1, y2, y3, y4, y5, y6, y7, y8⟩ := zs
      obtain ⟨u1, u2, u3, u4, u5⟩ := zz
      have hG : ∀ q k, RG q k → q = 108 ∨ (110 ≤ q ∧ q ≤ 117) ∨ q = 119 ∨ (121 ≤ q ∧ q ≤ 136) ∨ q = 150 := fun q k p => by unfold RG RQ1 RQ at p; omega
      have e2 : ∀ q k, q < 108 → h2.1 q k = h1.1 q k := fun q k hq => f2.i fun p => by have := hG q k p; omega
      have hW := DI_WFW d
      refine ⟨rfl, D'.1, pu (bgn D'.1) 23 (wv D'.1 7 2), ⟨hW, WFP_bgn hW, cw.fr f2 fun q k p => by have := hG q k p; omega, rw', cr.fr f2 fun q k p => by have := hG q k p; omega, nw⟩, ⟨0, by omega, ?_, z2, fun k hk => absurd hk (Nat.not_lt_zero _)⟩, ⟨?_, ?_⟩, ?_, ⟨0, by omega, ?_, u4, fun k hk => absurd hk (Nat.not_lt_zero _)⟩, ?_, ?_, ⟨0, by omega, ?_, u3, fun k hk => absurd hk (Nat.not_lt_zero _)⟩, Or.inl ?_, fun i hi => ?_⟩
      · rw [e2 _ _ (by omega)]; exact y1
      · rw [e2 _ _ (by omega), c41, x2]
      · rw [e2 _ _ (by omega), c42, x3]
      · refine b3.fr fun q k z => ?_
        rcases z with ⟨rfl, rfl⟩ | ⟨rfl, rfl⟩
        · rw [e2 _ _ (by omega)]; exact (f1 _ _ (by unfold PCg PCw PCc; omega)).1
        · rw [f2.i (by unfold RG RQ1 RQ; omega)]; exact (f1 _ _ (by unfold PCg PCw PCc; omega)).1
      · rw [e2 _ _ (by omega)]; exact y8
      · refine ⟨[], [], 0, by omega, by simp, ?_, ?_, ?_, u1, u2, fun i r hi => by simp at hi, fun i r hi => by simp at hi, fun hne => absurd rfl hne⟩
        · rw [e2 _ _ (by omega)]; exact y2
        · rw [e2 _ _ (by omega)]; exact y3
        · rw [e2 _ _ (by omega)]; exact y4
      · refine ⟨0, by omega, by rw [e2 _ _ (by omega)]; exact y5, fun b hb => ?_⟩
        rw [Nat.zero_testBit, if_neg (by decide)]
        exact u5 b hb
      · rw [e2 _ _ (by omega)]; exact y6
      · rw [e2 _ _ (by omega)]; exact y7
      · rw [f2.l (by unfold RG RQ1 RQ; omega), (f1 3 i (by unfold PCg PCw PCc; omega)).2]; exact b9 i hi
