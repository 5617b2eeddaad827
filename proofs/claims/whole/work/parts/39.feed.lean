-- ===== feed, end =====
def shf : Nat → Int32
  | 0 => 24
  | 1 => 16
  | 2 => 8
  | 3 => 0
  | _ => -8
theorem shf_s : ∀ j, j < 4 → shf j + (-8) = shf (j + 1) ∧ ¬ shf j < 0 ∧ (shf j + 8).toNatClampNeg = 32 - 8 * j ∧ (shf (j + 1) + 8).toNatClampNeg = 32 - 8 * (j + 1) := by decide
theorem byte_eq (p : Int32) : ∀ j, j < 4 → ((ush p (shf j)).toInt8 = ((p >>> (shf j &&& 31)) &&& 255).toInt8) := by
  have key : ∀ (s : Nat) (a b : Int32), s ≤ 24 → a.toBitVec = p.toBitVec >>> s → b.toBitVec = p.toBitVec.sshiftRight s → a.toInt8 = (b &&& 255).toInt8 := by
    intro s a b hs ha hb
    apply Int8.toBitVec_inj.mp
    rw [Int32.toBitVec_toInt8, Int32.toBitVec_toInt8, Int32.toBitVec_and, ha, hb]
    apply BitVec.eq_of_getLsbD_eq
    intro i hi
    rw [BitVec.getLsbD_signExtend, BitVec.getLsbD_signExtend, BitVec.getLsbD_and, BitVec.getLsbD_ushiftRight, BitVec.getLsbD_sshiftRight]
    have h255 : ∀ i, i < 8 → (Int32.toBitVec 255).getLsbD i = true := by decide
    rw [h255 i hi]
    have h1 : ¬ 32 ≤ i := by omega
    have h2 : s + i < 32 := by omega
    have h3 : i < 32 := by omega
    simp [h1, h2, h3, hi]
  intro j hj
  have hj' : j = 0 ∨ j = 1 ∨ j = 2 ∨ j = 3 := by omega
  rcases hj' with rfl | rfl | rfl | rfl
  · exact key 24 _ _ (by omega) rfl rfl
  · exact key 16 _ _ (by omega) rfl rfl
  · exact key 8 _ _ (by omega) rfl rfl
  · exact key 0 _ _ (by omega) rfl rfl
theorem byte_ok (p : Int32) (j : Nat) (hj : j < 4) : ∃ v, v < 256 ∧ ((p >>> (shf j &&& 31)) &&& 255) = nI v ∧ (((ush p (shf j))).toInt8.toInt32).toInt8.toInt32 = (nI v).toInt8.toInt32 := by
  have e := byte_eq p j hj
  generalize hx : ((p >>> (shf j &&& 31)) &&& 255 : Int32) = x at e
  have hlt : x.toBitVec.toNat < 256 := by
    rw [← hx, Int32.toBitVec_and, BitVec.toNat_and]
    have : (Int32.toBitVec 255).toNat = 255 := by decide
    rw [this]
    exact Nat.lt_of_le_of_lt Nat.and_le_right (by omega)
  refine ⟨x.toBitVec.toNat, hlt, ?_, ?_⟩
  · apply Int32.toBitVec_inj.mp
    apply BitVec.eq_of_toNat_eq
    rw [pk_tn (by omega)]
  · have ex : x = nI x.toBitVec.toNat := by
      apply Int32.toBitVec_inj.mp
      apply BitVec.eq_of_toNat_eq
      rw [pk_tn (by omega)]
    rw [← ex, e]
    congr 1
    exact Int8.toInt8_toInt32 _
def TpW (q k : Nat) : Prop := q = 2 ∨ (q = 1 ∧ k = 1)
theorem cs_put {h : ob_H} {len : Nat} {p : Int32} {Q : ob_H → Prop} (hl : len + 4 ≤ 1600) (h1 : h.1 1 1 = nI len) (hq : ∀ h', Fr TpW h h' → h'.1 1 1 = nI (len + 4) → (∀ k, k < len → h'.1 2 k = h.1 2 k) → (∀ j, j < 4 → h'.1 2 (len + j) = (((ush p (shf j))).toInt8.toInt32).toInt8.toInt32) → Q h') : MX10_put p h Q := by
  unfold MX10_put
  refine lo2_i (fun x h' => ∃ j, j ≤ 4 ∧ x = shf j ∧ Fr TpW h h' ∧ h'.1 1 1 = nI (len + j) ∧ (∀ k, k < len → h'.1 2 k = h.1 2 k) ∧ ∀ i, i < j → h'.1 2 (len + i) = (((ush p (shf i))).toInt8.toInt32).toInt8.toInt32) (fun x _ => (x + 8).toNatClampNeg) ?_ ⟨0, by omega, rfl, Fr.rf, h1, fun _ _ => rfl, fun i hi => absurd hi (Nat.not_lt_zero _)⟩
  intro k x h' hI hk
  obtain ⟨j, hj, rfl, i1, i2, i3, i4⟩ := hI
  unfold FX10_put_3
  by_cases e : j = 4
  · subst e
    exact br_t (by decide) (hq h' i1 i2 i3 i4)
  · obtain ⟨s1, s2, s3, s4⟩ := shf_s j (by omega)
    rw [i2, show ix (nI (len + j)) = len + j from nI_clamp (by omega)]
    refine br_f s2 (br_f (nI_ge (b := 1600) (by omega) (by decide)) ⟨vp_in_nI (by omega) (by omega), Lt_i fun y1 z1 => ?_⟩)
    have e1 : y1.1 1 1 = nI (len + j) := by rw [z1, h_i_1, if_neg (by omega)]; exact i2
    rw [e1, nI_1]
    refine Lt_i fun y2 z2 => Lt_i fun v zv => hk v y2 ⟨j + 1, by omega, by rw [zv, s1], ?_, ?_, fun k hk => ?_, fun i hi => ?_⟩ ?_
    · rw [z2, z1]; exact (i1.st (by unfold TpW; omega)).st (by unfold TpW; omega)
    · rw [z2, h_i_1, if_pos ⟨rfl, rfl⟩]; rfl
    · rw [z2, h_i_1, if_neg (by omega), z1, h_i_1, if_neg (by omega)]; exact i3 k hk
    · rw [z2, h_i_1, if_neg (by omega), z1, h_i_1]
      by_cases e : i = j
      · subst e; rw [if_pos ⟨rfl, rfl⟩]
      · rw [if_neg (by omega)]; exact i4 i (by omega)
    · show (v + 8).toNatClampNeg < (shf j + 8).toNatClampNeg
      rw [zv, s1, s3, s4]
      omega
def TpR (q k : Nat) : Prop := q = 109 ∨ (q = 108 ∧ k = 1)
theorem rs_four {h : ob_H} {len : Nat} {p : Int32} {Q : ob_H → Prop} (hl : len + 4 ≤ 1600) (h1 : h.1 108 1 = nI len) (hq : ∀ h', Fr TpR h h' → h'.1 108 1 = nI (len + 4) → (∀ k, k < len → h'.1 109 k = h.1 109 k) → (∀ j, j < 4 → h'.1 109 (len + j) = ((p >>> (shf j &&& 31)) &&& 255)) → Q h') : MX12_four p h Q := by
  unfold MX12_four
  refine lo2_i (fun x h' => ∃ j, j ≤ 4 ∧ x = shf j ∧ Fr TpR h h' ∧ h'.1 108 1 = nI (len + j) ∧ (∀ k, k < len → h'.1 109 k = h.1 109 k) ∧ ∀ i, i < j → h'.1 109 (len + i) = ((p >>> (shf i &&& 31)) &&& 255)) (fun x _ => (x + 8).toNatClampNeg) ?_ ⟨0, by omega, rfl, Fr.rf, h1, fun _ _ => rfl, fun i hi => absurd hi (Nat.not_lt_zero _)⟩
  intro k x h' hI hk
  obtain ⟨j, hj, rfl, i1, i2, i3, i4⟩ := hI
  unfold FX12_four_3
  by_cases e : j = 4
  · subst e
    exact br_t (by decide) (hq h' i1 i2 i3 i4)
  · obtain ⟨s1, s2, s3, s4⟩ := shf_s j (by omega)
    rw [i2, show ix (nI (len + j)) = len + j from nI_clamp (by omega)]
    refine br_f s2 ⟨vp_in_nI (by omega) (by omega), Lt_i fun y1 z1 => ?_⟩
    have e1 : y1.1 108 1 = nI (len + j) := by rw [z1, h_i_1, if_neg (by omega)]; exact i2
    rw [e1, nI_1]
    refine Lt_i fun y2 z2 => Lt_i fun v zv => hk v y2 ⟨j + 1, by omega, by rw [zv, s1], ?_, ?_, fun k hk => ?_, fun i hi => ?_⟩ ?_
    · rw [z2, z1]; exact (i1.st (by unfold TpR; omega)).st (by unfold TpR; omega)
    · rw [z2, h_i_1, if_pos ⟨rfl, rfl⟩]; rfl
    · rw [z2, h_i_1, if_neg (by omega), z1, h_i_1, if_neg (by omega)]; exact i3 k hk
    · rw [z2, h_i_1, if_neg (by omega), z1, h_i_1]
      by_cases e : i = j
      · subst e; rw [if_pos ⟨rfl, rfl⟩]
      · rw [if_neg (by omega)]; exact i4 i (by omega)
    · show (v + 8).toNatClampNeg < (shf j + 8).toNatClampNeg
      rw [zv, s1, s3, s4]
      omega
/-- the tape alone has changed -/
theorem Rel.tape {B : Nat} {h h2 : ob_H} {w : ob_W} {r : ob_P} (c : Core B h w r) (d : Rest B h w) (f : Fr (fun q k => TpW q k ∨ TpR q k) h h2) (t : TapeR h2) : Rel (B + 60) h2 := by
  refine Rel.up (B := B) ⟨w, r, c.frx f (fun q k z p => by unfold CX at z; unfold TpW TpR at p; omega), ?_⟩ (by omega)
  obtain ⟨b1, b2, b3, b4, b5, b6, b7, b8, b9⟩ := d
  have e : ∀ q k, ¬ (TpW q k ∨ TpR q k) → h2.1 q k = h.1 q k := fun q k n => f.i n
  refine ⟨t, FaultR.fr b2 fun q k z => e q k (by unfold TpW TpR; omega), TimeR.fr b3 fun q k z => e q k (by unfold TpW TpR; omega), LyR.fr b4 fun q k z => e q k (by unfold TpW TpR; omega), ArcR.fr b5 fun q k z => e q k (by unfold TpW TpR; omega), BoxR.fr b6 fun q k z => e q k (by unfold TpW TpR; omega), SgR.fr b7 fun q k z => e q k (by unfold TpW TpR; omega), HrdR.fr b8 fun q k z => e q k (by unfold TpW TpR; omega), fun i hi => by rw [f.l (by unfold TpW TpR; omega)]; exact b9 i hi⟩
def fvJ (a b c d e : Int32) : Nat → Int32
  | 0 => a
  | 1 => b
  | 2 => c
  | 3 => d
  | _ => e
theorem op_feed {B : Nat} (a b c d e : Int32) : OK B (MX11_feed a b c d e) (MX12_feed a b c d e) := by
  intro h hr
  obtain ⟨w, r, cc, dd⟩ := hr
  have idle := Rel.idle cc dd
  obtain ⟨len, t1, t2, t3, t4⟩ : TapeR h := dd.1
  unfold MX11_feed
  rw [t2, show nI len + 20 = nI (len + 20) from nI_add len 20]
  refine br_c (fun hc => ?_) (fun hc => ?_)
  · have hle : len + 20 ≤ 1600 := (nI_leI (a := len + 20) (b := 1600) (by omega) (by omega)).mp hc
    refine cs_put (by omega) t2 fun h1 f1 u1 o1 p1 => cs_put (by omega) u1 fun h2 f2 u2 o2 p2 => cs_put (by omega) u2 fun h3 f3 u3 o3 p3 => cs_put (by omega) u3 fun h4 f4 u4 o4 p4 => cs_put (by omega) u4 fun h5 f5 u5 o5 p5 => ?_
    have f : Fr TpW h h5 := (((f1.tr f2).tr f3).tr f4).tr f5
    rw [u5]
    have g1 : h5.1 108 1 = nI len := by rw [f.i (by unfold TpW; omega)]; exact t3
    show MX12_feed a b c d e h5 _
    unfold MX12_feed
    rw [g1, show nI len + 20 = nI (len + 20) from nI_add len 20]
    refine br_t hc (rs_four (by omega) g1 fun k1 v1 w1 s1 r1 => rs_four (by omega) w1 fun k2 v2 w2 s2 r2 => rs_four (by omega) w2 fun k3 v3 w3 s3 r3 => rs_four (by omega) w3 fun k4 v4 w4 s4 r4 => rs_four (by omega) w4 fun k5 v5 w5 s5 r5 => ?_)
    have v : Fr TpR h5 k5 := (((v1.tr v2).tr v3).tr v4).tr v5
    rw [w5]
    refine ⟨rfl, Rel.tape cc dd ((f.mono fun q k p => Or.inl p).tr (v.mono fun q k p => Or.inr p)) ⟨len + 20, hle, ?_, w5, fun k hk => ?_⟩⟩
    · rw [v.i (by unfold TpR; omega)]; exact u5
    · have e2 : k5.1 2 k = h5.1 2 k := v.i (by unfold TpR; omega)
      rw [e2]
      by_cases q5 : len + 16 ≤ k
      · obtain ⟨j, hj, rfl⟩ : ∃ j, j < 4 ∧ k = len + 4 + 4 + 4 + 4 + j := ⟨k - (len + 16), by omega, by omega⟩
        rw [p5 j hj, r5 j hj]
        exact byte_ok e j hj
      · rw [o5 k (by omega), s5 k (by omega)]
        by_cases q4 : len + 12 ≤ k
        · obtain ⟨j, hj, rfl⟩ : ∃ j, j < 4 ∧ k = len + 4 + 4 + 4 + j := ⟨k - (len + 12), by omega, by omega⟩
          rw [p4 j hj, r4 j hj]
          exact byte_ok d j hj
        · rw [o4 k (by omega), s4 k (by omega)]
          by_cases q3 : len + 8 ≤ k
          · obtain ⟨j, hj, rfl⟩ : ∃ j, j < 4 ∧ k = len + 4 + 4 + j := ⟨k - (len + 8), by omega, by omega⟩
            rw [p3 j hj, r3 j hj]
            exact byte_ok c j hj
          · rw [o3 k (by omega), s3 k (by omega)]
            by_cases q2 : len + 4 ≤ k
            · obtain ⟨j, hj, rfl⟩ : ∃ j, j < 4 ∧ k = len + 4 + j := ⟨k - (len + 4), by omega, by omega⟩
              rw [p2 j hj, r2 j hj]
              exact byte_ok b j hj
            · rw [o2 k (by omega), s2 k (by omega)]
              by_cases q1 : len ≤ k
              · obtain ⟨j, hj, rfl⟩ : ∃ j, j < 4 ∧ k = len + j := ⟨k - len, by omega, by omega⟩
                rw [p1 j hj, r1 j hj]
                exact byte_ok a j hj
              · rw [o1 k (by omega), s1 k (by omega), f.i (by unfold TpW; omega)]
                exact t4 k (by omega)
  · show MX12_feed a b c d e h _
    unfold MX12_feed
    rw [t3, show nI len + 20 = nI (len + 20) from nI_add len 20]
    exact br_f hc ⟨rfl, idle⟩
theorem op_end {B : Nat} (p : Int32) : OK B (MX11_end p) (MX12_end p) := by
  intro h hr
  obtain ⟨w, r, cc, dd⟩ := hr
  have idle := Rel.idle cc dd
  obtain ⟨len, t1, t2, t3, t4⟩ : TapeR h := dd.1
  have no : (p < 0 ∨ ¬ p ≤ nI len) → MX12_end p h (fun r2 h2 => (-1 : Int32) = r2 ∧ Rel (B + 60) h2) := by
    intro z
    unfold MX12_end
    rw [t3]
    refine br_c (fun _ => ⟨rfl, idle⟩) (fun c0 => br_c (fun c1 => ?_) (fun _ => ⟨rfl, idle⟩))
    rcases z with z | z
    · exact absurd z c0
    · exact absurd c1 z
  unfold MX11_end
  rw [t2]
  refine br_c (fun c => no (Or.inl c)) (fun c0 => br_c (fun c1 => ?_) (fun c1 => no (Or.inr c1)))
  obtain ⟨hm, em⟩ := nI_rng (n := len) (Int32.not_lt.mp c0) c1 (by omega)
  generalize p.toNatClampNeg = m at *
  subst em
  refine Lt_i fun y1 z1 => ?_
  have g1 : y1.1 108 1 = nI len := by rw [z1, h_i_1, if_neg (by omega)]; exact t3
  show MX12_end (nI m) y1 _
  unfold MX12_end
  rw [g1]
  refine br_f c0 (br_t c1 (Lt_i fun y2 z2 => ⟨rfl, Rel.tape cc dd ?_ ⟨m, by omega, ?_, ?_, fun k hk => ?_⟩⟩))
  · rw [z2, z1]
    exact (Fr.rf.st (by unfold TpW; omega)).st (by unfold TpR; omega)
  · rw [z2, h_i_1, if_neg (by omega), z1, h_i_1, if_pos ⟨rfl, rfl⟩]
  · rw [z2, h_i_1, if_pos ⟨rfl, rfl⟩]
  · rw [z2, h_i_1, if_neg (by omega), h_i_1, if_neg (by omega), z1, h_i_1, if_neg (by omega), h_i_1, if_neg (by omega)]
    exact t4 k (by omega)
