-- ===== the class reads =====
theorem flag4 : ∀ i, i < 4 → ∀ m, m < 16 → ((nI m &&& ((1 : Int32) <<< ((nI (113 + i) - 113) &&& 31))) = 0 ↔ m.testBit i = false) ∧ (nI m ||| ((1 : Int32) <<< ((nI (113 + i) - 113) &&& 31))) = nI (m ||| 2 ^ i) := by decide +kernel
def setL (D : tx_D) (i : Nat) : tx_D := (D.1, D.2.1, (fun j => if j = i then true else D.2.2.1 j), D.2.2.2)
theorem mk_set {p : Nat → Bool} {i : Nat} (hi : i < 4) : mk (fun j => if j = i then true else p j) 4 = mk p 4 ||| 2 ^ i := by
  apply Nat.eq_of_testBit_eq
  intro j
  rw [mk_bit, Nat.testBit_or, mk_bit, Nat.testBit_two_pow]
  by_cases e : j = i
  · subst e; simp [hi]
  · have : decide (i = j) = false := decide_eq_false fun z => e z.symm
    rw [if_neg e, this, Bool.or_false]
theorem DI_setL {D : tx_D} {i : Nat} (d : DI D) (hi : i < 4) : DI (setL D i) := by
  obtain ⟨d1, d2, d3, d4, d5, d6, d7, d8, d9, d10, d11, d12, d13, d14, d15, d16, d17, d18, d19⟩ := d
  have eg : ∀ j, (setL D i).2.2.1 j = if j = i then true else D.2.2.1 j := fun _ => rfl
  refine ⟨d1, d2, d3, d4, d5, d6, d7, d8, d9, d10, d11, d12, d13, d14, ?_, ?_, d17, d18, d19⟩
  · rw [eg]
    by_cases e : 0 = i
    · rw [if_pos e]; intro z; exact absurd z (by decide)
    · rw [if_neg e]; exact d15
  · rw [eg]
    by_cases e : 1 = i
    · rw [if_pos e]; intro z; exact absurd z (by decide)
    · rw [if_neg e]; exact d16
theorem cl_once {h : ob_H} {T : tx_T} {S : tx_S} {D : tx_D} {i : Nat} {α : Type} {Q : Int32 → ob_H → Prop} (cl : CL h T S D) (hi : i < 4) (hk : kdT S = 113 + i) (q0 : ∀ e h', D.2.2.1 i = true → badT (α := α) S 2 = .inl e → Fp PCc h h' → RsC h' e → Q 0 h')
    (q1 : ∀ h', D.2.2.1 i = false → Fp PCc h h' → CL h' T S.tail (setL D i) → Q 1 h') : MX5_beginOnce h Q := by
  have hm := mk_lt D.2.2.1 4
  obtain ⟨f1, f2⟩ := flag4 i hi (mk D.2.2.1 4) (by omega)
  unfold MX5_beginOnce
  rw [cl.1.k, hk, cl.2.1.2.2.2.2.2.2.2.2.2.2.2.1]
  refine Lt_i fun v zv => ?_
  subst zv
  rw [f2]
  have hb : (mk D.2.2.1 4).testBit i = D.2.2.1 i := by rw [mk_bit]; simp [hi]
  refine br_c (fun cc => Lt_i fun y z => ?_) (fun cc => ?_)
  · have hfl : D.2.2.1 i = false := by rw [← hb]; exact f1.mp cc
    have fy : Fr (fun q k => q = 4 ∧ k = 5) h y := by rw [z]; exact Fr.rf.st ⟨rfl, rfl⟩
    have cy : CL y T S (setL D i) := by
      refine ⟨cl.1.fr fy fun q k p => by omega, ?_, DI_setL cl.2.2 hi⟩
      obtain ⟨a1, a2, a3, a4, a5, a6, a7, a8, a9, a10, a11, a12, a13⟩ := cl.2.1
      refine ⟨by rw [fy.i (by omega)]; exact a1, fun c' hc' k hk => by rw [fy.i (by omega)]; exact a2 c' hc' k hk, fun c' hc' k hk => by rw [fy.i (by omega)]; exact a3 c' hc' k hk, fun x y hx hy => by rw [fy.i (by omega)]; exact a4 x y hx hy, by rw [fy.i (by omega)]; exact a5, by rw [fy.i (by omega)]; exact a6, by rw [fy.i (by omega)]; exact a7, by rw [fy.i (by omega)]; exact a8, a9.fr2 fun q k z => fy.i (by omega), a10.fr2 fun q k z => fy.i (by omega), fun k l hl => by rw [fy.l (by omega)]; exact a11 k l hl, ?_, by rw [fy.i (by omega)]; exact a13⟩
      rw [z, h_i_1, if_pos ⟨rfl, rfl⟩, ← mk_set hi]
      rfl
    exact cl_next cy (by omega) fun h' f' e' c' => q1 h' hfl ((fy.fp fun q k p => by unfold PCc; omega).tr f') c'
  · have hfl : D.2.2.1 i = true := by
      rw [← hb]
      cases hz : (mk D.2.2.1 4).testBit i with
      | true => rfl
      | false => exact absurd (f1.mpr hz) cc
    exact cl_bad (α := α) cl.1 fun e h' he f' r' => q0 e h' hfl he f' r'
theorem cl_form {h : ob_H} {T : tx_T} {S : tx_S} {D : tx_D} {i : Nat} {Q : Int32 → ob_H → Prop} (hi : i < 2) (cl : CL h T S D) (hk : kdT S = 113 + i) (q0 : ∀ e h', pForm i D S = .inl e → Fp PCc h h' → RsC h' e → Q 0 h')
    (q1 : ∀ x h', pForm i D S = .inr x → Fp PCc h h' → CL h' T x.2 x.1 → Q 1 h') : MX5_readFormula (13 + 3 * i) h Q := by
  have hf : 13 + 3 * i = 13 ∨ 13 + 3 * i = 16 := by omega
  have hA : A4 (13 + 3 * i) := by
    rcases hf with e | e
    · rw [e]; exact AA4_13
    · rw [e]; exact AA4_16
  unfold MX5_readFormula
  unfold pForm at q0 q1
  refine cl_once (α := tx_D × tx_S) cl (by omega) hk (fun e h' hfl he f' r' => br_t rfl (q0 e h' (by rw [if_pos hfl]; exact he) f' r')) (fun h2 hfl f2 c2 => br_f (by decide) (Lt_i fun y z => ?_))
  rw [if_neg (by rw [hfl]; decide)] at q0 q1
  have y1 : y.1 = h2.1 := by rw [z]; rfl
  have y2 : y.2.1 = h2.2.1 := by rw [z]; rfl
  have y3 : y.2.2 = 13 + 3 * i := by rw [z]; rfl
  rw [y3]
  refine ⟨hA, ?_⟩
  unfold MX4_clear
  refine Lt_i fun w zw => Lt_i fun x zx => ?_
  have fx : Fr (fun q k => (q = 13 + 3 * i ∧ k = 1) ∨ (q = 4 ∧ k = 11)) y x := by rw [zx, zw]; exact (Fr.rf.st (by omega)).st (by omega)
  have cy : CS y T S.tail := by
    have := c2.1
    unfold CS TT WdsF WdsR CT at this ⊢
    rw [y1, y2]
    exact this
  have cdy : CD y (setL D i) := by
    have := c2.2.1
    unfold CD CF at this ⊢
    rw [y1, y2]
    exact this
  have d9 := c2.2.2.2.2.2.2.2.2.2.2.1
  have fs : FS x T (13 + 3 * i) (S.tail, 0, D.2.2.2.2.2.2) [] := by
    refine ⟨cy.fr fx fun q k p => by omega, fx.2.trans y3, ?_, ?_, ⟨?_, fun k hk => absurd hk (Nat.not_lt_zero _)⟩, Nat.zero_le _, Nat.zero_le _, d9⟩
    · rw [zx, h_i_1, if_pos ⟨rfl, rfl⟩]; rfl
    · rw [fx.i (by omega)]; exact cdy.2.2.2.2.2.2.2.1
    · rw [zx, h_i_1, if_neg (by omega), zw, h_i_1, if_pos ⟨rfl, rfl⟩]; rfl
  have gx : Fp PCc h x := (f2.tr (fun q k n => ⟨by rw [y1], by rw [y2]⟩ : Fp PCc h2 y)).tr (fx.fp fun q k p => by unfold PCc; omega)
  have FCP : ∀ q k, FC (13 + 3 * i) q k → PCc q k := fun q k p => by unfold FC TkC at p; unfold PCc; omega
  refine cs_part hf 120 0 0 (S.tail, 0, D.2.2.2.2.2.2) [] x _ (by omega) (by omega) (by omega) fs (fun e h' he f' r' => br_t rfl (q0 e h' (by rw [he]) (gx.tr (f'.fp FCP)) r')) (fun r h' hr f' g' => br_f (by decide) ?_)
  rw [hr] at q0 q1
  simp only at q0 q1
  obtain ⟨w1, w2, w3, w4⟩ := pE_wf c2.1.2.2.1.sok hr
  obtain ⟨s1, s2, s3, s4, s5, s6, s7, s8⟩ := g'
  have e0 : ∀ q k, DX q k → ¬ (q = 5 ∧ k = 11) → ¬ (q = 13 + 3 * i ∧ k = 1) → q ≠ 13 + 3 * i + 1 → h'.1 q k = y.1 q k := fun q k hx n1 n2 n3 => by
    rw [f'.i (by unfold FC TkC; unfold DX at hx; omega), fx.i (by unfold DX at hx; omega)]
  have e19 : ∀ k, h'.2.1 19 k = y.2.1 19 k := fun k => by rw [f'.l (by unfold FC TkC; omega), fx.l (by omega)]
  have ch : CL h' T r.2.1 (setF D i r.1 r.2.2.2) := by
    refine ⟨s1, ?_, DI_setF cl.2.2 hi w1 w2 w4⟩
    obtain ⟨a1, a2, a3, a4, a5, a6, a7, a8, a9, a10, a11, a12, a13⟩ := cdy
    have en : ∀ c k, ¬ (c = 7 ∧ k = 3) → wv (setF D i r.1 r.2.2.2).1 c k = wv D.1 c k := fun c k h => by rw [setF_at, if_neg h]
    have ef : ∀ j, (setF D i r.1 r.2.2.2).1.2.2 j = if j = i then r.1 else D.1.2.2 j := fun _ => rfl
    rw [List.nil_append] at s5
    have hi' : i = 0 ∨ i = 1 := by omega
    refine ⟨by rw [e0 _ _ (by unfold DX; omega) (by omega) (by omega) (by omega)]; exact a1, fun c' hc' k hk => ?_, fun c' hc' k hk => ?_, fun u v hu hv => ?_, ?_, ?_, ?_, s4, ?_, ?_, fun k l hl => by rw [e19]; exact a11 k l hl, ?_, ?_⟩
    · rw [e0 _ _ (by unfold DX; omega) (by omega) (by omega) (by omega), en c' k (by omega)]; exact a2 c' hc' k hk
    · rw [e0 _ _ (by unfold DX; omega) (by omega) (by omega) (by omega), en c' k (by omega)]; exact a3 c' hc' k hk
    · rw [e0 _ _ (by unfold DX; omega) (by omega) (by omega) (by omega), en 6 _ (by omega)]; exact a4 u v hu hv
    · rw [e0 _ _ (by unfold DX; omega) (by omega) (by omega) (by omega), en 7 _ (by omega)]; exact a5
    · rw [e0 _ _ (by unfold DX; omega) (by omega) (by omega) (by omega), en 7 _ (by omega)]; exact a6
    · rw [e0 _ _ (by unfold DX; omega) (by omega) (by omega) (by omega), en 7 _ (by omega)]; exact a7
    · rw [ef]
      rcases hi' with rfl | rfl
      · rw [if_pos rfl]; exact s5
      · rw [if_neg (by omega)]
        exact a9.fr2 fun q k z => e0 q k (by unfold DX; omega) (by omega) (by omega) (by omega)
    · rw [ef]
      rcases hi' with rfl | rfl
      · rw [if_neg (by omega)]
        exact a10.fr2 fun q k z => e0 q k (by unfold DX; omega) (by omega) (by omega) (by omega)
      · rw [if_pos rfl]; exact s5
    · rw [e0 _ _ (by unfold DX; omega) (by omega) (by omega) (by omega)]; exact a12
    · rw [e0 _ _ (by unfold DX; omega) (by omega) (by omega) (by omega)]; exact a13
  have gh : Fp PCc h h' := gx.tr (f'.fp FCP)
  exact cl_take (k := 59) ch (by omega) (by omega) (fun e h3 he f3 r3 => br_t rfl (q0 e h3 (bnd_l he) (gh.tr f3) r3)) (fun S3 h3 hs3 f3 e3 c3 => br_f (by decide) (q1 (_, S3) h3 (bnd_r hs3) (gh.tr f3) c3))
theorem cl_amt {h : ob_H} {T : tx_T} {S : tx_S} {D : tx_D} {i lo : Nat} {Q : Int32 → ob_H → Prop} (hi : i = 2 ∨ i = 3) (hlo : lo < 1000) (cl : CL h T S D) (hk : kdT S = 113 + i) (q0 : ∀ e h', pBar i lo D S = .inl e → Fp PCc h h' → RsC h' e → Q 0 h')
    (q1 : ∀ x h', pBar i lo D S = .inr x → Fp PCc h h' → CL h' T x.2 x.1 → Q 1 h') : MX5_beginOnce h fun r1 h2 => ((r1 = 0 → Q (0) h2) ∧ (¬ r1 = 0 → MX5_readAmount (nI lo) (999) h2 fun r8 h9 => ((r8 = 0 → Q (0) h9) ∧ (¬ r8 = 0 → Lt (h_i h9 5 (7 + i) (h9.1 4 7)) fun h15 => MX5_take (59) h15 fun r17 h18 => Q r17 h18)))) := by
  unfold pBar at q0 q1
  refine cl_once (α := tx_D × tx_S) cl (by omega) hk (fun e h' hfl he f' r' => br_t rfl (q0 e h' (by rw [if_pos hfl]; exact he) f' r')) (fun h2 hfl f2 c2 => br_f (by decide) ?_)
  rw [if_neg (by rw [hfl]; decide)] at q0 q1
  refine cl_amount (lo := lo) (hi := 999) c2 hlo (by omega) (fun e h' he f' r' => br_t rfl (q0 e h' (bnd_l he) (f2.tr f') r')) (fun x h3 hx rg f3 e37 c3 e3 => br_f (by decide) (Lt_i fun y z => ?_))
  rw [bnd_r hx] at q0 q1
  rw [e37] at z
  have fy : Fr (fun q k => q = 5 ∧ k = 7 + i) h3 y := by rw [z]; exact Fr.rf.st ⟨rfl, rfl⟩
  have cy : CL y T x.2 (setB D i x.1) := by
    refine ⟨c3.1.fr fy fun q k p => by omega, ?_, DI_setB cl.2.2 hi⟩
    obtain ⟨a1, a2, a3, a4, a5, a6, a7, a8, a9, a10, a11, a12, a13⟩ := c3.2.1
    have en : ∀ c k, ¬ (c = 7 ∧ k = i - 1) → wv (setB D i x.1).1 c k = wv D.1 c k := fun c k h => by rw [setB_at, if_neg h]
    refine ⟨by rw [fy.i (by omega)]; exact a1, fun c' hc' k hk => by rw [fy.i (by omega), en c' k (by omega)]; exact a2 c' hc' k hk, fun c' hc' k hk => by rw [fy.i (by omega), en c' k (by omega)]; exact a3 c' hc' k hk, fun u v hu hv => by rw [fy.i (by omega), en 6 _ (by omega)]; exact a4 u v hu hv, by rw [fy.i (by omega), en 7 0 (by omega)]; exact a5, ?_, ?_, by rw [fy.i (by omega)]; exact a8, a9.fr2 fun q k z => fy.i (by omega), a10.fr2 fun q k z => fy.i (by omega), fun k l hl => by rw [fy.l (by omega)]; exact a11 k l hl, by rw [fy.i (by omega)]; exact a12, by rw [fy.i (by omega)]; exact a13⟩
    · rw [setB_at, z, h_i_1]
      rcases hi with rfl | rfl
      · rw [if_pos ⟨rfl, rfl⟩, if_pos ⟨rfl, rfl⟩]
      · rw [if_neg (by omega), if_neg (by omega)]; exact a6
    · rw [setB_at, z, h_i_1]
      rcases hi with rfl | rfl
      · rw [if_neg (by omega), if_neg (by omega)]; exact a7
      · rw [if_pos ⟨rfl, rfl⟩, if_pos ⟨rfl, rfl⟩]
  have gy : Fp PCc h y := (f2.tr f3).tr (fy.fp fun q k p => by unfold PCc; omega)
  exact cl_take (k := 59) cy (by omega) (by omega) (fun e h' he f' r' => q0 e h' (bnd_l he) (gy.tr f') r') (fun S' h' hs f' e' c' => q1 (_, S') h' (bnd_r hs) (gy.tr f') c')
theorem pNum_len {lo hi : Nat} {S : tx_S} {x : Nat × tx_S} (h : pNum lo hi S = .inr x) : x.2.length ≤ S.length := by
  unfold pNum at h
  split at h
  · split at h
    · cases h
    · cases h; simp
  · cases h
theorem pTake_len {k : Nat} {S S' : tx_S} (h : pTake k S = .inr S') : S'.length ≤ S.length := by
  unfold pTake at h
  split at h
  · cases h; simp
  · cases h
theorem bnd_some {α β : Type} {x : Sum tx_E α} {g : α → Sum tx_E β} {b : β} (h : bnd x g = .inr b) : ∃ a, x = .inr a ∧ g a = .inr b := by
  cases x with
  | inl e => cases h
  | inr a => exact ⟨a, rfl, h⟩
theorem pOpt_len {k hi d : Nat} {S : tx_S} {x : Nat × tx_S} (h : pOpt k hi d S = .inr x) : x.2.length ≤ S.length := by
  unfold pOpt at h
  split at h
  · have := pNum_len h
    rw [List.length_tail] at this
    omega
  · cases h; exact Nat.le_refl _
theorem pTwo_len {D : tx_D} {S : tx_S} {x : Nat × Nat × tx_S} (h : pTwo D S = .inr x) : x.2.2 = S.tail.tail := by
  unfold pTwo at h
  split at h
  · cases h
  · split at h
    · cases h
    · split at h
      · cases h
      · split at h
        · cases h
        · split at h
          · cases h
          · cases h; rfl
/-- a line takes its tokens -/
theorem pLine_len {D : tx_D} {S : tx_S} {x : tx_D × tx_S} (hS : Sok S) (hl : S.length ≤ 1601) (h : pLine D S = .inr x) (hk : 1 < kdT S) : x.2.length + 1 ≤ S.length := by
  have htl := len_tail hS
  have t2 : ∀ A : tx_S, A.tail.length ≤ A.length := fun A => by rw [List.length_tail]; omega
  have tt := t2 S.tail
  have ttt := t2 S.tail.tail
  have whom : ∀ c most, pWhom c most D S = .inr x → x.2.length + 1 ≤ S.length := by
    intro c most h
    unfold pWhom at h
    generalize (if c = 4 then D.2.2.2.1 else D.2.2.2.2.1) = n at h
    split at h
    · cases h
    · obtain ⟨a, h1, h2⟩ := bnd_some h
      have e1 := pTwo_len h1
      split at h2
      · cases h2
      · obtain ⟨b, h3, h4⟩ := bnd_some h2
        have := pTake_len h3
        cases h4
        rw [e1] at this
        simp only
        omega
  have form : ∀ i, pForm i D S = .inr x → x.2.length + 1 ≤ S.length := by
    intro i h
    unfold pForm at h
    split at h
    · cases h
    · cases hr : pE 120 0 0 (S.tail, 0, D.2.2.2.2.2.2) with
      | inl e => rw [hr] at h; cases h
      | inr r =>
        rw [hr] at h
        simp only at h
        have := (go_pE (g := (0, D.2.2.2.2.2.2)) (hS.tail hk) (by omega)).2 r hr
        obtain ⟨b, h3, h4⟩ := bnd_some h
        have h5 := pTake_len h3
        cases h4
        simp only
        omega
  have bar : ∀ i lo, pBar i lo D S = .inr x → x.2.length + 1 ≤ S.length := by
    intro i lo h
    unfold pBar at h
    split at h
    · cases h
    · obtain ⟨y, h1, h2⟩ := bnd_some h
      have l1 := pNum_len h1
      obtain ⟨b, h3, h4⟩ := bnd_some h2
      have l2 := pTake_len h3
      cases h4
      simp only
      omega
  unfold pLine at h
  split at h
  · unfold pObj at h
    split at h
    · cases h
    · split at h
      · cases h
      · split at h
        · cases h
        · obtain ⟨a1, h1, h⟩ := bnd_some h
          have l1 := pTake_len h1
          obtain ⟨a2, h2, h⟩ := bnd_some h
          have l2 := pNum_len h2
          obtain ⟨a3, h3, h⟩ := bnd_some h
          have l3 := pTake_len h3
          obtain ⟨a4, h4, h⟩ := bnd_some h
          have l4 := pNum_len h4
          obtain ⟨a5, h5, h⟩ := bnd_some h
          have l5 := pOpt_len h5
          obtain ⟨a6, h6, h⟩ := bnd_some h
          have l6 := pOpt_len h6
          obtain ⟨a7, h7, h⟩ := bnd_some h
          have l7 := pTake_len h7
          have l8 := t2 a6.2
          cases h
          simp only
          split at l7 <;> omega
  · split at h
    · exact whom 4 12 h
    · split at h
      · exact whom 5 6 h
      · split at h
        · unfold pJoin at h
          split at h
          · cases h
          · obtain ⟨a, h1, h2⟩ := bnd_some h
            have e1 := pTwo_len h1
            split at h2
            · cases h2
            · obtain ⟨b, h3, h4⟩ := bnd_some h2
              have l3 := pNum_len h3
              obtain ⟨d, h5, h6⟩ := bnd_some h4
              have l5 := pTake_len h5
              cases h6
              rw [e1] at l3
              simp only
              omega
        · split at h
          · exact form 0 h
          · split at h
            · exact form 1 h
            · split at h
              · exact bar 2 1 h
              · split at h
                · exact bar 3 0 h
                · cases h
