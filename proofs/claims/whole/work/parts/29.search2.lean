-- ===== the search for the earliest dusk: the class =====
theorem and127 : ∀ H, H < 128 → nI H &&& 127 = nI H := by decide +kernel
theorem cs_wasHere {h : ob_H} {n o : Nat} {r : ob_P} {Q : Int32 → ob_H → Prop} (hn : n ≤ 7) (hr : CR h n o r) (ho : 51 < o)
    (hq : ∀ x h', Fr (fun q _ => q = 51) h h' → (∀ k, ¬ (8 * mk (isS r 1) n ≤ k ∧ k < 8 * mk (isS r 1) n + 8) → h'.1 51 k = h.1 51 k) → h'.1 51 (8 * mk (isS r 1) n) = nI (mk (isS r 0) n) → (∀ k, k < n → r k = 0 → h'.1 51 (8 * mk (isS r 1) n + 1 + k) = r (7 + k)) →
      (x = 0 ∨ (x = 1 ∧ h.1 51 (8 * mk (isS r 1) n) = nI (mk (isS r 0) n) ∧ ∀ k, k < n → r k = 0 → h.1 51 (8 * mk (isS r 1) n + 1 + k) = r (7 + k))) → Q x h') : MX8_wasHere o h Q := by
  have e1 : h.1 (o + 1) 1 = nI (mk (isS r 1) n) := hr.1 1 (by omega)
  have e0 : h.1 (o + 1) 0 = nI (mk (isS r 0) n) := hr.1 0 (by omega)
  have h1 : mk (isS r 1) n < 128 := mk7 hn
  have h0 : mk (isS r 0) n < 128 := mk7 hn
  have hbit : ∀ k, (mk (isS r 0) n).testBit k = true ↔ (k < n ∧ r k = 0) := fun k => by rw [mk_bit]; simp [isS]
  unfold MX8_wasHere
  rw [e1, and127 _ h1, e0, show (8 : Int32) = nI 8 from rfl, nI_mul]
  generalize hH : mk (isS r 1) n = H at *
  generalize hWv : mk (isS r 0) n = W at *
  rw [Nat.mul_comm H 8]
  refine Lt_i fun v1 z1 => Lt_i fun v3 z3 => ?_
  subst z1 z3
  rw [show ix (nI (8 * H)) = 8 * H from nI_clamp (by omega)]
  have main : ∀ s0 : Int32, (s0 = 0 ∨ (s0 = 1 ∧ h.1 51 (8 * H) = nI W)) → KX8_wasHere_35 o (nI (8 * H)) (nI W) s0 h Q := by
    intro s0 hs0
    unfold KX8_wasHere_35
    rw [show ix (nI (8 * H)) = 8 * H from nI_clamp (by omega)]
    refine ⟨vp_in_nI (by omega) (by omega), Lt_i fun y0 z0 => ?_⟩
    refine lo3c2 7 (by omega) (fun j x h1 => Fr (fun q _ => q = 51) h h1 ∧ (∀ k, ¬ (8 * H ≤ k ∧ k < 8 * H + 1 + j) → h1.1 51 k = h.1 51 k) ∧ h1.1 51 (8 * H) = nI W ∧ (∀ k, k < j → k < n → r k = 0 → h1.1 51 (8 * H + 1 + k) = r (7 + k)) ∧ (x = 0 ∨ (x = 1 ∧ h.1 51 (8 * H) = nI W ∧ ∀ k, k < j → k < n → r k = 0 → h.1 51 (8 * H + 1 + k) = r (7 + k)))) ?_ ?_ 0 (Nat.zero_le _) _ _ ⟨?_, ?_, ?_, fun k hk => absurd hk (Nat.not_lt_zero _), ?_⟩
    · intro k j x h1 hj hI hk
      obtain ⟨i1, i2, i3, i4, i5⟩ := hI
      unfold FX8_wasHere_47
      refine br_f (nI_ge (b := 7) hj (by decide)) (bit00 (α := True) (fun b => ?_) (fun b => ?_))
      · rw [bitI_nI h0 (by omega)] at b
        have nb : ¬ (j < n ∧ r j = 0) := fun z => by have := (hbit j).mpr z; rw [b] at this; exact absurd this (by decide)
        refine Lt_eq (nI_1 _) (hk _ _ ⟨i1, fun k hk => i2 k (by omega), i3, fun k hk hkn h0 => ?_, ?_⟩)
        · by_cases e : k = j
          · subst e; exact absurd ⟨hkn, h0⟩ nb
          · exact i4 k (by omega) hkn h0
        · rcases i5 with e | ⟨e, e2, e3⟩
          · exact Or.inl e
          · refine Or.inr ⟨e, e2, fun k hk hkn h0 => ?_⟩
            by_cases e : k = j
            · subst e; exact absurd ⟨hkn, h0⟩ nb
            · exact e3 k (by omega) hkn h0
      · rw [bitI_nI h0 (by omega)] at b
        obtain ⟨hjn, hj0⟩ := (hbit j).mp b
        have er : h1.1 (o + 3) j = r (7 + j) := by rw [i1.i (by omega)]; exact hr.2.2.1 j hjn
        have store : ∀ s : Int32, (s = 0 ∨ (s = 1 ∧ x = 1 ∧ h1.1 51 (8 * H + 1 + j) = r (7 + j))) → KX8_wasHere_94 o (nI (8 * H)) (nI W) (nI j) s h1 Q k := by
          intro s hs
          unfold KX8_wasHere_94
          rw [nI_1, nI_add, show ix (nI j) = j from nI_clamp (by omega), show ix (nI (8 * H + 1 + j)) = 8 * H + 1 + j from nI_clamp (by omega), er]
          refine ⟨vp_in_nI (by omega) (by omega), vp_in_nI (by omega) (by omega), Lt_i fun y z => Lt_eq (nI_1 _) (hk _ _ ⟨?_, fun k hk => ?_, ?_, fun k hk hkn h0 => ?_, ?_⟩)⟩
          · rw [z]; exact Fr.st (P := fun q _ => q = 51) i1 rfl
          · rw [z, h_i_1, if_neg (by omega)]
            exact i2 k (by omega)
          · rw [z, h_i_1, if_neg (by omega)]
            exact i3
          · rw [z, h_i_1]
            by_cases e : k = j
            · subst e; rw [if_pos (by omega)]
            · rw [if_neg (by omega)]; exact i4 k (by omega) hkn h0
          · rcases hs with e | ⟨e, ex, e4⟩
            · exact Or.inl e
            · rcases i5 with e5 | ⟨_, e2, e3⟩
              · rw [ex] at e5; exact absurd e5 (by decide)
              · refine Or.inr ⟨e, e2, fun k hk hkn h0 => ?_⟩
                by_cases e : k = j
                · subst e; rw [← i2 _ (by omega)]; exact e4
                · exact e3 k (by omega) hkn h0
        rcases i5 with rfl | ⟨rfl, e2, e3⟩
        · exact br_t rfl (store 0 (Or.inl rfl))
        · refine br_f (by decide) ?_
          rw [nI_1, nI_add, show ix (nI j) = j from nI_clamp (by omega), show ix (nI (8 * H + 1 + j)) = 8 * H + 1 + j from nI_clamp (by omega), er]
          exact ⟨vp_in_nI (by omega) (by omega), vp_in_nI (by omega) (by omega), br_c (fun c => store 1 (Or.inr ⟨rfl, rfl, c⟩)) (fun c => store 0 (Or.inl rfl))⟩
    · intro k x h1 hI
      obtain ⟨i1, i2, i3, i4, i5⟩ := hI
      unfold FX8_wasHere_47
      refine br_t (nI_le (a := 7) (Nat.le_refl _) (by decide)) ⟨by rcases i5 with rfl | ⟨rfl, _⟩ <;> rfl, hq x h1 i1 (fun k hk => i2 k (by omega)) i3 (fun k hk => i4 k (by omega) hk) ?_⟩
      rcases i5 with e | ⟨e, e2, e3⟩
      · exact Or.inl e
      · exact Or.inr ⟨e, e2, fun k hk => e3 k (by omega) hk⟩
    · rw [z0]; exact Fr.st (P := fun q _ => q = 51) Fr.rf rfl
    · intro k hk
      rw [z0, h_i_1, if_neg (by omega)]
    · rw [z0, h_i_1, if_pos (by omega)]
    · rcases hs0 with e | ⟨e, e2⟩
      · exact Or.inl e
      · exact Or.inr ⟨e, e2, fun k hk => absurd hk (Nat.not_lt_zero _)⟩
  exact ⟨vp_in_nI (by omega) (by omega), br_c (fun c => main 1 (Or.inr ⟨rfl, c⟩)) (fun c => main 0 (Or.inl rfl))⟩
