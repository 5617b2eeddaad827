-- ===== class and reference as they are made =====
theorem Rel_0 {h : ob_H} (hc : CW h tx_0.1) (hr : CR h 0 34 (pu (bgn tx_0.1) 23 0)) (hw : WdsR h) (e42 : h.1 4 2 = -1) (e3 : h.1 108 3 = -1) (e50 : h.1 108 50 = 100)
    (z : h.1 1 1 = 0 ∧ h.1 4 1 = 0 ∧ h.1 98 1 = 0 ∧ h.1 0 11 = 0 ∧ h.1 95 0 = 0 ∧ h.1 95 1 = 0 ∧ h.1 95 4 = 0 ∧ h.1 95 6 = 0 ∧ h.1 98 0 = 0 ∧ h.1 98 12 = 0)
    (y : ∀ k, k ≠ 3 → k ≠ 50 → h.1 108 k = 0) (x : ∀ q k, q = 116 ∨ q = 135 ∨ q = 150 → h.1 q k = 0) : Rel 0 h := by
  obtain ⟨z1, z2, z3, z4, z5, z6, z7, z8, z9, z10⟩ := z
  have hW := DI_WFW DI_0
  have y' : ∀ k, k ≠ 3 → k ≠ 50 → h.1 108 k = nI 0 := fun k h1 h2 => y k h1 h2
  refine ⟨tx_0.1, pu (bgn tx_0.1) 23 0, ⟨hW, WFP_bgn hW, hc, ⟨y 48 (by omega) (by omega), fun c _ k hk => absurd hk (Nat.not_lt_zero _), fun a b ha _ => absurd ha (Nat.not_lt_zero _), y 49 (by omega) (by omega), e50, y 23 (by omega) (by omega), Or.inr ⟨x _ _ (by omega), rfl⟩, Or.inr ⟨x _ _ (by omega), rfl⟩⟩, hr, fun k hk => ?_⟩, ⟨0, by omega, z1, y 1 (by omega) (by omega), fun k hk => absurd hk (Nat.not_lt_zero _)⟩, ⟨?_, ?_⟩, ⟨0, by omega, z3, y 71 (by omega) (by omega)⟩, ⟨0, by omega, z4, y 62 (by omega) (by omega), fun k hk => absurd hk (Nat.not_lt_zero _)⟩, ?_, ⟨0, by omega, z8, fun b hb => ?_⟩, ⟨0, by omega, z9, y 70 (by omega) (by omega), fun k hk => absurd hk (Nat.not_lt_zero _)⟩, Or.inl z10, hw⟩
  · rw [x 135 k (by omega)]
    unfold pu
    by_cases e : k = 23
    · rw [if_pos e]
    · rw [if_neg e]
      unfold bgn
      rw [if_neg (show ¬ k < tx_0.1.1 from Nat.not_lt_zero _), if_neg (show ¬ (14 ≤ k ∧ k < 14 + tx_0.1.1) from fun w => by have h0 : tx_0.1.1 = 0 := rfl; omega)]
  · rw [z2, y 2 (by omega) (by omega)]
  · rw [e42, e3]
  · exact ⟨[], [], 0, by omega, by simp, z5, z6, z7, y 59 (by omega) (by omega), y 60 (by omega) (by omega), fun i r hi => by simp at hi, fun i r hi => by simp at hi, fun hne => absurd rfl hne⟩
  · rw [Nat.zero_testBit, if_neg (by decide)]
    exact x 150 b (by omega)
