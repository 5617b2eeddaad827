-- ===== the law's loop =====
def kN (x3 : Int32) (B : Nat) : Int32 → ob_H → Prop := fun v h' => v = x3 + 6 ∧ Rel (B + 60) h'
theorem OK.law {B : Nat} {x3 : Int32} {h : ob_H} {M1 M2 : ob_H → (Int32 → ob_H → Prop) → Prop} (ok : OK B M1 M2) (hr : Rel B h) : M1 h fun r1 h1 => M2 h1 fun r2 h2 => ((r1 = r2 → Lt (x3 + (6) : Int32) fun v => kN x3 B v h2) ∧ (¬ r1 = r2 → (0) = (1 : Int32))) := by
  have e : ∀ r1 : Int32, (fun (r2 : Int32) (h2 : ob_H) => ((r1 = r2 → Lt (x3 + (6) : Int32) fun v => kN x3 B v h2) ∧ (¬ r1 = r2 → (0) = (1 : Int32)))) = fun r2 h2 => r1 = r2 ∧ Rel (B + 60) h2 := by
    intro r1
    funext r2 h2
    refine propext ⟨fun z => ?_, fun z => ⟨fun _ => ⟨rfl, z.2⟩, fun n => absurd z.1 n⟩⟩
    have e : r1 = r2 := Classical.byContradiction fun n => absurd (z.2 n) (by decide)
    exact ⟨e, (z.1 e).2⟩
  have e2 : (fun (r1 : Int32) (h1 : ob_H) => M2 h1 fun r2 h2 => ((r1 = r2 → Lt (x3 + (6) : Int32) fun v => kN x3 B v h2) ∧ (¬ r1 = r2 → (0) = (1 : Int32)))) = fun r1 h1 => M2 h1 fun r2 h2 => r1 = r2 ∧ Rel (B + 60) h2 := by
    funext r1 h1
    exact congrArg (M2 h1) (e r1)
  rw [e2]
  exact ok h hr
theorem law_seen {L B : Nat} {xs : Nat → Int32} {x3 b : Int32} {h : ob_H} (hb : b = if xs (ix (x3 + 3)) = 0 then 0 else 1) (v1 : vp_in (x3 + 1) L) (v2 : vp_in (x3 + 2) L) (v3 : vp_in (x3 + 3) L) (hr : Rel B h) : KL_law_986 L xs x3 b (xs (ix (x3 + 2))) (xs (ix (x3 + 1))) h (kN x3 B) := by
  have hb2 : b = 0 ∨ b = 1 := by
    rw [hb]
    by_cases c : xs (ix (x3 + 3)) = 0
    · rw [if_pos c]; exact Or.inl rfl
    · rw [if_neg c]; exact Or.inr rfl
  have key := OK.law (x3 := x3) (op_seen (B := B) (xs (ix (x3 + 1))) (xs (ix (x3 + 2))) b hb2) hr
  unfold KL_law_986
  have e : (fun (r621 : Int32) (h622 : ob_H) => vp_in (x3 + (1)) L ∧ vp_in (x3 + (2)) L ∧ vp_in (x3 + (3)) L ∧ (((xs (ix (x3 + (3)))) = 0 → KL_law_1013 L xs x3 (0) (xs (ix (x3 + (2)))) (xs (ix (x3 + (1)))) r621 h622 (kN x3 B)) ∧ (¬ (xs (ix (x3 + (3)))) = 0 → KL_law_1013 L xs x3 (1) (xs (ix (x3 + (2)))) (xs (ix (x3 + (1)))) r621 h622 (kN x3 B)))) = fun r1 h1 => KL_law_1013 L xs x3 b (xs (ix (x3 + (2)))) (xs (ix (x3 + (1)))) r1 h1 (kN x3 B) := by
    funext r1 h1
    refine propext ⟨fun z => ?_, fun z => ⟨v1, v2, v3, fun c => ?_, fun c => ?_⟩⟩
    · by_cases c : xs (ix (x3 + 3)) = 0
      · rw [if_pos c] at hb; rw [hb]; exact z.2.2.2.1 c
      · rw [if_neg c] at hb; rw [hb]; exact z.2.2.2.2 c
    · rw [if_pos c] at hb; rw [hb] at z; exact z
    · rw [if_neg c] at hb; rw [hb] at z; exact z
  rw [e]
  exact key
theorem nI_sub6 {L : Nat} (h : 6 ≤ L) : Int32.ofNat L - 6 = nI (L - 6) := by
  have e : Int32.ofNat L = nI (L - 6) + 6 := by
    rw [show (6 : Int32) = nI 6 from rfl, nI_add, Nat.sub_add_cancel h]
    rfl
  rw [e]
  exact Int32.add_sub_cancel _ _
theorem FL_end {L j : Nat} {xs : Nat → Int32} {h : ob_H} {k : Int32 → ob_H → Prop} (hL : L ≤ 3072) (hj : 6 * j ≤ L) (hj2 : L < 6 * (j + 1)) : FL_law_18 L xs k (nI (6 * j)) h := by
  unfold FL_law_18
  refine br_t ?_ rfl
  by_cases h6 : 6 ≤ L
  · rw [nI_sub6 h6]
    exact nI_lt (by omega) (by omega)
  · have hj0 : j = 0 := by omega
    subst hj0
    rcases (by omega : L = 0 ∨ L = 1 ∨ L = 2 ∨ L = 3 ∨ L = 4 ∨ L = 5) with rfl | rfl | rfl | rfl | rfl | rfl <;> decide
theorem FL_ok {L j B : Nat} {xs : Nat → Int32} {h : ob_H} (hL : L ≤ 3072) (hj2 : 6 * (j + 1) ≤ L) (hB : B ≤ 100000) (hr : Rel B h) : FL_law_18 L xs (kN (nI (6 * j)) B) (nI (6 * j)) h := by
  have v0 : vp_in (nI (6 * j)) L := vp_in_nI (by omega) (by omega)
  have v1 : vp_in (nI (6 * j) + 1) L := by rw [show (1 : Int32) = nI 1 from rfl, nI_add]; exact vp_in_nI (by omega) (by omega)
  have v2 : vp_in (nI (6 * j) + 2) L := by rw [show (2 : Int32) = nI 2 from rfl, nI_add]; exact vp_in_nI (by omega) (by omega)
  have v3 : vp_in (nI (6 * j) + 3) L := by rw [show (3 : Int32) = nI 3 from rfl, nI_add]; exact vp_in_nI (by omega) (by omega)
  have v4 : vp_in (nI (6 * j) + 4) L := by rw [show (4 : Int32) = nI 4 from rfl, nI_add]; exact vp_in_nI (by omega) (by omega)
  have v5 : vp_in (nI (6 * j) + 5) L := by rw [show (5 : Int32) = nI 5 from rfl, nI_add]; exact vp_in_nI (by omega) (by omega)
  unfold FL_law_18
  rw [nI_sub6 (by omega)]
  refine br_f (by rw [nI_lt2 (by omega) (by omega)]; omega) ⟨v0, ?_⟩
  refine br_c (fun _ => ⟨v1, v2, v3, v4, v5, OK.law (op_feed _ _ _ _ _) hr⟩) (fun _ => ?_)
  refine br_c (fun _ => ⟨v1, OK.law (op_end _) hr⟩) (fun _ => ?_)
  refine br_c (fun _ => OK.law (op_wedding) hr) (fun _ => ?_)
  refine br_c (fun _ => ⟨v1, OK.law (op_fault _) hr⟩) (fun _ => ?_)
  refine br_c (fun _ => ⟨v1, v2, OK.law (op_objector _ _) hr⟩) (fun _ => ?_)
  refine br_c (fun _ => ⟨v1, OK.law (op_ranks _) hr⟩) (fun _ => ?_)
  refine br_c (fun _ => OK.law (op_hear) hr) (fun _ => ?_)
  refine br_c (fun _ => ⟨v1, OK.law (op_buy _) hr⟩) (fun _ => ?_)
  refine br_c (fun _ => ⟨v1, OK.law (op_pause _) hr⟩) (fun _ => ?_)
  refine br_c (fun _ => ⟨v1, v2, OK.law (op_trade _ _) hr⟩) (fun _ => ?_)
  refine br_c (fun _ => OK.law (op_undo) hr) (fun _ => ?_)
  refine br_c (fun _ => OK.law (op_redo) hr) (fun _ => ?_)
  refine br_c (fun _ => OK.law (op_next) hr) (fun _ => ?_)
  refine br_c (fun _ => OK.law (op_queue) hr) (fun _ => ?_)
  refine br_c (fun _ => OK.law (op_dusk) hr) (fun _ => ?_)
  refine br_c (fun _ => ⟨v1, OK.law (op_when _) hr⟩) (fun _ => ?_)
  refine br_c (fun _ => OK.law (op_course) hr) (fun _ => ?_)
  refine br_c (fun _ => OK.law (op_leavers) hr) (fun _ => ?_)
  refine br_c (fun _ => OK.law (op_soonest hB) hr) (fun _ => ?_)
  refine br_c (fun _ => ⟨v1, OK.law (op_first hB _) hr⟩) (fun _ => ?_)
  refine br_c (fun _ => ⟨v1, v2, OK.law (op_purchase hB _ _) hr⟩) (fun _ => ?_)
  refine br_c (fun _ => ⟨v1, OK.law (op_boast _) hr⟩) (fun _ => ?_)
  refine br_c (fun _ => OK.law (op_weight) hr) (fun _ => ?_)
  refine br_c (fun _ => ⟨v1, OK.law (op_threat _) hr⟩) (fun _ => ?_)
  refine br_c (fun _ => OK.law (op_bars) hr) (fun _ => ?_)
  refine br_c (fun _ => ⟨v1, OK.law (op_gain _) hr⟩) (fun _ => ?_)
  refine br_c (fun _ => ⟨v1, OK.law (op_crowd _) hr⟩) (fun _ => ?_)
  refine br_c (fun _ => ⟨v1, v2, OK.law (op_odds _ _) hr⟩) (fun _ => ?_)
  refine br_c (fun _ => ⟨v1, v2, OK.law (op_peril _ _) hr⟩) (fun _ => ?_)
  refine br_c (fun _ => ⟨v1, OK.law (op_tarry _) hr⟩) (fun _ => ?_)
  refine br_c (fun _ => ⟨v1, OK.law (op_swap _) hr⟩) (fun _ => ?_)
  refine br_c (fun _ => ⟨v1, OK.law (op_by _) hr⟩) (fun _ => ?_)
  refine br_c (fun _ => OK.law (op_upset) hr) (fun _ => ?_)
  refine br_c (fun _ => ⟨v1, OK.law (op_lies _) hr⟩) (fun _ => ?_)
  refine br_c (fun _ => ⟨v1, v2, v3, br_c (fun c => law_seen (by rw [if_pos c]) v1 v2 v3 hr) (fun c => law_seen (by rw [if_neg c]) v1 v2 v3 hr)⟩) (fun _ => ?_)
  refine br_c (fun _ => ⟨v1, OK.law (op_untell _) hr⟩) (fun _ => ?_)
  refine br_c (fun _ => ⟨v1, OK.law (op_later _) hr⟩) (fun _ => ?_)
  refine br_c (fun _ => ⟨v1, OK.law (op_fits _) hr⟩) (fun _ => ?_)
  refine br_c (fun _ => ⟨v1, v2, OK.law (op_sure _ _) hr⟩) (fun _ => ?_)
  refine br_c (fun _ => ⟨v1, v2, OK.law (op_ask _ _) hr⟩) (fun _ => ?_)
  refine br_c (fun _ => ⟨v1, OK.law (op_image _) hr⟩) (fun _ => ?_)
  refine br_c (fun _ => ⟨v1, OK.law (op_back _) hr⟩) (fun _ => ?_)
  refine br_c (fun _ => ⟨v1, OK.law (op_about _) hr⟩) (fun _ => ?_)
  exact ⟨rfl, hr.up (by omega)⟩
theorem law_loop {L : Nat} {xs : Nat → Int32} (hL : L ≤ 3072) : ∀ (d j : Nat) (h : ob_H), 6 * j ≤ L → L < 6 * (j + d) → Rel (60 * j) h → ob_J RL cL_law 4 room_1 false (some (L, xs)) 152 13607 KS NN h 18 [(0, .ref 100000), (1, .ref 0), (2, .ref 108), (3, .int (nI (6 * j)))] [] PQ := by
  intro d
  induction d with
  | zero => intro j h h1 h2 _; omega
  | succ d ih =>
    intro j h h1 h2 hr
    by_cases c : 6 * (j + 1) ≤ L
    · refine BFL_law_18 (k18 := kN (nI (6 * j)) (60 * j)) (fun v h' z => ?_) _ _ (FL_ok hL c (by omega) hr)
      rw [z.1, show nI (6 * j) + 6 = nI (6 * (j + 1)) from by rw [show (6 : Int32) = nI 6 from rfl, nI_add]; rfl]
      exact ih (j + 1) h' c (by omega) (by rw [show 60 * (j + 1) = 60 * j + 60 by omega]; exact z.2)
    · exact BFL_law_18 (k18 := fun _ _ => False) (fun v h' z => z.elim) _ _ (FL_end hL h1 (by omega))
