-- ===== threat, bars, odds, peril =====
theorem nI_div {a b : Nat} (ha : a < 2 ^ 31) (hb : b < 2 ^ 31) : nI a / nI b = nI (a / b) := by
  apply Int32.toInt_inj.mp
  have h1 : a / b ≤ a := Nat.div_le_self a b
  have e : (nI a).toInt.tdiv (nI b).toInt = ((a / b : Nat) : Int) := by rw [nI_toInt ha, nI_toInt hb]; rfl
  rw [Int32.toInt_div, e, nI_toInt (by omega)]
  generalize a / b = c at *
  apply Int.bmod_eq_of_le <;> omega
theorem irm_nI {a b : Nat} (ha : a < 2 ^ 31) (hb : b < 2 ^ 31) : irm (nI a) (nI b) = nI (a % b) := by
  have h := Nat.div_add_mod a b
  show nI a - nI a / nI b * nI b = nI (a % b)
  rw [nI_div ha hb, nI_mul]
  have e : nI a = nI (a % b) + nI (a / b * b) := by
    rw [nI_add]
    congr 1
    rw [Nat.mul_comm (a / b) b]
    omega
  conv => lhs; arg 1; rw [e]
  rw [Int32.add_sub_cancel]
/-- those shut the door, with those who stand -/
def thr (w : ob_W) (r : ob_P) (x : Nat) : Bool := decide (x &&& mkS w r 0 = x) && !decide (wgV w (bitI (nI (mkS w r 2) ||| nI x)) < wv w 7 1)
theorem thr_hi {w : ob_W} {r : ob_P} {x : Nat} (h : mkS w r 0 < x) : thr w r x = false := by
  have : ¬ x &&& mkS w r 0 = x := fun z => by have := sub_le z; omega
  simp [thr, this]
theorem thr_sub {w : ob_W} {r : ob_P} {x : Nat} (hn7 : w.1 ≤ 7) (hx : x < 128) : (nI x &&& (nI (mkS w r 0) ^^^ (-1)) = 0) ↔ x &&& mkS w r 0 = x := by
  have hl := mkS_lt (w := w) (r := r) (s := 0)
  have h27 := pw7 hn7
  rw [sub_ok (by omega)]
  constructor
  · rintro ⟨k, hk, e, hh⟩
    have : x = k := (nI_eq (by omega) (by omega)).mp e
    subst this
    exact hh
  · exact fun h => ⟨x, hx, rfl, h⟩
theorem cs_threatens {h : ob_H} {w : ob_W} {r : ob_P} {x : Nat} {Q : Int32 → Prop} (hn7 : w.1 ≤ 7) (hw : CW h w) (hr : CR h w.1 34 r) (hx : x < 128) (hq : Q (tru (thr w r x))) : MX7_threatens (nI x) h Q := by
  unfold MX7_threatens
  have e0 : h.1 35 0 = nI (mkS w r 0) := hr.1 0 (by omega)
  have e2 : h.1 35 2 = nI (mkS w r 2) := hr.1 2 (by omega)
  rw [e0, e2]
  refine br_c (fun c => cs_isBarredBy hn7 hw ?_) (fun c => ?_)
  · have hs := (thr_sub hn7 hx).mp c
    by_cases d : wgV w (bitI (nI (mkS w r 2) ||| nI x)) < wv w 7 1
    · rw [if_pos d]
      refine br_t rfl ?_
      have : thr w r x = false := by simp [thr, d]
      rwa [this] at hq
    · rw [if_neg d]
      refine br_f (by decide) ?_
      have : thr w r x = true := by simp [thr, hs, d]
      rwa [this] at hq
  · have : thr w r x = false := by
      have hs : ¬ x &&& mkS w r 0 = x := fun z => c ((thr_sub hn7 hx).mpr z)
      simp [thr, hs]
    rwa [this] at hq
theorem cnt_hi {p : Nat → Bool} {n : Nat} : ∀ {m}, n ≤ m → (∀ k, n ≤ k → k < m → p k = false) → cnt p m = cnt p n
  | 0, h, _ => by have : n = 0 := by omega
                  subst this; rfl
  | m + 1, h, hp => by
    by_cases e : n = m + 1
    · rw [e]
    · rw [cnt, hp m (by omega) (by omega), cnt_hi (m := m) (by omega) (fun k h1 h2 => hp k h1 (by omega))]
      rfl
theorem op_bars {B : Nat} : OK B (fun h Q => MX11_bars h fun x => Q x h) MX12_bars := OK.ask fun h w r c _ => by
  obtain ⟨hW, hP, hw, hrw, hr, hn⟩ := c
  have hn7 := hW.1
  have hl := mkS_lt (w := w) (r := r) (s := 0)
  have h27 := pw7 hn7
  have hc : cnt (thr w r) 128 = cnt (thr w r) (mkS w r 0 + 1) := cnt_hi (by omega) (fun k h1 _ => thr_hi (by omega))
  refine ⟨fun x => x = nI (cnt (thr w r) 128), fun Q hq => ?_, fun h1 f1 x hx Q hq => ?_⟩
  · show MX11_bars h fun x => Q x h
    unfold MX11_bars MX7_countThreats
    refine lo2c2 128 (by omega) (fun j a => a = nI (cnt (thr w r) j)) ?_ ?_ 0 (Nat.zero_le _) _ rfl
    · intro k j a hj hI hk
      subst hI
      unfold FX7_countThreats_4
      refine br_f (nI_ge (b := 128) hj (by decide)) (cs_threatens hn7 hw hr hj ?_)
      cases ht : thr w r j with
      | false =>
        refine br_t rfl (Lt_i fun y z => Lt_eq (nI_1 _) (hk _ ?_))
        rw [z, cnt, ht]; simp
      | true =>
        refine br_f (by decide) (Lt_i fun y z => Lt_eq (nI_1 _) (hk _ ?_))
        rw [z, cnt, ht, nI_1]; simp
    · intro k a hI
      subst hI
      unfold FX7_countThreats_4
      exact br_t (nI_le (a := 128) (Nat.le_refl _) (by decide)) (hq _ h rfl Fr.rf)
  · subst hx
    rw [hc] at hq
    have hn1 := hn.sc f1
    have hw1 := hrw.sc hn7 f1
    unfold MX12_bars
    refine rs_waitingNow hW hw1 hn1 fun h2 f2 => rs_standing hW (hw1.sr hn7 f2) (hn1.sr f2) fun h3 f3 => ?_
    have hw3 := (hw1.sr hn7 f2).sr hn7 f3
    refine lo2c2 (mkS w r 0 + 1) (by omega) (fun j a => a = nI (cnt (thr w r) j)) ?_ ?_ 0 (Nat.zero_le _) _ rfl
    · intro k j a hj hI hk
      subst hI
      have k0 : thr w r j = false → KX12_bars_47 (nI (mkS w r 0)) (nI (mkS w r 2)) (nI j) 0 (nI (cnt (thr w r) j)) h3 Q k := fun ht => by
        unfold KX12_bars_47
        refine rs_truth (Lt_i fun y z => Lt_eq (nI_1 _) (hk _ ?_))
        rw [z, cnt, ht]; simp
      unfold FX12_bars_15
      refine br_f (nI_nlt (by omega) (by omega)) (br_c (fun c => rs_isBarred hW hw3 ?_) (fun c => k0 ?_))
      · have hs := (thr_sub hn7 (by omega)).mp c
        by_cases d : wgV w (bitI (nI (mkS w r 2) ||| nI j)) < wv w 7 1
        · rw [if_pos d]
          refine br_t rfl (k0 ?_)
          simp [thr, d]
        · rw [if_neg d]
          refine br_f (by decide) ?_
          have ht : thr w r j = true := by simp [thr, hs, d]
          unfold KX12_bars_47
          refine rs_truth (Lt_i fun y z => Lt_eq (nI_1 _) (hk _ ?_))
          rw [z, cnt, ht]
          simp [← nI_1]
      · have hs : ¬ j &&& mkS w r 0 = j := fun z => c ((thr_sub hn7 (by omega)).mpr z)
        simp [thr, hs]
    · intro k a hI
      subst hI
      unfold FX12_bars_15
      exact br_t (nI_lt (by omega) (by omega)) (hq h3 (f2.tr f3))
/-- the fewest that shut the door -/
def few (w : ob_W) (r : ob_P) : Nat → Option Nat
  | 0 => none
  | m + 1 => if thr w r m && (match few w r m with
      | none => true
      | some b => decide (ctb m < ctb b)) then some m else few w r m
theorem few_s {w : ob_W} {r : ob_P} {m : Nat} : few w r (m + 1) = if thr w r m && (match few w r m with
      | none => true
      | some b => decide (ctb m < ctb b)) then some m else few w r m := rfl
theorem few_lt {w : ob_W} {r : ob_P} : ∀ {m b}, few w r m = some b → b < m
  | 0, b, h => by cases h
  | m + 1, b, h => by
    rw [few_s] at h
    generalize hc : (thr w r m && (match few w r m with
      | none => true
      | some b => decide (ctb m < ctb b))) = c at h
    cases c with
    | true => cases h; omega
    | false =>
      have := few_lt (w := w) (r := r) (m := m) (b := b) (by simpa using h)
      omega
theorem few_hi {w : ob_W} {r : ob_P} {n : Nat} : ∀ {m}, n ≤ m → (∀ k, n ≤ k → thr w r k = false) → few w r m = few w r n
  | 0, h, _ => by have : n = 0 := by omega
                  subst this; rfl
  | m + 1, h, hp => by
    by_cases e : n = m + 1
    · rw [e]
    · rw [few_s, hp m (by omega), few_hi (m := m) (by omega) hp]
      simp
theorem few_no {w : ob_W} {r : ob_P} {m : Nat} (h : thr w r m = false) : few w r (m + 1) = few w r m := by rw [few_s, h]; simp
theorem few_n {w : ob_W} {r : ob_P} {m : Nat} (h : thr w r m = true) (h2 : few w r m = none) : few w r (m + 1) = some m := by rw [few_s, h, h2]; simp
theorem few_b {w : ob_W} {r : ob_P} {m b : Nat} (h : thr w r m = true) (h2 : few w r m = some b) (h3 : ctb m < ctb b) : few w r (m + 1) = some m := by rw [few_s, h, h2]; simp [h3]
theorem few_k {w : ob_W} {r : ob_P} {m b : Nat} (h2 : few w r m = some b) (h3 : ¬ ctb m < ctb b) : few w r (m + 1) = some b := by rw [few_s, h2]; simp [h3]
theorem cs_findThreat {h : ob_H} {w : ob_W} {r : ob_P} {Q : Int32 → ob_H → Prop} (hW : WFW w) (hw : CW h w) (hr : CR h w.1 34 r) (hq : ∀ x h', Fr SC h h' → (few w r 128 = none → x = 0) → (∀ y, few w r 128 = some y → x = 1 ∧ h'.1 93 0 = nI y) → Q x h') : MX7_findThreat h Q := by
  have hn7 := hW.1
  unfold MX7_findThreat
  refine lo3c2 128 (by omega) (fun m x h1 => Fr SC h h1 ∧ (x = 0 ∨ x = 1) ∧ (few w r m = none → x = 0) ∧ ∀ y, few w r m = some y → x = 1 ∧ h1.1 93 0 = nI y) ?_ ?_ 0 (Nat.zero_le _) _ _ ⟨Fr.rf, Or.inl rfl, fun _ => rfl, fun y hy => by cases hy⟩
  · intro k m x h1 hm hI hk
    obtain ⟨i1, i2, i3, i4⟩ := hI
    have skip : few w r (m + 1) = few w r m → k x (nI (m + 1)) h1 := fun e => hk _ _ ⟨i1, i2, by rw [e]; exact i3, by rw [e]; exact i4⟩
    have k0 : few w r (m + 1) = few w r m → KX7_findThreat_34 x (nI m) 0 h1 Q k := fun e => by
      unfold KX7_findThreat_34
      exact br_t rfl (Lt_eq (nI_1 _) (skip e))
    have k1 : (thr w r m = true → few w r (m + 1) = some m) → KX7_findThreat_34 x (nI m) 1 h1 Q k := fun e => by
      unfold KX7_findThreat_34
      refine br_f (by decide) (cs_threatens hn7 (hw.sc i1) (hr.sc i1) hm ?_)
      cases ht : thr w r m with
      | false => exact br_t rfl (Lt_eq (nI_1 _) (skip (few_no ht)))
      | true =>
        refine br_f (by decide) (Lt_i fun y z => Lt_eq (nI_1 _) (hk _ _ ⟨?_, Or.inr rfl, fun hy => (Option.some_ne_none _ ((e ht).symm.trans hy)).elim, fun b hb => ?_⟩))
        · rw [z]; exact i1.st (by unfold SC; omega)
        · have := Option.some.inj ((e ht).symm.trans hb)
          subst this
          refine ⟨rfl, ?_⟩
          rw [z, h_i_1, if_pos (by omega)]
    unfold FX7_findThreat_4
    refine br_f (nI_ge (b := 128) hm (by decide)) ?_
    cases hf : few w r m with
    | none =>
      rw [i3 hf] at k1 ⊢
      exact br_t rfl (k1 fun ht => few_n ht hf)
    | some b =>
      have hb := few_lt hf
      have l1 : ctb b ≤ 7 := cnt_le _ _
      have l2 : ctb m ≤ 7 := cnt_le _ _
      obtain ⟨j1, j2⟩ := i4 b hf
      rw [j1] at k1 k0 ⊢
      rw [j2]
      refine br_f (by decide) (cs_bits hm (cs_bits (by omega) ?_))
      rw [nI_le2 (by omega) (by omega)]
      exact br_c (fun c => k0 ((few_k hf (by omega)).trans hf.symm)) (fun c => k1 fun ht => few_b ht hf (by omega))
  · intro k x h1 hI
    obtain ⟨i1, i2, i3, i4⟩ := hI
    unfold FX7_findThreat_4
    exact br_t (nI_le (a := 128) (Nat.le_refl _) (by decide)) ⟨by rcases i2 with rfl | rfl <;> rfl, hq x h1 i1 i3 i4⟩
def fewV (w : ob_W) (r : ob_P) (p : Int32) : Int32 := match few w r 128 with
  | none => -1
  | some b => if p = 0 then nI (ctb b) else nI b
theorem op_threat {B : Nat} (p : Int32) : OK B (MX11_threat p) (MX12_threat p) := OK.ask fun h w r c _ => by
  obtain ⟨hW, hP, hw, hrw, hr, hn⟩ := c
  have hn7 := hW.1
  have hl := mkS_lt (w := w) (r := r) (s := 0)
  have h27 := pw7 hn7
  have hc : few w r 128 = few w r (mkS w r 0 + 1) := few_hi (by omega) (fun k h1 => thr_hi (by omega))
  refine ⟨fun x => x = if p < 0 ∨ 1 < p then -1 else fewV w r p, fun Q hq => ?_, fun h1 f1 x hx Q hq => ?_⟩
  · unfold MX11_threat
    refine br_c (fun c => hq _ h (by rw [if_pos (Or.inl c)]) Fr.rf) (fun c => br_c (fun c2 => hq _ h (by rw [if_pos (Or.inr c2)]) Fr.rf) (fun c2 => ?_))
    have hno : ¬ (p < 0 ∨ 1 < p) := by rintro (z | z); exact c z; exact c2 z
    refine cs_findThreat hW hw hr fun x h1 f1 a1 a2 => ?_
    have hf : ∀ v, v = fewV w r p → Q v h1 := fun v e => hq v h1 (by rw [if_neg hno]; exact e) f1
    unfold fewV at hf
    cases hy : few w r 128 with
    | none =>
      rw [hy] at hf
      rw [a1 hy]
      exact br_t rfl (hf _ rfl)
    | some b =>
      rw [hy] at hf
      obtain ⟨b1, b2⟩ := a2 b hy
      rw [b1, b2]
      refine br_f (by decide) (br_c (fun d => cs_bits (few_lt hy) (hf _ (by simp [d]))) (fun d => hf _ (by simp [d])))
  · subst hx
    have hn1 := hn.sc f1
    have hw1 := hrw.sc hn7 f1
    unfold MX12_threat
    refine rs_isIn (fun a b => br_f (by decide) ?_) (fun a => br_t rfl ?_)
    · rw [if_neg (by rintro (z | z); exact a z; exact b z)] at hq
      refine rs_waitingNow hW hw1 hn1 fun h2 f2 => rs_standing hW (hw1.sr hn7 f2) (hn1.sr f2) fun h3 f3 => ?_
      have hw3 := (hw1.sr hn7 f2).sr hn7 f3
      refine lo2c2 (mkS w r 0 + 1) (by omega) (fun m x => (few w r m = none → x = -1) ∧ ∀ b, few w r m = some b → x = nI b) ?_ ?_ 0 (Nat.zero_le _) _ ⟨fun _ => rfl, fun b hb => by cases hb⟩
      · intro k m x hm hI hk
        obtain ⟨i2, i3⟩ := hI
        have skip : few w r (m + 1) = few w r m → k x (nI (m + 1)) := fun e => hk _ ⟨by rw [e]; exact i2, by rw [e]; exact i3⟩
        have k1 : m &&& mkS w r 0 = m → (thr w r m = true → few w r (m + 1) = some m) → KX12_threat_60 p (nI (mkS w r 0)) (nI (mkS w r 2)) x (nI m) h3 Q k := fun hs e => by
          unfold KX12_threat_60
          refine rs_isBarred hW hw3 ?_
          by_cases d : wgV w (bitI (nI (mkS w r 2) ||| nI m)) < wv w 7 1
          · rw [if_pos d]
            have ht : thr w r m = false := by simp [thr, d]
            exact br_t rfl (Lt_eq (nI_1 _) (skip (few_no ht)))
          · rw [if_neg d]
            have ht : thr w r m = true := by simp [thr, hs, d]
            refine br_f (by decide) (Lt_eq (nI_1 _) (hk _ ⟨fun hy => (Option.some_ne_none _ ((e ht).symm.trans hy)).elim, fun b hb => ?_⟩))
            rw [Option.some.inj ((e ht).symm.trans hb)]
        unfold FX12_threat_27
        refine br_f (nI_nlt (by omega) (by omega)) (br_c (fun c => ?_) (fun c => Lt_eq (nI_1 _) (skip ?_)))
        · have hs := (thr_sub hn7 (by omega)).mp c
          cases hf : few w r m with
          | none =>
            rw [i2 hf] at k1 ⊢
            exact br_t (by decide) (k1 hs fun ht => few_n ht hf)
          | some b =>
            have hb := few_lt hf
            have l1 : ctb b ≤ 7 := cnt_le _ _
            have l2 : ctb m ≤ 7 := cnt_le _ _
            rw [i3 b hf] at k1 skip ⊢
            refine br_f (nI_pos (by omega)) (rs_members (by omega) (rs_members (by omega) ?_))
            rw [nI_le2 (by omega) (by omega)]
            exact br_c (fun d => Lt_eq (nI_1 _) (skip ((few_k hf (by omega)).trans hf.symm))) (fun d => k1 hs fun ht => few_b ht hf (by omega))
        · apply few_no
          have hs : ¬ m &&& mkS w r 0 = m := fun z => c ((thr_sub hn7 (by omega)).mpr z)
          simp [thr, hs]
      · intro k x hI
        obtain ⟨i2, i3⟩ := hI
        unfold FX12_threat_27
        refine br_t (nI_lt (by omega) (by omega)) ?_
        have hf : ∀ v, v = fewV w r p → Q v h3 := fun v e => by rw [e]; exact hq h3 (f2.tr f3)
        unfold fewV at hf
        rw [hc] at hf
        cases hy : few w r (mkS w r 0 + 1) with
        | none =>
          rw [hy] at hf
          rw [i2 hy]
          exact br_f (by decide) (hf _ rfl)
        | some b =>
          rw [hy] at hf
          have := few_lt hy
          rw [i3 b hy]
          refine br_t (nI_pos' (by omega)) (br_c (fun d => rs_members (by omega) (hf _ (by simp [d]))) (fun d => hf _ (by simp [d])))
    · rw [if_pos a] at hq
      exact hq h1 Fr.rf
