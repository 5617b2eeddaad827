-- ===== the class's cells =====
def enO (s : Int32) : Int32 := if s = 38 then 118 else if s = 124 then 117 else s
def enS (s : ob_S) : Int32 := if s.1 = 0 then s.2 else if s.1 = 1 then -(100 + s.2) else if s.1 = 2 then -119 else -(enO s.2)
def CF (h : ob_H) (f : Nat) (L : List ob_S) : Prop := h.1 f 1 = nI L.length ∧ ∀ k, k < L.length → ∃ s, L[k]? = some s ∧ h.1 (f + 1) k = enS s
def CW (h : ob_H) (w : ob_W) : Prop := h.1 20 0 = nI w.1 ∧ (∀ c, c < 6 → ∀ k, k < w.1 → h.1 (21 + c) k = wv w c k) ∧ (∀ a b, a < w.1 → b < w.1 → h.1 27 (7 * a + b) = wv w 6 (7 * a + b)) ∧ h.1 20 8 = wv w 7 0 ∧ h.1 20 9 = wv w 7 1 ∧ h.1 20 10 = wv w 7 2 ∧ h.1 20 11 = wv w 7 3 ∧ CF h 28 (w.2.2 0) ∧ CF h 31 (w.2.2 1)
def CR (h : ob_H) (n o : Nat) (r : ob_P) : Prop := (∀ s, s < 7 → h.1 (o + 1) s = nI (mk (isS r (nI s)) n)) ∧ (∀ k, k < n → h.1 (o + 2) k = r (14 + k)) ∧ (∀ k, k < n → h.1 (o + 3) k = r (7 + k)) ∧ h.1 o 3 = r 21 ∧ h.1 o 4 = r 22 ∧ h.1 o 5 = r 23
/-- what taking an order or an answer writes, in room o -/
def CE (o q _k : Nat) : Prop := q = 30 ∨ q = 33 ∨ q = o + 4
theorem CF.fr {h h' : ob_H} {f : Nat} {L : List ob_S} (a : CF h f L) {P : Nat → Nat → Prop} (hf : Fr P h h') (hP : ∀ q k, P q k → q ≠ f ∧ q ≠ f + 1) : CF h' f L := by
  refine ⟨by rw [hf.i (fun p => (hP _ _ p).1 rfl)]; exact a.1, fun k hk => ?_⟩
  rw [hf.i (fun p => (hP _ _ p).2 rfl)]
  exact a.2 k hk
theorem CW.fr {h h' : ob_H} {w : ob_W} (a : CW h w) {P : Nat → Nat → Prop} (hf : Fr P h h') (hP : ∀ q k, P q k → ¬ (20 ≤ q ∧ q ≤ 29) ∧ q ≠ 31 ∧ q ≠ 32) : CW h' w := by
  obtain ⟨a1, a2, a3, a4, a5, a6, a7, a8, a9⟩ := a
  have e : ∀ q k, 20 ≤ q → q ≤ 29 → h'.1 q k = h.1 q k := fun q k q1 q2 => hf.i (fun p => (hP _ _ p).1 ⟨q1, q2⟩)
  refine ⟨by rw [e _ _ (by omega) (by omega)]; exact a1, fun c hc k hk => by rw [e _ _ (by omega) (by omega)]; exact a2 c hc k hk, fun x y hx hy => by rw [e _ _ (by omega) (by omega)]; exact a3 x y hx hy, by rw [e _ _ (by omega) (by omega)]; exact a4, by rw [e _ _ (by omega) (by omega)]; exact a5, by rw [e _ _ (by omega) (by omega)]; exact a6, by rw [e _ _ (by omega) (by omega)]; exact a7, a8.fr hf (fun q k p => ?_), a9.fr hf (fun q k p => ?_)⟩
  · have := hP q k p; omega
  · have := hP q k p; omega
theorem CR.fr {h h' : ob_H} {n o : Nat} {r : ob_P} (a : CR h n o r) {P : Nat → Nat → Prop} (hf : Fr P h h') (hP : ∀ q k, P q k → ¬ (o ≤ q ∧ q ≤ o + 3)) : CR h' n o r := by
  obtain ⟨a1, a2, a3, a4, a5, a6⟩ := a
  have e : ∀ q k, o ≤ q → q ≤ o + 3 → h'.1 q k = h.1 q k := fun q k q1 q2 => hf.i (fun p => hP _ _ p ⟨q1, q2⟩)
  exact ⟨fun s hs => by rw [e _ _ (by omega) (by omega)]; exact a1 s hs, fun k hk => by rw [e _ _ (by omega) (by omega)]; exact a2 k hk, fun k hk => by rw [e _ _ (by omega) (by omega)]; exact a3 k hk, by rw [e _ _ (by omega) (by omega)]; exact a4, by rw [e _ _ (by omega) (by omega)]; exact a5, by rw [e _ _ (by omega) (by omega)]; exact a6⟩
theorem cs_join {s x y : Int32} {h : ob_H} {Q : Int32 → Prop} (hs : s = 37 ∨ s = 38 ∨ s = 42 ∨ s = 43 ∨ s = 45 ∨ s = 47 ∨ s = 60 ∨ s = 61 ∨ s = 62 ∨ s = 124) (hq : Q (doS s x y)) : MX4_join (enO s) x y h Q := by
  unfold MX4_join
  rcases hs with rfl | rfl | rfl | rfl | rfl | rfl | rfl | rfl | rfl | rfl <;> simp only [doS, enO] at hq ⊢ <;> simp (decide := true) only [if_true, if_false, true_implies, false_implies, not_true_eq_false, not_false_eq_true, and_true, true_and] at hq ⊢
  · refine br_c (fun c => ?_) (fun c => ⟨c, ?_⟩)
    · rw [if_pos c] at hq; exact hq
    · rw [if_neg c] at hq; exact hq
  · refine br_c (fun c => ?_) (fun c => br_c (fun c2 => ?_) (fun c2 => ?_)) <;> simpa [tru, *] using hq
  · exact hq
  · exact hq
  · exact hq
  · refine br_c (fun c => ?_) (fun c => ⟨c, ?_⟩)
    · rw [if_pos c] at hq; exact hq
    · rw [if_neg c] at hq; exact hq
  · refine br_c (fun c => ?_) (fun c => ?_)
    · simpa [tru, Int32.not_lt.mpr c] using hq
    · simpa [tru, Int32.not_le.mp c] using hq
  · refine br_c (fun c => ?_) (fun c => ?_) <;> simpa [tru, *] using hq
  · refine br_c (fun c => ?_) (fun c => ?_)
    · simpa [tru, Int32.not_lt.mpr c] using hq
    · simpa [tru, Int32.not_le.mp c] using hq
  · refine br_c (fun c => br_c (fun c2 => ?_) (fun c2 => ?_)) (fun c => ?_) <;> simpa [tru, *] using hq
theorem fact_all : ∀ i, i < 6 → ¬ (0 : Int32) ≤ -(100 + nI i) ∧ (-(100 + nI i) < (0 : Int32)) ∧ ¬ -(-(100 + nI i)) < (100 : Int32) ∧ ¬ (105 : Int32) < -(-(100 + nI i)) ∧ (-(-(100 + nI i))) - (100 : Int32) = nI i := by decide +kernel
theorem sign_all {s : Int32} (hs : s = 37 ∨ s = 38 ∨ s = 42 ∨ s = 43 ∨ s = 45 ∨ s = 47 ∨ s = 60 ∨ s = 61 ∨ s = 62 ∨ s = 124) : ¬ (0 : Int32) ≤ -(enO s) ∧ (enO s < (100 : Int32) ∨ (105 : Int32) < enO s) ∧ -(enO s) ≠ (-119 : Int32) ∧ -(-(enO s)) = enO s := by
  rcases hs with rfl | rfl | rfl | rfl | rfl | rfl | rfl | rfl | rfl | rfl <;> decide
theorem cs_isFact {x : Int32} {h : ob_H} {Q : Int32 → Prop} (hq : Q (tru (decide (100 ≤ x) && decide (x ≤ 105)))) : MX4_isFact x h Q := by
  unfold MX4_isFact
  refine br_c (fun c => ?_) (fun c => br_c (fun c2 => ?_) (fun c2 => ?_))
  · simpa [tru, Int32.not_le.mpr c] using hq
  · simpa [tru, Int32.not_le.mpr c2] using hq
  · simpa [tru, Int32.not_lt.mp c, Int32.not_lt.mp c2] using hq
set_option maxHeartbeats 1000000 in
theorem cs_value {h : ob_H} {o p1 : Nat} {L : List ob_S} {fa : Nat → Int32} {Q : Int32 → ob_H → Prop} (hf : CF h o L) (hwf : WFf L) (hfa : ∀ j, j < 6 → h.1 p1 j = fa j) (hp : p1 ≠ o + 2) (hq : ∀ h', Fr (fun q _ => q = o + 2) h h' → Q (evF fa L) h') : MX4_value o p1 h Q := by
  have hlen := hwf.2
  unfold MX4_value
  refine lo3c2 L.length (by omega) (fun j x2 h' => ∃ k : List Int32, x2 = nI k.length ∧ k.length ≤ 30 ∧ evL fa (L.drop j) k = evL fa L [] ∧ hgt (L.drop j) k.length = some 1 ∧ Stk h' (o + 2) k ∧ Fr (fun q _ => q = o + 2) h h') ?_ ?_ 0 (Nat.zero_le _) _ _
    ⟨[], rfl, by simp, by simp, by simpa using hwf.1, fun i x hx => by simp at hx, Fr.rf⟩
  · intro kk j x2 h' hj hI hk
    obtain ⟨k, rfl, hk30, hev, hh, hst, hfr⟩ := hI
    have ej : ix (nI j) = j := nI_clamp (by omega)
    have ekl : ix (nI k.length) = k.length := nI_clamp (by omega)
    have g1 : h'.1 o 1 = nI L.length := by rw [hfr.i (by omega)]; exact hf.1
    obtain ⟨s, hs, g2⟩ := hf.2 j hj
    have g3 : h'.1 (o + 1) j = enS s := by rw [hfr.i (by omega)]; exact g2
    have hdrop : L.drop j = s :: L.drop (j + 1) := by
      rw [List.drop_eq_getElem_cons hj]
      congr 1
      exact (List.getElem?_eq_some_iff.mp hs).2
    rw [hdrop] at hev hh
    have hev2 : evL fa (L.drop (j + 1)) (stS fa k s) = evL fa L [] := hev
    generalize hT : L.drop (j + 1) = T at *
    obtain ⟨a1, a2⟩ := s
    unfold FX4_value_4
    rw [g1, ej, g3]
    refine br_f (nI_ge hj (by omega)) ⟨vp_in_nI (by omega) (by omega), Lt_i fun v ev => ?_⟩
    unfold enS at ev
    unfold hgt at hh
    dsimp only at hh ev
    by_cases q0 : a1 = 0
    · rw [if_pos q0] at hh ev
      subst ev
      by_cases q1 : k.length < 30 ∧ ¬ v < 0
      · rw [if_pos q1] at hh
        refine br_t (Int32.not_lt.mp q1.2) ?_
        unfold KX4_value_34 KX4_value_63
        refine br_f (show ¬ nI 32 ≤ nI k.length from nI_ge (by omega) (by omega)) (br_f q1.2 ⟨vp_in_nI (by omega) (by omega), ?_⟩)
        rw [ekl]
        refine Lt_i fun y8 z8 => Lt_eq (nI_1 _) (Lt_eq (nI_1 _) (hk _ _ ⟨v :: k, rfl, by simp; omega, ?_, by simpa using hh, ?_, ?_⟩))
        · rw [← hev2]; simp [stS, q0]
        · rw [z8]; exact hst.push
        · rw [z8]; exact hfr.st rfl
      · rw [if_neg q1] at hh; cases hh
    · rw [if_neg q0] at hh ev
      by_cases q1 : a1 = 1
      · rw [if_pos q1] at hh ev
        by_cases q2 : k.length < 30 ∧ ¬ a2 < 0 ∧ a2.toNatClampNeg < 6
        · rw [if_pos q2] at hh
          obtain ⟨i, hi31, rfl⟩ := nI_of q2.2.1
          have hi6 : i < 6 := by have := q2.2.2; rw [nI_clamp hi31] at this; exact this
          obtain ⟨u1, u2, u3, u4, u5⟩ := fact_all i hi6
          rw [ev]
          refine br_f u1 (cs_isFact ?_)
          rw [show (decide ((100 : Int32) ≤ -(-(100 + nI i))) && decide (-(-(100 + nI i)) ≤ (105 : Int32))) = true by rw [decide_eq_true (Int32.not_lt.mp u3), decide_eq_true (Int32.not_lt.mp u4)]; rfl]
          refine br_f (by decide) ?_
          unfold KX4_value_34 KX4_value_63
          rw [u5]
          refine br_f (show ¬ nI 32 ≤ nI k.length from nI_ge (by omega) (by omega)) (br_t u2 ⟨vp_in_nI (by omega) (by omega), vp_in_nI (by omega) (by omega), ?_⟩)
          have hA : h'.1 p1 (ix (nI i)) = fa i := by
            rw [hfr.i hp, show ix (nI i) = i from nI_clamp hi31]
            exact hfa i hi6
          rw [ekl, hA]
          refine Lt_i fun y8 z8 => Lt_eq (nI_1 _) (Lt_eq (nI_1 _) (hk _ _ ⟨fa i :: k, rfl, by simp; omega, ?_, by simpa using hh, ?_, ?_⟩))
          · rw [← hev2]
            unfold stS
            dsimp only
            rw [if_neg q0, if_pos q1, nI_clamp hi31]
          · rw [z8]; exact hst.push
          · rw [z8]; exact hfr.st rfl
        · rw [if_neg q2] at hh; cases hh
      · rw [if_neg q1] at hh ev
        by_cases q2 : a1 = 2
        · rw [if_pos q2] at hh ev
          subst ev
          refine br_f (by decide) (cs_isFact ?_)
          rw [show (decide ((100 : Int32) ≤ -(-119)) && decide (-(-119) ≤ (105 : Int32))) = false by decide]
          refine br_t rfl (br_t rfl ?_)
          cases k with
          | nil => simp at hh
          | cons x k =>
            have e1 : nI (x :: k).length - 1 = nI k.length := by rw [List.length_cons, nI_pred]
            have e2 : ix (nI k.length) = k.length := nI_clamp (by simp at hk30; omega)
            have e3 : vp_in (nI k.length) 32 := vp_in_nI (by simp at hk30; omega) (by omega)
            refine br_f (nI_nle (by simp) (by simp at hk30 ⊢; omega)) ?_
            rw [e1, e2, hst.top]
            refine ⟨e3, ?_⟩
            have fin : ∀ b : Int32, b = tru (decide (x = 0)) → KX4_value_104 o p1 (nI (x :: k).length) (nI j) b (nI k.length) h' Q kk := by
              intro b hb
              unfold KX4_value_104
              rw [e2]
              refine ⟨e3, Lt_i fun y8 z8 => Lt_eq (nI_1 _) (hk _ _ ⟨tru (decide (x = 0)) :: k, rfl, by simpa using hk30, ?_, by simpa using hh, ?_, ?_⟩)⟩
              · rw [← hev2]; simp [stS, q0, q1, q2]
              · rw [z8, hb]; exact hst.set
              · rw [z8]; exact hfr.st rfl
            refine br_c (fun c => fin 1 ?_) (fun c => fin 0 ?_) <;> simp [tru, c]
        · rw [if_neg q2] at hh ev
          by_cases q3 : a1 = 3
          · rw [if_pos q3] at hh
            split at hh
            · rename_i q4
              obtain ⟨u1, u2, u3, u4⟩ := sign_all q4.2
              rw [ev, u4]
              refine br_f u1 (cs_isFact ?_)
              rw [show (decide ((100 : Int32) ≤ enO a2) && decide (enO a2 ≤ (105 : Int32))) = false by
                rcases u2 with u2 | u2
                · simp [Int32.not_le.mpr u2]
                · simp [Int32.not_le.mpr u2]]
              refine br_t rfl (br_f u3 ?_)
              match k, q4.1 with
              | y :: x :: k, _ =>
                have e1 : nI (y :: x :: k).length + (-1) = nI (x :: k).length := by rw [List.length_cons, pk_m1]
                have e1' : nI (x :: k).length - 1 = nI k.length := by rw [List.length_cons, nI_pred]
                have hkl : k.length ≤ 28 := by simp at hk30; omega
                have e2 : ix (nI k.length) = k.length := nI_clamp (by omega)
                have e2' : ix (nI (x :: k).length) = (x :: k).length := nI_clamp (by simp; omega)
                have e3 : vp_in (nI k.length) 32 := vp_in_nI (by omega) (by omega)
                have e3' : vp_in (nI (x :: k).length) 32 := vp_in_nI (by simp; omega) (by omega)
                refine br_f (show ¬ nI (y :: x :: k).length ≤ nI 1 from nI_ge (by simp) (by simp; omega)) (Lt_eq e1 ⟨by rw [e1']; exact e3, e3', ?_⟩)
                rw [e1', e2, e2', hst.top, hst.pop.top]
                refine cs_join q4.2 ?_
                refine Lt_i fun y8 z8 => Lt_eq (nI_1 _) (hk _ _ ⟨doS a2 x y :: k, rfl, by simp; omega, ?_, by simpa using hh, ?_, ?_⟩)
                · rw [← hev2]; simp [stS, q0, q1, q2]
                · rw [z8]; exact hst.pop.set
                · rw [z8]; exact hfr.st rfl
            · cases hh
          · rw [if_neg q3] at hh; cases hh
  · intro kk x2 h' hI
    obtain ⟨k, rfl, hk30, hev, hh, hst, hfr⟩ := hI
    have g1 : h'.1 o 1 = nI L.length := by rw [hfr.i (by omega)]; exact hf.1
    unfold FX4_value_4
    rw [g1]
    refine br_t (nI_le (Nat.le_refl _) (by omega)) ?_
    rw [List.drop_length] at hev hh
    have hk1 : k.length = 1 := by unfold hgt at hh; exact Option.some.inj hh
    match k, hk1 with
    | [x], _ =>
      have e1 : h'.1 (o + 2) 0 = x := hst.top
      have e2 : evF fa L = x := by unfold evF; rw [← hev]; rfl
      refine br_f (show ¬ nI 1 ≤ 0 by decide) ?_
      rw [e1, ← e2]
      exact hq h' hfr
-- ===== rooms of the class =====
def bcE (p0 : Int32) : Int32 :=
  let v1 := p0 - ((ush p0 1) &&& 1431655765)
  let v3 := (v1 &&& 858993459) + ((ush v1 2) &&& 858993459)
  let v5 := (v3 + ush v3 4) &&& 252645135
  let v7 := v5 + ush v5 8
  (v7 + ush v7 16) &&& 63
theorem bc_all : ∀ m, m < 128 → bcE (nI m) = nI (cnt (fun k => m.testBit k) 7) := by decide +kernel
theorem cnt_mk {p : Nat → Bool} {n : Nat} (hn : n ≤ 7) : cnt (fun k => (mk p n).testBit k) 7 = cnt p n := by
  have key : ∀ j, cnt (fun k => (mk p n).testBit k) j = cnt p (min j n) := by
    intro j
    induction j with
    | zero => simp [cnt]
    | succ j ih =>
      show cnt _ j + (if (mk p n).testBit j = true then 1 else 0) = _
      rw [ih, mk_bit]
      by_cases hj : j < n
      · rw [show min (j + 1) n = j + 1 by omega, show min j n = j by omega]
        show _ = cnt p j + _
        simp [hj]
      · rw [show min (j + 1) n = min j n by omega]
        simp [hj]
  rw [key, show min 7 n = n by omega]
theorem pw7 {n : Nat} (hn : n ≤ 7) : 2 ^ n ≤ 2 ^ 7 := Nat.pow_le_pow_right (by decide) hn
theorem mk7 {p : Nat → Bool} {n : Nat} (hn : n ≤ 7) : mk p n < 128 := Nat.lt_of_lt_of_le (mk_lt p n) (pw7 hn)
theorem cs_bitCount {p : Nat → Bool} {n : Nat} {h : ob_H} {Q : Int32 → Prop} (hn : n ≤ 7) (hq : Q (nI (cnt p n))) : MJ6_bitCount_0f7a4 (nI (mk p n)) h Q := by
  have e := bc_all (mk p n) (mk7 hn)
  rw [cnt_mk hn] at e
  rw [← e] at hq
  exact hq
theorem cs_waits {h : ob_H} {n o k : Nat} {r : ob_P} {Q : Int32 → Prop} (hn : n ≤ 7) (hr : CR h n o r) (hk : k < n) (hq : Q (tru (isS r 0 k))) : MX6_waits o (nI k) h Q := by
  unfold MX6_waits
  rw [hr.1 0 (by omega), ja_bit k (by omega) _ (mk7 hn), mk_bit]
  simp only [hk, decide_true, Bool.true_and]
  have e0 : nI 0 = (0 : Int32) := rfl
  rw [e0]
  cases hz : isS r 0 k with
  | false => rw [hz] at hq; exact br_t (by simp) hq
  | true => rw [hz] at hq; exact br_f (by simp) hq
theorem cs_waited {h : ob_H} {n o k : Nat} {r : ob_P} {Q : Int32 → Prop} (hn : n ≤ 7) (hr : CR h n o r) (hk : k < n) (hq : Q (r 21 - r (7 + k))) : MX6_waited o (nI k) h Q := by
  unfold MX6_waited
  rw [show ix (nI k) = k from nI_clamp (by omega), hr.2.2.1 k hk, hr.2.2.2.1]
  exact ⟨vp_in_nI (by omega) (by omega), hq⟩
theorem cs_gather {h : ob_H} {w : ob_W} {o k : Nat} {r : ob_P} {g : Int32} {Q : ob_H → Prop} (hn7 : w.1 ≤ 7) (hw : CW h w) (hr : CR h w.1 o r) (hk : k < w.1) (ho : 33 < o) (hq : ∀ h', Fr (fun q _ => q = o + 4) h h' → (∀ j, j < 6 → h'.1 (o + 4) j = fct w r k g j) → Q h') : MX6_gather o (nI k) g h Q := by
  have ek : ix (nI k) = k := nI_clamp (by omega)
  unfold MX6_gather
  rw [ek]
  refine Lt_i fun y1 z1 => ⟨vp_in_nI (by omega) (by omega), Lt_i fun y2 z2 => ?_⟩
  have f2 : Fr (fun q _ => q = o + 4) h y2 := by
    rw [z2, z1]
    exact Fr.st (P := fun q _ => q = o + 4) (Fr.st (P := fun q _ => q = o + 4) Fr.rf rfl) rfl
  have r2 : CR y2 w.1 o r := hr.fr f2 (fun q k p => by omega)
  refine cs_waited hn7 r2 hk ?_
  refine Lt_i fun y3 z3 => Lt_i fun y4 z4 => ?_
  have f4 : Fr (fun q _ => q = o + 4) h y4 := by
    rw [z4, z3]
    exact (f2.st rfl).st rfl
  have r4 : CR y4 w.1 o r := hr.fr f4 (fun q k p => by omega)
  rw [r4.1 1 (by omega), r4.1 2 (by omega), ja_or _ _ (mk7 hn7) (mk7 hn7), mk_or]
  refine cs_bitCount hn7 ?_
  have ec : cnt (fun q => isS r (nI 1) q || isS r (nI 2) q) w.1 = cnt (hrd r) w.1 := cnt_congr (fun q _ => by
    unfold isS hrd
    rw [show nI 1 = (1 : Int32) from rfl, show nI 2 = (2 : Int32) from rfl]
    simp)
  rw [ec]
  refine Lt_i fun y5 z5 => Lt_i fun y6 z6 => hq _ ?_ ?_
  · rw [z6, z5]
    exact (f4.st rfl).st rfl
  · intro j hj
    have q1 : h.1 22 k = wv w 1 k := hw.2.1 1 (by omega) k hk
    have q2 : y5.1 o 3 = r 21 := by rw [z5, h_i_1, if_neg (by omega)]; exact r4.2.2.2.1
    have q3 : y3.1 (o + 2) k = r (14 + k) := by rw [z3, h_i_1, if_neg (by omega)]; exact r2.2.1 k hk
    have q4 : y1.1 22 k = wv w 1 k := by rw [z1, h_i_1, if_neg (by omega)]; exact q1
    rw [z6, q2, z5, z4, q3, z3, z2, q4, z1]
    rcases (show j = 0 ∨ j = 1 ∨ j = 2 ∨ j = 3 ∨ j = 4 ∨ j = 5 by omega) with rfl | rfl | rfl | rfl | rfl | rfl <;> simp [h_i_1, fct]
theorem cs_orderOf {h : ob_H} {w : ob_W} {o k : Nat} {r : ob_P} {g : Int32} {Q : Int32 → ob_H → Prop} (hW : WFW w) (hw : CW h w) (hr : CR h w.1 o r) (hk : k < w.1) (ho : 33 < o) (hq : ∀ h', Fr (CE o) h h' → Q (ordV w r k g) h') : MX6_orderOf o (nI k) g h Q := by
  unfold MX6_orderOf
  refine cs_gather hW.1 hw hr hk ho fun h1 f1 a1 => ?_
  have w1 := hw.fr f1 (fun q k p => by omega)
  refine cs_value w1.2.2.2.2.2.2.2.1 hW.2.1 a1 (by omega) fun h2 f2 => hq h2 ((f1.mono (fun q k p => Or.inr (Or.inr p))).tr (f2.mono (fun q k p => Or.inl p)))
theorem cs_answerOf {h : ob_H} {w : ob_W} {o k : Nat} {r : ob_P} {Q : Int32 → ob_H → Prop} (hW : WFW w) (hw : CW h w) (hr : CR h w.1 o r) (hk : k < w.1) (ho : 33 < o) (hq : ∀ h', Fr (CE o) h h' → Q (ansV w r k) h') : MX6_answerOf o (nI k) h Q := by
  unfold MX6_answerOf
  have hn7 := hW.1
  rw [show ix (nI k) = k from nI_clamp (by omega), hw.2.1 0 (by omega) k hk]
  refine ⟨vp_in_nI (by omega) (by omega), cs_gather hW.1 hw hr hk ho fun h1 f1 a1 => ?_⟩
  have w1 := hw.fr f1 (fun q k p => by omega)
  refine cs_value w1.2.2.2.2.2.2.2.2 hW.2.2.1 a1 (by omega) fun h2 f2 => hq h2 ((f1.mono (fun q k p => Or.inr (Or.inr p))).tr (f2.mono (fun q k p => Or.inr (Or.inl p))))

theorem cs_turn {h : ob_H} {w : ob_W} {o : Nat} {r : ob_P} {Q : Int32 → ob_H → Prop} (hW : WFW w) (hw : CW h w) (hr : CR h w.1 o r) (ho : 33 < o) (hq : ∀ h', Fr (CE o) h h' → Q (tI (trn w r)) h') : MX6_turn o h Q := by
  have hn7 := hW.1
  have hPw : ∀ q k, CE o q k → ¬ (20 ≤ q ∧ q ≤ 29) ∧ q ≠ 31 ∧ q ≠ 32 := fun q k p => by unfold CE at p; omega
  have hPr : ∀ q k, CE o q k → ¬ (o ≤ q ∧ q ≤ o + 3) := fun q k p => by unfold CE at p; omega
  unfold MX6_turn
  refine lo4c3 w.1 (by omega) (fun j a b h' => a = tI (best w r (isS r 0) j) ∧ (∀ c, best w r (isS r 0) j = some c → b = rnk w r c) ∧ Fr (CE o) h h') ?_ ?_ 0 (Nat.zero_le _) _ _ _ ⟨rfl, (fun c hc => by cases hc), Fr.rf⟩
  · intro k j a b h' hj hI hk
    obtain ⟨rfl, hb0, hf⟩ := hI
    have hw' := hw.fr hf hPw
    have hr' := hr.fr hf hPr
    have e1 : ix (nI j) = j := nI_clamp (by omega)
    unfold FX6_turn_6
    rw [hw'.1, e1]
    refine br_f (nI_ge hj (by omega)) (cs_waits hn7 hr' hj ?_)
    cases hp : isS r 0 j with
    | false =>
      refine br_t rfl ?_
      have e : best w r (isS r 0) (j + 1) = best w r (isS r 0) j := by
        rw [best_succ]
        cases best w r (isS r 0) j <;> simp [hp]
      refine Lt_eq (nI_1 _) (hk _ _ _ ⟨by rw [e], fun c hc => hb0 c (by rw [← e]; exact hc), hf⟩)
    | true =>
      refine br_f (by decide) ⟨vp_in_nI (by omega) (by omega), ?_⟩
      rw [hw'.2.1 0 (by omega) j hj]
      refine cs_gather hn7 hw' hr' hj ho fun h1 f1 a1 => ?_
      have w1 := hw'.fr f1 (fun q k p => by omega)
      refine cs_value w1.2.2.2.2.2.2.2.1 hW.2.1 a1 (by omega) fun h2 f2 => ?_
      have f12 : Fr (CE o) h h2 := (hf.tr (f1.mono (fun q k p => Or.inr (Or.inr p)))).tr (f2.mono (fun q k p => Or.inl p))
      have r2 := hr.fr f12 hPr
      show (tI (best w r (isS r 0) j) < 0 → _) ∧ _
      have take : (best w r (isS r 0) (j + 1) = some j) → (Lt (nI j + (1) : Int32) fun v11 => k (nI j) (rnk w r j) v11 h2) := fun e => Lt_eq (nI_1 _) (hk _ _ _ ⟨by rw [e]; rfl, fun c hc => by rw [e] at hc; cases hc; rfl, f12⟩)
      have keep : (best w r (isS r 0) (j + 1) = best w r (isS r 0) j) → (Lt (nI j + (1) : Int32) fun v11 => k (tI (best w r (isS r 0) j)) b v11 h2) := fun e => Lt_eq (nI_1 _) (hk _ _ _ ⟨by rw [e], fun c hc => hb0 c (by rw [← e]; exact hc), f12⟩)
      cases hb : best w r (isS r 0) j with
      | none =>
        refine br_t (by decide) (take ?_)
        rw [best_succ, hb]
        simp [hp]
      | some c =>
        have hbl := best_lt hb
        have hbv := hb0 c hb
        subst hbv
        rw [hb] at keep
        have ec : ix (tI (some c)) = c := nI_clamp (by omega)
        refine br_f (show ¬ nI c < 0 from nI_pos (by omega)) ?_
        show (rnk w r c < rnk w r j → _) ∧ _
        refine br_c (fun c1 => take ?_) (fun c1 => br_c (fun c2 => ⟨vp_in_nI (by omega) (by omega), ?_⟩) (fun c2 => keep ?_))
        · rw [best_succ, hb]
          simp [hp, ahd, c1]
        · rw [ec, r2.2.1 c (by omega), r2.2.1 j hj]
          have c2' : rnk w r j = rnk w r c := c2
          refine br_c (fun c3 => keep ?_) (fun c3 => take ?_)
          · rw [best_succ, hb]
            have : ¬ r (14 + j) < r (14 + c) := Int32.not_lt.mpr c3
            simp [hp, ahd, c1, this]
          · rw [best_succ, hb]
            have : r (14 + j) < r (14 + c) := Int32.not_le.mp c3
            simp [hp, ahd, c1, this, c2']
        · rw [best_succ, hb]
          have c2' : ¬ rnk w r j = rnk w r c := c2
          simp [hp, ahd, c1, c2']
  · intro k a b h' hI
    obtain ⟨rfl, hb0, hf⟩ := hI
    have hw' := hw.fr hf hPw
    unfold FX6_turn_6
    rw [hw'.1]
    exact br_t (nI_le (Nat.le_refl _) (by omega)) (hq h' hf)
