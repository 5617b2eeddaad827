theorem rs_truth {b : Int32} {h : ob_H} {Q : Int32 → Prop} (hq : Q (if b = 0 then 0 else 1)) : MX12_truth b h Q := by
  unfold MX12_truth
  refine br_c (fun c => ?_) (fun c => ?_)
  · rw [if_pos c] at hq; exact hq
  · rw [if_neg c] at hq; exact hq
theorem rs_heardOnes {h : ob_H} {n : Nat} {r : ob_P} {Q : Int32 → Prop} (hn : h.1 108 48 = nI n) (hn7 : n ≤ 7) (ha : Air h r) (hq : Q (nI (cnt (hrd r) n))) : MX12_heardOnes h Q := by
  unfold MX12_heardOnes
  refine lo2c2 n (by omega) (fun j a => a = nI (cnt (hrd r) j)) ?_ ?_ 0 (Nat.zero_le _) _ rfl
  · intro k j a hj ha2 hk
    subst ha2
    have b1 : vp_in (nI j) 24 := vp_in_nI (by omega) (by omega)
    have e1 : ix (nI j) = j := nI_clamp (by omega)
    unfold FX12_heardOnes_4
    refine br_f (by rw [hn]; exact nI_ge hj (by omega)) ⟨b1, ?_⟩
    rw [e1, ha j (by omega)]
    have fin : ∀ b : Int32, (if b = 0 then (0 : Int32) else 1) = tru (hrd r j) → KX12_heardOnes_38 (nI j) b (nI (cnt (hrd r) j)) h Q k := by
      intro b hb
      unfold KX12_heardOnes_38
      refine rs_truth ?_
      rw [hb]
      have e2 : nI (cnt (hrd r) j) + tru (hrd r j) = nI (cnt (hrd r) (j + 1)) := by
        unfold tru
        show _ = nI (cnt (hrd r) j + (if hrd r j then 1 else 0))
        split <;> simp [nI_add, ← nI_1]
      exact Lt_eq e2 (Lt_eq (nI_1 j) (hk _ rfl))
    refine br_c (fun c => fin 1 ?_) (fun c => br_c (fun c2 => fin 1 ?_) (fun c2 => fin 0 ?_)) <;> simp [tru, hrd, *]
  · intro k a ha2
    unfold FX12_heardOnes_4
    refine br_t (by rw [hn]; exact nI_le (Nat.le_refl _) (by omega)) ?_
    rw [ha2]
    exact hq

theorem rs_done {a x y : Int32} {h : ob_H} {Q : Int32 → Prop} (hs : a = 37 ∨ a = 38 ∨ a = 42 ∨ a = 43 ∨ a = 45 ∨ a = 47 ∨ a = 60 ∨ a = 61 ∨ a = 62 ∨ a = 124) (hq : Q (doS a x y)) : MX12_done a x y h Q := by
  have key : ∀ b : Int32, Q (if b = 0 then 0 else 1) → MX12_truth b h Q := fun b hb => rs_truth hb
  unfold MX12_done
  rcases hs with rfl | rfl | rfl | rfl | rfl | rfl | rfl | rfl | rfl | rfl <;> simp only [doS] at hq <;> simp (decide := true) only [if_true, if_false, KX12_done_211, KX12_done_166, KX12_done_194, KX12_done_180, KX12_done_228, true_implies, false_implies, not_true_eq_false, not_false_eq_true, and_true, true_and] at hq ⊢
  · refine br_c (fun c => ?_) (fun c => ⟨c, ?_⟩)
    · rw [if_pos c] at hq; exact hq
    · rw [if_neg c] at hq; exact hq
  · refine br_c (fun c => key 0 ?_) (fun c => br_c (fun c2 => key 0 ?_) (fun c2 => key 1 ?_)) <;> simpa [tru, *] using hq
  · exact hq
  · exact hq
  · exact hq
  · refine br_c (fun c => ?_) (fun c => ⟨c, ?_⟩)
    · rw [if_pos c] at hq; exact hq
    · rw [if_neg c] at hq; exact hq
  · refine br_c (fun c => key 0 ?_) (fun c => key 1 ?_)
    · simpa [tru, Int32.not_lt.mpr c] using hq
    · simpa [tru, Int32.not_le.mp c] using hq
  · refine br_c (fun c => key 1 ?_) (fun c => key 0 ?_) <;> simpa [tru, *] using hq
  · refine br_c (fun c => key 0 ?_) (fun c => key 1 ?_)
    · simpa [tru, Int32.not_lt.mpr c] using hq
    · simpa [tru, Int32.not_le.mp c] using hq
  · refine br_c (fun c => br_c (fun c2 => key 0 ?_) (fun c2 => key 1 ?_)) (fun c => key 1 ?_) <;> simpa [tru, *] using hq

theorem hgt_len {L : List ob_S} : ∀ {d : Nat}, hgt L d = some 1 → d ≤ 31 → True := fun _ _ => trivial
/-- the stack of the machine: its top is the last of the row -/
def Stk (h : ob_H) (o : Nat) (k : List Int32) : Prop := ∀ i x, k[i]? = some x → h.1 o (k.length - 1 - i) = x
theorem Stk.push {h : ob_H} {o : Nat} {k : List Int32} {x : Int32} (a : Stk h o k) : Stk (h_i h o k.length x) o (x :: k) := by
  intro i y hy
  rw [h_i_1]
  cases i with
  | zero =>
    simp at hy
    simp [hy]
  | succ i =>
    simp at hy
    have hl := (List.getElem?_eq_some_iff.mp hy).1
    rw [if_neg]
    · rw [show (x :: k).length - 1 - (i + 1) = k.length - 1 - i by rw [List.length_cons]; omega]
      exact a i y hy
    · rw [List.length_cons]
      omega
theorem Stk.set {h : ob_H} {o : Nat} {k : List Int32} {x y : Int32} (a : Stk h o (x :: k)) : Stk (h_i h o k.length y) o (y :: k) := by
  refine Stk.push fun i z hz => ?_
  have hl := (List.getElem?_eq_some_iff.mp hz).1
  have h9 := a (i + 1) z (by simpa using hz)
  rw [show (x :: k).length - 1 - (i + 1) = k.length - 1 - i by rw [List.length_cons]; omega] at h9
  exact h9
theorem Stk.pop {h : ob_H} {o : Nat} {k : List Int32} {x : Int32} (a : Stk h o (x :: k)) : Stk h o k := by
  intro i z hz
  have hl := (List.getElem?_eq_some_iff.mp hz).1
  have h9 := a (i + 1) z (by simpa using hz)
  rw [show (x :: k).length - 1 - (i + 1) = k.length - 1 - i by rw [List.length_cons]; omega] at h9
  exact h9
theorem Stk.top {h : ob_H} {o : Nat} {k : List Int32} {x : Int32} (a : Stk h o (x :: k)) : h.1 o k.length = x := by
  have := a 0 x rfl
  simpa using this
theorem Stk.frm {h h' : ob_H} {o : Nat} {k : List Int32} (a : Stk h o k) (e : ∀ j, h'.1 o j = h.1 o j) : Stk h' o k := fun i x hx => by rw [e]; exact a i x hx
set_option maxHeartbeats 1000000 in
theorem rs_worked {h : ob_H} {w : ob_W} {r : ob_P} {f o : Nat} {g other : Int32} {Q : Int32 → ob_H → Prop} (hW : WFW w) (hw : RW h w) (ha : Air h r) (hf : f < 2) (ho : o < w.1) (h0 : f = 0 → other = g) (h1 : f = 1 → other = 100)
    (hq : ∀ h', Fr SE h h' → Q (evF (fct w r o g) (w.2.2 f)) h') : MX12_worked (nI f) (nI o) g other h Q := by
  have hn7 := hW.1
  have b7 : vp_in (nI o) 7 := vp_in_nI (by omega) (by omega)
  have eo : ix (nI o) = o := nI_clamp (by omega)
  have e7 : (7 : Int32) + nI o = nI (7 + o) := nI_add 7 o
  have e14 : (14 : Int32) + nI o = nI (14 + o) := nI_add 14 o
  have i7 : ix (nI (7 + o)) = 7 + o := nI_clamp (by omega)
  have i14 : ix (nI (14 + o)) = 14 + o := nI_clamp (by omega)
  unfold MX12_worked
  rw [e7, e14, eo, i7, i14]
  refine Lt_i fun y1 z1 => ⟨b7, Lt_i fun y2 z2 => ⟨vp_in_nI (by omega) (by omega), Lt_i fun y3 z3 => ⟨vp_in_nI (by omega) (by omega), Lt_i fun y4 z4 => ?_⟩⟩⟩
  have f4 : Fr SE h y4 := by
    subst z1 z2 z3 z4
    exact (((Fr.rf.st (Or.inr rfl)).st (Or.inr rfl)).st (Or.inr rfl)).st (Or.inr rfl)
  refine rs_heardOnes (n := w.1) (r := r) (by rw [f4.i (by unfold SE; omega)]; exact hw.1) hn7 (ha.se f4) ?_
  refine Lt_i fun y5 z5 => Lt_i fun y6 z6 => Lt_i fun y7 z7 => ?_
  have f7 : Fr SE h y7 := by
    subst z5 z6 z7
    exact ((f4.st (Or.inr rfl)).st (Or.inr rfl)).st (Or.inl rfl)
  have hask : ∀ j, j < 6 → y7.1 120 j = fct w r o g j := by
    intro j hj
    have q1 : y4.1 136 21 = r 21 := (ha.se f4) 21 (by omega)
    have q2 : h.1 129 o = wv w 1 o := hw.2.1 1 (by omega) o ho
    have q3 : h.1 136 (7 + o) = r (7 + o) := ha _ (by omega)
    have q4 : h.1 136 (14 + o) = r (14 + o) := ha _ (by omega)
    have q5 : h.1 136 21 = r 21 := ha _ (by omega)
    subst z5 z6 z7
    have q6 : (h_i y4 120 4 (nI (cnt (hrd r) w.1))).1 136 21 = r 21 := by simp [h_i_1, q1]
    rw [q6]
    subst z1 z2 z3 z4
    rcases (show j = 0 ∨ j = 1 ∨ j = 2 ∨ j = 3 ∨ j = 4 ∨ j = 5 by omega) with rfl | rfl | rfl | rfl | rfl | rfl <;> simp [h_i_1, fct, q2, q3, q4, q5]
  have h118 : y7.1 118 0 = other := by rw [z7]; simp [h_i_1]
  have hR : RW y7 w := hw.fr hn7 f7 (fun q k p => by unfold SE at p; omega)
  have hRf : RFm y7 f (w.2.2 f) := by
    rcases (show f = 0 ∨ f = 1 by omega) with rfl | rfl
    · exact hR.2.2.2.2.2.2.1
    · exact hR.2.2.2.2.2.2.2
  have hWf : WFf (w.2.2 f) := by
    rcases (show f = 0 ∨ f = 1 by omega) with rfl | rfl
    · exact hW.2.1
    · exact hW.2.2.1
  have e320 : (320 : Int32) * nI f = nI (320 * f) := pk_mul 320 f
  have ef : ix (nI f) = f := nI_clamp (by omega)
  have bf : vp_in (nI f) 2 := vp_in_nI (by omega) (by omega)
  rw [e320]
  show lo3 (FX12_worked_98 (nI f) Q) 0 (nI (320 * f)) y7
  clear z1 z2 z3 z4 z5 z6 z7 f4
  rcases hRf with ⟨c1, c2, c3⟩ | ⟨c1, c2⟩
  · generalize hL : w.2.2 f = L at *
    have hlen := hWf.2
    refine lo3c2 (320 * f + L.length) (by omega) (fun j x5 h' => ∃ k : List Int32, x5 = nI k.length ∧ k.length ≤ 30 ∧ evL (fct w r o g) (L.drop (j - 320 * f)) k = evL (fct w r o g) L [] ∧ hgt (L.drop (j - 320 * f)) k.length = some 1 ∧ Stk h' 118 k ∧ 320 * f ≤ j ∧ Fr (fun q _ => q = 118) y7 h') ?_ ?_ (320 * f) (by omega) _ _
      ⟨[], rfl, by simp, by simp, by simpa using hWf.1, fun i x hx => by simp at hx, Nat.le_refl _, Fr.rf⟩
    · intro kk j x5 h' hj hI hk
      obtain ⟨k, rfl, hk30, hev, hh, hst, hj0, hfr⟩ := hI
      have g116 : h'.1 116 f = nI L.length := by rw [hfr.i (by omega)]; exact c1
      have ej : ix (nI j) = j := nI_clamp (by omega)
      have bj : vp_in (nI j) 640 := vp_in_nI (by omega) (by omega)
      have hjt : j - 320 * f < L.length := by omega
      have hs : L[j - 320 * f]? = some (h'.1 114 j, h'.1 115 j) := by
        have := c3 (j - 320 * f) hjt
        rw [show 320 * f + (j - 320 * f) = j by omega] at this
        rw [hfr.i (by omega), hfr.i (by omega)]
        exact this
      have hdrop : L.drop (j - 320 * f) = (h'.1 114 j, h'.1 115 j) :: L.drop (j + 1 - 320 * f) := by
        rw [List.drop_eq_getElem_cons hjt, show j + 1 - 320 * f = j - 320 * f + 1 by omega]
        congr 1
        exact (List.getElem?_eq_some_iff.mp hs).2
      rw [hdrop] at hev hh
      have hev2 : evL (fct w r o g) (L.drop (j + 1 - 320 * f)) (stS (fct w r o g) k (h'.1 114 j, h'.1 115 j)) = evL (fct w r o g) L [] := hev
      generalize hT : L.drop (j + 1 - 320 * f) = T at *
      generalize ha1 : h'.1 114 j = a1 at *
      generalize ha2 : h'.1 115 j = a2 at *
      unfold FX12_worked_98
      rw [ef, g116, e320, nI_add, ej]
      refine ⟨bf, br_f (nI_ge hj (by omega)) ⟨bj, ?_⟩⟩
      rw [ha1, ha2]
      unfold hgt at hh
      dsimp only at hh
      have ekl : ix (nI k.length) = k.length := nI_clamp (by omega)
      by_cases q0 : a1 = 0
      · rw [if_pos q0] at hh
        by_cases q1 : k.length < 30 ∧ ¬ a2 < 0
        · rw [if_pos q1] at hh
          refine br_t q0 ?_
          unfold KX12_worked_136 KX12_worked_174
          rw [ej, ha1, ha2]
          refine ⟨bj, br_t q0 ⟨vp_in_nI (by omega) (by omega), ?_⟩⟩
          rw [ekl]
          refine Lt_i fun y8 z8 => Lt_eq (nI_1 _) (Lt_eq (nI_1 _) (hk _ _ ⟨a2 :: k, rfl, by simp; omega, ?_, by simpa using hh, ?_, by omega, ?_⟩))
          · rw [← hev2]; simp [stS, q0]
          · rw [z8]; exact hst.push
          · rw [z8]; exact hfr.st rfl
        · rw [if_neg q1] at hh; cases hh
      · rw [if_neg q0] at hh
        refine br_f q0 ?_
        by_cases q1 : a1 = 1
        · rw [if_pos q1] at hh
          by_cases q2 : k.length < 30 ∧ ¬ a2 < 0 ∧ a2.toNatClampNeg < 6
          · rw [if_pos q2] at hh
            refine br_t q1 ?_
            unfold KX12_worked_136 KX12_worked_174
            rw [ej, ha1, ha2]
            refine ⟨bj, br_f q0 ⟨fun z => ?_, vp_in_nI (by omega) (by omega), ?_⟩⟩
            · rcases z with z | z
              · exact q2.2.1 z
              · exact absurd z (by have := q2.2.2; omega)
            · have hA : h'.1 120 (ix a2) = fct w r o g a2.toNatClampNeg := by
                rw [hfr.i (by omega)]
                exact hask _ q2.2.2
              rw [ekl, hA]
              refine Lt_i fun y8 z8 => Lt_eq (nI_1 _) (Lt_eq (nI_1 _) (hk _ _ ⟨fct w r o g a2.toNatClampNeg :: k, rfl, by simp; omega, ?_, by simpa using hh, ?_, by omega, ?_⟩))
              · rw [← hev2]; simp [stS, q1]
              · rw [z8]; exact hst.push
              · rw [z8]; exact hfr.st rfl
          · rw [if_neg q2] at hh; cases hh
        · rw [if_neg q1] at hh
          refine br_f q1 ?_
          by_cases q2 : a1 = 2
          · rw [if_pos q2] at hh
            refine br_t q2 ?_
            cases k with
            | nil => simp at hh
            | cons x k =>
              have e1 : nI (x :: k).length - 1 = nI k.length := by rw [List.length_cons, nI_pred]
              have e2 : ix (nI k.length) = k.length := nI_clamp (by simp at hk30; omega)
              have e3 : vp_in (nI k.length) 64 := vp_in_nI (by simp at hk30; omega) (by omega)
              rw [e1, e2, hst.top]
              refine ⟨e3, ?_⟩
              have fin : ∀ b : Int32, (if b = 0 then (0 : Int32) else 1) = tru (decide (x = 0)) → KX12_worked_217 (nI f) (nI (x :: k).length) (nI j) b (nI k.length) h' Q kk := by
                intro b hb
                unfold KX12_worked_217
                refine rs_truth ⟨e3, ?_⟩
                rw [hb, e2]
                refine Lt_i fun y8 z8 => Lt_eq (nI_1 _) (hk _ _ ⟨tru (decide (x = 0)) :: k, rfl, by simpa using hk30, ?_, by simpa using hh, ?_, by omega, ?_⟩)
                · rw [← hev2]; simp [stS, q0, q1, q2]
                · rw [z8]; exact hst.set
                · rw [z8]; exact hfr.st rfl
              refine br_c (fun c => fin 1 ?_) (fun c => fin 0 ?_) <;> simp [tru, c]
          · rw [if_neg q2] at hh
            refine br_f q2 ?_
            by_cases q3 : a1 = 3
            · rw [if_pos q3] at hh
              split at hh
              · rename_i q4
                match k, q4.1 with
                | y :: x :: k, _ =>
                  have e1 : nI (y :: x :: k).length + (-1) = nI (x :: k).length := by rw [List.length_cons, pk_m1]
                  have e1' : nI (x :: k).length - 1 = nI k.length := by rw [List.length_cons, nI_pred]
                  have hkl : k.length ≤ 28 := by simp at hk30; omega
                  have e2 : ix (nI k.length) = k.length := nI_clamp (by omega)
                  have e2' : ix (nI (x :: k).length) = (x :: k).length := nI_clamp (by simp; omega)
                  have e3 : vp_in (nI k.length) 64 := vp_in_nI (by omega) (by omega)
                  have e3' : vp_in (nI (x :: k).length) 64 := vp_in_nI (by simp; omega) (by omega)
                  refine Lt_eq e1 ⟨by rw [e1']; exact e3, e3', ?_⟩
                  rw [e1', e2, e2', hst.top, hst.pop.top]
                  refine rs_done q4.2 ?_
                  refine Lt_i fun y8 z8 => Lt_eq (nI_1 _) (hk _ _ ⟨doS a2 x y :: k, rfl, by simp; omega, ?_, by simpa using hh, ?_, by omega, ?_⟩)
                  · rw [← hev2]; simp [stS, q0, q1, q2]
                  · rw [z8]; exact hst.pop.set
                  · rw [z8]; exact hfr.st rfl
              · cases hh
            · rw [if_neg q3] at hh; cases hh
    · intro kk x5 h' hI
      obtain ⟨k, rfl, hk30, hev, hh, hst, hj0, hfr⟩ := hI
      have g116 : h'.1 116 f = nI L.length := by rw [hfr.i (by omega)]; exact c1
      unfold FX12_worked_98
      rw [ef, g116, e320, nI_add]
      refine ⟨bf, br_t (nI_le (Nat.le_refl _) (by omega)) ?_⟩
      rw [show 320 * f + L.length - 320 * f = L.length by omega, List.drop_length] at hev hh
      have hk1 : k.length = 1 := by unfold hgt at hh; exact Option.some.inj hh
      match k, hk1 with
      | [x], _ =>
        have e1 : h'.1 118 0 = x := hst.top
        have e2 : evF (fct w r o g) L = x := by unfold evF; rw [← hev]; rfl
        rw [e1, ← e2]
        exact hq h' (f7.tr (hfr.mono (fun q k p => Or.inl p)))
  · refine ⟨1, ?_⟩
    show FX12_worked_98 (nI f) Q _ 0 (nI (320 * f)) y7
    unfold FX12_worked_98
    rw [ef, c1, e320]
    refine ⟨bf, br_t (by rw [show (0 : Int32) = nI 0 from rfl, nI_add]; exact nI_le (Nat.le_refl _) (by omega)) ?_⟩
    rw [h118]
    have e2 : evF (fct w r o g) (w.2.2 f) = other := by
      rw [c2]
      rcases (show f = 0 ∨ f = 1 by omega) with rfl | rfl
      · rw [h0 rfl]; rfl
      · rw [h1 rfl]; rfl
    rw [← e2]
    exact hq y7 f7

theorem rs_rankOf {h : ob_H} {w : ob_W} {r : ob_P} {o : Nat} {Q : Int32 → ob_H → Prop} (hW : WFW w) (hw : RW h w) (ha : Air h r) (ho : o < w.1) (hq : ∀ h', Fr SE h h' → Q (rnk w r o) h') : MX12_rankOf (nI o) h Q := by
  have hn7 := hW.1
  have eo : ix (nI o) = o := nI_clamp (by omega)
  unfold MX12_rankOf
  refine ⟨vp_in_nI (by omega) (by omega), ?_⟩
  rw [eo, hw.2.1 0 (by omega) o ho]
  exact rs_worked (f := 0) hW hw ha (by omega) ho (fun _ => rfl) (fun z => by cases z) hq
theorem rs_answerOf {h : ob_H} {w : ob_W} {r : ob_P} {o : Nat} {Q : Int32 → ob_H → Prop} (hW : WFW w) (hw : RW h w) (ha : Air h r) (ho : o < w.1) (hq : ∀ h', Fr SE h h' → Q (ansV w r o) h') : MX12_answerOf (nI o) h Q := by
  have hn7 := hW.1
  have eo : ix (nI o) = o := nI_clamp (by omega)
  unfold MX12_answerOf
  refine ⟨vp_in_nI (by omega) (by omega), ?_⟩
  rw [eo, hw.2.1 0 (by omega) o ho]
  exact rs_worked (f := 1) hW hw ha (by omega) ho (fun z => by cases z) (fun _ => rfl) hq
theorem rs_isAhead {h : ob_H} {r : ob_P} {a b : Nat} {ra rb : Int32} {Q : Int32 → Prop} (ha : Air h r) (h1 : a < 7) (h2 : b < 7) (hq : Q (tru (ahd r a ra b rb))) : MX12_isAhead (nI a) ra (nI b) rb h Q := by
  have e1 : (14 : Int32) + nI a = nI (14 + a) := nI_add 14 a
  have e2 : (14 : Int32) + nI b = nI (14 + b) := nI_add 14 b
  have i1 : ix (nI (14 + a)) = 14 + a := nI_clamp (by omega)
  have i2 : ix (nI (14 + b)) = 14 + b := nI_clamp (by omega)
  unfold MX12_isAhead
  rw [e1, e2, i1, i2, ha _ (by omega), ha _ (by omega)]
  refine br_c (fun c => ?_) (fun c => br_c (fun c2 => ⟨vp_in_nI (by omega) (by omega), vp_in_nI (by omega) (by omega), br_c (fun c3 => ?_) (fun c3 => ?_)⟩) (fun c2 => ?_))
  · simpa [ahd, tru, c] using hq
  · simpa [ahd, tru, c, c2, Int32.not_lt.mpr c3] using hq
  · simpa [ahd, tru, c, c2, Int32.not_le.mp c3] using hq
  · simpa [ahd, tru, c, c2] using hq
theorem best_succ {w : ob_W} {r : ob_P} {p : Nat → Bool} {j : Nat} : best w r p (j + 1) = match best w r p j with
    | none => if p j then some j else none
    | some b => if p j && ahd r j (rnk w r j) b (rnk w r b) then some j else some b := rfl
theorem best_lt {w : ob_W} {r : ob_P} {p : Nat → Bool} : ∀ {j b : Nat}, best w r p j = some b → b < j ∧ p b = true
  | 0, b, h => by cases h
  | j + 1, b, h => by
    unfold best at h
    cases hb : best w r p j with
    | none =>
      rw [hb] at h
      dsimp only at h
      split at h
      · rename_i hp; cases h; exact ⟨Nat.lt_succ_self _, hp⟩
      · cases h
    | some c =>
      have ih := best_lt hb
      rw [hb] at h
      dsimp only at h
      split at h
      · rename_i hp
        cases h
        rw [Bool.and_eq_true] at hp
        exact ⟨Nat.lt_succ_self _, hp.1⟩
      · cases h; exact ⟨Nat.lt_succ_of_lt ih.1, ih.2⟩
theorem tI_neg {o : Option Nat} (h : ∀ b, o = some b → b < 2 ^ 31) : tI o < 0 ↔ o = none := by
  cases o with
  | none => simp [tI]
  | some b => simp [tI]; exact Int32.not_lt.mp (nI_pos (h b rfl))
theorem rs_turnOf {h : ob_H} {w : ob_W} {r : ob_P} {Q : Int32 → ob_H → Prop} (hW : WFW w) (hw : RW h w) (ha : Air h r) (hq : ∀ h', Fr SE h h' → Q (tI (trn w r)) h') : MX12_turnOf h Q := by
  have hn7 := hW.1
  unfold MX12_turnOf
  refine lo3c2 w.1 (by omega) (fun j a h' => a = tI (best w r (isS r 0) j) ∧ Fr SE h h') ?_ ?_ 0 (Nat.zero_le _) _ _ ⟨rfl, Fr.rf⟩
  · intro k j a h' hj hI hk
    obtain ⟨rfl, hf⟩ := hI
    have hw' : RW h' w := hw.fr hn7 hf (fun q k p => by unfold SE at p; omega)
    have ha' := ha.se hf
    have b1 : vp_in (nI j) 24 := vp_in_nI (by omega) (by omega)
    have e1 : ix (nI j) = j := nI_clamp (by omega)
    unfold FX12_turnOf_4
    refine br_f (by rw [hw'.1]; exact nI_ge hj (by omega)) ⟨b1, ?_⟩
    rw [e1, ha' j (by omega)]
    refine br_c (fun c => ?_) (fun c => ?_)
    · have hp : isS r 0 j = true := by simp [isS, c]
      refine br_c (fun c2 => ?_) (fun c2 => ?_)
      · have hn : best w r (isS r 0) j = none := (tI_neg (fun b hb => by have := best_lt hb; omega)).mp c2
        refine Lt_eq (nI_1 _) (hk _ _ ⟨?_, hf⟩)
        rw [best_succ]
        rw [hn]
        simp [hp, tI]
      · cases hb : best w r (isS r 0) j with
        | none => rw [hb] at c2; exact absurd (by decide) c2
        | some b =>
          have hbl := best_lt hb
          refine rs_rankOf hW hw' ha' hj fun h1 f1 => ?_
          have hw1 : RW h1 w := hw'.fr hn7 f1 (fun q k p => by unfold SE at p; omega)
          refine rs_rankOf (o := b) hW hw1 (ha'.se f1) (by omega) fun h2 f2 => ?_
          refine rs_isAhead ((ha'.se f1).se f2) (by omega) (by omega) ?_
          have fr := (hf.tr f1).tr f2
          refine br_c (fun c3 => ?_) (fun c3 => ?_)
          · refine Lt_eq (nI_1 _) (hk _ _ ⟨?_, fr⟩)
            rw [best_succ]
            rw [hb]
            have : ahd r j (rnk w r j) b (rnk w r b) = false := by
              cases hz : ahd r j (rnk w r j) b (rnk w r b) with
              | false => rfl
              | true => rw [hz] at c3; exact absurd c3 (by decide)
            simp [this, tI]
          · refine Lt_eq (nI_1 _) (hk _ _ ⟨?_, fr⟩)
            rw [best_succ]
            rw [hb]
            have : ahd r j (rnk w r j) b (rnk w r b) = true := by
              cases hz : ahd r j (rnk w r j) b (rnk w r b) with
              | true => rfl
              | false => rw [hz] at c3; exact absurd rfl c3
            simp [this, hp, tI]
    · have hp : isS r 0 j = false := by simp [isS, c]
      refine Lt_eq (nI_1 _) (hk _ _ ⟨?_, hf⟩)
      rw [best_succ]
      cases best w r (isS r 0) j <;> simp [hp]
  · intro k a h' hI
    obtain ⟨rfl, hf⟩ := hI
    have hw' : RW h' w := hw.fr hn7 hf (fun q k p => by unfold SE at p; omega)
    unfold FX12_turnOf_4
    exact br_t (by rw [hw'.1]; exact nI_le (Nat.le_refl _) (by omega)) (hq h' hf)
