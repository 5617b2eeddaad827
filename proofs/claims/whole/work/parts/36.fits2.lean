-- ===== what counts, what fits =====
def SQ (q k : Nat) : Prop := q = 118 ∨ q = 120 ∨ q = 136 ∨ q = 137 ∨ q = 138 ∨ (q = 108 ∧ k = 57)
theorem SQ_SR : ∀ q k, SQ q k → SR q k := fun q k p => by unfold SQ at p; unfold SR; omega
theorem SE_SQ : ∀ q k, SE q k → SQ q k := fun q k p => by unfold SE at p; unfold SQ; omega
theorem rs_goOnQ {h : ob_H} {w : ob_W} {r : ob_P} {Q : Int32 → ob_H → Prop} (hW : WFW w) (hw : RW h w) (ha : Air h r) (hq : ∀ h', Fr SQ h h' → Crs h' (gn w r).1 → Air h' (gn w r).2 → Q (dsk w r) h') : MX12_goOn h Q := by
  have hn7 := hW.1
  have hp : ∀ q k, q = 118 ∨ q = 120 → SQ q k := fun q k p => by unfold SQ; omega
  unfold MX12_goOn
  refine Lt_i fun y1 z1 => ?_
  have f1 : Fr SQ h y1 := by rw [z1]; exact Fr.rf.st (by unfold SQ; omega)
  have g1 : y1.1 108 57 = 0 := by rw [z1]; simp [h_i_1]
  have a1 : Air y1 r := fun k hk => by rw [z1, h_i_1, if_neg (by omega)]; exact ha k hk
  refine rs_turnOf hW (hw.sr hn7 (f1.mono SQ_SR)) a1 fun y2 f2 => ?_
  have f2' : Fr SQ h y2 := f1.tr (f2.mono SE_SQ)
  refine lo2_i (fun x1 h' => ∃ (ρ : ob_P) (f : Nat) (pre : List (Nat × Int32)), x1 = tI (trn w ρ) ∧ Fr SQ h h' ∧ Air h' ρ ∧ pre ++ (gon w f ρ).1 = (gn w r).1 ∧ (gon w f ρ).2 = (gn w r).2 ∧ lft w ρ ≤ f ∧ pre.length + f = 7 ∧ h'.1 108 57 = nI pre.length ∧ ∀ i o b, pre[i]? = some (o, b) → h'.1 137 i = nI o ∧ h'.1 138 i = b) (fun _ h' => 7 - (h'.1 108 57).toNatClampNeg) ?_
    ⟨r, 7, [], rfl, f2', a1.se f2, rfl, rfl, Nat.le_trans (cnt_le _ _) hn7, rfl, by rw [f2.i (by unfold SE; omega), g1]; rfl, fun i o b hb => by simp at hb⟩
  intro k x1 h' hI hk
  obtain ⟨ρ, f, pre, rfl, hf, ha', hpre, hfin, hl, hlen, h57, hcr⟩ := hI
  have hw' := hw.sr hn7 (hf.mono SQ_SR)
  unfold FX12_goOn_10
  cases ht : trn w ρ with
  | none =>
    refine br_t (by decide) ?_
    rw [gon_none ht] at hpre hfin
    rw [List.append_nil] at hpre
    have e21 : h'.1 136 21 = dsk w r := by
      rw [ha' 21 (by omega)]
      show ρ 21 = (gn w r).2 21
      rw [← hfin]
    rw [e21]
    refine hq h' hf ⟨by rw [← hpre]; exact h57, by rw [← hpre]; omega, fun i o b hb => hcr i o b (by rw [hpre]; exact hb)⟩ (by rw [← hfin]; exact ha')
  | some o =>
    obtain ⟨ho, h0⟩ := trn_lt ht
    have hfp := lft_pos ho h0
    obtain ⟨f', rfl⟩ : ∃ f', f = f' + 1 := ⟨f - 1, by omega⟩
    rw [gon_some ht] at hpre hfin
    have e1 : ix (nI pre.length) = pre.length := nI_clamp (by omega)
    have b1 : vp_in (nI pre.length) 7 := vp_in_nI (by omega) (by omega)
    refine br_f (nI_pos (by omega)) ?_
    rw [h57, e1]
    refine ⟨b1, Lt_i fun y3 z3 => ?_⟩
    have q3 : y3.1 108 57 = nI pre.length := by rw [z3, h_i_1, if_neg (by omega)]; exact h57
    have q3' : y3.1 136 21 = ρ 21 := by rw [z3, h_i_1, if_neg (by omega)]; exact ha' 21 (by omega)
    rw [q3, e1, q3']
    refine ⟨b1, Lt_i fun y4 z4 => ?_⟩
    have q4 : y4.1 108 57 = nI pre.length := by rw [z4, h_i_1, if_neg (by omega)]; exact q3
    rw [q4, nI_1]
    refine Lt_i fun y5 z5 => ?_
    have hf5 : Fr SQ h y5 := by
      subst z3 z4 z5
      exact ((hf.st (by unfold SQ; omega)).st (by unfold SQ; omega)).st (by unfold SQ; omega)
    have ha5 : Air y5 ρ := fun q hq => by rw [z5, h_i_1, if_neg (by omega), z4, h_i_1, if_neg (by omega), z3, h_i_1, if_neg (by omega)]; exact ha' q hq
    have hw5 := hw.sr hn7 (hf5.mono SQ_SR)
    refine rs_goHear hn7 hw5 ha5 ho fun y6 f6 a6 => ?_
    have hf6 : Fr SQ h y6 := hf5.tr (f6.mono (fun q k p => by unfold SQ; omega))
    refine rs_turnOf hW (hw.sr hn7 (hf6.mono SQ_SR)) a6 fun y7 f7 => ?_
    have c57 : y7.1 108 57 = nI (pre.length + 1) := by
      rw [f7.i (by unfold SE; omega), f6.i (by omega), z5]; simp [h_i_1]
    refine hk _ _ ⟨her w ρ o 1, f', pre ++ [(o, ρ 21)], rfl, hf6.tr (f7.mono SE_SQ), a6.se f7, ?_, hfin, ?_, by simp; omega, by simpa using c57, ?_⟩ ?_
    · rw [← hpre]; simp
    · have := lft_her (s := 1) hn7 ho (by decide) h0; omega
    · intro i o' b' hb
      have e137 : ∀ j, y7.1 137 j = y5.1 137 j := fun j => by rw [f7.i (by unfold SE; omega), f6.i (by omega)]
      have e138 : ∀ j, y7.1 138 j = y5.1 138 j := fun j => by rw [f7.i (by unfold SE; omega), f6.i (by omega)]
      rw [e137, e138, z5, h_i_1, if_neg (by omega), h_i_1, if_neg (by omega), z4, h_i_1, if_neg (by omega), h_i_1]
      by_cases hi : i < pre.length
      · rw [List.getElem?_append_left hi] at hb
        have hc := hcr i o' b' hb
        rw [if_neg (by omega), z3, h_i_1, if_neg (by omega), h_i_1, if_neg (by omega)]
        exact hc
      · rw [List.getElem?_append_right (by omega)] at hb
        have hi2 : i = pre.length := by
          have := (List.getElem?_eq_some_iff.mp hb).1
          simp at this
          omega
        subst hi2
        simp at hb
        obtain ⟨rfl, rfl⟩ := hb
        rw [z3, h_i_1]
        simp [tI]
    · show 7 - (y7.1 108 57).toNatClampNeg < 7 - (h'.1 108 57).toNatClampNeg
      rw [c57, h57, nI_clamp (by omega), nI_clamp (by omega)]
      omega

def allB (p : Nat → Bool) : Nat → Bool
  | 0 => true
  | n + 1 => allB p n && p n
theorem allB_t {p : Nat → Bool} : ∀ {n}, (∀ i, i < n → p i = true) → allB p n = true
  | 0, _ => rfl
  | n + 1, h => by unfold allB; rw [allB_t (fun i hi => h i (by omega)), h n (by omega)]; rfl
theorem allB_f {p : Nat → Bool} {j : Nat} (hp : p j = false) : ∀ {n}, j < n → allB p n = false
  | 0, h => absurd h (Nat.not_lt_zero _)
  | n + 1, h => by
    unfold allB
    by_cases e : j = n
    · subst e; rw [hp, Bool.and_false]
    · rw [allB_f hp (by omega), Bool.false_and]
/-- whether one that is seen counts at k -/
def cntS (h : ob_H) (k : Int32) (i : Nat) : Bool := !decide (k < h.1 145 i) && (decide (h.1 146 i < 0) || decide (k < h.1 146 i))
/-- whether it is so with a grave -/
def soS (h : ob_H) (w : ob_W) (k : Int32) (g i : Nat) : Bool := !cntS h k i || (decide (hdA w (nI g) ((h.1 143 i).toNatClampNeg - 1) = some (h.1 144 i).toNatClampNeg) == decide (h.1 147 i = 1))
def fitS (h : ob_H) (w : ob_W) (k : Int32) (g : Nat) : Bool := allB (soS h w k g) (h.1 108 70).toNatClampNeg
/-- the rows of what is seen are as they were -/
def SgE (h h' : ob_H) : Prop := (h'.1 98 0 = h.1 98 0 ∧ h'.1 108 70 = h.1 108 70) ∧ ∀ q k, (99 ≤ q ∧ q ≤ 103) ∨ (143 ≤ q ∧ q ≤ 147) → h'.1 q k = h.1 q k
theorem hd_eq {x : Option Nat} {o : Nat} {d : Int32} (hx : ∀ y, x = some y → y < 7) (ho : o < 7) (hd : d = -1 ∨ d = 7) : hdI x d = nI o ↔ x = some o := by
  cases x with
  | none =>
    constructor
    · intro e
      exfalso
      have e : d = nI o := e
      rcases hd with rfl | rfl
      · have : decide ((-1 : Int32) < 0) = decide (nI o < 0) := congrArg (fun x : Int32 => decide (x < 0)) e
        rw [decide_eq_false (nI_pos (n := o) (by omega))] at this
        exact absurd this (by decide)
      · have : (7 : Nat) = o := (nI_eq (a := 7) (b := o) (by omega) (by omega)).mp e
        omega
    · intro e; cases e
  | some y =>
    have hy := hx y rfl
    constructor
    · intro e
      have : y = o := (nI_eq (a := y) (b := o) (by omega) (by omega)).mp e
      rw [this]
    · intro e
      cases e
      rfl
theorem cs_isSo {h0 h : ob_H} {w : ob_W} {g : Nat} {k : Int32} {Q : Int32 → Prop} (hn7 : w.1 ≤ 7) (hs : SgR h0 w) (he : SgE h0 h) (hd : Hrd1 h w) (hg : g < 100) (hq : Q (tru (fitS h0 w k g))) : MX9_isSo (nI g) k h Q := by
  obtain ⟨n, s1, s2, s3, s4⟩ := hs
  obtain ⟨⟨e1, e2⟩, e3⟩ := he
  unfold MX9_isSo
  unfold fitS at hq
  rw [s3, nI_clamp (by omega)] at hq
  refine lo1c1 n (by omega) (fun j => ∀ i, i < j → soS h0 w k g i = true) ?_ ?_ 0 (Nat.zero_le _) (fun i hi => absurd hi (Nat.not_lt_zero _))
  · intro k1 j hj hI hk
    obtain ⟨P, o, q1, q2, q3, q4, q5, q6, q7, q8, q9, q10, q11⟩ := s4 j hj
    unfold FX9_isSo_2
    rw [e1, s2, show ix (nI j) = j from nI_clamp (by omega), e3 102 j (by omega), e3 103 j (by omega), q10, q11]
    have nxt : soS h0 w k g j = true → ∀ i, i < j + 1 → soS h0 w k g i = true := fun z i hi => by
      by_cases e : i = j
      · subst e; exact z
      · exact hI i (by omega)
    have eP : (h0.1 143 j).toNatClampNeg = P := by rw [q4, nI_clamp (by omega)]
    have eo : (h0.1 144 j).toNatClampNeg = o := by rw [q6, nI_clamp (by omega)]
    have body : ∀ s : Int32, (s = 0 ∨ s = 1) → (cntS h0 k j = decide (s = 1)) → KX9_isSo_44 (nI g) k (nI j) s h Q k1 := by
      intro s hs01 hc
      unfold KX9_isSo_44
      rw [show ix (nI j) = j from nI_clamp (by omega), e3 99 j (by omega), e3 100 j (by omega), q5, q7, nI_7, show ix (nI (g * 7 + (P - 1))) = g * 7 + (P - 1) from nI_clamp (by omega), hd g hg (P - 1) (by omega)]
      have tail : ∀ t : Int32, (t = 0 ∨ t = 1) → (decide (hdA w (nI g) (P - 1) = some o) = decide (t = 1)) → KX9_isSo_76 (nI g) k (nI j) s t h Q k1 := by
        intro t ht01 ht
        unfold KX9_isSo_76
        rw [show ix (nI j) = j from nI_clamp (by omega), e3 101 j (by omega), q8]
        refine br_c (fun c => Lt_eq (nI_1 _) (hk (nxt ?_))) (fun c => ⟨vp_in_nI (by omega) (by omega), br_c (fun c2 => Lt_eq (nI_1 _) (hk (nxt ?_))) (fun c2 => ?_)⟩)
        · unfold soS
          rw [hc, c]; rfl
        · unfold soS
          rw [eP, eo, ht, c2]
          simp
        · have : soS h0 w k g j = false := by
            have hs1 : s = 1 := by rcases hs01 with z | z; exact absurd z c; exact z
            unfold soS
            rw [hc, hs1, eP, eo, ht]
            rcases ht01 with rfl | rfl <;> rcases q9 with z | z <;> rw [z] at c2 ⊢ <;> first | exact absurd rfl c2 | rfl
          rw [allB_f this hj] at hq
          exact hq
      refine ⟨vp_in_nI (by omega) (by omega), vp_in_nI (by omega) (by omega), br_c (fun c => tail 1 (Or.inr rfl) ?_) (fun c => tail 0 (Or.inl rfl) ?_)⟩
      · rw [(hd_eq (fun y hy => by have := hdA_lt hy; omega) (by omega) (Or.inr rfl)).mp c]
        simp
      · have : ¬ hdA w (nI g) (P - 1) = some o := fun z => c ((hd_eq (fun y hy => by have := hdA_lt hy; omega) (by omega) (Or.inr rfl)).mpr z)
        simp [this]
    refine br_f (nI_ge hj (by omega)) ⟨vp_in_nI (by omega) (by omega), br_c (fun c => body 0 (Or.inl rfl) ?_) (fun c => br_c (fun c2 => body 1 (Or.inr rfl) ?_) (fun c2 => br_c (fun c3 => body 0 (Or.inl rfl) ?_) (fun c3 => body 1 (Or.inr rfl) ?_)))⟩
    · unfold cntS; simp [c]
    · unfold cntS; simp [c, c2]
    · unfold cntS
      have := Int32.not_lt.mpr c3
      simp [c2, this]
    · unfold cntS
      have := Int32.not_le.mp c3
      simp [c, this]
  · intro k1 hI
    unfold FX9_isSo_2
    rw [e1, s2]
    refine br_t (nI_le (Nat.le_refl _) (by omega)) ?_
    rw [allB_t hI] at hq
    exact hq
theorem rs_fitsGrave {h0 h : ob_H} {w : ob_W} {g : Nat} {k : Int32} {Q : Int32 → Prop} (hn7 : w.1 ≤ 7) (hs : SgR h0 w) (he : SgE h0 h) (hd : ∀ p, p < 7 → h.1 148 (7 * g + p) = hdI (hdA w (nI g) p) (-1)) (hg : g < 100) (hq : Q (tru (fitS h0 w k g))) : MX12_fitsGrave (nI g) k h Q := by
  obtain ⟨n, s1, s2, s3, s4⟩ := hs
  obtain ⟨⟨e1, e2⟩, e3⟩ := he
  unfold MX12_fitsGrave
  unfold fitS at hq
  rw [s3, nI_clamp (by omega)] at hq
  refine lo2c2 n (by omega) (fun j x => (x = 1 ∧ ∀ i, i < j → soS h0 w k g i = true) ∨ (x = 0 ∧ allB (soS h0 w k g) n = false)) ?_ ?_ 0 (Nat.zero_le _) _ (Or.inl ⟨rfl, fun i hi => absurd hi (Nat.not_lt_zero _)⟩)
  · intro k1 j x hj hI hk
    obtain ⟨P, o, q1, q2, q3, q4, q5, q6, q7, q8, q9, q10, q11⟩ := s4 j hj
    unfold FX12_fitsGrave_5
    rw [e2, s3, show ix (nI j) = j from nI_clamp (by omega), e3 145 j (by omega), e3 146 j (by omega)]
    refine br_f (nI_ge hj (by omega)) ?_
    rcases hI with ⟨rfl, hI⟩ | ⟨rfl, hf⟩
    · have nxt : soS h0 w k g j = true → ∀ i, i < j + 1 → soS h0 w k g i = true := fun z i hi => by
        by_cases e : i = j
        · subst e; exact z
        · exact hI i (by omega)
      have eP : (h0.1 143 j).toNatClampNeg = P := by rw [q4, nI_clamp (by omega)]
      have eo : (h0.1 144 j).toNatClampNeg = o := by rw [q6, nI_clamp (by omega)]
      have skip : cntS h0 k j = false → soS h0 w k g j = true := fun z => by unfold soS; rw [z]; rfl
      have body : cntS h0 k j = true → KX12_fitsGrave_53 (nI g) k (nI j) h Q k1 := by
        intro hc
        unfold KX12_fitsGrave_53
        rw [show ix (nI j) = j from nI_clamp (by omega), e3 143 j (by omega), e3 144 j (by omega), q4, q6, nI_7m, show nI (7 * g + P) - 1 = nI (7 * g + (P - 1)) by rw [show (1 : Int32) = nI 1 from rfl, nI_sub (by omega)]; congr 1; omega, show ix (nI (7 * g + (P - 1))) = 7 * g + (P - 1) from nI_clamp (by omega), hd (P - 1) (by omega)]
        have tail : ∀ t : Int32, (t = 0 ∨ t = 1) → (decide (hdA w (nI g) (P - 1) = some o) = decide (t = 1)) → KX12_fitsGrave_87 (nI g) k (nI j) t h Q k1 := by
          intro t ht01 ht
          unfold KX12_fitsGrave_87
          rw [show ix (nI j) = j from nI_clamp (by omega), e3 147 j (by omega)]
          refine ⟨vp_in_nI (by omega) (by omega), br_c (fun c2 => Lt_eq (nI_1 _) (hk _ (Or.inl ⟨rfl, nxt ?_⟩))) (fun c2 => Lt_eq (nI_1 _) (hk _ (Or.inr ⟨rfl, ?_⟩)))⟩
          · unfold soS
            rw [eP, eo, ht, c2]
            simp
          · refine allB_f (j := j) ?_ hj
            unfold soS
            rw [hc, eP, eo, ht]
            rcases ht01 with rfl | rfl <;> rcases q9 with z | z <;> rw [z] at c2 ⊢ <;> first | exact absurd rfl c2 | rfl
        refine ⟨vp_in_nI (by omega) (by omega), vp_in_nI (by omega) (by omega), br_c (fun c => tail 1 (Or.inr rfl) ?_) (fun c => tail 0 (Or.inl rfl) ?_)⟩
        · rw [(hd_eq (fun y hy => by have := hdA_lt hy; omega) (by omega) (Or.inl rfl)).mp c]
          simp
        · have : ¬ hdA w (nI g) (P - 1) = some o := fun z => c ((hd_eq (fun y hy => by have := hdA_lt hy; omega) (by omega) (Or.inl rfl)).mpr z)
          simp [this]
      refine br_f (by decide) ⟨vp_in_nI (by omega) (by omega), br_c (fun c => Lt_eq (nI_1 _) (hk _ (Or.inl ⟨rfl, nxt (skip ?_)⟩))) (fun c => br_c (fun c2 => body ?_) (fun c2 => br_c (fun c3 => body ?_) (fun c3 => Lt_eq (nI_1 _) (hk _ (Or.inl ⟨rfl, nxt (skip ?_)⟩)))))⟩
      · unfold cntS; simp [c]
      · unfold cntS; simp [c, c2]
      · unfold cntS; simp [c, c3]
      · unfold cntS; simp [c2, c3]
    · rw [hf] at hq
      exact br_t rfl ⟨rfl, hq⟩
  · intro k1 x hI
    unfold FX12_fitsGrave_5
    rw [e2, s3]
    refine br_t (nI_le (Nat.le_refl _) (by omega)) ?_
    rcases hI with ⟨rfl, hI⟩ | ⟨rfl, hf⟩
    · rw [allB_t hI] at hq
      exact ⟨rfl, hq⟩
    · rw [hf] at hq
      exact ⟨rfl, hq⟩
theorem tru_01 (b : Bool) : (tru b = 0 ∨ tru b = 1) ∧ vp_nar .boolean (tru b) = tru b := by cases b <;> decide
/-- the class knows which graves fit -/
def FitC (h' h : ob_H) (w : ob_W) (k : Int32) : Prop := Hrd1 h' w ∧ ∀ g, g < 100 → h'.1 105 g = tru (fitS h w k g)
def MkW (n q k : Nat) : Prop := HW n q k ∨ q = 105
theorem cs_mark {h : ob_H} {w : ob_W} {k : Int32} {Q : Int32 → ob_H → Prop} (hW : WFW w) (hw : CW h w) (hs : SgR h w) (hd : HrdR h w)
    (q0 : w.1 = 0 → Q 0 h) (q1 : 0 < w.1 → ∀ h', Fr (MkW w.1) h h' → h'.1 21 (w.1 - 1) = h.1 21 (w.1 - 1) → h'.1 98 12 = 1 → FitC h' h w k → Q (nI (cnt (fitS h w k) 100)) h') : MX9_mark k h Q := by
  have hn7 := hW.1
  unfold MX9_mark
  rw [hw.1]
  refine br_c (fun c => q0 ((nI_eq (b := 0) (by omega) (by omega)).mp c)) (fun c => ?_)
  have h0 : 0 < w.1 := by
    rcases Nat.eq_zero_or_pos w.1 with z | z
    · rw [z] at c; exact absurd rfl c
    · exact z
  refine cs_findHeard hW hw h0 hd fun h1 f1 e21 e12 d1 => ?_
  refine lo3c2 100 (by omega) (fun j x h2 => Fr (fun q k => q = 105) h1 h2 ∧ x = nI (cnt (fitS h w k) j) ∧ ∀ g, g < j → h2.1 105 g = tru (fitS h w k g)) ?_ ?_ 0 (Nat.zero_le _) _ _ ⟨Fr.rf, rfl, fun g hg => absurd hg (Nat.not_lt_zero _)⟩
  · intro k1 j x h2 hj hI hk
    obtain ⟨i1, rfl, i3⟩ := hI
    have se : SgE h h2 := ⟨⟨by rw [i1.i (by omega), f1.i (by unfold HW CG; omega)], by rw [i1.i (by omega), f1.i (by unfold HW CG; omega)]⟩, fun q k z => by rw [i1.i (by omega), f1.i (by unfold HW CG; omega)]⟩
    unfold FX9_mark_29
    rw [show ix (nI j) = j from nI_clamp (by omega)]
    refine br_f (nI_ge (b := 100) hj (by decide)) (cs_isSo hn7 hs se (fun g hg p hp => by rw [i1.i (by omega)]; exact d1 g hg p hp) hj ⟨vp_in_nI (by omega) (by omega), ?_⟩)
    rw [(tru_01 _).2]
    refine Lt_i fun y z => ?_
    have ey : y.1 105 j = tru (fitS h w k j) := by rw [z, h_i_1, if_pos ⟨rfl, rfl⟩]
    have fy : Fr (fun q k => q = 105) h1 y := by rw [z]; exact Fr.st (P := fun q k => q = 105) i1 rfl
    have gy : ∀ g, g < j + 1 → y.1 105 g = tru (fitS h w k g) := fun g hg => by
      by_cases e : g = j
      · subst e; exact ey
      · rw [z, h_i_1, if_neg (by omega)]; exact i3 g (by omega)
    rw [ey]
    cases hf : fitS h w k j with
    | true =>
      refine br_f (by decide) (Lt_i fun v zv => Lt_eq (nI_1 _) (hk _ _ ⟨fy, ?_, gy⟩))
      rw [zv, cnt, hf]
      exact nI_add _ 1
    | false =>
      refine br_t rfl (Lt_i fun v zv => Lt_eq (nI_1 _) (hk _ _ ⟨fy, ?_, gy⟩))
      rw [zv, cnt, hf]
      simp
  · intro k1 x h2 hI
    obtain ⟨i1, rfl, i3⟩ := hI
    unfold FX9_mark_29
    refine br_t (nI_le (a := 100) (Nat.le_refl _) (by decide)) (q1 h0 h2 ((f1.mono fun q k p => Or.inl p).tr (i1.mono fun q k p => Or.inr p)) ?_ ?_ ⟨fun g hg p hp => ?_, i3⟩)
    · rw [i1.i (by omega)]; exact e21
    · rw [i1.i (by omega)]; exact e12
    · rw [i1.i (by omega)]; exact d1 g hg p hp
/-- .. so does the reference -/
def FitR (h' h : ob_H) (w : ob_W) (k : Int32) : Prop := (∀ g, g < 100 → ∀ p, p < 7 → h'.1 148 (7 * g + p) = hdI (hdA w (nI g) p) (-1)) ∧ ∀ g, g < 100 → h'.1 149 g = tru (fitS h w k g)
def LkW (n q k : Nat) : Prop := SR q k ∨ (q = 128 ∧ k = n - 1)
set_option maxHeartbeats 1000000 in
theorem rs_layFits {h0 h : ob_H} {w : ob_W} {k : Int32} {Q : Int32 → ob_H → Prop} (hW : WFW w) (hw : RW h w) (hs : SgR h0 w) (he : SgE h0 h)
    (q0 : w.1 = 0 → Q 0 h) (q1 : 0 < w.1 → ∀ h', Fr (LkW w.1) h h' → h'.1 128 (w.1 - 1) = h.1 128 (w.1 - 1) → FitR h' h0 w k → Q (nI (cnt (fitS h0 w k) 100)) h') : MX12_layFits k h Q := by
  have hn7 := hW.1
  unfold MX12_layFits
  rw [hw.1]
  refine br_c (fun c => q0 ((nI_eq (b := 0) (by omega) (by omega)).mp c)) (fun c => ?_)
  have h0' : 0 < w.1 := by
    rcases Nat.eq_zero_or_pos w.1 with z | z
    · rw [z] at c; exact absurd rfl c
    · exact z
  have il : ix (nI (w.1 - 1)) = w.1 - 1 := nI_clamp (by omega)
  have bl : vp_in (nI (w.1 - 1)) 7 := vp_in_nI (by omega) (by omega)
  refine Lt_i fun v4 z4 => ?_
  rw [show nI w.1 - 1 = nI (w.1 - 1) from nI_sub (b := 1) h0'] at z4
  subst z4
  rw [il]
  refine ⟨bl, Lt_i fun v zv => ?_⟩
  refine lo3c2 100 (by omega) (fun j x h1 => Fr (LkW w.1) h h1 ∧ x = nI (cnt (fitS h0 w k) j) ∧ (∀ g, g < j → ∀ p, p < 7 → h1.1 148 (7 * g + p) = hdI (hdA w (nI g) p) (-1)) ∧ ∀ g, g < j → h1.1 149 g = tru (fitS h0 w k g)) ?_ ?_ 0 (Nat.zero_le _) _ _ ⟨Fr.rf, rfl, fun g hg => absurd hg (Nat.not_lt_zero _), fun g hg => absurd hg (Nat.not_lt_zero _)⟩
  · intro k1 j x h1 hj hI hk
    obtain ⟨i1, rfl, i3, i4⟩ := hI
    unfold FX12_layFits_29
    rw [il]
    refine br_f (by rw [show (99 : Int32) = nI 99 from rfl, nI_lt2 (by omega) (by omega)]; omega) ⟨bl, Lt_i fun y1 z1 => ?_⟩
    have f1 : Fr (LkW w.1) h y1 := by rw [z1]; exact i1.st (by unfold LkW; omega)
    have hw1 : RW y1 (wg w (nI j)) := hw.wg hn7 (fun q k z1 z2 => f1.i (by unfold LkW SR; omega)) (by rw [z1, h_i_1, if_pos ⟨rfl, rfl⟩])
    have hW1 := WFW_wg hW hj
    refine rs_begin (w := wg w (nI j)) hn7 hw1.1 hw1.2.2.2.1 fun h2 f2 a2 => ?_
    have g2 : Fr SR y1 h2 := f2.mono fun q k p => by unfold SR; omega
    refine rs_goOnQ hW1 (hw1.sr hn7 g2) a2 fun h3 f3q c3 _ => ?_
    have f3 : Fr SR h2 h3 := f3q.mono SQ_SR
    rw [bgn_wg] at c3
    obtain ⟨d1, d2, d3⟩ := c3
    have g3 : Fr SR y1 h3 := g2.tr f3
    have f3' : Fr (LkW w.1) h h3 := f1.tr (g3.mono fun q k p => Or.inl p)
    have nb : ∀ q k, q = 148 ∨ q = 149 → h3.1 q k = h1.1 q k := fun q k z => by
      rw [f3q.i (by unfold SQ; omega), f2.i (by omega), z1, h_i_1, if_neg (by omega)]
    refine lo2c1 7 (by omega) (fun m h4 => Fr (LkW w.1) h h4 ∧ (∀ q k, q ≠ 148 → h4.1 q k = h3.1 q k) ∧ (∀ g, g < j → ∀ p, p < 7 → h4.1 148 (7 * g + p) = hdI (hdA w (nI g) p) (-1)) ∧ ∀ p, p < m → h4.1 148 (7 * j + p) = hdI (hdA w (nI j) p) (-1)) ?_ ?_ 0 (Nat.zero_le _) _ ⟨f3', fun _ _ _ => rfl, fun g hg p hp => by rw [nb _ _ (Or.inl rfl)]; exact i3 g hg p hp, fun p hp => absurd hp (Nat.not_lt_zero _)⟩
    · intro k2 m h4 hm hI hk2
      obtain ⟨j1, j2, j3, j4⟩ := hI
      have st : ∀ u, u = hdI (hdA w (nI j) m) (-1) → KX12_layFits_95 k (nI (w.1 - 1)) v (nI (cnt (fitS h0 w k) j)) (nI j) (nI m) u (7 * nI j + nI m) h4 Q k1 k2 := by
        intro u hu
        unfold KX12_layFits_95
        rw [nI_7m, show ix (nI (7 * j + m)) = 7 * j + m from nI_clamp (by omega)]
        refine ⟨vp_in_nI (by omega) (by omega), Lt_i fun y z => Lt_eq (nI_1 _) (hk2 _ ⟨?_, fun q k hq => ?_, fun g hg p hp => ?_, fun p hp => ?_⟩)⟩
        · rw [z]; exact j1.st (by unfold LkW SR; omega)
        · rw [z, h_i_1, if_neg (by omega)]; exact j2 q k hq
        · rw [z, h_i_1, if_neg (by omega)]; exact j3 g hg p hp
        · rw [z, h_i_1]
          by_cases e : p = m
          · subst e; rw [if_pos ⟨rfl, rfl⟩]; exact hu
          · rw [if_neg (by omega)]; exact j4 p (by omega)
      unfold FX12_layFits_56
      rw [j2 108 57 (by omega), d1, show ix (nI m) = m from nI_clamp (by omega)]
      refine br_f (nI_ge (b := 7) hm (by decide)) (br_c (fun c => ?_) (fun c => ⟨vp_in_nI (by omega) (by omega), ?_⟩))
      · have hle : (gn (wg w (nI j)) (bgn w)).1.length ≤ m := (nI_leI (by omega) (by omega)).mp c
        exact st (-1) (by
          unfold hdA
          rw [List.getElem?_eq_none hle]; rfl)
      · have hlt : m < (gn (wg w (nI j)) (bgn w)).1.length := by
          apply Classical.byContradiction
          intro z
          exact c ((nI_leI (by omega) (by omega)).mpr (by omega))
        have hg := List.getElem?_eq_getElem hlt
        rw [j2 137 m (by omega), (d3 m _ _ hg).1]
        refine st _ ?_
        unfold hdA
        rw [hg]; rfl
    · intro k2 h4 hI
      obtain ⟨j1, j2, j3, j4⟩ := hI
      have se : SgE h0 h4 := ⟨⟨by rw [j1.i (by unfold LkW SR; omega)]; exact he.1.1, by rw [j1.i (by unfold LkW SR; omega)]; exact he.1.2⟩, fun q k z => by rw [j1.i (by unfold LkW SR; omega)]; exact he.2 q k z⟩
      unfold FX12_layFits_56
      rw [show ix (nI j) = j from nI_clamp (by omega)]
      refine br_t (nI_le (a := 7) (Nat.le_refl _) (by decide)) (rs_fitsGrave hn7 hs se j4 hj ⟨vp_in_nI (by omega) (by omega), ?_⟩)
      rw [(tru_01 _).2]
      refine Lt_i fun y z => ?_
      have ey : y.1 149 j = tru (fitS h0 w k j) := by rw [z, h_i_1, if_pos ⟨rfl, rfl⟩]
      rw [ey]
      refine rs_truth (Lt_i fun u zu => Lt_eq (nI_1 _) (hk _ _ ⟨?_, ?_, fun g hg p hp => ?_, fun g hg => ?_⟩))
      · rw [z]; exact j1.st (by unfold LkW SR; omega)
      · rw [zu, cnt]
        cases hf : fitS h0 w k j with
        | true => exact nI_add _ 1
        | false => simp [tru]
      · rw [z, h_i_1, if_neg (by omega)]
        by_cases e : g = j
        · subst e; exact j4 p hp
        · exact j3 g (by omega) p hp
      · by_cases e : g = j
        · subst e; exact ey
        · rw [z, h_i_1, if_neg (by omega), j2 _ _ (by omega), nb _ _ (Or.inr rfl)]
          exact i4 g (by omega)
  · intro k1 x h1 hI
    obtain ⟨i1, rfl, i3, i4⟩ := hI
    unfold FX12_layFits_29
    rw [il]
    refine br_t (by decide) ⟨bl, Lt_i fun y z => q1 h0' y ?_ ?_ ⟨fun g hg p hp => ?_, fun g hg => ?_⟩⟩
    · rw [z]; exact i1.st (by unfold LkW; omega)
    · rw [z, h_i_1, if_pos ⟨rfl, rfl⟩, zv]
    · rw [z, h_i_1, if_neg (by omega)]; exact i3 g hg p hp
    · rw [z, h_i_1, if_neg (by omega)]; exact i4 g hg
