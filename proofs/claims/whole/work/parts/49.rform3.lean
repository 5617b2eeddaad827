-- ===== the reference reads a formula: all of it =====
theorem clo_len {m : Nat} : ∀ {st : List Nat} {out : List ob_S}, (clo m st out).1.length + (clo m st out).2.length = st.length + out.length ∧ (clo m st out).1.length + dpS st ≤ st.length + dpS (clo m st out).1 ∧ dpS (clo m st out).1 ≤ dpS st
  | [], out => ⟨rfl, Nat.le_refl _, Nat.le_refl _⟩
  | c :: st, out => by
    by_cases c1 : c = 20 ∨ tgh c < m
    · rw [clo, if_pos c1]
      exact ⟨rfl, Nat.le_refl _, Nat.le_refl _⟩
    · rw [clo, if_neg c1]
      obtain ⟨a1, a2, a3⟩ := clo_len (m := m) (st := st) (out := out ++ [stpC c])
      rw [List.length_append, List.length_singleton] at a1
      rw [List.length_cons]
      by_cases c21 : c = 21
      · rw [dpS_o (Or.inr c21)]
        exact ⟨by omega, by omega, by omega⟩
      · rw [dpS_c (fun z => c1 (Or.inl z)) c21]
        exact ⟨by omega, by omega, by omega⟩
theorem clo0_20 : ∀ {st : List Nat} {out : List ob_S}, 20 ∈ st → ∃ b, (clo 0 st out).1 = 20 :: b
  | [], out, h => by simp at h
  | c :: st, out, h => by
    by_cases c1 : c = 20
    · rw [clo, if_pos (Or.inl c1), c1]
      exact ⟨st, rfl⟩
    · rw [clo, if_neg (by rintro (z | z); exact c1 z; omega)]
      refine clo0_20 ?_
      rcases List.mem_cons.mp h with z | z
      · exact absurd z.symm c1
      · exact z
theorem go_f {t : tx_t} {S : tx_S} {g : tx_G} : go (t :: S) false g = (if t.1 = 41 ∧ hasB g.1 = true then go S false ((clo 0 g.1 g.2.1).1.tail, (clo 0 g.1 g.2.1).2, g.2.2) else
    if lvO t.1 ≠ 9 ∧ ¬ (lvO t.1 = 2 ∧ hasR g.1 = true) then go S true (sgn t.1 :: (clo (tgh (sgn t.1)) g.1 g.2.1).1, (clo (tgh (sgn t.1)) g.1 g.2.1).2, g.2.2) else
    if hasB g.1 = true then badT (t :: S) 2 else .inr ((clo 0 g.1 g.2.1).2, (t :: S, g.2.2))) := by rw [go]
theorem go_o {S : tx_S} {g : tx_G} (hS : Sok S) : go S false g = (if kdT S = 41 ∧ hasB g.1 = true then go S.tail false ((clo 0 g.1 g.2.1).1.tail, (clo 0 g.1 g.2.1).2, g.2.2) else
    if lvO (kdT S) ≠ 9 ∧ ¬ (lvO (kdT S) = 2 ∧ hasR g.1 = true) then go S.tail true (sgn (kdT S) :: (clo (tgh (sgn (kdT S))) g.1 g.2.1).1, (clo (tgh (sgn (kdT S))) g.1 g.2.1).2, g.2.2) else
    if hasB g.1 = true then badT S 2 else .inr ((clo 0 g.1 g.2.1).2, (S, g.2.2))) := by
  obtain ⟨S', e1, e2⟩ := hS.ne
  rw [e2]
  generalize hdT S = t at *
  subst e1
  exact go_f
def RFq (f q k : Nat) : Prop := RFu f q k ∨ (q = 119 ∧ k = f)
theorem RFu_q (f : Nat) : ∀ q k, RFu f q k → RFq f q k := fun _ _ p => Or.inl p
theorem rs_formula {T : tx_T} {f : Nat} {S : tx_S} {all : Nat} {h : ob_H} {Q : ob_H → Prop} (hf : f < 2) (hs : RS h T S) (h2 : h.1 108 2 = 0) (hk : 1 < kdT S) (hall : all ≤ 60) (h22 : h.1 108 22 = nI all)
    (q0 : ∀ e h', go S.tail true ([], [], 0, all) = .inl e → Fr (RFq f) h h' → RsR h' e → Q h')
    (q1 : ∀ x h', go S.tail true ([], [], 0, all) = .inr x → Fr (RFq f) h h' → RS h' T x.2.1 → h'.1 108 2 = 0 → h'.1 119 f = 1 → GO h' f x.1 → h'.1 108 22 = nI x.2.2.2 → Q h') : MX12_formula (nI f) h Q := by
  generalize hR : go S.tail true ([], [], 0, all) = R at *
  have bf : vp_in (nI f) 2 := vp_in_nI (by omega) (by omega)
  have ef : ix (nI f) = f := nI_clamp (by omega)
  unfold MX12_formula
  refine rs_next hs hk fun y0 f0 c0 => Lt_i fun y1 z1 => ?_
  have e1 : y1.1 108 20 = nI f := by rw [z1, h_i_1, if_pos ⟨rfl, rfl⟩]
  rw [e1, ef]
  refine ⟨bf, Lt_i fun y2 z2 => ?_⟩
  have e2 : y2.1 108 20 = nI f := by rw [z2, h_i_1, if_neg (by omega)]; exact e1
  rw [e2, ef]
  refine ⟨bf, Lt_i fun y3 z3 => Lt_i fun y4 z4 => Lt_i fun y5 z5 => Lt_i fun y6 z6 => ?_⟩
  have f6 : Fr (fun q k => (q = 108 ∧ (k = 20 ∨ k = 21 ∨ k = 24 ∨ k = 25)) ∨ (q = 119 ∧ k = f) ∨ (q = 113 ∧ k = f)) y0 y6 := by
    rw [z6, z5, z4, z3, z2, z1]
    refine Fr.st (Fr.st (Fr.st (Fr.st (Fr.st (Fr.st Fr.rf ?_) ?_) ?_) ?_) ?_) ?_ <;> omega
  have g6 : Fr (RFq f) h y6 := (f0.mono (P' := RFq f) fun q k p => Or.inl (Or.inl p)).tr (f6.mono fun q k p => by unfold RFq RFu; omega)
  have e119 : y6.1 119 f = 1 := by
    rw [z6, h_i_1, if_neg (by omega), z5, h_i_1, if_neg (by omega), z4, h_i_1, if_neg (by omega), z3, h_i_1, if_neg (by omega), z2, h_i_1, if_pos ⟨rfl, rfl⟩]
    rfl
  have s6 : GS y6 T f S.tail ([], [], 0, all) := by
    refine ⟨c0.fr f6 fun q k p => by omega, ?_, hf, ?_, ⟨?_, fun i c hc => by simp at hc, fun c hc => by simp at hc⟩, ⟨?_, fun k hk => absurd hk (Nat.not_lt_zero _)⟩, ?_, ?_, ?_⟩
    · rw [f6.i (by omega), f0.i (by unfold TkR; omega)]; exact h2
    · rw [z6, h_i_1, if_neg (by omega), z5, h_i_1, if_neg (by omega), z4, h_i_1, if_neg (by omega), z3, h_i_1, if_neg (by omega)]; exact e2
    · rw [z6, h_i_1, if_neg (by omega), z5, h_i_1, if_neg (by omega), z4, h_i_1, if_pos ⟨rfl, rfl⟩]; rfl
    · rw [z6, h_i_1, if_neg (by omega), z5, h_i_1, if_neg (by omega), z4, h_i_1, if_neg (by omega), z3, h_i_1, if_pos ⟨rfl, rfl⟩]; rfl
    · rw [z6, h_i_1, if_neg (by omega), z5, h_i_1, if_pos ⟨rfl, rfl⟩]; rfl
    · rw [z6, h_i_1, if_pos ⟨rfl, rfl⟩]; rfl
    · rw [f6.i (by omega), f0.i (by unfold TkR; omega)]; exact h22
  have i6 : GI false ([], [], 0, all) := by
    refine ⟨?_, hall, ?_, ?_, ?_⟩
    · exact Nat.zero_le _
    · exact Nat.zero_le 7
    · exact Nat.le_refl 0
    · exact Nat.le_refl 0
  -- what a frame leaves alone
  have keep : ∀ h1 h', Fr (RFu f) h1 h' → h'.1 119 f = h1.1 119 f := fun h1 h' f' => f'.i (by unfold RFu TkR; omega)
  refine rs_unit R s6 i6 hR (fun e h' he f' r' => ?_) (fun S1 g1 h1 hg f' gs gi hlt => ?_)
  · -- a fault at once: the loop ends
    refine lo2_g (S := Unit) (fun _ x h1 => h1 = h') (fun _ => 0) ?_ () rfl
    intro k s x h1 hI _
    subst hI
    have e177 : KX12_formula_177 h1 Q := by
      unfold KX12_formula_177
      refine br_f r'.pos.2 ?_
      unfold KX12_formula_196
      exact br_f r'.pos.2 (q0 e h1 he (g6.tr (f'.mono (RFu_q f))) r')
    unfold FX12_formula_50
    exact br_c (fun _ => e177) (fun _ => br_f r'.pos.2 e177)
  · refine lo2_g (S := tx_S × tx_G × Nat) (fun s x h2 => Fr (RFq f) h h2 ∧ h2.1 119 f = 1 ∧ s.1.length ≤ S1.length ∧ ((s.2.2 = 0 ∧ ∃ e, R = .inl e ∧ RsR h2 e) ∨ (GS h2 T f s.1 s.2.1 ∧ GI true s.2.1 ∧ ((s.2.2 = 2 ∧ x = 1 ∧ go s.1 false s.2.1 = R) ∨ (s.2.2 = 1 ∧ x = 0 ∧ R = if hasB s.2.1.1 = true then badT s.1 2 else .inr ((clo 0 s.2.1.1 s.2.1.2.1).2, (s.1, s.2.1.2.2))))))) (fun s => 3 * s.1.length + s.2.2) ?_ (S1, g1, 2) ⟨g6.tr (f'.mono (RFu_q f)), ?_, Nat.le_refl _, Or.inr ⟨gs, gi, Or.inl ⟨rfl, rfl, hg⟩⟩⟩
    · intro k s x h2 hI hk
      obtain ⟨S2, g2, m⟩ := s
      obtain ⟨i1, i119, i2, i3⟩ := hI
      simp only at i2 i3
      have e177 : ∀ e h', R = .inl e → Fr (RFq f) h h' → RsR h' e → KX12_formula_177 h' Q := by
        intro e h' he f' r'
        unfold KX12_formula_177
        refine br_f r'.pos.2 ?_
        unfold KX12_formula_196
        exact br_f r'.pos.2 (q0 e h' he f' r')
      unfold FX12_formula_50
      rcases i3 with ⟨_, e, he, r2⟩ | ⟨gs2, gi2, i3⟩
      · exact br_c (fun _ => e177 e h2 he i1 r2) (fun _ => br_f r2.pos.2 (e177 e h2 he i1 r2))
      · have gs3 := gs2
        obtain ⟨s1, s2, s3, s4, s5, s6', s7, s8, s9⟩ := gs3
        obtain ⟨v1, v2, v3, v4, v5⟩ := gi2
        rw [if_pos rfl] at v4 v5
        rw [if_pos rfl] at v5
        have hSk := s1.2.1.sok
        have hlt2 := len_tail hSk
        have hk120 := s1.k120
        rcases i3 with ⟨rfl, rfl, hg2⟩ | ⟨rfl, rfl, hfin⟩
        · rw [go_o hSk] at hg2
          have stop : (R = if hasB g2.1 = true then badT S2 2 else .inr ((clo 0 g2.1 g2.2.1).2, (S2, g2.2.2))) → k 0 h2 := fun hz =>
            hk (S2, g2, 1) 0 h2 ⟨i1, i119, i2, Or.inr ⟨gs2, ⟨v1, v2, v3, by rw [if_pos rfl]; exact v4, by rw [if_pos rfl, if_pos rfl]; exact v5⟩, Or.inr ⟨rfl, rfl, hz⟩⟩⟩ (by simp)
          refine br_f (by decide) (br_t s2 (rs_sign s1 ?_))
          have e41 : (h2.1 108 6 = 41) = (kdT S2 = 41) := by rw [show (41 : Int32) = nI 41 from rfl, s1.is 41 (by omega) (by omega)]
          rw [e41]
          have k114 : ¬ (kdT S2 = 41 ∧ hasB g2.1 = true) → KX12_formula_114 1 (if lvO (kdT S2) = 9 then 0 else nI (sgn (kdT S2))) h2 Q k := by
            intro n41
            rw [if_neg n41] at hg2
            unfold KX12_formula_114
            by_cases c9 : lvO (kdT S2) = 9
            · rw [if_pos c9]
              rw [if_neg (fun z => z.1 c9)] at hg2
              exact br_t rfl (stop hg2.symm)
            · rw [if_neg c9]
              have hl4 : lvO (kdT S2) ≤ 4 := by
                rcases lvO_9 (kdT S2) with z | z
                · exact absurd z c9
                · exact z
              obtain ⟨t1, t2, t3, t4, t5, t6, t7⟩ := lvO_tg rfl hl4
              have hsg : sgn (kdT S2) < 200 ∧ 0 < sgn (kdT S2) := by
                have key : ∀ k, k < 120 → lvO k ≤ 4 → sgn k < 200 ∧ 0 < sgn k := by decide +kernel
                exact key _ (by omega) hl4
              have hne0 : ¬ nI (sgn (kdT S2)) = 0 := by
                intro z
                have := (nI_eq (a := sgn (kdT S2)) (b := 0) (by omega) (by omega)).mp z
                omega
              have tle := tgh_le (sgn (kdT S2))
              have k133 : ¬ (lvO (kdT S2) = 2 ∧ hasR g2.1 = true) → KX12_formula_133 1 (nI (sgn (kdT S2))) h2 Q k := by
                intro nr
                rw [if_pos ⟨c9, nr⟩] at hg2
                obtain ⟨l1, l2, l3⟩ := clo_len (m := tgh (sgn (kdT S2))) (st := g2.1) (out := g2.2.1)
                unfold KX12_formula_133
                refine rs_tight (by omega) (rs_close hf s4 s5 s6' s7 (by omega) (by omega) (by omega) fun h3 f3 k3 o3 d3 => ?_)
                generalize clo (tgh (sgn (kdT S2))) g2.1 g2.2.1 = C at *
                rw [k3.1, show ix (nI C.1.length) = C.1.length from nI_clamp (by omega)]
                refine ⟨vp_in_nI (by omega) (by omega), Lt_i fun x4 w4 => ?_⟩
                have x21 : x4.1 108 21 = nI C.1.length := by rw [w4, h_i_1, if_neg (by omega)]; exact k3.1
                rw [x21, nI_1]
                refine Lt_i fun x5 w5 => ?_
                have f5 : Fr (fun q k => q = 117 ∨ (q = 108 ∧ k = 21)) h3 x5 := by rw [w5, w4]; exact (Fr.rf.st (by omega)).st (by omega)
                have g5 : Fr (RFq f) h x5 := (i1.tr (f3.mono fun q k p => by unfold ClW at p; unfold RFq RFu; omega)).tr (f5.mono fun q k p => by unfold RFq RFu; omega)
                have c5 : RS x5 T S2 := (s1.fr f3 fun q k p => by unfold ClW at p; omega).fr f5 fun q k p => by omega
                refine rs_next c5 t5 fun x6 f6 c6 => ?_
                have g6' : Fr (RFq f) h x6 := g5.tr (f6.mono fun q k p => Or.inl (Or.inl p))
                have e119' : x6.1 119 f = 1 := by rw [f6.i (by unfold TkR; omega), f5.i (by omega), f3.i (by unfold ClW; omega)]; exact i119
                have gs6 : GS x6 T f S2.tail (sgn (kdT S2) :: C.1, C.2, g2.2.2) := by
                  refine ⟨c6, ?_, hf, ?_, ?_, ?_, ?_, ?_, ?_⟩
                  · rw [f6.i (by unfold TkR; omega), f5.i (by omega), f3.i (by unfold ClW; omega)]; exact s2
                  · rw [f6.i (by unfold TkR; omega), f5.i (by omega), f3.i (by unfold ClW; omega)]; exact s4
                  · refine GK.fr (h := x5) (k3.push hsg.1 ?_ ?_ fun k hk => ?_) fun q k p => f6.i (by unfold TkR; omega)
                    · rw [w5, h_i_1, if_pos ⟨rfl, rfl⟩]
                    · rw [w5, h_i_1, if_neg (by omega), w4, h_i_1, if_pos ⟨rfl, rfl⟩]
                    · rw [w5, h_i_1, if_neg (by omega), w4, h_i_1, if_neg (by omega)]
                  · exact o3.fr fun q k p => by rw [f6.i (by unfold TkR; omega), f5.i (by omega)]
                  · simp only
                    rw [dpS_c t2 t3, f6.i (by unfold TkR; omega), f5.i (by omega)]; exact d3
                  · rw [f6.i (by unfold TkR; omega), f5.i (by omega), f3.i (by unfold ClW; omega)]; exact s8
                  · rw [f6.i (by unfold TkR; omega), f5.i (by omega), f3.i (by unfold ClW; omega)]; exact s9
                have gi6 : GI false (sgn (kdT S2) :: C.1, C.2, g2.2.2) := by
                  refine ⟨v1, v2, ?_, ?_, ?_⟩
                  · simp only; rw [dpS_c t2 t3]; omega
                  · simp only; rw [dpS_c t2 t3, if_neg (by decide), List.length_cons]; omega
                  · simp only; rw [dpS_c t2 t3, if_neg (by decide), if_neg (by decide), List.length_cons]; omega
                refine rs_unit R gs6 gi6 hg2 (fun e h7 he f7 r7 => ?_) (fun S7 g7 h7 hg7 f7 gs7 gi7 hlt7 => ?_)
                · refine hk (S2, g2, 0) 1 h7 ⟨g6'.tr (f7.mono (RFu_q f)), ?_, i2, Or.inl ⟨rfl, e, he, r7⟩⟩ (by simp)
                  rw [keep _ _ f7]; exact e119'
                · refine hk (S7, g7, 2) 1 h7 ⟨g6'.tr (f7.mono (RFu_q f)), ?_, by simp only; omega, Or.inr ⟨gs7, gi7, Or.inl ⟨rfl, rfl, hg7⟩⟩⟩ (by simp only; omega)
                  rw [keep _ _ f7]; exact e119'
              refine br_f hne0 (rs_tight (by omega) ?_)
              rw [show (nI (tgh (sgn (kdT S2))) = (4 : Int32)) = (tgh (sgn (kdT S2)) = 4) from propext (nI_eq (b := 4) (by omega) (by omega))]
              have h42 : tgh (sgn (kdT S2)) = 4 ↔ lvO (kdT S2) = 2 := by
                rw [t1]
                have key : ∀ l, l ≤ 4 → (tgL l = 4 ↔ l = 2) := by decide
                exact key _ hl4
              refine br_c (fun c4 => rs_hasRelation s5 (by omega) ?_) (fun c4 => k133 (fun z => c4 (h42.mpr z.1)))
              cases hr : hasR g2.1 with
              | false => exact br_t rfl (k133 (fun z => by rw [hr] at z; exact absurd z.2 (by decide)))
              | true =>
                rw [if_neg (fun z => z.2 ⟨h42.mp c4, hr⟩)] at hg2
                exact br_f (by decide) (stop hg2.symm)
          refine br_c (fun c41 => rs_hasBracket s5 (by omega) ?_) (fun c41 => k114 (fun z => c41 z.1))
          cases hb : hasB g2.1 with
          | false => exact br_t rfl (k114 (fun z => by rw [hb] at z; exact absurd z.2 (by decide)))
          | true =>
            rw [if_pos ⟨c41, hb⟩] at hg2
            obtain ⟨b, hb2⟩ := clo0_20 (out := g2.2.1) (of_decide_eq_true hb)
            obtain ⟨l1, l2, l3⟩ := clo_len (m := 0) (st := g2.1) (out := g2.2.1)
            refine br_f (by decide) (rs_close (m := 0) hf s4 s5 s6' s7 (by omega) (by omega) (by omega) fun h3 f3 k3 o3 d3 => ?_)
            generalize clo 0 g2.1 g2.2.1 = C at *
            rw [hb2] at k3 d3 l1 l2 l3 hg2
            rw [dpS_o (Or.inl rfl)] at d3 l2 l3
            rw [List.length_cons] at l1 l2
            rw [k3.1, List.length_cons, show nI (b.length + 1) - 1 = nI b.length from nI_pred _]
            refine Lt_i fun x4 w4 => ?_
            have x25 : x4.1 108 25 = nI (dpS b + 1) := by rw [w4, h_i_1, if_neg (by omega)]; exact d3
            rw [x25, show nI (dpS b + 1) - 1 = nI (dpS b) from nI_pred _]
            refine Lt_i fun x5 w5 => ?_
            have f5 : Fr (fun q k => q = 108 ∧ (k = 21 ∨ k = 25)) h3 x5 := by rw [w5, w4]; exact (Fr.rf.st (by omega)).st (by omega)
            have g5 : Fr (RFq f) h x5 := (i1.tr (f3.mono fun q k p => by unfold ClW at p; unfold RFq RFu; omega)).tr (f5.mono fun q k p => by unfold RFq RFu; omega)
            have c5 : RS x5 T S2 := (s1.fr f3 fun q k p => by unfold ClW at p; omega).fr f5 fun q k p => by omega
            refine rs_next c5 (by omega) fun x6 f6 c6 => hk (S2.tail, (b, C.2, g2.2.2), 2) 1 x6 ⟨g5.tr (f6.mono fun q k p => Or.inl (Or.inl p)), ?_, by simp only; omega, Or.inr ⟨⟨c6, ?_, hf, ?_, ?_, ?_, ?_, ?_, ?_⟩, ⟨v1, v2, ?_, ?_, ?_⟩, Or.inl ⟨rfl, rfl, hg2⟩⟩⟩ (by simp only; omega)
            · rw [f6.i (by unfold TkR; omega), f5.i (by omega), f3.i (by unfold ClW; omega)]; exact i119
            · rw [f6.i (by unfold TkR; omega), f5.i (by omega), f3.i (by unfold ClW; omega)]; exact s2
            · rw [f6.i (by unfold TkR; omega), f5.i (by omega), f3.i (by unfold ClW; omega)]; exact s4
            · refine k3.pop ?_ fun k => ?_
              · rw [f6.i (by unfold TkR; omega), w5, h_i_1, if_neg (by omega), w4, h_i_1, if_pos ⟨rfl, rfl⟩]
              · rw [f6.i (by unfold TkR; omega), f5.i (by omega)]
            · exact o3.fr fun q k p => by rw [f6.i (by unfold TkR; omega), f5.i (by omega)]
            · rw [f6.i (by unfold TkR; omega), w5, h_i_1, if_pos ⟨rfl, rfl⟩]
            · rw [f6.i (by unfold TkR; omega), f5.i (by omega), f3.i (by unfold ClW; omega)]; exact s8
            · rw [f6.i (by unfold TkR; omega), f5.i (by omega), f3.i (by unfold ClW; omega)]; exact s9
            · simp only; omega
            · simp only; rw [if_pos trivial]; omega
            · simp only; rw [if_pos trivial, if_pos trivial]; omega
        · refine br_t rfl ?_
          unfold KX12_formula_177
          refine br_t s2 (rs_hasBracket s5 (by omega) ?_)
          cases hb : hasB g2.1 with
          | false =>
            rw [hb, if_neg (by decide)] at hfin
            refine br_t rfl ?_
            unfold KX12_formula_196
            refine br_t s2 (rs_close (m := 0) hf s4 s5 s6' s7 (by omega) (by omega) (by omega) fun h3 f3 k3 o3 d3 => q1 _ h3 hfin (i1.tr (f3.mono fun q k p => by unfold ClW at p; unfold RFq RFu; omega)) (s1.fr f3 fun q k p => by unfold ClW at p; omega) ?_ ?_ o3 ?_)
            · rw [f3.i (by unfold ClW; omega)]; exact s2
            · rw [f3.i (by unfold ClW; omega)]; exact i119
            · rw [f3.i (by unfold ClW; omega)]; exact s9
          | true =>
            rw [hb, if_pos rfl] at hfin
            refine br_f (by decide) (rs_wrong (c := 2) (α := List ob_S × tx_U) s1 s2 (by omega) (by omega) fun e h3 he f3 r3 => ?_)
            unfold KX12_formula_196
            exact br_f r3.pos.2 (q0 e h3 (by rw [hfin]; exact he) (i1.tr (f3.mono fun q k p => by unfold RFq RFu; omega)) r3)
    · rw [keep _ _ f']; exact e119
