-- ===== the reference reads a formula =====
theorem RS.word {h : ob_H} {T : tx_T} {S : tx_S} (hc : RS h T S) (c : kdT S = 2 ∨ 100 ≤ kdT S) {i : Nat} {x : Int64} (hi : i < 20) (hx : x = Int64.ofNat (cd8 (wdsL.getD i []))) : (lg_cmp (h.2.1 108 9) x = 0) = (kdT S = 100 + i) := by
  have hw : MX12_isWord x h (fun r => (r = 1) = (kdT S = 100 + i)) := rs_isWord hc hi hx (by
    by_cases e : kdT S = 100 + i
    · rw [decide_eq_true e]; simp [tru, e]
    · rw [decide_eq_false e]; simp [tru, e])
  unfold MX12_isWord at hw
  have e1 : h.1 108 6 = 1 := by rw [hc.k]; exact (srt_1 hc.k120).2.2.1.mpr c
  have hw := hw.1 e1
  by_cases z : lg_cmp (h.2.1 108 9) x = 0
  · have := hw.1 z
    rw [← this]
    simp [z]
  · have := hw.2 z
    rw [← this]
    simp [z]
theorem rs_asked {h : ob_H} {T : tx_T} {S : tx_S} {Q : Int32 → Prop} (hc : RS h T S) (hq : Q (if facK (kdT S) = true then nI (kdT S - 100) else -1)) : MX12_asked h Q := by
  obtain ⟨l0, l1, l2, l3, l4, l5, _⟩ := wix_lit
  have e1 : (h.1 108 6 = 1) = (kdT S = 2 ∨ 100 ≤ kdT S) := by rw [hc.k]; exact propext (srt_1 hc.k120).2.2.1
  unfold MX12_asked
  rw [e1]
  unfold facK at hq
  refine br_c (fun c => ?_) (fun c => ?_)
  · rw [hc.word c (i := 0) (by omega) l0, hc.word c (i := 1) (by omega) l1, hc.word c (i := 2) (by omega) l2, hc.word c (i := 3) (by omega) l3, hc.word c (i := 4) (by omega) l4, hc.word c (i := 5) (by omega) l5]
    have fin : ∀ i, i < 6 → kdT S = 100 + i → Q (nI i) := by
      intro i hi e
      rw [e, decide_eq_true (by omega), if_pos rfl, Nat.add_sub_cancel_left] at hq
      exact hq
    refine br_c (fun c0 => fin 0 (by omega) c0) (fun c0 => br_c (fun c1 => fin 1 (by omega) c1) (fun c1 => br_c (fun c2 => fin 2 (by omega) c2) (fun c2 => br_c (fun c3 => fin 3 (by omega) c3) (fun c3 => br_c (fun c4 => fin 4 (by omega) c4) (fun c4 => br_c (fun c5 => fin 5 (by omega) c5) (fun c5 => ?_))))))
    rw [decide_eq_false (by omega), if_neg (by decide)] at hq
    exact hq
  · rw [decide_eq_false (by omega), if_neg (by decide)] at hq
    exact hq
theorem rs_sign {h : ob_H} {T : tx_T} {S : tx_S} {Q : Int32 → Prop} (hc : RS h T S) (hq : Q (if lvO (kdT S) = 9 then 0 else nI (sgn (kdT S)))) : MX12_sign h Q := by
  have lit := wix_lit
  have e17 := lit.2.2.2.2.2.2.2.2.2.2.2.2.2.2.2.2.2.1
  have e18 := lit.2.2.2.2.2.2.2.2.2.2.2.2.2.2.2.2.2.2.1
  have hk := hc.k120
  unfold MX12_sign
  refine rs_isWord (i := 18) hc (by omega) e18 ?_
  by_cases c18 : kdT S = 118
  · rw [decide_eq_true c18]
    rw [c18] at hq
    exact br_f (by decide) hq
  rw [decide_eq_false c18]
  refine br_t rfl (rs_isWord (i := 17) hc (by omega) e17 ?_)
  by_cases c17 : kdT S = 117
  · rw [decide_eq_true c17]
    rw [c17] at hq
    exact br_f (by decide) hq
  rw [decide_eq_false c17]
  refine br_t rfl ?_
  rw [show (60 : Int32) = nI 60 from rfl, show (62 : Int32) = nI 62 from rfl, show (61 : Int32) = nI 61 from rfl, show (43 : Int32) = nI 43 from rfl, show (45 : Int32) = nI 45 from rfl, show (42 : Int32) = nI 42 from rfl, show (47 : Int32) = nI 47 from rfl, show (37 : Int32) = nI 37 from rfl,
    hc.is 60 (by omega) (by omega), hc.is 62 (by omega) (by omega), hc.is 61 (by omega) (by omega), hc.is 43 (by omega) (by omega), hc.is 45 (by omega) (by omega), hc.is 42 (by omega) (by omega), hc.is 47 (by omega) (by omega), hc.is 37 (by omega) (by omega)]
  have fin : ∀ k, (k = 60 ∨ k = 62 ∨ k = 61 ∨ k = 43 ∨ k = 45 ∨ k = 42 ∨ k = 47 ∨ k = 37) → kdT S = k → Q (h.1 108 6) := by
    intro k hk2 e
    have e6 : h.1 108 6 = nI k := by rw [hc.is k (by omega) (by omega)]; exact e
    rw [e6]
    rw [e] at hq
    rcases hk2 with rfl | rfl | rfl | rfl | rfl | rfl | rfl | rfl <;> exact hq
  refine br_c (fun c => fin 60 (by omega) c) (fun c1 => br_c (fun c => fin 62 (by omega) c) (fun c2 => br_c (fun c => fin 61 (by omega) c) (fun c3 => br_c (fun c => fin 43 (by omega) c) (fun c4 => br_c (fun c => fin 45 (by omega) c) (fun c5 => br_c (fun c => fin 42 (by omega) c) (fun c6 => br_c (fun c => fin 47 (by omega) c) (fun c7 => br_c (fun c => fin 37 (by omega) c) (fun c8 => ?_))))))))
  have : lvO (kdT S) = 9 := by
    unfold lvO
    rw [if_neg c17, if_neg c18, if_neg (by omega), if_neg (by omega), if_neg (by omega)]
  rw [this, if_pos rfl] at hq
  exact hq
def GS (h : ob_H) (T : tx_T) (f : Nat) (S : tx_S) (g : tx_G) : Prop := RS h T S ∧ h.1 108 2 = 0 ∧ f < 2 ∧ h.1 108 20 = nI f ∧ GK h g.1 ∧ GO h f g.2.1 ∧ h.1 108 25 = nI (dpS g.1) ∧ h.1 108 24 = nI g.2.2.1 ∧ h.1 108 22 = nI g.2.2.2
def GI (a : Bool) (g : tx_G) : Prop := g.2.2.1 ≤ 30 ∧ g.2.2.2 ≤ 60 ∧ dpS g.1 ≤ 7 ∧ g.1.length + (if a = true then 1 else 0) ≤ dpS g.1 + g.2.2.1 ∧ g.2.1.length + g.1.length + (if a = true then 1 else 0) ≤ 10 * g.2.2.1 + (if a = true then 0 else dpS g.1)
def RFu (f q k : Nat) : Prop := TkR q k ∨ (q = 108 ∧ (k = 2 ∨ k = 3 ∨ (20 ≤ k ∧ k ≤ 22) ∨ k = 24 ∨ k = 25)) ∨ ((q = 111 ∨ q = 112) ∧ 320 * f ≤ k ∧ k < 320 * f + 320) ∨ (q = 113 ∧ k = f) ∨ q = 117
theorem rs_isFull {h : ob_H} {own all : Nat} {Q : Int32 → Prop} (h1 : h.1 108 24 = nI own) (h2 : h.1 108 22 = nI all) (h3 : own ≤ 30) (h4 : all ≤ 60) (hq : Q (tru (decide (30 ≤ own ∨ 60 ≤ all)))) : MX12_isFull h Q := by
  unfold MX12_isFull
  rw [h1, h2, show (nI all = (60 : Int32)) = (all = 60) from propext (nI_eq (b := 60) (by omega) (by omega)), show (nI own = (30 : Int32)) = (own = 30) from propext (nI_eq (b := 30) (by omega) (by omega))]
  refine br_c (fun c => ?_) (fun c => br_c (fun c2 => ?_) (fun c2 => ?_))
  · rw [decide_eq_true (by omega)] at hq; exact hq
  · rw [decide_eq_true (by omega)] at hq; exact hq
  · rw [decide_eq_false (by omega)] at hq; exact hq
/-- a bracket or a not is opened -/
theorem rs_openUp {h : ob_H} {T : tx_T} {f c : Nat} {S : tx_S} {g : tx_G} {Q : ob_H → Prop} (hs : GS h T f S g) (hl : g.1.length < 160) (hc : c = 20 ∨ c = 21) (hk : 1 < kdT S) (hq : ∀ h', Fr (RFu f) h h' → GS h' T f S.tail (c :: g.1, g.2) → Q h') : MX12_openUp (nI c) h Q := by
  obtain ⟨s1, s2, s3, s4, s5, s6, s7, s8, s9⟩ := hs
  have hc2 : c < 200 := by omega
  unfold MX12_openUp
  rw [s5.1, show ix (nI g.1.length) = g.1.length from nI_clamp (by omega)]
  refine ⟨vp_in_nI (by omega) (by omega), Lt_i fun y z => ?_⟩
  have y21 : y.1 108 21 = nI g.1.length := by rw [z, h_i_1, if_neg (by omega)]; exact s5.1
  rw [y21, nI_1]
  refine Lt_i fun y2 z2 => ?_
  have y25 : y2.1 108 25 = nI (dpS g.1) := by rw [z2, h_i_1, if_neg (by omega), z, h_i_1, if_neg (by omega)]; exact s7
  rw [y25, nI_1]
  refine Lt_i fun y3 z3 => ?_
  have f3 : Fr (fun q k => q = 117 ∨ (q = 108 ∧ (k = 21 ∨ k = 25))) h y3 := by rw [z3, z2, z]; exact ((Fr.rf.st (by omega)).st (by omega)).st (by omega)
  have y32 : y3.1 108 2 = 0 := by rw [f3.i (by omega)]; exact s2
  rw [y32]
  refine br_t rfl (rs_next (s1.fr f3 fun q k p => by omega) hk fun h4 f4 c4 => hq h4 ((f3.mono fun q k p => by unfold RFu; omega).tr (f4.mono fun q k p => Or.inl p)) ⟨c4, ?_, s3, ?_, ?_, ?_, ?_, ?_, ?_⟩)
  · rw [f4.i (by unfold TkR; omega)]; exact y32
  · rw [f4.i (by unfold TkR; omega), f3.i (by omega)]; exact s4
  · refine GK.fr (h := y3) (s5.push hc2 ?_ ?_ fun k hk => ?_) fun q k p => f4.i (by unfold TkR; omega)
    · rw [z3, h_i_1, if_neg (by omega), z2, h_i_1, if_pos ⟨rfl, rfl⟩]
    · rw [z3, h_i_1, if_neg (by omega), z2, h_i_1, if_neg (by omega), z, h_i_1, if_pos ⟨rfl, rfl⟩]
    · rw [z3, h_i_1, if_neg (by omega), z2, h_i_1, if_neg (by omega), z, h_i_1, if_neg (by omega)]
  · exact s6.fr fun q k p => by rw [f4.i (by unfold TkR; omega), f3.i (by omega)]
  · simp only
    rw [dpS_o hc, f4.i (by unfold TkR; omega), z3, h_i_1, if_pos ⟨rfl, rfl⟩]
  · rw [f4.i (by unfold TkR; omega), f3.i (by omega)]; exact s8
  · rw [f4.i (by unfold TkR; omega), f3.i (by omega)]; exact s9
/-- .. nothing comes of it behind a fault -/
theorem rs_openUpF {h : ob_H} {f c n d : Nat} {e : Nat × Nat} {Q : ob_H → Prop} (hr : RsR h e) (h21 : h.1 108 21 = nI n) (hn : n < 160) (h25 : h.1 108 25 = nI d) (hq : ∀ h', Fr (RFu f) h h' → RsR h' e → Q h') : MX12_openUp (nI c) h Q := by
  unfold MX12_openUp
  rw [h21, show ix (nI n) = n from nI_clamp (by omega)]
  refine ⟨vp_in_nI (by omega) (by omega), Lt_i fun y z => Lt_i fun y2 z2 => Lt_i fun y3 z3 => ?_⟩
  have f3 : Fr (fun q k => q = 117 ∨ (q = 108 ∧ (k = 21 ∨ k = 25))) h y3 := by rw [z3, z2, z]; exact ((Fr.rf.st (by omega)).st (by omega)).st (by omega)
  have r3 : RsR y3 e := ⟨hr.1, by rw [f3.i (by omega)]; exact hr.2.1, by rw [f3.i (by omega)]; exact hr.2.2⟩
  rw [r3.2.1]
  refine br_f (fun z => ?_) (hq y3 (f3.mono fun q k p => by unfold RFu; omega) r3)
  have := (nI_eq (a := e.1) (b := 0) (by have := hr.1; omega) (by omega)).mp z
  have := hr.1
  omega
theorem RsR.pos {h : ob_H} {e : Nat × Nat} (r : RsR h e) : ¬ h.1 108 2 ≤ 0 ∧ ¬ h.1 108 2 = 0 := by
  have h5 := r.1
  rw [r.2.1]
  constructor
  · intro z
    have := (nI_leI (a := e.1) (b := 0) (by omega) (by omega)).mp z
    omega
  · intro z
    have := (nI_eq (a := e.1) (b := 0) (by omega) (by omega)).mp z
    omega
theorem RsR.fr {h h' : ob_H} {e : Nat × Nat} (r : RsR h e) (x : ∀ k, k = 2 ∨ k = 3 → h'.1 108 k = h.1 108 k) : RsR h' e := ⟨r.1, by rw [x 2 (by omega)]; exact r.2.1, by rw [x 3 (by omega)]; exact r.2.2⟩
theorem go_t {t : tx_t} {S : tx_S} {g : tx_G} : go (t :: S) true g = (if t.1 = 119 ∧ mayN g.1 = true then (if 6 < dpS g.1 then badT (t :: S) 2 else go S true (21 :: g.1, g.2)) else
    if t.1 = 40 then (if 30 ≤ g.2.2.1 ∨ 60 ≤ g.2.2.2 ∨ 6 < dpS g.1 then badT (t :: S) 2 else go S true (20 :: g.1, g.2.1, g.2.2.1 + 1, g.2.2.2 + 1)) else
    if ¬ (t.1 = 3 ∨ facK t.1 = true) ∨ 30 ≤ g.2.2.1 ∨ 60 ≤ g.2.2.2 then badT (t :: S) 2 else go S false (g.1, g.2.1 ++ [stpU t], g.2.2.1 + 1, g.2.2.2 + 1)) := by rw [go]
theorem go_e {S : tx_S} {g : tx_G} (hS : Sok S) : go S true g = (if kdT S = 119 ∧ mayN g.1 = true then (if 6 < dpS g.1 then badT S 2 else go S.tail true (21 :: g.1, g.2)) else
    if kdT S = 40 then (if 30 ≤ g.2.2.1 ∨ 60 ≤ g.2.2.2 ∨ 6 < dpS g.1 then badT S 2 else go S.tail true (20 :: g.1, g.2.1, g.2.2.1 + 1, g.2.2.2 + 1)) else
    if ¬ (kdT S = 3 ∨ facK (kdT S) = true) ∨ 30 ≤ g.2.2.1 ∨ 60 ≤ g.2.2.2 then badT S 2 else go S.tail false (g.1, g.2.1 ++ [stpU (hdT S)], g.2.2.1 + 1, g.2.2.2 + 1)) := by
  obtain ⟨S', e1, e2⟩ := hS.ne
  rw [e2]
  generalize hdT S = t at *
  subst e1
  exact go_t
theorem rs_unit {T : tx_T} {f : Nat} {S : tx_S} {g : tx_G} {h : ob_H} {Q : ob_H → Prop} (R : tx_R) (hs : GS h T f S g) (hi : GI false g) (hR : go S true g = R)
    (q0 : ∀ e h', R = .inl e → Fr (RFu f) h h' → RsR h' e → Q h') (q1 : ∀ S' g' h', go S' false g' = R → Fr (RFu f) h h' → GS h' T f S' g' → GI true g' → S'.length < S.length → Q h') : MX12_unit h Q := by
  unfold MX12_unit
  refine lo2_g (S := tx_S × tx_G × Nat) (fun s x h1 => Fr (RFu f) h h1 ∧ s.1.length ≤ S.length ∧ ((s.2.2 = 0 ∧ ∃ e, R = .inl e ∧ RsR h1 e) ∨ (GS h1 T f s.1 s.2.1 ∧ GI false s.2.1 ∧ go s.1 true s.2.1 = R ∧ ((s.2.2 = 2 ∧ x = 1) ∨ (s.2.2 = 1 ∧ x = 0 ∧ ¬ (kdT s.1 = 119 ∧ mayN s.2.1.1 = true) ∧ kdT s.1 ≠ 40))))) (fun s => 3 * s.1.length + s.2.2) ?_ (S, g, 2) ⟨Fr.rf, Nat.le_refl _, Or.inr ⟨hs, hi, hR, Or.inl ⟨rfl, rfl⟩⟩⟩
  intro k s x h1 hI hk
  obtain ⟨S1, g1, m⟩ := s
  obtain ⟨i1, i2, i3⟩ := hI
  simp only at i2 i3
  have bad101 : ∀ e h2, R = .inl e → Fr (RFu f) h h2 → RsR h2 e → KX12_unit_101 h2 Q := by
    intro e h2 hr f2 r2
    unfold KX12_unit_101
    exact br_f r2.pos.1 (q0 e h2 hr f2 r2)
  unfold FX12_unit_2
  rcases i3 with ⟨_, e, hr, r1⟩ | ⟨a1, a2, a3, a4⟩
  · exact br_c (fun _ => bad101 e h1 hr i1 r1) (fun _ => br_f r1.pos.2 (bad101 e h1 hr i1 r1))
  · have b := a1
    obtain ⟨s1, s2, s3, s4, s5, s6, s7, s8, s9⟩ := b
    obtain ⟨v1, v2, v3, v4, v5⟩ := a2
    rw [if_neg (by decide)] at v4 v5
    rw [if_neg (by decide)] at v5
    have hSk := s1.2.1.sok
    have hlt := len_tail hSk
    have hl160 : g1.1.length < 160 := by omega
    have hk120 := s1.k120
    rw [go_e hSk] at a3
    -- a fault here
    have bad : badT S1 2 = R → ∀ k2 : ob_H → Prop, (∀ e h2, R = .inl e → Fr (RFu f) h h2 → RsR h2 e → h2.1 108 21 = nI g1.1.length → h2.1 108 25 = nI (dpS g1.1) → h2.1 108 22 = nI g1.2.2.2 → h2.1 108 24 = nI g1.2.2.1 → k2 h2) → MX12_wrong 2 h1 k2 := by
      intro hb k2 hk2
      refine rs_wrong (c := 2) (α := List ob_S × tx_U) s1 s2 (by omega) (by omega) fun e h2 he f2 r2 => hk2 e h2 (by rw [← hb]; exact he) (i1.tr (f2.mono fun q k p => by unfold RFu; omega)) r2 ?_ ?_ ?_ ?_
      · rw [f2.i (by omega)]; exact s5.1
      · rw [f2.i (by omega)]; exact s7
      · rw [f2.i (by omega)]; exact s9
      · rw [f2.i (by omega)]; exact s8
    rcases a4 with ⟨rfl, rfl⟩ | ⟨rfl, rfl, n119, n40⟩
    · refine br_f (by decide) (br_t s2 (rs_isWord (i := 19) s1 (by omega) wix_lit.2.2.2.2.2.2.2.2.2.2.2.2.2.2.2.2.2.2.2 ?_))
      have brk : ¬ (kdT S1 = 119 ∧ mayN g1.1 = true) → KX12_unit_53 1 h1 Q k := by
        intro hn
        rw [if_neg hn] at a3
        unfold KX12_unit_53
        rw [show (40 : Int32) = nI 40 from rfl, s1.is 40 (by omega) (by omega)]
        refine br_c (fun c40 => ?_) (fun c40 => hk (S1, g1, 1) 0 h1 ⟨i1, i2, Or.inr ⟨a1, ⟨v1, v2, v3, by rw [if_neg (by decide)]; exact v4, by rw [if_neg (by decide), if_neg (by decide)]; exact v5⟩, by rw [go_e hSk, if_neg hn]; exact a3, Or.inr ⟨rfl, rfl, hn, c40⟩⟩⟩ (by simp))
        rw [if_pos c40] at a3
        have fault : (30 ≤ g1.2.2.1 ∨ 60 ≤ g1.2.2.2 ∨ 6 < dpS g1.1) → KX12_unit_78 1 h1 Q k := by
          intro z
          rw [if_pos z] at a3
          unfold KX12_unit_78
          refine bad a3 _ fun e h2 he f2 r2 x21 x25 x22 x24 => ?_
          unfold KX12_unit_83 MX12_countUnit
          rw [x22]
          refine Lt_i fun y z => ?_
          refine Lt_i fun y2 z2 => ?_
          have fy : Fr (fun q k => q = 108 ∧ (k = 22 ∨ k = 24)) h2 y2 := by rw [z2, z]; exact (Fr.rf.st (by omega)).st (by omega)
          refine rs_openUpF (f := f) (c := 20) (e := e) (r2.fr fun k hk => fy.i (by omega)) (by rw [fy.i (by omega)]; exact x21) hl160 (by rw [fy.i (by omega)]; exact x25) fun h3 f3 r3 => hk (S1, g1, 0) 1 h3 ⟨(f2.tr (fy.mono fun q k p => by unfold RFu; omega)).tr f3, i2, Or.inl ⟨rfl, e, he, r3⟩⟩ (by simp)
        refine rs_isFull s8 s9 v1 v2 ?_
        by_cases cf : 30 ≤ g1.2.2.1 ∨ 60 ≤ g1.2.2.2
        · rw [decide_eq_true cf]
          exact br_f (by decide) (fault (by omega))
        · rw [decide_eq_false cf, s7, show (nI (dpS g1.1) ≤ (6 : Int32)) = (dpS g1.1 ≤ 6) from by rw [show (6 : Int32) = nI 6 from rfl, nI_le2 (by omega) (by omega)]]
          refine br_t rfl (br_c (fun c6 => ?_) (fun c6 => fault (by omega)))
          rw [if_neg (by omega)] at a3
          unfold KX12_unit_83 MX12_countUnit
          rw [s9]
          refine Lt_i fun y z => ?_
          have y24 : y.1 108 24 = nI g1.2.2.1 := by rw [z, h_i_1, if_neg (by omega)]; exact s8
          rw [y24]
          refine Lt_i fun y2 z2 => ?_
          have fy : Fr (fun q k => q = 108 ∧ (k = 22 ∨ k = 24)) h1 y2 := by rw [z2, z]; exact (Fr.rf.st (by omega)).st (by omega)
          have gy : GS y2 T f S1 (g1.1, g1.2.1, g1.2.2.1 + 1, g1.2.2.2 + 1) := by
            refine ⟨s1.fr fy fun q k p => by omega, by rw [fy.i (by omega)]; exact s2, s3, by rw [fy.i (by omega)]; exact s4, s5.fr fun q k p => fy.i (by omega), s6.fr fun q k p => fy.i (by omega), by rw [fy.i (by omega)]; exact s7, ?_, ?_⟩
            · rw [z2, h_i_1, if_pos ⟨rfl, rfl⟩]; exact nI_1 _
            · rw [z2, h_i_1, if_neg (by omega), z, h_i_1, if_pos ⟨rfl, rfl⟩]; exact nI_1 _
          refine rs_openUp (c := 20) gy hl160 (Or.inl rfl) (by omega) fun h3 f3 g3 => hk (S1.tail, (20 :: g1.1, g1.2.1, g1.2.2.1 + 1, g1.2.2.2 + 1), 2) 1 h3 ⟨(i1.tr (fy.mono fun q k p => by unfold RFu; omega)).tr f3, by simp only; omega, Or.inr ⟨g3, ⟨?_, ?_, ?_, ?_, ?_⟩, a3, Or.inl ⟨rfl, rfl⟩⟩⟩ (by simp only; omega)
          · simp only; omega
          · simp only; omega
          · simp only; rw [dpS_o (Or.inl rfl)]; omega
          · simp only; rw [dpS_o (Or.inl rfl), if_neg (by decide), List.length_cons]; omega
          · simp only; rw [dpS_o (Or.inl rfl), if_neg (by decide), if_neg (by decide), List.length_cons]; omega
      by_cases c119 : kdT S1 = 100 + 19
      · rw [decide_eq_true c119]
        refine br_f (by decide) (rs_mayNot s5 (by omega) ?_)
        cases hm : mayN g1.1 with
        | false => exact br_t rfl (brk (fun z => by rw [hm] at z; exact absurd z.2 (by decide)))
        | true =>
          rw [if_pos ⟨c119, hm⟩] at a3
          rw [s7, show (nI (dpS g1.1) ≤ (6 : Int32)) = (dpS g1.1 ≤ 6) from by rw [show (6 : Int32) = nI 6 from rfl, nI_le2 (by omega) (by omega)]]
          refine br_f (by decide) (br_c (fun c6 => ?_) (fun c6 => ?_))
          · rw [if_neg (by omega)] at a3
            unfold KX12_unit_44
            refine rs_openUp (c := 21) a1 hl160 (Or.inr rfl) (by omega) fun h3 f3 g3 => hk (S1.tail, (21 :: g1.1, g1.2), 2) 1 h3 ⟨i1.tr f3, by simp only; omega, Or.inr ⟨g3, ⟨?_, ?_, ?_, ?_, ?_⟩, a3, Or.inl ⟨rfl, rfl⟩⟩⟩ (by simp only; omega)
            · exact v1
            · exact v2
            · simp only; rw [dpS_o (Or.inr rfl)]; omega
            · simp only; rw [dpS_o (Or.inr rfl), if_neg (by decide), List.length_cons]; omega
            · simp only; rw [dpS_o (Or.inr rfl), if_neg (by decide), if_neg (by decide), List.length_cons]; omega
          · rw [if_pos (by omega)] at a3
            refine bad a3 _ fun e h2 he f2 r2 x21 x25 x22 x24 => ?_
            unfold KX12_unit_44
            exact rs_openUpF (f := f) (c := 21) (e := e) r2 x21 hl160 x25 fun h3 f3 r3 => hk (S1, g1, 0) 1 h3 ⟨f2.tr f3, i2, Or.inl ⟨rfl, e, he, r3⟩⟩ (by simp)
      · rw [decide_eq_false c119]
        exact br_t rfl (brk (fun z => c119 z.1))
    · refine br_t rfl ?_
      rw [if_neg n119, if_neg n40] at a3
      unfold KX12_unit_101
      rw [s2]
      refine br_t (by decide) (rs_asked s1 ?_)
      have e2 : (h1.1 108 6 = 2) = (kdT S1 = 3) := by rw [s1.k]; exact propext (srt_1 hk120).2.2.2
      rw [e2]
      have k133 : ∀ v : Int32, (¬ (kdT S1 = 3 ∨ facK (kdT S1) = true) ∨ 30 ≤ g1.2.2.1 ∨ 60 ≤ g1.2.2.2) → KX12_unit_133 v h1 Q := by
        intro v z
        rw [if_pos z] at a3
        unfold KX12_unit_133
        refine bad a3 _ fun e h2 he f2 r2 _ _ _ _ => ?_
        unfold KX12_unit_138
        exact br_f r2.pos.1 (q0 e h2 he f2 r2)
      have k126 : ∀ v : Int32, (kdT S1 = 3 ∨ facK (kdT S1) = true) → (v = if facK (kdT S1) = true then nI (kdT S1 - 100) else -1) → KX12_unit_126 v h1 Q := by
        intro v hk3 hv
        unfold KX12_unit_126
        refine rs_isFull s8 s9 v1 v2 ?_
        by_cases cf : 30 ≤ g1.2.2.1 ∨ 60 ≤ g1.2.2.2
        · rw [decide_eq_true cf]
          exact br_f (by decide) (k133 v (Or.inr cf))
        · rw [decide_eq_false cf]
          refine br_t rfl ?_
          rw [if_neg (by rintro (z | z); exact z hk3; exact cf z)] at a3
          have hfk : facK (kdT S1) = true → 100 ≤ kdT S1 ∧ kdT S1 ≤ 105 := fun z => by unfold facK at z; exact of_decide_eq_true z
          have h1k : 1 < kdT S1 := by
            rcases hk3 with z | z
            · omega
            · have := hfk z; omega
          unfold KX12_unit_138 MX12_countUnit
          rw [s2, s9]
          refine br_t (by decide) (Lt_i fun y z => ?_)
          have y24 : y.1 108 24 = nI g1.2.2.1 := by rw [z, h_i_1, if_neg (by omega)]; exact s8
          rw [y24]
          refine Lt_i fun y2 z2 => ?_
          have fy : Fr (fun q k => q = 108 ∧ (k = 22 ∨ k = 24)) h1 y2 := by rw [z2, z]; exact (Fr.rf.st (by omega)).st (by omega)
          have put : ∀ p1 p2 : Int32, (p1, p2) = stpU (hdT S1) → KX12_unit_172 p2 p1 y2 Q := by
            intro p1 p2 hp
            unfold KX12_unit_172
            refine rs_add s3 (by rw [fy.i (by omega)]; exact s4) (s6.fr fun q k p => fy.i (by omega)) (by omega) fun h3 f3 o3 => ?_
            have c3 : RS h3 T S1 := (s1.fr fy fun q k p => by omega).fr f3 fun q k p => by omega
            refine rs_next c3 h1k fun h4 f4 c4 => q1 S1.tail (g1.1, g1.2.1 ++ [stpU (hdT S1)], g1.2.2.1 + 1, g1.2.2.2 + 1) h4 a3 ?_ ⟨c4, ?_, s3, ?_, ?_, ?_, ?_, ?_, ?_⟩ ⟨?_, ?_, v3, ?_, ?_⟩ (by omega)
            · exact ((i1.tr (fy.mono fun q k p => by unfold RFu; omega)).tr (f3.mono fun q k p => by unfold RFu; omega)).tr (f4.mono fun q k p => Or.inl p)
            · rw [f4.i (by unfold TkR; omega), f3.i (by omega), fy.i (by omega)]; exact s2
            · rw [f4.i (by unfold TkR; omega), f3.i (by omega), fy.i (by omega)]; exact s4
            · exact s5.fr fun q k p => by rw [f4.i (by unfold TkR; omega), f3.i (by omega), fy.i (by omega)]
            · rw [← hp]
              exact o3.fr fun q k p => f4.i (by unfold TkR; omega)
            · rw [f4.i (by unfold TkR; omega), f3.i (by omega), fy.i (by omega)]; exact s7
            · rw [f4.i (by unfold TkR; omega), f3.i (by omega), z2, h_i_1, if_pos ⟨rfl, rfl⟩]; exact nI_1 _
            · rw [f4.i (by unfold TkR; omega), f3.i (by omega), z2, h_i_1, if_neg (by omega), z, h_i_1, if_pos ⟨rfl, rfl⟩]; exact nI_1 _
            · simp only; omega
            · simp only; omega
            · simp only; rw [if_pos trivial]; omega
            · simp only; rw [if_pos trivial, if_pos trivial, List.length_append, List.length_singleton]; omega
          have e8 : kdT S1 = 3 → y2.1 108 8 = nI (hdT S1).2.2.1 := fun z => by rw [fy.i (by omega)]; exact s1.2.2.2.2.1 z
          by_cases c3 : kdT S1 = 3
          · have nf : ¬ facK (kdT S1) = true := fun z => by have := hfk z; omega
            rw [if_neg nf] at hv
            rw [hv]
            refine br_f (by decide) ?_
            unfold KX12_unit_160
            refine br_f (by decide) ?_
            rw [e8 c3]
            refine put 0 _ ?_
            unfold stpU
            rw [if_pos c3]
          · have hf : facK (kdT S1) = true := by
              rcases hk3 with z | z
              · exact absurd z c3
              · exact z
            have hr := hfk hf
            rw [if_pos hf] at hv
            rw [hv]
            have hpos : (0 : Int32) ≤ nI (kdT S1 - 100) := nI_le (a := 0) (Nat.zero_le _) (by omega)
            refine br_t hpos ?_
            unfold KX12_unit_160
            refine br_t hpos (put 1 _ ?_)
            unfold stpU
            rw [if_neg c3]
      by_cases hf : facK (kdT S1) = true
      · have hr : 100 ≤ kdT S1 ∧ kdT S1 ≤ 105 := by unfold facK at hf; exact of_decide_eq_true hf
        rw [if_pos hf]
        refine br_c (fun c3 => k126 _ (Or.inl c3) (by rw [if_pos hf])) (fun c3 => br_f (nI_pos (by omega)) (k126 _ (Or.inr hf) (by rw [if_pos hf])))
      · rw [if_neg hf]
        exact br_c (fun c3 => k126 _ (Or.inl c3) (by rw [if_neg hf])) (fun c3 => br_t (by decide) (k133 _ (Or.inl (by rintro (z | z); exact c3 z; exact hf z))))
