-- ===== the reference reads a text =====
theorem sr_line {h : ob_H} {T : tx_T} {S : tx_S} {D : tx_D} {Q : ob_H → Prop} (cl : SRd h T S D) (hlen : S.length ≤ 1601) (q0 : ∀ e h', pLine D S = .inl e → Fr RQ h h' → RsR h' e → Q h')
    (q1 : ∀ x h', pLine D S = .inr x → 1 < kdT S → Fr RQ h h' → SRd h' T x.2 x.1 → Q h') : MX12_readLine h Q := by
  obtain ⟨l0, l1, l2, l3, l4, l5, l6, l7, l8, l9, l10, l11, l12, l13, l14, l15, l16, _⟩ := wix_lit
  have dd := cl.2.2.2
  have d7 := dd.1
  obtain ⟨a1, a2, a3, a4, a5, a6, a7, ⟨a8, a9, a10, a11⟩, ⟨a12, a13, a14⟩, a15, a16⟩ := cl.2.2.1
  have d17 := dd.2.2.2.2.2.2.2.2.2.2.2.2.2.2.2.2.1
  have d18 := dd.2.2.2.2.2.2.2.2.2.2.2.2.2.2.2.2.2.1
  have d19 := dd.2.2.2.2.2.2.2.2.2.2.2.2.2.2.2.2.2.2
  have s17 : D.2.2.2.1 ≤ 7 * D.1.1 := by rw [d17]; exact suN_le (fun k => ctb_le _) _
  have s18 : D.2.2.2.2.1 ≤ 7 * D.1.1 := by rw [d18]; exact suN_le (fun k => ctb_le _) _
  have p6 : kdT S = 106 → pLine D S = pObj D S := fun e => by unfold pLine; rw [if_pos e]
  have p10 : kdT S = 110 → pLine D S = pWhom 4 12 D S := fun e => by unfold pLine; rw [if_neg (by omega), if_pos e]
  have p11 : kdT S = 111 → pLine D S = pWhom 5 6 D S := fun e => by unfold pLine; rw [if_neg (by omega), if_neg (by omega), if_pos e]
  have p12 : kdT S = 112 → pLine D S = pJoin D S := fun e => by unfold pLine; rw [if_neg (by omega), if_neg (by omega), if_neg (by omega), if_pos e]
  have p13 : kdT S = 113 → pLine D S = pForm 0 D S := fun e => by unfold pLine; rw [if_neg (by omega), if_neg (by omega), if_neg (by omega), if_neg (by omega), if_pos e]
  have p14 : kdT S = 114 → pLine D S = pForm 1 D S := fun e => by unfold pLine; rw [if_neg (by omega), if_neg (by omega), if_neg (by omega), if_neg (by omega), if_neg (by omega), if_pos e]
  have p15 : kdT S = 115 → pLine D S = pBar 2 1 D S := fun e => by unfold pLine; rw [if_neg (by omega), if_neg (by omega), if_neg (by omega), if_neg (by omega), if_neg (by omega), if_neg (by omega), if_pos e]
  have p16 : kdT S = 116 → pLine D S = pBar 3 0 D S := fun e => by unfold pLine; rw [if_neg (by omega), if_neg (by omega), if_neg (by omega), if_neg (by omega), if_neg (by omega), if_neg (by omega), if_neg (by omega), if_pos e]
  have k238 : (∀ i, (i = 6 ∨ 10 ≤ i) → i < 17 → kdT S = 100 + i → pLine D S = badT S 2) → KX12_readLine_238 h Q := by
    intro H
    have hb : pLine D S = badT S 2 := by
      by_cases c : kdT S = 106 ∨ (110 ≤ kdT S ∧ kdT S ≤ 116)
      · exact H (kdT S - 100) (by omega) (by omega) (by omega)
      · unfold pLine
        rw [if_neg (by omega), if_neg (by omega), if_neg (by omega), if_neg (by omega), if_neg (by omega), if_neg (by omega), if_neg (by omega), if_neg (by omega)]
    unfold KX12_readLine_238
    exact sr_bad (c := 2) (α := tx_D × tx_S) cl (by omega) (by omega) fun e h' he f' r' => sr_243F r' (q0 e h' (by rw [hb]; exact he) (f'.mono TkW_Q) r')
  have k198 : (∀ i, (i = 6 ∨ 10 ≤ i) → i < 16 → kdT S = 100 + i → pLine D S = badT S 2) → KX12_readLine_198 h Q := by
    intro H
    unfold KX12_readLine_198
    refine rs_isWord (i := 16) cl.1 (by omega) l16 ?_
    by_cases e : kdT S = 100 + 16
    · rw [decide_eq_true e, a11]
      have p := p16 e
      refine br_f (by decide) ?_
      cases hf : D.2.2.1 3 with
      | false =>
        rw [p] at q0 q1
        exact br_t rfl (sr_amt (i := 3) (lo := 0) (Or.inr rfl) (by omega) l16 cl e hf q0 fun x h' hx f' c' => q1 x h' hx (by omega) f' c')
      | true => exact br_f (by decide) (k238 fun i hi1 hi2 hk => by rw [p]; unfold pBar; rw [if_pos hf])
    · rw [decide_eq_false e]
      exact br_t rfl (k238 fun i hi1 hi2 hk => H i hi1 (by omega) hk)
  have k158 : (∀ i, (i = 6 ∨ 10 ≤ i) → i < 15 → kdT S = 100 + i → pLine D S = badT S 2) → KX12_readLine_158 h Q := by
    intro H
    unfold KX12_readLine_158
    refine rs_isWord (i := 15) cl.1 (by omega) l15 ?_
    by_cases e : kdT S = 100 + 15
    · rw [decide_eq_true e, a10]
      have p := p15 e
      refine br_f (by decide) ?_
      cases hf : D.2.2.1 2 with
      | false =>
        rw [p] at q0 q1
        exact br_t rfl (sr_amt (i := 2) (lo := 1) (Or.inl rfl) (by omega) l15 cl e hf q0 fun x h' hx f' c' => q1 x h' hx (by omega) f' c')
      | true => exact br_f (by decide) (k198 fun i hi1 hi2 hk => by rw [p]; unfold pBar; rw [if_pos hf])
    · rw [decide_eq_false e]
      exact br_t rfl (k198 fun i hi1 hi2 hk => H i hi1 (by omega) hk)
  have k131 : (∀ i, (i = 6 ∨ 10 ≤ i) → i < 14 → kdT S = 100 + i → pLine D S = badT S 2) → KX12_readLine_131 h Q := by
    intro H
    unfold KX12_readLine_131
    refine rs_isWord (i := 14) cl.1 (by omega) l14 ?_
    by_cases e : kdT S = 100 + 14
    · rw [decide_eq_true e, a9]
      have p := p14 e
      refine br_f (by decide) ?_
      cases hf : D.2.2.1 1 with
      | false =>
        rw [p] at q0 q1
        exact br_t rfl (sr_form (i := 1) (by omega) cl (by omega) hlen hf q0 fun x h' hx f' c' => q1 x h' hx (by omega) f' c')
      | true => exact br_f (by decide) (k158 fun i hi1 hi2 hk => by rw [p]; unfold pForm; rw [if_pos hf])
    · rw [decide_eq_false e]
      exact br_t rfl (k158 fun i hi1 hi2 hk => H i hi1 (by omega) hk)
  have k104 : (∀ i, (i = 6 ∨ 10 ≤ i) → i < 13 → kdT S = 100 + i → pLine D S = badT S 2) → KX12_readLine_104 h Q := by
    intro H
    unfold KX12_readLine_104
    refine rs_isWord (i := 13) cl.1 (by omega) l13 ?_
    by_cases e : kdT S = 100 + 13
    · rw [decide_eq_true e, a8]
      have p := p13 e
      refine br_f (by decide) ?_
      cases hf : D.2.2.1 0 with
      | false =>
        rw [p] at q0 q1
        exact br_t rfl (sr_form (i := 0) (by omega) cl (by omega) hlen hf q0 fun x h' hx f' c' => q1 x h' hx (by omega) f' c')
      | true => exact br_f (by decide) (k131 fun i hi1 hi2 hk => by rw [p]; unfold pForm; rw [if_pos hf])
    · rw [decide_eq_false e]
      exact br_t rfl (k131 fun i hi1 hi2 hk => H i hi1 (by omega) hk)
  have k78 : (∀ i, (i = 6 ∨ 10 ≤ i) → i < 12 → kdT S = 100 + i → pLine D S = badT S 2) → KX12_readLine_78 h Q := by
    intro H
    unfold KX12_readLine_78
    refine rs_isWord (i := 12) cl.1 (by omega) l12 ?_
    by_cases e : kdT S = 100 + 12
    · rw [decide_eq_true e, a14]
      have p := p12 e
      refine br_f (by decide) ?_
      rw [show ((6 : Int32) ≤ nI D.2.2.2.2.2.1) = (6 ≤ D.2.2.2.2.2.1) from by rw [show (6 : Int32) = nI 6 from rfl, nI_le2 (by omega) (by omega)]]
      refine br_c (fun c => k104 fun i hi1 hi2 hk => by rw [p]; unfold pJoin; rw [if_pos c]) (fun c => ?_)
      rw [p] at q0 q1
      exact sr_join cl (by omega) c q0 fun x h' hx f' c' => q1 x h' hx (by omega) f' c'
    · rw [decide_eq_false e]
      exact br_t rfl (k104 fun i hi1 hi2 hk => H i hi1 (by omega) hk)
  have k52 : (∀ i, (i = 6 ∨ 10 ≤ i) → i < 11 → kdT S = 100 + i → pLine D S = badT S 2) → KX12_readLine_52 h Q := by
    intro H
    unfold KX12_readLine_52
    refine rs_isWord (i := 11) cl.1 (by omega) l11 ?_
    by_cases e : kdT S = 100 + 11
    · rw [decide_eq_true e, a13]
      have p := p11 e
      refine br_f (by decide) ?_
      rw [show ((6 : Int32) ≤ nI D.2.2.2.2.1) = (6 ≤ D.2.2.2.2.1) from by rw [show (6 : Int32) = nI 6 from rfl, nI_le2 (by omega) (by omega)]]
      refine br_c (fun c => k78 fun i hi1 hi2 hk => by rw [p]; unfold pWhom; rw [if_neg (show ¬ (5 = 4) by omega), if_pos c]) (fun c => ?_)
      rw [p] at q0 q1
      unfold MX12_readBrings
      exact sr_whom (c := 5) (most := 6) (Or.inr rfl) cl (by omega) (by rw [if_neg (by omega)]; exact c) q0 fun x h' hx f' c' => q1 x h' hx (by omega) f' c'
    · rw [decide_eq_false e]
      exact br_t rfl (k78 fun i hi1 hi2 hk => H i hi1 (by omega) hk)
  have k26 : (∀ i, (i = 6 ∨ 10 ≤ i) → i < 10 → kdT S = 100 + i → pLine D S = badT S 2) → KX12_readLine_26 h Q := by
    intro H
    unfold KX12_readLine_26
    refine rs_isWord (i := 10) cl.1 (by omega) l10 ?_
    by_cases e : kdT S = 100 + 10
    · rw [decide_eq_true e, a12]
      have p := p10 e
      refine br_f (by decide) ?_
      rw [show ((12 : Int32) ≤ nI D.2.2.2.1) = (12 ≤ D.2.2.2.1) from by rw [show (12 : Int32) = nI 12 from rfl, nI_le2 (by omega) (by omega)]]
      refine br_c (fun c => k52 fun i hi1 hi2 hk => by rw [p]; unfold pWhom; rw [if_pos (show 4 = 4 from rfl), if_pos c]) (fun c => ?_)
      rw [p] at q0 q1
      unfold MX12_readSettles
      exact sr_whom (c := 4) (most := 12) (Or.inl rfl) cl (by omega) (by rw [if_pos rfl]; exact c) q0 fun x h' hx f' c' => q1 x h' hx (by omega) f' c'
    · rw [decide_eq_false e]
      exact br_t rfl (k52 fun i hi1 hi2 hk => H i hi1 (by omega) hk)
  unfold MX12_readLine
  refine rs_isWord (i := 6) cl.1 (by omega) l6 ?_
  by_cases e : kdT S = 100 + 6
  · rw [decide_eq_true e, a1]
    have p := p6 e
    refine br_f (by decide) ?_
    rw [show ((7 : Int32) ≤ nI D.1.1) = (7 ≤ D.1.1) from by rw [show (7 : Int32) = nI 7 from rfl, nI_le2 (by omega) (by omega)]]
    refine br_c (fun c => k26 fun i hi1 hi2 hk => by rw [p]; unfold pObj; rw [if_pos c]) (fun c => ?_)
    rw [p] at q0 q1
    exact sr_obj cl (by omega) c q0 fun x h' hx f' c' => q1 x h' hx (by omega) f' c'
  · rw [decide_eq_false e]
    refine br_t rfl (k26 fun i hi1 hi2 hk => ?_)
    exfalso
    rcases hi1 with z | z
    · subst z; exact e hk
    · omega
def RQ1 (q k : Nat) : Prop := RQ q k ∨ (q = 108 ∧ k = 1)
theorem rs_read {h : ob_H} {T : tx_T} {S0 : tx_S} {Q : ob_H → Prop} (hT : T.1 ≤ 1600 ∧ h.1 108 1 = nI T.1 ∧ ∀ k, k < T.1 → T.2 k < 256 ∧ h.1 109 k = nI (T.2 k)) (h0 : hdT S0 = tk T 0) (hS : Str T S0) (hl : S0.length ≤ 1601)
    (q0 : ∀ e h', pRead 1601 tx_0 S0 = .inl e → Fr RQ1 h h' → h'.1 108 1 = 0 → RsR h' e → Q h') (q1 : ∀ D h', pRead 1601 tx_0 S0 = .inr D → Fr RQ1 h h' → h'.1 108 1 = 0 → RD h' D → DI D → h'.1 108 2 = 0 → h'.1 108 3 = -1 → Q h') : MX12_readAll h Q := by
  unfold MX12_readAll
  refine Lt_i fun y1 z1 => Lt_i fun y2 z2 => Lt_i fun y3 z3 => Lt_i fun y4 z4 => Lt_i fun y5 z5 => Lt_i fun y6 z6 => Lt_i fun y7 z7 => Lt_i fun y8 z8 => Lt_i fun y9 z9 => Lt_i fun y10 z10 => Lt_i fun y11 z11 => Lt_i fun y12 z12 => Lt_i fun y13 z13 => Lt_i fun y14 z14 => Lt_i fun y15 z15 => Lt_i fun y16 z16 => Lt_i fun y17 z17 => ?_
  have g1 : Fr RQ1 h y17 := by
    rw [z17, z16, z15, z14, z13, z12, z11, z10, z9, z8, z7, z6, z5, z4, z3, z2, z1]
    repeat (first | exact Fr.rf | refine Fr.st ?_ (by unfold RQ1 RQ; omega))
  have vs : y17.1 108 1 = 0 ∧ y17.1 108 5 = h.1 108 1 ∧ y17.1 108 4 = 0 ∧ y17.1 108 2 = 0 ∧ y17.1 108 3 = -1 ∧ (y17.1 108 41 = 0 ∧ y17.1 108 42 = 0 ∧ y17.1 108 43 = 0 ∧ y17.1 108 44 = 0 ∧ y17.1 108 47 = 0 ∧ y17.1 108 45 = 100 ∧ y17.1 108 46 = 0 ∧ y17.1 108 51 = 0 ∧ y17.1 108 52 = 0 ∧ y17.1 108 22 = 0) ∧ y17.1 119 0 = 0 ∧ y17.1 119 1 = 0 := by
    rw [z17, z16, z15, z14, z13, z12, z11, z10, z9, z8, z7, z6, z5, z4, z3, z2, z1]
    refine ⟨rfl, rfl, rfl, rfl, rfl, ⟨rfl, rfl, rfl, rfl, rfl, rfl, rfl, rfl, rfl, rfl⟩, rfl, rfl⟩
  obtain ⟨v1, v5, v4, v2, v3, ⟨v41, v42, v43, v44, v47, v45, v46, v51, v52, v22⟩, v190, v191⟩ := vs
  have x17 : RTx y17 T := ⟨hT.1, by rw [v5]; exact hT.2.1, fun k hk => by rw [g1.i (by unfold RQ1 RQ; omega)]; exact hT.2.2 k hk⟩
  refine rs_token (p := 0) x17 (Nat.zero_le _) (by rw [v4]; rfl) fun y18 f18 c18 => ?_
  have e18 : ∀ q k, ¬ TkR q k → y18.1 q k = y17.1 q k := fun q k n => f18.i n
  have cl0 : SRd y18 T S0 tx_0 := by
    refine ⟨⟨⟨x17.fr fun q k z => e18 q k (by unfold TkR; omega), by rw [e18 _ _ (by unfold TkR; omega)]; exact v3⟩, hS, by rw [h0]; exact c18⟩, by rw [e18 _ _ (by unfold TkR; omega)]; exact v2, ?_, DI_0⟩
    refine ⟨by rw [e18 _ _ (by unfold TkR; omega)]; exact v41, fun c hc k hk => absurd hk (Nat.not_lt_zero _), fun a b ha _ => absurd ha (Nat.not_lt_zero _), by rw [e18 _ _ (by unfold TkR; omega)]; exact v47, by rw [e18 _ _ (by unfold TkR; omega)]; exact v45, by rw [e18 _ _ (by unfold TkR; omega)]; exact v46, by rw [e18 _ _ (by unfold TkR; omega)]; exact v22,
      ⟨by rw [e18 _ _ (by unfold TkR; omega)]; exact v190, by rw [e18 _ _ (by unfold TkR; omega)]; exact v191, by rw [e18 _ _ (by unfold TkR; omega)]; exact v51, by rw [e18 _ _ (by unfold TkR; omega)]; exact v52⟩, ⟨by rw [e18 _ _ (by unfold TkR; omega)]; exact v42, by rw [e18 _ _ (by unfold TkR; omega)]; exact v43, by rw [e18 _ _ (by unfold TkR; omega)]; exact v44⟩, fun k l hl => (by cases hl), fun f hf hg => (by cases hg)⟩
  have g18 : Fr RQ y17 y18 := f18.mono fun q k p => TkW_Q q k (TkW_R q k p)
  have out : ∀ h', Fr RQ y17 h' → Fr RQ1 h h' ∧ h'.1 108 1 = 0 := fun h' f => ⟨g1.tr (f.mono fun q k p => Or.inl p), by rw [f.i (by unfold RQ; omega)]; exact v1⟩
  generalize hR : pRead 1601 tx_0 S0 = R at *
  refine lo1_g (S := tx_S × tx_D × Nat × Nat) (fun s h1 => Fr RQ y17 h1 ∧ ((s.2.2.2 = 0 ∧ ∃ e, R = .inl e ∧ RsR h1 e) ∨ (s.2.2.2 = s.1.length + 1 ∧ SRd h1 T s.1 s.2.1 ∧ pRead s.2.2.1 s.2.1 s.1 = R ∧ s.1.length ≤ s.2.2.1 ∧ s.1.length ≤ 1601))) (fun s => s.2.2.2) ?_ (S0, tx_0, 1601, S0.length + 1) ⟨g18, Or.inr ⟨rfl, cl0, hR, hl, hl⟩⟩
  intro k s h1 hI hk
  obtain ⟨S, D, n, m⟩ := s
  obtain ⟨i1, i2⟩ := hI
  simp only at i2
  unfold FX12_readAll_97
  rcases i2 with ⟨_, e, he, r⟩ | ⟨hm, c, hr, hn, hlen⟩
  · exact br_f r.pos.2 (q0 e h1 he (out h1 i1).1 (out h1 i1).2 r)
  have hne : 0 < S.length := by
    cases S with
    | nil => exact c.1.2.1.elim
    | cons a b => simp
  obtain ⟨n', rfl⟩ : ∃ n', n = n' + 1 := ⟨n - 1, by omega⟩
  have e6 : (h1.1 108 6 = 0) = (kdT S = 0) := by rw [c.1.k]; exact propext (srt_1 c.1.k120).1
  rw [c.2.1, e6]
  rw [pRead] at hr
  refine br_t rfl (br_c (fun ck => ?_) (fun ck => ?_))
  · rw [if_pos ck] at hr
    exact q1 D h1 hr.symm (out h1 i1).1 (out h1 i1).2 c.2.2.1 c.2.2.2 c.2.1 c.1.1.2
  · rw [if_neg ck] at hr
    refine sr_line c hlen (fun e h' he f' r' => hk (S, D, n' + 1, 0) h' ⟨i1.tr f', Or.inl ⟨rfl, e, by rw [he] at hr; exact hr.symm, r'⟩⟩ (by simp only; omega)) (fun x h' hx hk1 f' c' => hk (x.2, x.1, n', x.2.length + 1) h' ⟨i1.tr f', Or.inr ⟨rfl, c', by rw [hx] at hr; exact hr, ?_, ?_⟩⟩ ?_)
    all_goals have := pLine_len c.1.2.1.sok hlen hx hk1
    all_goals simp only
    all_goals omega
