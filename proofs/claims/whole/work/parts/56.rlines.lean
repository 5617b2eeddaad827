-- ===== the reference's lines: their parts =====
def RD (h : ob_H) (D : tx_D) : Prop := h.1 108 41 = nI D.1.1 ∧ (∀ c, c < 6 → ∀ k, k < D.1.1 → h.1 (121 + c) k = wv D.1 c k) ∧ (∀ a b, a < D.1.1 → b < D.1.1 → h.1 127 (7 * a + b) = wv D.1 6 (7 * a + b)) ∧
  h.1 108 47 = wv D.1 7 0 ∧ h.1 108 45 = wv D.1 7 1 ∧ h.1 108 46 = wv D.1 7 2 ∧ h.1 108 22 = nI D.2.2.2.2.2.2 ∧ (h.1 119 0 = tru (D.2.2.1 0) ∧ h.1 119 1 = tru (D.2.2.1 1) ∧ h.1 108 51 = tru (D.2.2.1 2) ∧ h.1 108 52 = tru (D.2.2.1 3)) ∧
  (h.1 108 42 = nI D.2.2.2.1 ∧ h.1 108 43 = nI D.2.2.2.2.1 ∧ h.1 108 44 = nI D.2.2.2.2.2.1) ∧ (∀ k l, D.2.1[k]? = some l → h.2.1 110 k = Int64.ofNat (cd8 l)) ∧ (∀ f, f < 2 → D.2.2.1 f = true → GO h f (D.1.2.2 f))
def RDX (q k : Nat) : Prop := (q = 108 ∧ (k = 22 ∨ (41 ≤ k ∧ k ≤ 47) ∨ k = 51 ∨ k = 52)) ∨ (110 ≤ q ∧ q ≤ 113) ∨ q = 119 ∨ (121 ≤ q ∧ q ≤ 127)
theorem RD.fr {h h' : ob_H} {D : tx_D} {P : Nat → Nat → Prop} (a : RD h D) (f : Fr P h h') (e : ∀ q k, RDX q k → ¬ P q k) : RD h' D := by
  obtain ⟨a1, a2, a3, a4, a5, a6, a7, ⟨a8, a9, a10, a11⟩, ⟨a12, a13, a14⟩, a15, a16⟩ := a
  have i : ∀ q k, RDX q k → h'.1 q k = h.1 q k := fun q k z => f.i (e q k z)
  refine ⟨by rw [i _ _ (by unfold RDX; omega)]; exact a1, fun c hc k hk => by rw [i _ _ (by unfold RDX; omega)]; exact a2 c hc k hk, fun x y hx hy => by rw [i _ _ (by unfold RDX; omega)]; exact a3 x y hx hy, by rw [i _ _ (by unfold RDX; omega)]; exact a4, by rw [i _ _ (by unfold RDX; omega)]; exact a5, by rw [i _ _ (by unfold RDX; omega)]; exact a6, by rw [i _ _ (by unfold RDX; omega)]; exact a7,
    ⟨by rw [i _ _ (by unfold RDX; omega)]; exact a8, by rw [i _ _ (by unfold RDX; omega)]; exact a9, by rw [i _ _ (by unfold RDX; omega)]; exact a10, by rw [i _ _ (by unfold RDX; omega)]; exact a11⟩, ⟨by rw [i _ _ (by unfold RDX; omega)]; exact a12, by rw [i _ _ (by unfold RDX; omega)]; exact a13, by rw [i _ _ (by unfold RDX; omega)]; exact a14⟩,
    fun k l hl => by rw [f.l (e _ _ (by unfold RDX; omega))]; exact a15 k l hl, fun g hg hf => (a16 g hg hf).fr fun q k z => i q k (by unfold RDX; omega)⟩
def TkW (q k : Nat) : Prop := q = 108 ∧ 2 ≤ k ∧ k ≤ 9
/-- the reference stands at a token, all told well -/
def SRd (h : ob_H) (T : tx_T) (S : tx_S) (D : tx_D) : Prop := RS h T S ∧ h.1 108 2 = 0 ∧ RD h D ∧ DI D
theorem TkW_R : ∀ q k, TkR q k → TkW q k := fun q k p => by unfold TkR at p; unfold TkW; omega
theorem TkW_D : ∀ q k, RDX q k → ¬ TkW q k := fun q k p z => by unfold RDX at p; unfold TkW at z; omega
theorem sr_next {h : ob_H} {T : tx_T} {S : tx_S} {D : tx_D} {Q : ob_H → Prop} (c : SRd h T S D) (hk : 1 < kdT S) (hq : ∀ h', Fr TkW h h' → SRd h' T S.tail D → Q h') : MX12_token h Q :=
  rs_next c.1 hk fun h' f' c' => hq h' (f'.mono TkW_R) ⟨c', by rw [f'.i (by unfold TkR; omega)]; exact c.2.1, c.2.2.1.fr (f'.mono TkW_R) TkW_D, c.2.2.2⟩
theorem sr_bad {h : ob_H} {T : tx_T} {S : tx_S} {D : tx_D} {c : Nat} {α : Type} {Q : ob_H → Prop} (hc : SRd h T S D) (hc1 : 1 ≤ c) (hc5 : c ≤ 5) (hq : ∀ e h', badT (α := α) S c = .inl e → Fr TkW h h' → RsR h' e → Q h') : MX12_wrong (nI c) h Q :=
  rs_wrong hc.1 hc.2.1 hc1 hc5 fun e h' he f' r' => hq e h' he (f'.mono fun q k p => by unfold TkW; omega) r'
theorem sr_want {h : ob_H} {T : tx_T} {S : tx_S} {D : tx_D} {i : Nat} {x : Int64} {Q : ob_H → Prop} (c : SRd h T S D) (hi : i < 20) (hx : x = Int64.ofNat (cd8 (wdsL.getD i []))) (q0 : ∀ e h', pTake (100 + i) S = .inl e → Fr TkW h h' → RsR h' e → Q h') (q1 : ∀ S' h', pTake (100 + i) S = .inr S' → Fr TkW h h' → SRd h' T S' D → Q h') : MX12_want x h Q := by
  unfold MX12_want
  rw [c.2.1]
  unfold pTake at q0 q1
  refine br_t (by decide) (rs_isWord c.1 hi hx ?_)
  by_cases e : kdT S = 100 + i
  · rw [decide_eq_true e]
    rw [if_pos e] at q1
    exact br_f (by decide) (sr_next c (by omega) fun h' f' c' => q1 _ h' rfl f' c')
  · rw [decide_eq_false e]
    rw [if_neg e] at q0
    exact br_t rfl (sr_bad (c := 2) (α := tx_S) c (by omega) (by omega) q0)
theorem sr_wantF {h : ob_H} {e : Nat × Nat} {x : Int64} {Q : ob_H → Prop} (r : RsR h e) (hq : Q h) : MX12_want x h Q := by
  unfold MX12_want
  exact br_f r.pos.1 hq
theorem sr_numberF {h : ob_H} {e : Nat × Nat} {a b : Int32} {Q : Int32 → ob_H → Prop} (r : RsR h e) (hq : Q 0 h) : MX12_toldNumber a b h Q := by
  unfold MX12_toldNumber
  exact br_f r.pos.1 hq
theorem sr_toldF {h : ob_H} {e : Nat × Nat} {x : Int64} {a b : Int32} {Q : Int32 → ob_H → Prop} (r : RsR h e) (hq : Q 0 h) : MX12_told x a b h Q := by
  unfold MX12_told
  exact sr_wantF r (sr_numberF r hq)
theorem sr_optionF {h : ob_H} {e : Nat × Nat} {x : Int64} {a b : Int32} {Q : Int32 → ob_H → Prop} (r : RsR h e) (hq : Q b h) : MX12_option x a b h Q := by
  unfold MX12_option
  exact br_f r.pos.2 hq
theorem sr_takesF {h : ob_H} {e : Nat × Nat} {x : Int64} {Q : Int32 → ob_H → Prop} (r : RsR h e) (hq : Q 0 h) : MX12_takes x h Q := by
  unfold MX12_takes
  refine br_f r.pos.2 ?_
  unfold KX12_takes_20
  exact br_t rfl ⟨by unfold isB; decide, hq⟩
theorem sr_oldOneF {h : ob_H} {e : Nat × Nat} {Q : Int32 → ob_H → Prop} (r : RsR h e) (hq : Q 0 h) : MX12_oldOne h Q := by
  unfold MX12_oldOne
  exact br_f r.pos.1 hq
theorem sr_secondF {h : ob_H} {e : Nat × Nat} {a b : Int32} {Q : Int32 → ob_H → Prop} (r : RsR h e) (hq : Q 0 h) : MX12_readSecond a b h Q := by
  unfold MX12_readSecond
  refine sr_oldOneF r (br_f r.pos.2 ?_)
  unfold KX12_readSecond_31
  exact br_f r.pos.2 hq
theorem sr_number {h : ob_H} {T : tx_T} {S : tx_S} {D : tx_D} {lo hi : Nat} {Q : Int32 → ob_H → Prop} (c : SRd h T S D) (hlo : lo < 1000) (hhi : hi < 1000) (q0 : ∀ e v h', pNum lo hi S = .inl e → Fr TkW h h' → RsR h' e → Q v h') (q1 : ∀ x h', pNum lo hi S = .inr x → lo ≤ x.1 ∧ x.1 ≤ hi → Fr TkW h h' → SRd h' T x.2 D → Q (nI x.1) h') : MX12_toldNumber (nI lo) (nI hi) h Q := by
  have e2 : (h.1 108 6 = 2) = (kdT S = 3) := by rw [c.1.k]; exact propext (srt_1 c.1.k120).2.2.2
  unfold MX12_toldNumber
  rw [c.2.1, e2]
  unfold pNum at q0 q1
  have out : ∀ e h', (if kdT S = 3 then (if (hdT S).2.2.1 < lo ∨ hi < (hdT S).2.2.1 then badT S 4 else .inr ((hdT S).2.2.1, S.tail)) else badT S 2 : Sum tx_E (Nat × tx_S)) = .inl e → Fr TkW h h' → RsR h' e → KX12_toldNumber_46 h' Q := by
    intro e h' he f' r'
    unfold KX12_toldNumber_46
    exact Lt_i fun v _ => br_f r'.pos.2 (q0 e v h' he f' r')
  refine br_t (by decide) (br_c (fun ck => ?_) (fun ck => ?_))
  · have en : h.1 108 8 = nI (hdT S).2.2.1 := c.1.2.2.2.2.1 ck
    have hn := c.1.2.1.hd.1 ck
    rw [if_pos ck] at q0 q1
    rw [if_pos ck] at out
    rw [en, nI_lt2 (by omega) (by omega), nI_le2 (by omega) (by omega)]
    have bad : ((hdT S).2.2.1 < lo ∨ hi < (hdT S).2.2.1) → KX12_toldNumber_41 h Q := by
      intro z
      rw [if_pos z] at out
      unfold KX12_toldNumber_41
      exact sr_bad (c := 4) (α := Nat × tx_S) c (by omega) (by omega) out
    refine br_c (fun c1 => bad (Or.inl c1)) (fun c1 => br_c (fun c2 => ?_) (fun c2 => bad (Or.inr (by omega))))
    rw [if_neg (by omega)] at q1
    unfold KX12_toldNumber_46
    rw [c.2.1, en]
    refine Lt_eq rfl (br_t rfl (sr_next c (by omega) fun h' f' c' => q1 _ h' rfl ⟨by simp only; omega, by simp only; omega⟩ f' c'))
  · rw [if_neg ck] at out
    exact sr_bad (c := 2) (α := Nat × tx_S) c (by omega) (by omega) out
theorem sr_told {h : ob_H} {T : tx_T} {S : tx_S} {D : tx_D} {i lo hi : Nat} {x : Int64} {Q : Int32 → ob_H → Prop} (c : SRd h T S D) (hi20 : i < 20) (hx : x = Int64.ofNat (cd8 (wdsL.getD i []))) (hlo : lo < 1000) (hhi : hi < 1000) (q0 : ∀ e v h', bnd (pTake (100 + i) S) (pNum lo hi) = .inl e → Fr TkW h h' → RsR h' e → Q v h') (q1 : ∀ S' x h', pTake (100 + i) S = .inr S' → pNum lo hi S' = .inr x → lo ≤ x.1 ∧ x.1 ≤ hi → Fr TkW h h' → SRd h' T x.2 D → Q (nI x.1) h') : MX12_told x (nI lo) (nI hi) h Q := by
  unfold MX12_told
  refine sr_want c hi20 hx (fun e h' he f' r' => sr_numberF r' (q0 e _ h' (bnd_l he) f' r')) fun S' h1 hs f1 c1 => ?_
  rw [bnd_r hs] at q0
  exact sr_number c1 hlo hhi (fun e v h' he f' r' => q0 e v h' he (f1.tr f') r') fun x h' hx' rg f' c' => q1 S' x h' hs hx' rg (f1.tr f') c'
theorem sr_option {h : ob_H} {T : tx_T} {S : tx_S} {D : tx_D} {i hi d : Nat} {x : Int64} {Q : Int32 → ob_H → Prop} (c : SRd h T S D) (hi20 : i < 20) (hx : x = Int64.ofNat (cd8 (wdsL.getD i []))) (hhi : hi < 1000) (hd : d ≤ hi) (q0 : ∀ e v h', pOpt (100 + i) hi d S = .inl e → Fr TkW h h' → RsR h' e → Q v h') (q1 : ∀ x h', pOpt (100 + i) hi d S = .inr x → x.1 ≤ hi → Fr TkW h h' → SRd h' T x.2 D → Q (nI x.1) h') : MX12_option x (nI hi) (nI d) h Q := by
  unfold MX12_option
  rw [c.2.1]
  unfold pOpt at q0 q1
  refine br_t rfl (rs_isWord c.1 hi20 hx ?_)
  by_cases e : kdT S = 100 + i
  · rw [decide_eq_true e]
    rw [if_pos e] at q0 q1
    have ht : pTake (100 + i) S = .inr S.tail := by unfold pTake; rw [if_pos e]
    refine br_f (by decide) (sr_told (lo := 0) (hi := hi) c hi20 hx (by omega) hhi (fun e v h' he f' r' => q0 e v h' (by rw [bnd_r ht] at he; exact he) f' r') (fun S' y h' hs hy rg f' c' => q1 y h' ?_ rg.2 f' c'))
    rw [ht] at hs
    cases hs
    exact hy
  · rw [decide_eq_false e]
    rw [if_neg e] at q1
    exact br_t rfl (q1 (d, S) h rfl hd Fr.rf c)
theorem sr_takes {h : ob_H} {T : tx_T} {S : tx_S} {D : tx_D} {i : Nat} {x : Int64} {Q : Int32 → ob_H → Prop} (c : SRd h T S D) (hi20 : i < 20) (hx : x = Int64.ofNat (cd8 (wdsL.getD i []))) (hq : ∀ h', Fr TkW h h' → SRd h' T (if kdT S = 100 + i then S.tail else S) D → Q (tru (decide (kdT S = 100 + i))) h') : MX12_takes x h Q := by
  unfold MX12_takes
  rw [c.2.1]
  refine br_t rfl (rs_isWord c.1 hi20 hx ?_)
  by_cases e : kdT S = 100 + i
  · rw [decide_eq_true e] at hq ⊢
    rw [if_pos e] at hq
    refine br_f (by decide) ?_
    unfold KX12_takes_20
    exact br_f (by decide) (sr_next c (by omega) fun h' f' c' => ⟨by unfold isB; decide, hq h' f' c'⟩)
  · rw [decide_eq_false e] at hq ⊢
    rw [if_neg e] at hq
    refine br_t rfl ?_
    unfold KX12_takes_20
    exact br_t rfl ⟨by unfold isB; decide, hq h Fr.rf c⟩
theorem rs_isName {h : ob_H} {T : tx_T} {S : tx_S} {Q : Int32 → Prop} (hc : RS h T S) (hq : Q (tru (decide (kdT S = 2)))) : MX12_isName h Q := by
  obtain ⟨l0, l1, l2, l3, l4, l5, l6, l7, l8, l9, l10, l11, l12, l13, l14, l15, l16, l17, l18, l19⟩ := wix_lit
  have e1 : (h.1 108 6 = 1) = (kdT S = 2 ∨ 100 ≤ kdT S) := by rw [hc.k]; exact propext (srt_1 hc.k120).2.2.1
  unfold MX12_isName MX12_isOwn
  rw [e1]
  refine br_c (fun c => ?_) (fun c => ?_)
  · rw [hc.word c (i := 6) (by omega) l6, hc.word c (i := 0) (by omega) l0, hc.word c (i := 1) (by omega) l1, hc.word c (i := 7) (by omega) l7, hc.word c (i := 8) (by omega) l8, hc.word c (i := 9) (by omega) l9, hc.word c (i := 10) (by omega) l10, hc.word c (i := 11) (by omega) l11, hc.word c (i := 12) (by omega) l12, hc.word c (i := 13) (by omega) l13, hc.word c (i := 14) (by omega) l14, hc.word c (i := 15) (by omega) l15, hc.word c (i := 16) (by omega) l16, hc.word c (i := 2) (by omega) l2, hc.word c (i := 3) (by omega) l3, hc.word c (i := 4) (by omega) l4, hc.word c (i := 5) (by omega) l5, hc.word c (i := 18) (by omega) l18, hc.word c (i := 17) (by omega) l17, hc.word c (i := 19) (by omega) l19]
    have yes : ∀ i, kdT S = 100 + i → ((1 : Int32) = 0 → Q 1) ∧ (¬ (1 : Int32) = 0 → Q 0) := fun i e => by
      rw [decide_eq_false (by omega)] at hq
      exact br_f (by decide) hq
    refine br_c (yes 6) fun n6 => br_c (yes 0) fun n0 => br_c (yes 1) fun n1 => br_c (yes 7) fun n7 => br_c (yes 8) fun n8 => br_c (yes 9) fun n9 => br_c (yes 10) fun n10 => br_c (yes 11) fun n11 => br_c (yes 12) fun n12 => br_c (yes 13) fun n13 => br_c (yes 14) fun n14 => br_c (yes 15) fun n15 => br_c (yes 16) fun n16 => br_c (yes 2) fun n2 => br_c (yes 3) fun n3 => br_c (yes 4) fun n4 => br_c (yes 5) fun n5 => br_c (yes 18) fun n18 => br_c (yes 17) fun n17 => br_c (yes 19) fun n19 => ?_
    have z : kdT S = 2 := by have := hc.k120; omega
    rw [decide_eq_true z] at hq
    exact br_t rfl hq
  · rw [decide_eq_false (fun z => c (Or.inl z))] at hq
    exact hq
theorem sr_find {h : ob_H} {T : tx_T} {S : tx_S} {D : tx_D} {Q : Int32 → Prop} (c : SRd h T S D) (hk : kdT S = 2) (hq : Q (tI (nmF D.2.1 (wdT S)))) : MX12_find h Q := by
  obtain ⟨c1, c2, c3, c4⟩ := c
  obtain ⟨d1, d2, d3, d4, _⟩ := c4
  have hw := c1.2.1.hd.2.1 hk
  have e9 : h.2.1 108 9 = Int64.ofNat (cd8 (wdT S)) := c1.2.2.2.2.2.1 (Or.inl hk)
  unfold MX12_find
  refine lo2c2 D.1.1 (by omega) (fun j a => (a = -1 ∧ ∀ i, i < j → D.2.1[i]? ≠ some (wdT S)) ∨ ∃ o, D.2.1[o]? = some (wdT S) ∧ a = nI o) ?_ ?_ 0 (Nat.zero_le _) _ (Or.inl ⟨rfl, fun i hi => absurd hi (Nat.not_lt_zero _)⟩)
  · intro k j a hj hI hk1
    have hj' : j < D.2.1.length := by omega
    have hg := List.getElem?_eq_getElem hj'
    have hl := d3 _ (List.getElem_mem hj')
    unfold FX12_find_4
    rw [c3.1, show ix (nI j) = j from nI_clamp (by omega), c3.2.2.2.2.2.2.2.2.2.1 j _ hg, e9]
    refine br_f (nI_ge hj (by omega)) ⟨vp_in_nI (by omega) (by omega), br_c (fun cc => Lt_eq (nI_1 _) (hk1 _ (Or.inr ⟨j, ?_, rfl⟩))) (fun cc => Lt_eq (nI_1 _) (hk1 _ ?_))⟩
    · have e : D.2.1[j] = wdT S := (w8_eq hl.1 hw.1 hl.2 hw.2.1).mp (lgc.mp cc)
      rw [hg, e]
    · rcases hI with ⟨a1, a2⟩ | a1
      · refine Or.inl ⟨a1, fun i hi => ?_⟩
        by_cases z : i = j
        · subst z
          rw [hg]
          intro z2
          simp only [Option.some.injEq] at z2
          exact cc (lgc.mpr ((w8_eq hl.1 hw.1 hl.2 hw.2.1).mpr z2))
        · exact a2 i (by omega)
      · exact Or.inr a1
  · intro k a hI
    unfold FX12_find_4
    rw [c3.1]
    refine br_t (nI_le (Nat.le_refl _) (by omega)) ?_
    rcases hI with ⟨a1, a2⟩ | ⟨o, a1, a2⟩
    · rw [nmF_none (by rw [d2]; exact a2)] at hq
      rw [a1]
      exact hq
    · rw [nmF_some a1 (fun i hi z => by have := d4 i o _ z a1; omega)] at hq
      rw [a2]
      exact hq
theorem nmF_7 {D : tx_D} {l : List Nat} {a : Nat} (d : DI D) (h : nmF D.2.1 l = some a) : a < D.1.1 := by
  have := (nmF_lt h).2
  rw [d.2.1] at this
  exact this
theorem sr_oldOne {h : ob_H} {T : tx_T} {S : tx_S} {D : tx_D} {Q : Int32 → ob_H → Prop} (c : SRd h T S D) (q2 : ∀ e h', kdT S ≠ 2 → badT (α := Nat) S 2 = .inl e → Fr TkW h h' → RsR h' e → Q 0 h') (q5 : ∀ e h', kdT S = 2 → nmF D.2.1 (wdT S) = none → badT (α := Nat) S 5 = .inl e → Fr TkW h h' → RsR h' e → Q 0 h') (q1 : ∀ a, kdT S = 2 → nmF D.2.1 (wdT S) = some a → a < D.1.1 → Q (nI a) h) : MX12_oldOne h Q := by
  have d1 := c.2.2.2.1
  unfold MX12_oldOne
  rw [c.2.1]
  refine br_t (by decide) (rs_isName c.1 ?_)
  by_cases hk : kdT S = 2
  · rw [decide_eq_true hk]
    refine br_f (by decide) (sr_find c hk ?_)
    cases hn : nmF D.2.1 (wdT S) with
    | none =>
      refine br_f (by decide) (sr_bad (c := 5) (α := Nat) c (by omega) (by omega) fun e h' he f' r' => ?_)
      unfold KX12_oldOne_36
      exact br_f r'.pos.1 (q5 e h' hk hn he f' r')
    | some a =>
      have ha := nmF_7 c.2.2.2 hn
      refine br_t ((tI_nn fun b hb => by cases hb; omega).mpr ⟨a, rfl⟩) ?_
      unfold KX12_oldOne_36
      rw [c.2.1]
      refine br_t (by decide) (sr_find c hk ?_)
      rw [hn]
      exact q1 a hk hn ha
  · rw [decide_eq_false hk]
    refine br_t rfl (sr_bad (c := 2) (α := Nat) c (by omega) (by omega) fun e h' he f' r' => ?_)
    unfold KX12_oldOne_36
    exact br_f r'.pos.1 (q2 e h' hk he f' r')
