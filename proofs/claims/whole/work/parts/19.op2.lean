def objV (w : ob_W) (r : ob_P) (o : Nat) (q : Int32) : Int32 :=
  if q = 0 then r o else if q = 1 then wv w 0 o else if q = 2 then wv w 1 o else if q = 3 then r (14 + o) else if q = 4 then (if r o = 0 then r 21 - r (7 + o) else 0) else if q = 5 then wv w 3 o else if q = 6 then wv w 4 o else if q = 7 then wv w 5 o else -2
theorem op_objector {B : Nat} (p q : Int32) : OK B (fun h Q => MX11_objector p q h fun x => Q x h) (fun h Q => MX12_objector p q h fun x => Q x h) := OK.ask fun h w r c _ => by
  obtain ⟨hW, hP, hw, hrw, hr, hn⟩ := c
  have hn7 := hW.1
  refine ⟨fun x => (∃ o, o < w.1 ∧ p = nI o ∧ x = objV w r o q) ∨ (¬ (∃ o, o < w.1 ∧ p = nI o) ∧ x = -2), fun Q hq => ?_, fun h1 f1 x hx Q hq => ?_⟩
  · show MX11_objector p q h fun x => Q x h
    unfold MX11_objector
    refine cs_isTold hn7 hw.1 (fun ⟨o, ho, e⟩ => ?_) (fun z => br_t rfl (hq _ h (Or.inr ⟨z, rfl⟩) Fr.rf))
    subst e
    have eo : ix (nI o) = o := nI_clamp (by omega)
    have bo : vp_in (nI o) 7 := vp_in_nI (by omega) (by omega)
    have fin : ∀ v, objV w r o q = v → Q v h := fun v e => hq v h (Or.inl ⟨o, ho, rfl, e.symm⟩) Fr.rf
    have w1 := hw.2.1
    rw [eo, w1 0 (by omega) o ho, w1 1 (by omega) o ho, w1 3 (by omega) o ho, w1 4 (by omega) o ho, w1 5 (by omega) o ho, hr.2.1 o ho]
    refine br_f (by decide) (br_c (fun c => cs_sortOf hn7 hr ho (hP.1 o ho) (fin _ (by unfold objV; simp [*]))) (fun c0 => br_c (fun c => ⟨bo, fin _ (by unfold objV; simp [*])⟩) (fun c1 => br_c (fun c => ⟨bo, fin _ (by unfold objV; simp [*])⟩) (fun c2 => br_c (fun c => ⟨bo, fin _ (by unfold objV; simp [*])⟩) (fun c3 => br_c (fun c => cs_waits hn7 hr ho ?_) (fun c4 => br_c (fun c => ⟨bo, fin _ (by unfold objV; simp [*])⟩) (fun c5 => br_c (fun c => ⟨bo, fin _ (by unfold objV; simp [*])⟩) (fun c6 => br_c (fun c => ⟨bo, fin _ (by unfold objV; simp [*])⟩) (fun c7 => fin _ (by unfold objV; simp [*]))))))))))
    cases hz : isS r 0 o with
    | true =>
      have h0 : r o = 0 := by simpa [isS] using hz
      refine br_f (by decide) (cs_waited hn7 hr ho (fin _ ?_))
      unfold objV
      simp [c, h0]
    | false =>
      have h0 : ¬ r o = 0 := by simpa [isS] using hz
      refine br_t rfl (fin _ ?_)
      unfold objV
      simp [c, h0]
  · show MX12_objector p q h1 fun x => Q x h1
    have hw1 := hrw.sc hn7 f1
    have hn1 := hn.sc f1
    unfold MX12_objector
    refine rs_isOne hn7 hw1.1 (fun ⟨o, ho, e⟩ => ?_) (fun z => ?_)
    · subst e
      have eo : ix (nI o) = o := nI_clamp (by omega)
      have bo : vp_in (nI o) 7 := vp_in_nI (by omega) (by omega)
      have bo24 : vp_in (nI o) 24 := vp_in_nI (by omega) (by omega)
      have e7 : (7 : Int32) + nI o = nI (7 + o) := nI_add 7 o
      have e14 : (14 : Int32) + nI o = nI (14 + o) := nI_add 14 o
      have i7 : ix (nI (7 + o)) = 7 + o := nI_clamp (by omega)
      have i14 : ix (nI (14 + o)) = 14 + o := nI_clamp (by omega)
      have hxv : x = objV w r o q := by
        rcases hx with ⟨o', ho', e, hx⟩ | ⟨hx, _⟩
        · have : o = o' := (nI_eq (by omega) (by omega)).mp e
          subst this
          exact hx
        · exact absurd ⟨o, ho, rfl⟩ hx
      subst hxv
      have fin : ∀ v, objV w r o q = v → Q v h1 := fun v e => e ▸ hq h1 Fr.rf
      have w1 := hw1.2.1
      rw [eo, e7, e14, i7, i14, w1 0 (by omega) o ho, w1 1 (by omega) o ho, w1 3 (by omega) o ho, w1 4 (by omega) o ho, w1 5 (by omega) o ho, hn1 o (by omega), hn1 (14 + o) (by omega), hn1 (7 + o) (by omega), hn1 21 (by omega)]
      exact br_f (by decide) (br_c (fun c => ⟨bo24, fin _ (by unfold objV; simp [*])⟩) (fun c0 => br_c (fun c => ⟨bo, fin _ (by unfold objV; simp [*])⟩) (fun c1 => br_c (fun c => ⟨bo, fin _ (by unfold objV; simp [*])⟩) (fun c2 => br_c (fun c => ⟨vp_in_nI (by omega) (by omega), fin _ (by unfold objV; simp [*])⟩) (fun c3 => br_c (fun c => ⟨bo24, br_c (fun cc => ⟨vp_in_nI (by omega) (by omega), fin _ (by unfold objV; simp [*])⟩) (fun cc => fin _ (by unfold objV; simp [*]))⟩) (fun c4 => br_c (fun c => ⟨bo, fin _ (by unfold objV; simp [*])⟩) (fun c5 => br_c (fun c => ⟨bo, fin _ (by unfold objV; simp [*])⟩) (fun c6 => br_c (fun c => ⟨bo, fin _ (by unfold objV; simp [*])⟩) (fun c7 => fin _ (by unfold objV; simp [*]))))))))))
    · rcases hx with ⟨o, ho, e, hx⟩ | ⟨_, hx⟩
      · exact absurd ⟨o, ho, e⟩ z
      · subst hx
        exact br_t rfl (hq h1 Fr.rf)
theorem op_fault {B : Nat} (p : Int32) : OK B (fun h Q => MX11_fault p h fun x => Q x h) (fun h Q => MX12_fault p h fun x => Q x h) := OK.ask fun h w r c d => by
  refine ⟨fun x => x = if p = 0 then h.1 4 1 else if p = 1 then h.1 4 2 else -1, fun Q hq => ?_, fun h1 f1 x hx Q hq => ?_⟩
  · show MX11_fault p h fun x => Q x h
    unfold MX11_fault
    refine br_c (fun c => hq _ h ?_ Fr.rf) (fun c => br_c (fun c2 => hq _ h ?_ Fr.rf) (fun c2 => hq _ h ?_ Fr.rf)) <;> simp [*]
  · show MX12_fault p h1 fun x => Q x h1
    unfold MX12_fault
    have e1 : h1.1 108 2 = h.1 4 1 := by rw [f1.i (by unfold SC; omega)]; exact d.2.1.1.symm
    have e2 : h1.1 108 3 = h.1 4 2 := by rw [f1.i (by unfold SC; omega)]; exact d.2.1.2.symm
    rw [e1, e2]
    subst hx
    refine br_c (fun c => ?_) (fun c => br_c (fun c2 => ?_) (fun c2 => ?_))
    · have := hq h1 Fr.rf; rwa [if_pos c] at this
    · have := hq h1 Fr.rf; rwa [if_neg c, if_pos c2] at this
    · have := hq h1 Fr.rf; rwa [if_neg c, if_neg c2] at this
theorem op_lies {B : Nat} (p : Int32) : OK B (fun h Q => MX11_lies p h fun x => Q x h) (fun h Q => MX12_lies p h fun x => Q x h) := OK.ask fun h w r c d => by
  obtain ⟨n, hn, h0, h1', h2⟩ := d.2.2.2.1
  refine ⟨fun x => (∃ o, o < n ∧ p = nI o ∧ x = h.1 107 o) ∨ (¬ (∃ o, o < n ∧ p = nI o) ∧ x = -1), fun Q hq => ?_, fun h1 f1 x hx Q hq => ?_⟩
  · show MX11_lies p h fun x => Q x h
    unfold MX11_lies
    rw [h0]
    rcases okO_dec hn p with ⟨a, b, o, ho, e⟩ | ⟨a, cc⟩
    · subst e
      refine br_f a (br_f b ⟨vp_in_nI (by omega) (by omega), ?_⟩)
      rw [show ix (nI o) = o from nI_clamp (by omega)]
      exact hq _ h (Or.inl ⟨o, ho, rfl, rfl⟩) Fr.rf
    · have fin := hq (-1) h (Or.inr ⟨cc, rfl⟩) Fr.rf
      rcases a with a | a
      · exact br_t a fin
      · exact br_c (fun _ => fin) (fun _ => br_t a fin)
  · show MX12_lies p h1 fun x => Q x h1
    unfold MX12_lies
    have e1 : h1.1 108 62 = nI n := by rw [f1.i (by unfold SC; omega)]; exact h1'
    rw [e1]
    refine rs_isIn (fun a b => ?_) (fun a => ?_)
    · rcases okO_dec hn p with ⟨y, z, o, ho, e⟩ | ⟨y, cc⟩
      · subst e
        rcases hx with ⟨o', ho', e, hx⟩ | ⟨hx, _⟩
        · have : o = o' := (nI_eq (by omega) (by omega)).mp e
          subst this
          refine br_f (by decide) ⟨vp_in_nI (by omega) (by omega), ?_⟩
          rw [show ix (nI o) = o from nI_clamp (by omega), f1.i (by unfold SC; omega), ← h2 o ho, ← hx]
          exact hq h1 Fr.rf
        · exact absurd ⟨o, ho, rfl⟩ hx
      · rcases y with y | y
        · exact absurd y a
        · exact absurd ((lt_pred hn).mpr (Or.inl y)) b
    · refine br_t rfl ?_
      rcases hx with ⟨o, ho, e, hx⟩ | ⟨_, hx⟩
      · subst e
        rcases a with a | a
        · exact absurd a (nI_pos (by omega))
        · rcases (lt_pred hn).mp a with a | a
          · exact absurd a (nI_ge ho (by omega))
          · omega
      · subst hx
        exact hq h1 Fr.rf
theorem gon_mem {w : ob_W} : ∀ {f : Nat} {r : ob_P} {i o : Nat} {b : Int32}, (gon w f r).1[i]? = some (o, b) → o < w.1
  | 0, r, i, o, b, h => by simp [gon] at h
  | f + 1, r, i, o, b, h => by
    cases ht : trn w r with
    | none => rw [gon_none ht] at h; simp at h
    | some o' =>
      rw [gon_some ht] at h
      cases i with
      | zero => simp at h; exact h.1 ▸ (trn_lt ht).1
      | succ i => exact gon_mem (f := f) (by simpa using h)
/-- when one begins to be heard -/
def whn (L : List (Nat × Int32)) (p : Int32) : Int32 := match L.find? (fun x => decide (nI x.1 = p)) with
  | some x => x.2
  | none => -1
theorem whn_drop {L : List (Nat × Int32)} {p : Int32} {j : Nat} : L[j]? = none → whn (L.drop j) p = -1 := by
  intro h
  have : L.drop j = [] := List.drop_eq_nil_iff.mpr (by simpa using h)
  rw [this]
  rfl
theorem whn_cons {L : List (Nat × Int32)} {p : Int32} {j o : Nat} {b : Int32} (h : L[j]? = some (o, b)) : whn (L.drop j) p = if nI o = p then b else whn (L.drop (j + 1)) p := by
  have hl := (List.getElem?_eq_some_iff.mp h).1
  rw [List.drop_eq_getElem_cons hl, (List.getElem?_eq_some_iff.mp h).2]
  unfold whn
  rw [List.find?_cons]
  by_cases e : nI o = p <;> simp [e]
theorem op_when {B : Nat} (p : Int32) : OK B (MX11_when p) (MX12_when p) := OK.ask fun h w r c _ => by
  obtain ⟨hW, hP, hw, hrw, hr, hn⟩ := c
  have hn7 := hW.1
  have hout : ¬ (∃ o, o < w.1 ∧ p = nI o) → whn (gn w r).1 p = -1 := by
    intro hz
    unfold whn
    have : (gn w r).1.find? (fun x => decide (nI x.1 = p)) = none := by
      rw [List.find?_eq_none]
      intro x hx
      obtain ⟨i, hi⟩ := List.getElem?_of_mem hx
      have := gon_mem (f := 7) (r := r) (i := i) (o := x.1) (b := x.2) hi
      simp
      exact fun e => hz ⟨x.1, this, e.symm⟩
    rw [this]
  refine ⟨fun x => x = whn (gn w r).1 p, fun Q hq => ?_, fun h1 f1 x hx Q hq => ?_⟩
  · unfold MX11_when
    refine cs_goOn hW hw hr (by omega) fun h1 f1 c1 _ => ?_
    obtain ⟨d1, d2, d3⟩ := c1
    refine lo1c1 (gn w r).1.length (by omega) (fun j => whn ((gn w r).1.drop j) p = whn (gn w r).1 p) ?_ ?_ 0 (Nat.zero_le _) rfl
    · intro k j hj hI hk
      have ej : ix (nI j) = j := nI_clamp (by omega)
      obtain ⟨⟨o, b⟩, hob⟩ : ∃ x, (gn w r).1[j]? = some x := ⟨_, List.getElem?_eq_getElem hj⟩
      obtain ⟨e1, e2⟩ := d3 j o b hob
      unfold FX11_when_14
      rw [d1, ej, e1, e2]
      rw [whn_cons hob] at hI
      refine br_f (nI_ge hj (by omega)) ⟨vp_in_nI (by omega) (by omega), br_c (fun c => ?_) (fun c => ?_)⟩
      · rw [if_pos c] at hI
        exact hq _ h1 hI (f1.mono SC_CG)
      · rw [if_neg c] at hI
        exact Lt_eq (nI_1 _) (hk hI)
    · intro k hI
      unfold FX11_when_14
      rw [d1]
      refine br_t (nI_le (Nat.le_refl _) (by omega)) (hq _ h1 ?_ (f1.mono SC_CG))
      rw [whn_drop (by simp)] at hI
      exact hI
  · subst hx
    unfold MX12_when
    refine rs_isOne hn7 (hrw.sc hn7 f1).1 (fun _ => br_f (by decide) ?_) (fun z => br_t rfl ?_)
    · refine rs_duskNow hW (hrw.sc hn7 f1) (hn.sc f1) fun h2 f2 c2 _ => ?_
      obtain ⟨d1, d2, d3⟩ := c2
      refine lo1c1 (gn w r).1.length (by omega) (fun j => whn ((gn w r).1.drop j) p = whn (gn w r).1 p) ?_ ?_ 0 (Nat.zero_le _) rfl
      · intro k j hj hI hk
        have ej : ix (nI j) = j := nI_clamp (by omega)
        obtain ⟨⟨o, b⟩, hob⟩ : ∃ x, (gn w r).1[j]? = some x := ⟨_, List.getElem?_eq_getElem hj⟩
        obtain ⟨e1, e2⟩ := d3 j o b hob
        unfold FX12_when_17
        rw [d1, ej, e1, e2]
        rw [whn_cons hob] at hI
        refine br_f (nI_ge hj (by omega)) ⟨vp_in_nI (by omega) (by omega), br_c (fun c => ?_) (fun c => ?_)⟩
        · rw [if_pos c] at hI
          rw [hI]
          exact hq h2 f2
        · rw [if_neg c] at hI
          exact Lt_eq (nI_1 _) (hk hI)
      · intro k hI
        unfold FX12_when_17
        rw [d1]
        refine br_t (nI_le (Nat.le_refl _) (by omega)) ?_
        rw [whn_drop (by simp)] at hI
        rw [hI]
        exact hq h2 f2
    · rw [← hout z]
      exact hq h1 Fr.rf
theorem op_leavers {B : Nat} : OK B MX11_leavers MX12_leavers := OK.ask fun h w r c _ => by
  obtain ⟨hW, hP, hw, hrw, hr, hn⟩ := c
  have hn7 := hW.1
  refine ⟨fun x => x = nI (mk (isS r 0) w.1) &&& nI (mk (isS (gn w r).2 4) w.1), fun Q hq => ?_, fun h1 f1 x hx Q hq => ?_⟩
  · unfold MX11_leavers
    refine cs_goOn hW hw hr (by omega) fun h1 f1 _ r1 => ?_
    have f1' := f1.mono SC_CG
    rw [(hr.sc f1').1 0 (by omega), r1.1 4 (by omega)]
    exact hq _ h1 rfl f1'
  · subst hx
    unfold MX12_leavers
    refine rs_load (hn.sc f1) fun h2 f2 a2 => ?_
    have g2 : Fr SR h1 h2 := f2.mono (fun q k p => by unfold SR; omega)
    have hw2 := (hrw.sc hn7 f1).sr hn7 g2
    refine rs_thatAre hw2.1 hn7 a2 (rs_goOn hW hw2 a2 fun h3 f3 _ a3 => rs_thatAre (hw2.sr hn7 f3).1 hn7 a3 (hq h3 (g2.tr f3)))
