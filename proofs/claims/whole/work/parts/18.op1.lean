-- ===== an object's number, who waits =====
def okO (w : ob_W) (p : Int32) : Prop := ∃ o, o < w.1 ∧ p = nI o
theorem okO_dec {n : Nat} (hn : n ≤ 7) (p : Int32) : (¬ p < 0 ∧ ¬ nI n ≤ p ∧ ∃ o, o < n ∧ p = nI o) ∨ ((p < 0 ∨ nI n ≤ p) ∧ ¬ ∃ o, o < n ∧ p = nI o) := by
  rcases pk_ix p (n := n) (by omega) with c | c | ⟨j, hj, rfl⟩
  · refine Or.inr ⟨Or.inl c, fun ⟨o, ho, e⟩ => ?_⟩
    subst e
    exact nI_pos (by omega) c
  · refine Or.inr ⟨Or.inr c, fun ⟨o, ho, e⟩ => ?_⟩
    subst e
    exact nI_ge ho (by omega) c
  · exact Or.inl ⟨nI_pos (by omega), nI_ge hj (by omega), j, hj, rfl⟩
theorem cs_isTold {h : ob_H} {n : Nat} {p : Int32} {Q : Int32 → Prop} (hn : n ≤ 7) (h0 : h.1 20 0 = nI n) (q1 : (∃ o, o < n ∧ p = nI o) → Q 1) (q0 : ¬ (∃ o, o < n ∧ p = nI o) → Q 0) : MX11_isTold p h Q := by
  unfold MX11_isTold
  rw [h0]
  rcases okO_dec hn p with ⟨a, b, c⟩ | ⟨a, c⟩
  · exact br_f a (br_f b (q1 c))
  · rcases a with a | a
    · exact br_t a (q0 c)
    · exact br_c (fun _ => q0 c) (fun _ => br_t a (q0 c))
theorem rs_isIn {p a b : Int32} {h : ob_H} {Q : Int32 → Prop} (q1 : ¬ p < a → ¬ b < p → Q 1) (q0 : (p < a ∨ b < p) → Q 0) : MX12_isIn p a b h Q := by
  unfold MX12_isIn
  exact br_c (fun c => q0 (Or.inl c)) (fun c => br_c (fun c2 => q0 (Or.inr c2)) (fun c2 => q1 c c2))
theorem lt_pred {n : Nat} (hn : n ≤ 7) {p : Int32} : (nI n - 1 < p) ↔ (nI n ≤ p) ∨ (n = 0 ∧ ¬ p < 0) := by
  rcases Nat.eq_zero_or_pos n with rfl | h
  · have e : nI 0 - 1 = (-1 : Int32) := by decide
    rw [e]
    have e2 : ((-1 : Int32) < p) ↔ ¬ p < 0 := by
      rw [Int32.lt_iff_toInt_lt, Int32.lt_iff_toInt_lt, show (-1 : Int32).toInt = -1 by decide, show (0 : Int32).toInt = 0 by decide]
      omega
    have e3 : nI 0 ≤ p ↔ ¬ p < 0 := by
      rw [show nI 0 = (0 : Int32) from rfl]
      exact Int32.not_lt.symm
    simp [e2, e3]
  · obtain ⟨m, rfl⟩ : ∃ m, n = m + 1 := ⟨n - 1, by omega⟩
    rw [nI_pred, Int32.lt_iff_toInt_lt, Int32.le_iff_toInt_le, nI_toInt (by omega), nI_toInt (by omega)]
    omega
theorem rs_isOne {h : ob_H} {n : Nat} {p : Int32} {Q : Int32 → Prop} (hn : n ≤ 7) (h0 : h.1 108 48 = nI n) (q1 : (∃ o, o < n ∧ p = nI o) → Q 1) (q0 : ¬ (∃ o, o < n ∧ p = nI o) → Q 0) : MX12_isOne p h Q := by
  unfold MX12_isOne
  rw [h0]
  refine rs_isIn (fun a b => ?_) (fun a => ?_)
  · rcases okO_dec hn p with ⟨x, y, c⟩ | ⟨x, c⟩
    · exact q1 c
    · rcases x with x | x
      · exact absurd x a
      · exact absurd ((lt_pred hn).mpr (Or.inl x)) b
  · rcases okO_dec hn p with ⟨x, y, o, ho, c⟩ | ⟨x, c⟩
    · rcases a with a | a
      · exact absurd a x
      · rcases (lt_pred hn).mp a with a | a
        · exact absurd a y
        · omega
    · exact q0 c
/-- he waits, by his number -/
def wtg (w : ob_W) (r : ob_P) (p : Int32) : Prop := ∃ o, o < w.1 ∧ p = nI o ∧ r o = 0
theorem cs_isWaiting {h : ob_H} {w : ob_W} {r : ob_P} {p : Int32} {Q : Int32 → Prop} (hn : w.1 ≤ 7) (hw : CW h w) (hr : CR h w.1 34 r) (q1 : wtg w r p → Q 1) (q0 : ¬ wtg w r p → Q 0) : MX11_isWaiting p h Q := by
  unfold MX11_isWaiting
  refine cs_isTold hn hw.1 (fun ⟨o, ho, e⟩ => ?_) (fun c => br_t rfl (q0 fun ⟨o, ho, e, _⟩ => c ⟨o, ho, e⟩))
  subst e
  refine br_f (by decide) (cs_waits hn hr ho ?_)
  cases hz : isS r 0 o with
  | true => exact br_f (by decide) (q1 ⟨o, ho, rfl, by simpa [isS] using hz⟩)
  | false =>
    refine br_t rfl (q0 fun ⟨o', ho', e, hr0⟩ => ?_)
    have : o = o' := (nI_eq (by omega) (by omega)).mp e
    subst this
    simp [isS, hr0] at hz
theorem rs_isWaiting {h : ob_H} {w : ob_W} {r : ob_P} {p : Int32} {Q : Int32 → Prop} (hn : w.1 ≤ 7) (hw : RW h w) (hr : Nw h r) (q1 : wtg w r p → Q 1) (q0 : ¬ wtg w r p → Q 0) : MX12_isWaiting p h Q := by
  unfold MX12_isWaiting
  refine rs_isOne hn hw.1 (fun ⟨o, ho, e⟩ => ?_) (fun c => br_t rfl (q0 fun ⟨o, ho, e, _⟩ => c ⟨o, ho, e⟩))
  subst e
  have eo : ix (nI o) = o := nI_clamp (by omega)
  rw [eo, hr o (by omega)]
  refine br_f (by decide) ⟨vp_in_nI (by omega) (by omega), br_c (fun c => q1 ⟨o, ho, rfl, c⟩) (fun c => q0 fun ⟨o', ho', e, hr0⟩ => ?_)⟩
  have : o = o' := (nI_eq (by omega) (by omega)).mp e
  subst this
  exact c hr0
theorem SC_CG : ∀ q k, CG q k → SC q k := fun q k p => by unfold CG at p; unfold SC; omega
theorem SC_CE34 : ∀ q k, CE 34 q k → SC q k := fun q k p => by unfold CE at p; unfold SC; omega
theorem CW.sc {h h' : ob_H} {w : ob_W} (a : CW h w) (hf : Fr SC h h') : CW h' w := a.fr hf (fun q k p => by unfold SC at p; omega)
theorem CR.sc {h h' : ob_H} {n : Nat} {r : ob_P} (a : CR h n 34 r) (hf : Fr SC h h') : CR h' n 34 r := a.fr hf (fun q k p => by unfold SC at p; omega)
theorem RW.sc {h h' : ob_H} {w : ob_W} (hn : w.1 ≤ 7) (a : RW h w) (hf : Fr SC h h') : RW h' w := a.fr hn hf (fun q k p => by unfold SC at p; omega)
theorem Nw.sc {h h' : ob_H} {r : ob_P} (a : Nw h r) (hf : Fr SC h h') : Nw h' r := fun k hk => by rw [hf.i (by unfold SC; omega)]; exact a k hk
/-- an operation of class and reference: alike, and the relation holds on -/
def OK (B : Nat) (M1 M2 : ob_H → (Int32 → ob_H → Prop) → Prop) : Prop := ∀ h, Rel B h → M1 h fun r1 h1 => M2 h1 fun r2 h2 => r1 = r2 ∧ Rel (B + 60) h2
/-- .. when it asks only -/
theorem OK.ask {B : Nat} {M1 M2 : ob_H → (Int32 → ob_H → Prop) → Prop} (hh : ∀ h w r, Core B h w r → Rest B h w → ∃ v : Int32 → Prop, (∀ (Q : Int32 → ob_H → Prop), (∀ x h1, v x → Fr SC h h1 → Q x h1) → M1 h Q) ∧ (∀ h1, Fr SC h h1 → ∀ x, v x → ∀ (Q : Int32 → ob_H → Prop), (∀ h2, Fr SR h1 h2 → Q x h2) → M2 h1 Q)) : OK B M1 M2 := by
  intro h hr
  obtain ⟨w, r, h1, h2⟩ := hr
  obtain ⟨v, a, b⟩ := hh h w r h1 h2
  exact a _ fun x h1' hx f1 => b h1' f1 x hx _ fun h2' f2 => ⟨rfl, Rel.ask ⟨w, r, h1, h2⟩ f1 f2⟩
theorem op_dusk {B : Nat} : OK B MX11_dusk MX12_dusk := OK.ask fun h w r c _ => by
  obtain ⟨hW, hP, hw, hrw, hr, hn⟩ := c
  refine ⟨fun x => x = dsk w r, fun Q hq => ?_, fun h1 f1 x hx Q hq => ?_⟩
  · unfold MX11_dusk
    exact cs_goOn hW hw hr (by omega) fun h1 f1 _ _ => hq _ h1 rfl (f1.mono SC_CG)
  · subst hx
    unfold MX12_dusk
    exact rs_duskNow hW (hrw.sc hW.1 f1) (hn.sc f1) fun h2 f2 _ _ => hq h2 f2
theorem op_next {B : Nat} : OK B MX11_next MX12_next := OK.ask fun h w r c _ => by
  obtain ⟨hW, hP, hw, hrw, hr, hn⟩ := c
  refine ⟨fun x => x = tI (trn w r), fun Q hq => ?_, fun h1 f1 x hx Q hq => ?_⟩
  · unfold MX11_next
    exact cs_turn hW hw hr (by omega) fun h1 f1 => hq _ h1 rfl (f1.mono SC_CE34)
  · subst hx
    unfold MX12_next
    refine rs_load (hn.sc f1) fun h2 f2 a2 => ?_
    have g2 : Fr SR h1 h2 := f2.mono (fun q k p => by unfold SR; omega)
    exact rs_turnOf hW ((hrw.sc hW.1 f1).sr hW.1 g2) a2 fun h3 f3 => hq h3 (g2.tr (f3.mono SE_SR))
theorem op_ranks {B : Nat} (p : Int32) : OK B (MX11_ranks p) (MX12_ranks p) := OK.ask fun h w r c _ => by
  obtain ⟨hW, hP, hw, hrw, hr, hn⟩ := c
  refine ⟨fun x => (∃ o, o < w.1 ∧ p = nI o ∧ r o = 0 ∧ x = rnk w r o) ∨ (¬ wtg w r p ∧ x = -1000000000), fun Q hq => ?_, fun h1 f1 x hx Q hq => ?_⟩
  · unfold MX11_ranks
    refine cs_isWaiting hW.1 hw hr (fun ⟨o, ho, e, h0⟩ => ?_) (fun z => br_t rfl (hq _ h (Or.inr ⟨z, rfl⟩) Fr.rf))
    subst e
    have hn7 := hW.1
    rw [show ix (nI o) = o from nI_clamp (by omega), hw.2.1 0 (by omega) o ho]
    exact br_f (by decide) ⟨vp_in_nI (by omega) (by omega), cs_orderOf hW hw hr ho (by omega) fun h1 f1 => hq _ h1 (Or.inl ⟨o, ho, rfl, h0, rfl⟩) (f1.mono SC_CE34)⟩
  · unfold MX12_ranks
    refine rs_load (hn.sc f1) fun h2 f2 a2 => ?_
    have g2 : Fr SR h1 h2 := f2.mono (fun q k p => by unfold SR; omega)
    have hw2 := (hrw.sc hW.1 f1).sr hW.1 g2
    refine rs_isWaiting hW.1 hw2 ((hn.sc f1).sr g2) (fun z => ?_) (fun z => ?_)
    · rcases hx with ⟨o, ho, e, h0, e2⟩ | ⟨hx, _⟩
      · subst e e2
        exact br_f (by decide) (rs_rankOf hW hw2 a2 ho fun h3 f3 => hq h3 (g2.tr (f3.mono SE_SR)))
      · exact absurd z hx
    · rcases hx with ⟨o, ho, e, h0, e2⟩ | ⟨_, hx⟩
      · exact absurd ⟨o, ho, e, h0⟩ z
      · subst hx
        exact br_t rfl (hq h2 g2)
