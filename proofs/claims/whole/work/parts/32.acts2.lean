-- ===== the ACTS =====
theorem CRw.cg {h : ob_H} {q f n : Nat} {r r' : ob_P} (hn : n ≤ 7) (a : CRw h q f n r) (e : ∀ k, k < 24 → r k = r' k) : CRw h q f n r' := by
  obtain ⟨a1, a2, a3, a4, a5, a6⟩ := a
  refine ⟨fun s hs => ?_, fun k hk => by rw [← e _ (by omega)]; exact a2 k hk, fun k hk => by rw [← e _ (by omega)]; exact a3 k hk, by rw [← e 21 (by omega)]; exact a4, by rw [← e 22 (by omega)]; exact a5, by rw [← e 23 (by omega)]; exact a6⟩
  rw [a1 s hs, mk_congr (p := isS r (nI s)) (q := isS r' (nI s)) fun k hk => by unfold isS; rw [e k (by omega)]]
theorem ArcR.get {B : Nat} {h : ob_H} {w : ob_W} (a : ArcR B h w) : ∃ (U R : List ob_P) (od : Nat), U.length + R.length ≤ 40 ∧ AC h w.1 U R od ∧ AR h U R ∧ (∀ (i : Nat) (x : ob_P), U[i]? = some x → WFP w x B) ∧ (∀ (i : Nat) (x : ob_P), R[i]? = some x → WFP w x B) ∧ (R ≠ [] → CRw h 96 (rowC od U.length) w.1 (h.1 135)) := by
  obtain ⟨U, R, od, a1, a2, a3, a4, a5, a6, a7, a8, a9, a10⟩ := a
  exact ⟨U, R, od, a2, ⟨a1, a3, a4, a5, fun i r hi => (a8 i r hi).2.1, fun i r hi => (a9 i r hi).2.1⟩, ⟨a6, a7, fun i r hi => (a8 i r hi).2.2, fun i r hi => (a9 i r hi).2.2⟩, fun i x hi => (a8 i x hi).1, fun i x hi => (a9 i x hi).1, a10⟩
theorem BoxR.upB {B B' : Nat} {h : ob_H} {w : ob_W} (a : BoxR B h w) (hb : B ≤ B') : BoxR B' h w := by
  obtain ⟨m, b1, b2, b3⟩ := a
  refine ⟨m, b1, b2, fun b hb2 => ?_⟩
  have h1 := b3 b hb2
  split
  · rename_i hm
    rw [if_pos hm] at h1
    obtain ⟨c1, r, c2, c3⟩ := h1
    exact ⟨c1, r, c2.up hb, c3⟩
  · rename_i hm
    rw [if_neg hm] at h1
    exact h1
def ActC (q k : Nat) : Prop := SC q k ∨ (34 ≤ q ∧ q ≤ 37) ∨ AKc q k
def ActR (q k : Nat) : Prop := SR q k ∨ q = 135 ∨ (q = 108 ∧ (k = 59 ∨ k = 60)) ∨ q = 139
theorem Rel.act {B : Nat} {h h1 h2 : ob_H} {w : ob_W} {r r' : ob_P} {U R : List ob_P} {od : Nat} (a : Core B h w r) (b : Rest B h w) (f1 : Fr ActC h h1) (f2 : Fr ActR h1 h2) (hP : WFP w r' (B + 60)) (hc : CR h1 w.1 34 r') (hn : Nw h2 r') (ac : AC h1 w.1 U R od) (ar : AR h2 U R) (hl : U.length + R.length ≤ 40)
    (hU : ∀ (i : Nat) (x : ob_P), U[i]? = some x → WFP w x (B + 60)) (hR : ∀ (i : Nat) (x : ob_P), R[i]? = some x → WFP w x (B + 60)) (hne : R ≠ [] → CRw h1 96 (rowC od U.length) w.1 r') : Rel (B + 60) h2 := by
  have f : Fr (fun q k => ActC q k ∨ ActR q k) h h2 := (f1.mono (fun q k p => Or.inl p)).tr (f2.mono (fun q k p => Or.inr p))
  obtain ⟨a1, a2, a3, a4, a5, a6⟩ := a
  have hn7 := a1.1
  have hx : ∀ q k, RX q k → (¬ (q = 95 ∧ (k = 0 ∨ k = 1 ∨ k = 4)) ∧ q ≠ 96 ∧ ¬ (q = 108 ∧ (k = 59 ∨ k = 60)) ∧ q ≠ 139 ∧ q ≠ 135) → h2.1 q k = h.1 q k := fun q k z y => f.i (by
    have s := SX_RX q k z
    have s2 : ¬ (34 ≤ q ∧ q ≤ 37) := fun p => by have := RX_q z; omega
    unfold SX at s
    rintro (p | p)
    · rcases p with p | p | p
      · exact s (Or.inl p)
      · exact s2 p
      · rcases p with p | p
        · exact y.1 p
        · exact y.2.1 p
    · rcases p with p | p | p | p
      · exact s (Or.inr p)
      · exact y.2.2.2.2 p
      · exact y.2.2.1 p
      · exact y.2.2.2.1 p)
  refine ⟨w, r', ⟨a1, hP, a3.fr f (fun q k p => ?_), a4.fr hn7 f (fun q k p => ?_), hc.fr f2 (fun q k p => ?_), hn⟩, Rest.up ?_ (Nat.le_refl _)⟩
  · rcases p with (p | p | p) | (p | p | p | p) <;> first | (unfold SC at p; omega) | (unfold SR at p; omega) | (unfold AKc at p; omega) | omega
  · rcases p with (p | p | p) | (p | p | p | p) <;> first | (unfold SC at p; omega) | (unfold SR at p; omega) | (unfold AKc at p; omega) | omega
  · rcases p with p | p | p | p <;> first | (unfold SR at p; omega) | omega
  · obtain ⟨b1, b2, b3, b4, b5, b6, b7, b8, b9⟩ := b
    refine ⟨TapeR.fr b1 fun q k z => hx q k (Or.inl z) (by omega), FaultR.fr b2 fun q k z => hx q k (Or.inr (Or.inl z)) (by omega), TimeR.fr b3 fun q k z => hx q k (Or.inr (Or.inr (Or.inl z))) (by omega), LyR.fr b4 fun q k z => hx q k (Or.inr (Or.inr (Or.inr (Or.inl z)))) (by omega), ?_,
      BoxR.fr (BoxR.upB b6 (by omega)) fun q k z => hx q k (Or.inr (Or.inr (Or.inr (Or.inr (Or.inr (Or.inl z)))))) (by omega), SgR.fr b7 fun q k z => hx q k (Or.inr (Or.inr (Or.inr (Or.inr (Or.inr (Or.inr (Or.inl z))))))) (by omega), HrdR.fr b8 fun q k z => hx q k (Or.inr (Or.inr (Or.inr (Or.inr (Or.inr (Or.inr (Or.inr (Or.inl z)))))))) (by omega), fun i hi => by rw [f.l (by unfold ActC SC AKc ActR SR; omega)]; exact b9 i hi⟩
    have e95 : ∀ k, h2.1 95 k = h1.1 95 k := fun k => f2.i (by unfold ActR SR; omega)
    have e96 : ∀ k, h2.1 96 k = h1.1 96 k := fun k => f2.i (by unfold ActR SR; omega)
    have ac2 : AC h2 w.1 U R od := ac.fr fun q k z => f2.i (by unfold ActR SR; omega)
    obtain ⟨c1, c2, c3, c4, c5, c6⟩ := ac2
    obtain ⟨d1, d2, d3, d4⟩ := ar
    exact ⟨U, R, od, c1, hl, c2, c3, c4, d1, d2, fun i x hi => ⟨hU i x hi, c5 i x hi, d3 i x hi⟩, fun i x hi => ⟨hR i x hi, c6 i x hi, d4 i x hi⟩, fun hz => ((hne hz).fr e96).cg hn7 fun k hk => (hn k hk).symm⟩
theorem actU_len {U : List ob_P} {r : ob_P} (h : U.length ≤ 40) : (actU U r).length ≤ 40 := by
  unfold actU
  split <;> simp <;> omega
theorem actU_all {U : List ob_P} {r : ob_P} {P : ob_P → Prop} (h : ∀ (i : Nat) (x : ob_P), U[i]? = some x → P x) (hr : P r) : ∀ (i : Nat) (x : ob_P), (actU U r)[i]? = some x → P x := by
  intro i x hi
  have hm := List.mem_of_getElem? hi
  unfold actU at hm
  rw [List.mem_append] at hm
  rcases hm with hm | hm
  · have : x ∈ U := by
      split at hm
      · exact List.mem_of_mem_drop hm
      · exact hm
    obtain ⟨j, hj⟩ := List.getElem?_of_mem this
    exact h j x hj
  · simp at hm
    rw [hm]
    exact hr
-- what holds of rooms
theorem WFP.oflev {w : ob_W} {r : ob_P} {B : Nat} (hn7 : w.1 ≤ 7) (h1 : ∀ o, o < w.1 → ∃ s, s < 7 ∧ r o = nI s) (h2 : ∃ m, m ≤ B ∧ r 21 = nI m) : WFP w (lev w r) B := by
  refine ⟨fun o ho => ?_, by rw [lev_hi hn7 (by omega)]; exact h2, fun o ho => ?_⟩
  · unfold lev
    by_cases c : o < w.1 ∧ lvs w r o = true
    · rw [if_pos c]; exact ⟨4, by omega, rfl⟩
    · rw [if_neg c]; exact h1 o ho
  · cases hl : lvs w (lev w r) o with
    | false => rfl
    | true =>
      exfalso
      obtain ⟨l1, l2⟩ := lvs_iff.mp hl
      obtain ⟨l3, l4⟩ := (lev_06 ho).1.mp l1
      rw [lev_hi hn7 (by omega), lev_hi hn7 (by omega)] at l2
      have : lvs w r o = true := lvs_iff.mpr ⟨l3, l2⟩
      rw [this] at l4
      exact absurd l4 (by decide)
theorem WFP.onher {w : ob_W} {r : ob_P} {B o : Nat} {s : Int32} (hW : WFW w) (a : WFP w r B) (ho : o < w.1) (hs : ∃ s', s' < 7 ∧ s = nI s') : WFP w (her w r o s) (B + 60) := by
  have hn7 := hW.1
  refine WFP.oflev hn7 (fun k hk => ?_) ?_
  · unfold her3
    by_cases c : k < w.1 ∧ brg w (her2 w (her1 w r o s) o) o k = true
    · rw [if_pos c]; exact ⟨0, by omega, rfl⟩
    · rw [if_neg c, if_neg (by omega)]
      unfold her2
      by_cases c : k < w.1 ∧ bitI (wv w 4 o) k = true ∧ her1 w r o s k = 0
      · rw [if_pos c]; exact ⟨3, by omega, rfl⟩
      · rw [if_neg c]
        unfold her1 pu
        by_cases e : k = o
        · rw [if_pos e]; exact hs
        · rw [if_neg e, if_neg (by omega)]; exact a.1 k hk
  · have e := her_21 (w := w) (r := r) (o := o) (s := s) hn7 ho
    unfold her at e
    rw [lev_hi hn7 (by omega)] at e
    obtain ⟨m, h1, h2⟩ := a.2.1
    obtain ⟨d, d1, d2, d3⟩ := min_60 hW ho
    exact ⟨m + d, by omega, by rw [e, h2, d3, nI_add]⟩
theorem WFP.onpas {w : ob_W} {r : ob_P} {B m : Nat} (hn7 : w.1 ≤ 7) (a : WFP w r B) (hm : m ≤ 60) : WFP w (pas w r (nI m)) (B + 60) := by
  refine WFP.oflev hn7 (fun k hk => ?_) ?_
  · unfold pu
    rw [if_neg (by omega)]
    exact a.1 k hk
  · obtain ⟨m', h1, h2⟩ := a.2.1
    unfold pu
    rw [if_pos rfl]
    exact ⟨m' + m, by omega, by rw [h2, nI_add]⟩
/-- a room with none who leaves, alike where it matters -/
theorem WFP.cg {w : ob_W} {r r' : ob_P} {B : Nat} (a : WFP w r B) (h1 : ∀ o, o < w.1 → (∃ s, s < 7 ∧ r' o = nI s) ∧ (r' o = 0 → r o = 0) ∧ r' (7 + o) = r (7 + o)) (h2 : r' 21 = r 21) : WFP w r' B := by
  refine ⟨fun o ho => (h1 o ho).1, by rw [h2]; exact a.2.1, fun o ho => ?_⟩
  cases hl : lvs w r' o with
  | false => rfl
  | true =>
    exfalso
    obtain ⟨l1, l2⟩ := lvs_iff.mp hl
    rw [h2, (h1 o ho).2.2] at l2
    have : lvs w r o = true := lvs_iff.mpr ⟨(h1 o ho).2.1 l1, l2⟩
    rw [a.2.2 o ho] at this
    exact absurd this (by decide)
theorem WFP.putk {w : ob_W} {r : ob_P} {B k : Nat} {v : Int32} (hn7 : w.1 ≤ 7) (a : WFP w r B) (hk : 14 ≤ k) (hk2 : k ≠ 21) : WFP w (pu r k v) B := by
  refine a.cg (fun o ho => ?_) ?_
  · unfold pu
    rw [if_neg (by omega), if_neg (by omega)]
    exact ⟨a.1 o ho, id, rfl⟩
  · unfold pu
    rw [if_neg (by omega)]
theorem CW.ac {h h' : ob_H} {w : ob_W} (a : CW h w) (hf : Fr ActC h h') : CW h' w := a.fr hf (fun q k p => by unfold ActC SC AKc at p; omega)
theorem RW.ac {h h' : ob_H} {w : ob_W} (hn : w.1 ≤ 7) (a : RW h w) (hf : Fr ActC h h') : RW h' w := a.fr hn hf (fun q k p => by unfold ActC SC AKc at p; omega)
theorem Nw.ac {h h' : ob_H} {r : ob_P} (a : Nw h r) (hf : Fr ActC h h') : Nw h' r := fun k hk => by rw [hf.i (by unfold ActC SC AKc; omega)]; exact a k hk
theorem AR.ac {h h' : ob_H} {U R : List ob_P} (a : AR h U R) (hf : Fr ActC h h') : AR h' U R := a.fr fun q k z => hf.i (by unfold ActC SC AKc; omega)
theorem CM34_Act : ∀ q k, CM 34 q k → ActC q k := fun q k p => by unfold CM at p; unfold ActC SC; omega
theorem AKc_Act : ∀ q k, AKc q k → ActC q k := fun q k p => Or.inr (Or.inr p)
theorem SC_Act : ∀ q k, SC q k → ActC q k := fun q k p => Or.inl p
theorem SR_Act : ∀ q k, SR q k → ActR q k := fun q k p => Or.inl p
theorem AKr_Act : ∀ q k, AKr q k → ActR q k := fun q k p => by unfold AKr at p; unfold ActR SR; omega
theorem RW.ar {h h' : ob_H} {w : ob_W} (hn : w.1 ≤ 7) (a : RW h w) (hf : Fr ActR h h') : RW h' w := a.fr hn hf (fun q k p => by unfold ActR SR at p; omega)
/-- an ACT of class and reference -/
theorem OK.act {B : Nat} {h h1 : ob_H} {w : ob_W} {r : ob_P} (a : Core B h w r) (b : Rest B h w) (f1 : Fr SC h h1) {Q : ob_H → Prop}
    (hq : ∀ (U : List ob_P) od h2, Fr ActC h h2 → Fr AKc h1 h2 → AC h2 w.1 U [] od → U.length ≤ 40 → (∀ (i : Nat) (x : ob_P), U[i]? = some x → WFP w x B) → CR h2 w.1 34 r →
      (∀ h3, Fr ActC h h3 → ∀ Q3 : ob_H → Prop, (∀ h4, Fr ActR h3 h4 → AR h4 U [] → Air h4 r → Nw h4 r → RW h4 w → Q3 h4) → (∀ h5, Fr SR h3 h5 → MX12_act h5 Q3)) → Q h2) : MX1_keepAct h1 Q := by
  obtain ⟨a1, a2, a3, a4, a5, a6⟩ := a
  have hn7 := a1.1
  obtain ⟨U, R, od, g1, g2, g3, g4, g5, g6⟩ := (show ArcR B h w from b.2.2.2.2.1).get
  have hr1 : CR h1 w.1 34 r := a5.sc f1
  refine cs_keepAct hn7 hr1 (g2.fr fun q k z => f1.i (by unfold SC; omega)) (by omega) fun h2 od' f2 c2 => hq (actU U r) od' h2 ?_ f2 c2 (actU_len (by omega)) (actU_all g4 a2) (hr1.fr f2 (fun q k p => by unfold AKc at p; omega)) fun h3 f3 Q3 hq3 h5 f5 => ?_
  · exact (f1.mono SC_Act).tr (f2.mono AKc_Act)
  · have n3 : Nw h5 r := (a6.ac f3).sr f5
    refine rs_act n3 ((g3.ac f3).fr fun q k z => f5.i (by unfold SR; omega)) (by omega) fun h4 f4 c4 i4 => hq3 h4 ((f5.mono SR_Act).tr (f4.mono AKr_Act)) c4 i4 (fun k hk => by rw [f4.i (by unfold AKr; omega)]; exact n3 k hk) (RW.ar hn7 (a4.ac hn7 f3) ((f5.mono SR_Act).tr (f4.mono AKr_Act)))
theorem op_hear {B : Nat} : OK B MX11_hear MX12_hear := by
  intro h hr
  obtain ⟨w, r, c, d⟩ := hr
  have cc := c
  obtain ⟨hW, hP, hw, hrw, hr, hn⟩ := c
  have hn7 := hW.1
  unfold MX11_hear
  refine cs_turn hW hw hr (by omega) fun h1 f1 => ?_
  have g1 : Fr SC h h1 := f1.mono SC_CE34
  cases ht : trn w r with
  | none =>
    refine br_f (by decide) ?_
    unfold MX12_hear
    refine rs_load (hn.sc g1) fun h2 f2 a2 => ?_
    have g2 : Fr SR h1 h2 := f2.mono (fun q k p => by unfold SR; omega)
    refine rs_turnOf hW ((hrw.sc hn7 g1).sr hn7 g2) a2 fun h3 f3 => ?_
    rw [ht]
    exact br_f (by decide) ⟨rfl, Rel.ask ⟨w, r, cc, d⟩ g1 (g2.tr (f3.mono SE_SR))⟩
  | some o =>
    obtain ⟨ho, h0⟩ := trn_lt ht
    refine br_t (nI_le (a := 0) (Nat.zero_le _) (by omega)) (OK.act cc d g1 fun U od h2 f2 f2' c2 l2 p2 r2 act => ?_)
    refine cs_hearDrawn hW (hw.ac f2) r2 ho h0 (by omega) fun h3 f3 r3 => ?_
    have g3 : Fr ActC h h3 := f2.tr (f3.mono CM34_Act)
    have c3 : AC h3 w.1 U [] od := c2.fr fun q k z => f3.i (by unfold CM; omega)
    unfold MX12_hear
    refine rs_load (hn.ac g3) fun h4 f4 a4 => ?_
    have g4 : Fr SR h3 h4 := f4.mono (fun q k p => by unfold SR; omega)
    refine rs_turnOf hW ((hrw.ac hn7 g3).sr hn7 g4) a4 fun h5 f5 => ?_
    have g5 : Fr SR h3 h5 := g4.tr (f5.mono SE_SR)
    rw [ht]
    refine br_t (nI_le (a := 0) (Nat.zero_le _) (by omega)) (act h3 g3 _ (fun h6 f6 ar6 a6 n6 w6 => ?_) h5 g5)
    refine rs_answerOf hW w6 a6 ho fun h7 f7 => Lt_i fun y8 z8 => ?_
    have a7 := a6.se f7
    have hy : y8.1 136 23 = sed (r 23) := by rw [z8, h_i_1, if_pos ⟨rfl, rfl⟩, a7 23 (by omega)]; rfl
    have a8 : Air y8 (pu r 23 (sed (r 23))) := by
      rw [z8, a7 23 (by omega)]
      exact a7.put
    have g8 : Fr ActR h3 y8 := by
      rw [z8]
      exact (f6.tr (f7.mono fun q k p => SR_Act q k (SE_SR q k p))).st (by unfold ActR SR; omega)
    have w8 : RW y8 w := RW.ar hn7 (hrw.ac hn7 g3) g8
    have ar8 : AR y8 U [] := by
      rw [z8]
      exact ar6.fr fun q k z => by rw [h_i_1, if_neg (by omega), f7.i (by unfold SE; omega)]
    rw [hy]
    have fin : ∀ s : Int32, (s = if ansV w r o ≤ irm (sed (r 23)) 100 then 2 else 1) → KX12_hear_71 (nI o) s (nI o) y8 (fun r2 h2 => nI o = r2 ∧ Rel (B + 60) h2) := by
      intro s hs
      unfold KX12_hear_71
      refine rs_goHear hn7 w8 a8 ho fun h9 f9 a9 => rs_keepAir a9 fun h10 f10 n10 => ⟨rfl, ?_⟩
      have e : her w (pu r 23 (sed (r 23))) o s = hdr w r o := by rw [hs]; rfl
      rw [e] at n10
      refine Rel.act cc d g3 ((g8.tr (f9.mono fun q k p => by unfold ActR SR; omega)).tr (f10.mono fun q k p => by unfold ActR; omega)) ?_ r3 n10 c3 ?_ (by simpa using l2) (fun i x hi => (p2 i x hi).up (by omega)) (fun i x hi => by simp at hi) (fun hz => absurd rfl hz)
      · unfold hdr
        refine WFP.onher hW (hP.putk hn7 (by omega) (by omega)) ho ?_
        by_cases cz : ansV w r o ≤ irm (sed (r 23)) 100
        · rw [if_pos cz]; exact ⟨2, by omega, rfl⟩
        · rw [if_neg cz]; exact ⟨1, by omega, rfl⟩
      · exact ar8.fr fun q k z => by rw [f10.i (by omega), f9.i (by omega)]
    exact br_c (fun cz => fin 2 (by rw [if_pos cz])) (fun cz => fin 1 (by rw [if_neg cz]))
