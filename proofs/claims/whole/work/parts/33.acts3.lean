-- ===== buy, pause, trade, undo, redo, image, back =====
theorem Rel.idle {B : Nat} {h : ob_H} {w : ob_W} {r : ob_P} (c : Core B h w r) (d : Rest B h w) : Rel (B + 60) h := Rel.up ⟨w, r, c, d⟩ (by omega)
theorem op_buy {B : Nat} (p : Int32) : OK B (MX11_buy p) (MX12_buy p) := by
  intro h hr
  obtain ⟨w, r, c, d⟩ := hr
  have cc := c
  obtain ⟨hW, hP, hw, hrw, hr, hn⟩ := c
  have hn7 := hW.1
  unfold MX11_buy
  refine cs_isWaiting hn7 hw hr (fun ⟨o, ho, e, h0⟩ => ?_) (fun z => br_t rfl ?_)
  · subst e
    have eo : ix (nI o) = o := nI_clamp (by omega)
    refine br_f (by decide) (OK.act cc d Fr.rf fun U od h2 f2 f2' c2 l2 p2 r2 act => ⟨vp_in_nI (by omega) (by omega), Lt_i fun y3 z3 => ?_⟩)
    rw [eo, r2.2.2.2.2.1, (hw.ac f2).2.1 3 (by omega) o ho] at z3
    have r3 : CR y3 w.1 34 (pu r 22 (r 22 + wv w 3 o)) := by rw [z3]; exact CR.spe hn7 r2
    have g3 : Fr ActC h y3 := by rw [z3]; exact f2.st (by unfold ActC; omega)
    rw [ja_shl o (by omega), ← mk_one ho]
    refine cs_move hn7 r3 (a := 0) (b := 5) (by omega) (by omega) (by omega) (fun k hk hz => ?_) fun h4 f4 r4 => ?_
    · rw [of_decide_eq_true hz]
      unfold pu
      rw [if_neg (by omega)]
      exact h0
    have g4 : Fr ActC h h4 := g3.tr (f4.mono fun q k p => by unfold ActC; omega)
    have c4 : AC h4 w.1 U [] od := c2.fr fun q k z => by rw [f4.i (by omega), z3, h_i_1, if_neg (by omega)]
    have e22 : h4.1 34 4 = r 22 + wv w 3 o := by
      rw [r4.2.2.2.2.1, mov_hi hn7 (by omega)]
      unfold pu
      rw [if_pos rfl]
    rw [e22]
    unfold MX12_buy
    refine rs_isWaiting hn7 (hrw.ac hn7 g4) (hn.ac g4) (fun _ => br_f (by decide) (act h4 g4 _ (fun h6 f6 ar6 a6 n6 w6 => ⟨vp_in_nI (by omega) (by omega), Lt_i fun y7 z7 => ⟨vp_in_nI (by omega) (by omega), Lt_i fun y8 z8 => ?_⟩⟩) h4 Fr.rf)) (fun z => absurd ⟨o, ho, rfl, h0⟩ z)
    rw [eo] at z7 z8
    have e722 : y7.1 135 22 = r 22 := by rw [z7, h_i_1, if_neg (by omega)]; exact n6 22 (by omega)
    have e731 : y7.1 131 o = wv w 3 o := by rw [z7, h_i_1, if_neg (by omega)]; exact w6.2.1 3 (by omega) o ho
    rw [e722, e731] at z8
    have e8 : y8.1 135 22 = r 22 + wv w 3 o := by rw [z8, h_i_1, if_pos ⟨rfl, rfl⟩]
    rw [e8]
    refine ⟨rfl, Rel.act cc d g4 (h2 := y8) ?_ ?_ r4 (fun k hk => ?_) c4 ?_ (by simpa using l2) (fun i x hi => (p2 i x hi).up (by omega)) (fun i x hi => by simp at hi) (fun hz => absurd rfl hz)⟩
    · rw [z8, z7]
      exact (f6.st (by unfold ActR; omega)).st (by unfold ActR; omega)
    · refine (hP.up (by omega)).cg (fun k hk => ?_) ?_
      · rw [mov_hi (q := 7 + k) hn7 (by omega)]
        unfold mov pu
        rw [if_neg (show ¬ 7 + k = 22 by omega)]
        by_cases e : k < w.1 ∧ decide (k = o) = true
        · rw [if_pos e]
          exact ⟨⟨5, by omega, rfl⟩, fun z => absurd z (by decide), rfl⟩
        · rw [if_neg e, if_neg (by omega)]
          exact ⟨hP.1 k hk, id, rfl⟩
      · rw [mov_hi hn7 (by omega)]
        unfold pu
        rw [if_neg (by omega)]
    · rw [z8, h_i_1, z7, h_i_1, n6 k hk]
      unfold mov pu
      by_cases e22 : k = 22
      · rw [if_pos ⟨rfl, e22⟩, if_neg (by omega), if_pos e22]
      · rw [if_neg (by omega)]
        by_cases e : k = o
        · rw [if_pos ⟨rfl, e⟩, if_pos ⟨by omega, decide_eq_true e⟩]; rfl
        · rw [if_neg (by omega), if_neg (by simp [e]), if_neg e22]
    · rw [z8, z7]
      exact ar6.fr fun q k z => by rw [h_i_1, if_neg (by omega), h_i_1, if_neg (by omega)]
  · unfold MX12_buy
    exact rs_isWaiting hn7 hrw hn (fun y => absurd y z) (fun _ => br_t rfl ⟨rfl, Rel.idle cc d⟩)
theorem op_pause {B : Nat} (p : Int32) : OK B (MX11_pause p) (MX12_pause p) := by
  intro h hr
  obtain ⟨w, r, c, d⟩ := hr
  have cc := c
  obtain ⟨hW, hP, hw, hrw, hr, hn⟩ := c
  have hn7 := hW.1
  have no : (p < 1 ∨ 60 < p) → MX12_pause p h (fun r2 h2 => (-1 : Int32) = r2 ∧ Rel (B + 60) h2) := by
    intro z
    unfold MX12_pause
    exact rs_isIn (fun a b => absurd z (by rintro (y | y); exact a y; exact b y)) (fun _ => br_t rfl ⟨rfl, Rel.idle cc d⟩)
  unfold MX11_pause
  refine br_c (fun c => no (Or.inl c)) (fun c1 => br_c (fun c2 => ?_) (fun c2 => no (Or.inr (Int32.not_le.mp c2))))
  have h1p : (1 : Int32) ≤ p := Int32.not_lt.mp c1
  obtain ⟨hm, em⟩ := nI_rng (n := 60) (Int32.le_trans (by decide) h1p) c2 (by decide)
  generalize p.toNatClampNeg = m at *
  subst em
  refine OK.act cc d Fr.rf fun U od h2 f2 f2' c2' l2 p2 r2 act => ?_
  refine cs_letPass hn7 (hw.ac f2) r2 (by omega) fun h3 f3 r3 => ?_
  have g3 : Fr ActC h h3 := f2.tr (f3.mono CM34_Act)
  have c3 : AC h3 w.1 U [] od := c2'.fr fun q k z => f3.i (by unfold CM; omega)
  unfold MX12_pause
  refine rs_isIn (fun _ _ => br_f (by decide) (act h3 g3 _ (fun h6 f6 ar6 a6 n6 w6 => Lt_i fun y7 z7 => ?_) h3 Fr.rf)) (fun z => absurd z (by rintro (y | y); exact c1 y; exact absurd c2 (Int32.not_le.mpr y)))
  have a7 : Air y7 (pu r 21 (r 21 + nI m)) := by
    rw [z7, a6 21 (by omega)]
    exact a6.put
  have g7 : Fr ActR h3 y7 := by rw [z7]; exact f6.st (by unfold ActR SR; omega)
  refine rs_leave hn7 (RW.ar hn7 (hrw.ac hn7 g3) g7) a7 fun h8 f8 a8 => rs_keepAir a8 fun h9 f9 n9 => ⟨rfl, ?_⟩
  refine Rel.act cc d g3 ((g7.tr (f8.mono fun q k p => by unfold ActR SR; omega)).tr (f9.mono fun q k p => by unfold ActR; omega)) (hP.onpas hn7 hm) r3 n9 c3 ?_ (by simpa using l2) (fun i x hi => (p2 i x hi).up (by omega)) (fun i x hi => by simp at hi) (fun hz => absurd rfl hz)
  refine AR.fr (h := y7) ?_ fun q k z => by rw [f9.i (by omega), f8.i (by omega)]
  rw [z7]
  exact ar6.fr fun q k z => by rw [h_i_1, if_neg (by omega)]
theorem exc_at {r : ob_P} {a b k : Nat} (h : k ≠ 14 + a) (h' : k ≠ 14 + b) : exc r a b k = r k := by
  unfold exc pu
  rw [if_neg h', if_neg h]
theorem op_trade {B : Nat} (p q : Int32) : OK B (MX11_trade p q) (MX12_trade p q) := by
  intro h hr
  obtain ⟨w, r, c, d⟩ := hr
  have cc := c
  obtain ⟨hW, hP, hw, hrw, hr, hn⟩ := c
  have hn7 := hW.1
  have idle := Rel.idle cc d
  unfold MX11_trade
  refine cs_isWaiting hn7 hw hr (fun z1 => br_f (by decide) ?_) (fun z1 => br_t rfl ?_)
  · refine cs_isWaiting hn7 hw hr (fun z2 => br_f (by decide) (br_c (fun e => ?_) (fun ne => ?_))) (fun z2 => br_t rfl ?_)
    · unfold MX12_trade
      exact rs_isWaiting hn7 hrw hn (fun _ => br_f (by decide) (rs_isWaiting hn7 hrw hn (fun _ => br_f (by decide) (br_t e ⟨rfl, idle⟩)) (fun y => absurd z2 y))) (fun y => absurd z1 y)
    · obtain ⟨a, ha, rfl, h0a⟩ := z1
      obtain ⟨b, hb, rfl, h0b⟩ := z2
      have hab : a ≠ b := fun e => ne (by rw [e])
      have ea : ix (nI a) = a := nI_clamp (by omega)
      refine OK.act cc d Fr.rf fun U od h2 f2 f2' c2 l2 p2 r2 act => ?_
      refine cs_exchange hn7 r2 ha hb fun h3 f3 r3 => ⟨vp_in_nI (by omega) (by omega), ?_⟩
      have g3 : Fr ActC h h3 := f2.tr (f3.mono fun q k p => by unfold ActC; omega)
      have c3 : AC h3 w.1 U [] od := c2.fr fun q k z => f3.i (by omega)
      rw [ea, r3.2.1 a ha]
      unfold MX12_trade
      refine rs_isWaiting hn7 (hrw.ac hn7 g3) (hn.ac g3) (fun _ => br_f (by decide) (rs_isWaiting hn7 (hrw.ac hn7 g3) (hn.ac g3) (fun _ => br_f (by decide) (br_f ne (act h3 g3 _ (fun h6 f6 ar6 a6 n6 w6 => ?_) h3 Fr.rf))) (fun y => absurd ⟨b, hb, rfl, h0b⟩ y))) (fun y => absurd ⟨a, ha, rfl, h0a⟩ y)
      refine rs_changeNumbers a6 (by omega) (by omega) fun h7 f7 a7 => rs_keepAir a7 fun h8 f8 n8 => ?_
      rw [show (14 : Int32) + nI a = nI (14 + a) from nI_add 14 a, show ix (nI (14 + a)) = 14 + a from nI_clamp (by omega), n8 (14 + a) (by omega)]
      refine ⟨vp_in_nI (by omega) (by omega), rfl, Rel.act cc d g3 ((f6.tr (f7.mono fun q k p => by unfold ActR SR; omega)).tr (f8.mono fun q k p => by unfold ActR; omega)) ?_ r3 n8 c3 ?_ (by simpa using l2) (fun i x hi => (p2 i x hi).up (by omega)) (fun i x hi => by simp at hi) (fun hz => absurd rfl hz)⟩
      · refine (hP.up (by omega)).cg (fun k hk => ?_) (exc_at (by omega) (by omega))
        rw [exc_at (k := k) (by omega) (by omega), exc_at (k := 7 + k) (by omega) (by omega)]
        exact ⟨hP.1 k hk, id, rfl⟩
      · exact ar6.fr fun q k z => by rw [f8.i (by omega), f7.i (by omega)]
    · unfold MX12_trade
      exact rs_isWaiting hn7 hrw hn (fun _ => br_f (by decide) (rs_isWaiting hn7 hrw hn (fun y => absurd y z2) (fun _ => br_t rfl ⟨rfl, idle⟩))) (fun y => absurd z1 y)
  · unfold MX12_trade
    exact rs_isWaiting hn7 hrw hn (fun y => absurd y z1) (fun _ => br_t rfl ⟨rfl, idle⟩)
theorem rs_exchange {h : ob_H} {r u : ob_P} {a : Nat} {Q : ob_H → Prop} (ha : a < 40) (hn : Nw h r) (hu : RRw h 139 (24 * a) u) (hq : ∀ h', Fr (fun q k => q = 135 ∨ (q = 139 ∧ 24 * a ≤ k ∧ k < 24 * a + 24)) h h' → Nw h' u → RRw h' 139 (24 * a) r → Q h') : MX12_exchange (nI (24 * a)) h Q := by
  unfold MX12_exchange
  refine lo2c1 24 (by omega) (fun j h1 => Fr (fun q k => q = 135 ∨ (q = 139 ∧ 24 * a ≤ k ∧ k < 24 * a + 24)) h h1 ∧ (∀ k, k < j → h1.1 135 k = u k ∧ h1.1 139 (24 * a + k) = r k) ∧ (∀ k, j ≤ k → h1.1 135 k = h.1 135 k ∧ h1.1 139 (24 * a + k) = h.1 139 (24 * a + k))) ?_ ?_ 0 (Nat.zero_le _) _ ⟨Fr.rf, fun k hk => absurd hk (Nat.not_lt_zero _), fun _ _ => ⟨rfl, rfl⟩⟩
  · intro k j h1 hj hI hk
    obtain ⟨i1, i2, i3⟩ := hI
    unfold FX12_exchange_2
    rw [nI_add, show ix (nI (24 * a + j)) = 24 * a + j from nI_clamp (by omega), show ix (nI j) = j from nI_clamp (by omega), (i3 j (Nat.le_refl _)).1, (i3 j (Nat.le_refl _)).2, hn j hj, hu j hj]
    refine br_f (nI_ge (b := 24) hj (by decide)) ⟨vp_in_nI (by omega) (by omega), Lt_i fun v zv => ⟨vp_in_nI (by omega) (by omega), Lt_i fun y1 z1 => Lt_i fun y2 z2 => Lt_eq (nI_1 _) (hk _ ⟨?_, fun i hi => ?_, fun i hi => ?_⟩)⟩⟩
    · rw [z2, z1]; exact (i1.st (by omega)).st (by omega)
    · rw [z2, z1]
      by_cases e : i = j
      · subst e
        rw [h_i_1, if_pos ⟨rfl, rfl⟩, h_i_1, if_neg (by omega), h_i_1, if_pos ⟨rfl, rfl⟩]
        exact ⟨zv, rfl⟩
      · rw [h_i_1, if_neg (by omega), h_i_1, if_neg (by omega), h_i_1, if_neg (by omega), h_i_1, if_neg (by omega)]
        exact i2 i (by omega)
    · rw [z2, z1, h_i_1, if_neg (by omega), h_i_1, if_neg (by omega), h_i_1, if_neg (by omega), h_i_1, if_neg (by omega)]
      exact i3 i (by omega)
  · intro k h1 hI
    unfold FX12_exchange_2
    exact br_t (nI_le (a := 24) (Nat.le_refl _) (by decide)) (hq h1 hI.1 (fun k hk => (hI.2.1 k hk).1) (fun k hk => (hI.2.1 k hk).2))
theorem op_undo {B : Nat} : OK B MX11_undo MX12_undo := by
  intro h hr
  obtain ⟨w, r, c, d⟩ := hr
  have cc := c
  obtain ⟨hW, hP, hw, hrw, hr, hn⟩ := c
  have hn7 := hW.1
  have idle := Rel.idle cc d
  obtain ⟨U, R, od, g1, g2, g3, g4, g5, g6⟩ := (show ArcR B h w from d.2.2.2.2.1).get
  obtain ⟨a1, a2, a3, a4, a5, a6⟩ := g2
  obtain ⟨b1, b2, b3, b4⟩ := g3
  unfold MX11_undo MX1_takeBack
  rw [a2]
  refine br_c (fun c => ?_) (fun c => ?_)
  · show MX12_undo h (fun r2 h2 => (0 : Int32) = r2 ∧ Rel (B + 60) h2)
    unfold MX12_undo
    rw [b1]
    exact br_t c ⟨rfl, idle⟩
  · have hU0 : U.length ≠ 0 := fun e => c (by rw [e]; rfl)
    obtain ⟨U', u, rfl⟩ : ∃ U' u, U = U' ++ [u] := ⟨U.dropLast, U.getLast (by intro e; rw [e] at hU0; exact hU0 rfl), (List.dropLast_concat_getLast _).symm⟩
    have hUl : (U' ++ [u]).length = U'.length + 1 := by simp
    rw [hUl] at g1 a2 a6 b1 b4 c ⊢
    have hrl := rowC_lt od (U'.length + 1)
    refine cs_rowOf a4 (by omega) (cs_write hn7 hr hrl (by omega) (by omega) fun h1 f1 w1 => Lt_i fun y2 z2 => Lt_i fun y3 z3 => ?_)
    have e1 : h1.1 95 0 = nI (U'.length + 1) := by rw [f1.i (by omega)]; exact a2
    rw [e1, show nI (U'.length + 1) - 1 = nI U'.length from nI_pred _] at z2
    have e2 : y2.1 95 1 = nI R.length := by rw [z2, h_i_1, if_neg (by omega), f1.i (by omega)]; exact a3
    rw [e2, show nI R.length + 1 = nI (R.length + 1) from nI_add _ 1] at z3
    have e3 : y3.1 95 0 = nI U'.length := by rw [z3, h_i_1, if_neg (by omega), z2, h_i_1, if_pos ⟨rfl, rfl⟩]
    have e34 : y3.1 95 4 = nI od := by rw [z3, h_i_1, if_neg (by omega), z2, h_i_1, if_neg (by omega), f1.i (by omega)]; exact a4
    have e96 : ∀ k, y3.1 96 k = h1.1 96 k := fun k => by rw [z3, h_i_1, if_neg (by omega), z2, h_i_1, if_neg (by omega)]
    have old : ∀ a r', a ≠ U'.length + 1 → a < 41 → CRw h 96 (rowC od a) w.1 r' → CRw y3 96 (rowC od a) w.1 r' := fun a r' hne hlt hc => by
      refine hc.off hn7 fun k h1 h2 => ?_
      have := rowC_ne (od := od) hne hlt (show U'.length + 1 < 41 by omega)
      rw [e96, f1.i (by omega)]
    have hu : CRw y3 96 (rowC od U'.length) w.1 u := old _ _ (by omega) (by omega) (a5 U'.length u (by simp))
    rw [e3]
    refine cs_rowOf e34 (by omega) (cs_restore hn7 hu (rowC_lt _ _) (by omega) (by omega) fun h4 f4 r4 => ?_)
    have g13 : Fr ActC h y3 := by
      rw [z3, z2]
      exact ((f1.mono fun q k p => by unfold ActC AKc; omega).st (by unfold ActC AKc; omega)).st (by unfold ActC AKc; omega)
    have g14 : Fr ActC h h4 := g13.tr (f4.mono fun q k p => by unfold ActC; omega)
    have hnc : ∀ a r', CRw y3 96 (rowC od a) w.1 r' → CRw h4 96 (rowC od a) w.1 r' := fun a r' hc => hc.fr fun k => f4.i (by omega)
    have c4 : AC h4 w.1 U' (r :: R) od := by
      refine ⟨a1, by rw [f4.i (by omega)]; exact e3, ?_, by rw [f4.i (by omega)]; exact e34, fun i x hi => ?_, fun i x hi => ?_⟩
      · rw [f4.i (by omega), z3, h_i_1, if_pos ⟨rfl, rfl⟩]
        simp
      · have hl := (List.getElem?_eq_some_iff.mp hi).1
        exact hnc _ _ (old _ _ (by omega) (by omega) (a5 i x (by rw [List.getElem?_append_left hl]; exact hi)))
      · cases i with
        | zero =>
          simp only [List.getElem?_cons_zero, Option.some.injEq] at hi
          subst hi
          exact hnc _ _ (w1.fr fun k => e96 k)
        | succ i =>
          simp only [List.getElem?_cons_succ] at hi
          have hl := (List.getElem?_eq_some_iff.mp hi).1
          have := a6 i x hi
          rw [show U'.length + 1 + (i + 1) = U'.length + 1 + 1 + i by omega]
          exact hnc _ _ (old _ _ (by omega) (by omega) this)
    have b1' : h4.1 108 59 = nI (U'.length + 1) := by rw [g14.i (by unfold ActC SC AKc; omega)]; exact b1
    have b2' : h4.1 108 60 = nI R.length := by rw [g14.i (by unfold ActC SC AKc; omega)]; exact b2
    show MX12_undo h4 (fun r2 h2 => (1 : Int32) = r2 ∧ Rel (B + 60) h2)
    unfold MX12_undo
    rw [b1']
    refine br_f c (Lt_i fun y5 z5 => Lt_i fun y6 z6 => ?_)
    rw [show nI (U'.length + 1) - 1 = nI U'.length from nI_pred _] at z5
    have e6 : y6.1 108 59 = nI U'.length := by rw [z6, h_i_1, if_neg (by omega), z5, h_i_1, if_pos ⟨rfl, rfl⟩]
    have n6 : Nw y6 r := fun k hk => by rw [z6, h_i_1, if_neg (by omega), z5, h_i_1, if_neg (by omega)]; exact hn.ac g14 k hk
    have e139 : ∀ k, y6.1 139 k = h.1 139 k := fun k => by rw [z6, h_i_1, if_neg (by omega), z5, h_i_1, if_neg (by omega), g14.i (by unfold ActC SC AKc; omega)]
    rw [e6, show (24 : Int32) = nI 24 from rfl, nI_mul]
    refine rs_exchange (u := u) (by omega) n6 ((b3 U'.length u (by simp)).fr e139) fun h7 f7 n7 w7 => ⟨rfl, Rel.act cc d g14 (h2 := h7) ?_ ((g4 U'.length u (by simp)).up (by omega)) r4 n7 c4 ⟨?_, ?_, fun i x hi => ?_, fun i x hi => ?_⟩ (by simp; omega) (fun i x hi => (g4 i x (by rw [List.getElem?_append_left ((List.getElem?_eq_some_iff.mp hi).1)]; exact hi)).up (by omega)) (fun i x hi => ?_) (fun _ => hnc _ _ hu)⟩
    · refine Fr.tr (h1 := y6) ?_ (f7.mono fun q k p => by unfold ActR; omega)
      rw [z6, z5]
      exact (Fr.rf.st (by unfold ActR; omega)).st (by unfold ActR; omega)
    · rw [f7.i (by omega)]; exact e6
    · rw [f7.i (by omega), z6, h_i_1, if_pos ⟨rfl, rfl⟩, z5, h_i_1, if_neg (by omega), b2', show nI R.length + 1 = nI (R.length + 1) from nI_add _ 1]
      simp
    · have hl := (List.getElem?_eq_some_iff.mp hi).1
      intro k hk
      rw [f7.i (by omega), e139]
      exact b3 i x (by rw [List.getElem?_append_left hl]; exact hi) k hk
    · cases i with
      | zero =>
        simp only [List.getElem?_cons_zero, Option.some.injEq] at hi
        subst hi
        exact w7
      | succ i =>
        simp only [List.getElem?_cons_succ] at hi
        intro k hk
        rw [f7.i (by omega), e139, show U'.length + (i + 1) = U'.length + 1 + i by omega]
        exact b4 i x hi k hk
    · cases i with
      | zero =>
        simp only [List.getElem?_cons_zero, Option.some.injEq] at hi
        subst hi
        exact hP.up (by omega)
      | succ i =>
        simp only [List.getElem?_cons_succ] at hi
        exact (g5 i x hi).up (by omega)
theorem op_redo {B : Nat} : OK B MX11_redo MX12_redo := by
  intro h hr
  obtain ⟨w, r, c, d⟩ := hr
  have cc := c
  obtain ⟨hW, hP, hw, hrw, hr, hn⟩ := c
  have hn7 := hW.1
  have idle := Rel.idle cc d
  obtain ⟨U, R, od, g1, g2, g3, g4, g5, g6⟩ := (show ArcR B h w from d.2.2.2.2.1).get
  obtain ⟨a1, a2, a3, a4, a5, a6⟩ := g2
  obtain ⟨b1, b2, b3, b4⟩ := g3
  unfold MX11_redo MX1_doAgain
  rw [a3, a2]
  refine br_c (fun c => ?_) (fun c => ?_)
  · show MX12_redo h (fun r2 h2 => (0 : Int32) = r2 ∧ Rel (B + 60) h2)
    unfold MX12_redo
    rw [b2]
    exact br_t c ⟨rfl, idle⟩
  · cases R with
    | nil => exact absurd rfl c
    | cons u R =>
      rw [List.length_cons] at g1 a3 b2 c
      refine Lt_i fun y1 z1 => Lt_i fun y2 z2 => ?_
      rw [show nI U.length + 1 = nI (U.length + 1) from nI_add _ 1] at z1
      have e1 : y1.1 95 1 = nI (R.length + 1) := by rw [z1, h_i_1, if_neg (by omega)]; exact a3
      rw [e1, show nI (R.length + 1) - 1 = nI R.length from nI_pred _] at z2
      have e2 : y2.1 95 0 = nI (U.length + 1) := by rw [z2, h_i_1, if_neg (by omega), z1, h_i_1, if_pos ⟨rfl, rfl⟩]
      have e24 : y2.1 95 4 = nI od := by rw [z2, h_i_1, if_neg (by omega), z1, h_i_1, if_neg (by omega)]; exact a4
      have e96 : ∀ k, y2.1 96 k = h.1 96 k := fun k => by rw [z2, h_i_1, if_neg (by omega), z1, h_i_1, if_neg (by omega)]
      have hu : CRw y2 96 (rowC od (U.length + 1)) w.1 u := (a6 0 u rfl).fr e96
      rw [e2]
      refine cs_rowOf e24 (by omega) (cs_restore hn7 hu (rowC_lt _ _) (by omega) (by omega) fun h4 f4 r4 => ?_)
      have g14 : Fr ActC h h4 := by
        refine Fr.tr (h1 := y2) ?_ (f4.mono fun q k p => by unfold ActC; omega)
        rw [z2, z1]
        exact (Fr.rf.st (by unfold ActC AKc; omega)).st (by unfold ActC AKc; omega)
      have h96 : ∀ k, h4.1 96 k = h.1 96 k := fun k => by rw [f4.i (by omega), e96]
      have hr0 : CRw h 96 (rowC od U.length) w.1 r := (g6 (by simp)).cg hn7 fun k hk => hn k hk
      have c4 : AC h4 w.1 (U ++ [r]) R od := by
        refine ⟨a1, by rw [f4.i (by omega), e2]; simp, ?_, by rw [f4.i (by omega)]; exact e24, fun i x hi => ?_, fun i x hi => ?_⟩
        · rw [f4.i (by omega), z2, h_i_1, if_pos ⟨rfl, rfl⟩]
        · by_cases e : i < U.length
          · rw [List.getElem?_append_left e] at hi
            exact (a5 i x hi).fr h96
          · have hl := (List.getElem?_eq_some_iff.mp hi).1
            simp at hl
            have ei : i = U.length := by omega
            subst ei
            simp at hi
            rw [← hi]
            exact hr0.fr h96
        · have := a6 (i + 1) x hi
          rw [show (U ++ [r]).length + 1 + i = U.length + 1 + (i + 1) by simp; omega]
          exact this.fr h96
      have b1' : h4.1 108 59 = nI U.length := by rw [g14.i (by unfold ActC SC AKc; omega)]; exact b1
      have b2' : h4.1 108 60 = nI (R.length + 1) := by rw [g14.i (by unfold ActC SC AKc; omega)]; exact b2
      have e139 : ∀ k, h4.1 139 k = h.1 139 k := fun k => g14.i (by unfold ActC SC AKc; omega)
      show MX12_redo h4 (fun r2 h2 => (1 : Int32) = r2 ∧ Rel (B + 60) h2)
      unfold MX12_redo
      rw [b1', b2', show (24 : Int32) = nI 24 from rfl, nI_mul]
      refine br_f c (rs_exchange (u := u) (by omega) (hn.ac g14) ?_ fun h7 f7 n7 w7 => Lt_i fun y8 z8 => Lt_i fun y9 z9 => ⟨rfl, Rel.act cc d g14 (h2 := y9) ?_ ((g5 0 u rfl).up (by omega)) r4 (fun k hk => ?_) c4 ⟨?_, ?_, fun i x hi => ?_, fun i x hi => ?_⟩ (by simp; omega) (fun i x hi => ?_) (fun i x hi => (g5 (i + 1) x hi).up (by omega)) (fun _ => ?_)⟩)
      · exact (b4 0 u rfl).fr e139
      · rw [z9, z8]
        exact ((f7.mono fun q k p => by unfold ActR; omega).st (by unfold ActR; omega)).st (by unfold ActR; omega)
      · rw [z9, h_i_1, if_neg (by omega), z8, h_i_1, if_neg (by omega)]
        exact n7 k hk
      · rw [z9, h_i_1, if_neg (by omega), z8, h_i_1, if_pos ⟨rfl, rfl⟩, f7.i (by omega), b1', show nI U.length + 1 = nI (U.length + 1) from nI_add _ 1]
        simp
      · rw [z9, h_i_1, if_pos ⟨rfl, rfl⟩, z8, h_i_1, if_neg (by omega), f7.i (by omega), b2', show nI (R.length + 1) - 1 = nI R.length from nI_pred _]
      · intro k hk
        rw [z9, h_i_1, if_neg (by omega), z8, h_i_1, if_neg (by omega)]
        by_cases e : i < U.length
        · rw [List.getElem?_append_left e] at hi
          rw [f7.i (by omega), e139]
          exact b3 i x hi k hk
        · have hl := (List.getElem?_eq_some_iff.mp hi).1
          simp at hl
          have ei : i = U.length := by omega
          subst ei
          simp at hi
          rw [← hi]
          exact w7 k hk
      · intro k hk
        have hl : (U ++ [r]).length = U.length + 1 := by simp
        rw [hl, z9, h_i_1, if_neg (by omega), z8, h_i_1, if_neg (by omega), f7.i (by omega), e139, show U.length + 1 + i = U.length + (i + 1) by omega]
        exact b4 (i + 1) x hi k hk
      · by_cases e : i < U.length
        · rw [List.getElem?_append_left e] at hi
          exact (g4 i x hi).up (by omega)
        · have hl := (List.getElem?_eq_some_iff.mp hi).1
          simp at hl
          have ei : i = U.length := by omega
          subst ei
          simp at hi
          rw [← hi]
          exact hP.up (by omega)
      · rw [show (U ++ [r]).length = U.length + 1 by simp]
        exact (a6 0 u rfl).fr h96
-- ===== image, back =====
theorem box_3 {p : Int32} (h0 : ¬ p < 0) (h3 : ¬ (3 : Int32) ≤ p) : ∃ b, b < 3 ∧ p = nI b := by
  obtain ⟨h1, h2⟩ := nI_rng (n := 2) (Int32.not_lt.mp h0) (by
    rw [Int32.le_iff_toInt_le]
    have := Int32.not_le.mp h3
    rw [Int32.lt_iff_toInt_lt, show (3 : Int32).toInt = 3 by decide] at this
    rw [show (nI 2).toInt = 2 by decide]
    omega) (by decide)
  exact ⟨_, by omega, h2⟩
theorem box_or : ∀ b, b < 3 → ∀ m, m < 8 → (nI m ||| ((1 : Int32) <<< (nI b &&& 31))) = nI (m ||| 2 ^ b) ∧ m ||| 2 ^ b < 8 := by decide +kernel
theorem box_bit : ∀ b, b < 3 → ∀ m, m < 8 → ((nI m >>> (nI b &&& 31)) &&& 1 = 0 ↔ m.testBit b = false) := by decide +kernel
theorem op_image {B : Nat} (p : Int32) : OK B (MX11_image p) (MX12_image p) := by
  intro h hr
  obtain ⟨w, r, c, d⟩ := hr
  have cc := c
  obtain ⟨hW, hP, hw, hrw, hr, hn⟩ := c
  have hn7 := hW.1
  have idle := Rel.idle cc d
  have no : (p < 0 ∨ (3 : Int32) ≤ p) → MX12_image p h (fun r2 h2 => (-1 : Int32) = r2 ∧ Rel (B + 60) h2) := by
    intro z
    unfold MX12_image MX12_isBox
    refine br_c (fun _ => br_t rfl ⟨rfl, idle⟩) (fun z0 => br_c (fun _ => br_t rfl ⟨rfl, idle⟩) (fun z3 => absurd z (by rintro (y | y); exact z0 y; exact z3 y)))
  unfold MX11_image
  refine br_c (fun c => no (Or.inl c)) (fun c0 => br_c (fun c3 => ?_) (fun c3 => no (Or.inr (Int32.not_lt.mp c3))))
  have c3' : ¬ (3 : Int32) ≤ p := Int32.not_le.mpr c3
  obtain ⟨b, hb, rfl⟩ := box_3 c0 c3'
  obtain ⟨m, m1, m2, m3⟩ : BoxR B h w := d.2.2.2.2.2.1
  obtain ⟨ho, hl⟩ := box_or b hb m m1
  unfold MX1_keepImage
  rw [show (24 : Int32) = nI 24 from rfl, nI_mul]
  refine cs_write hn7 hr (by omega) (by omega) (by omega) fun h1 f1 w1 => Lt_i fun y2 z2 => ?_
  rw [f1.i (q := 95) (by omega), m2, ho] at z2
  have e21 : y2.1 34 3 = r 21 := by rw [z2, h_i_1, if_neg (by omega), f1.i (by omega)]; exact hr.2.2.2.1
  have fc : Fr (fun q k => (q = 95 ∧ k = 6) ∨ q = 97) h y2 := by
    rw [z2]
    exact (f1.mono fun q k p => by omega).st (by omega)
  show MX12_image (nI b) y2 (fun r2 h2 => y2.1 34 3 = r2 ∧ Rel (B + 60) h2)
  rw [e21]
  unfold MX12_image MX12_isBox
  refine br_f c0 (br_f c3' (br_f (by decide) ⟨vp_in_nI (by omega) (by omega), Lt_i fun y3 z3 => ?_⟩))
  rw [show ix (nI b) = b from nI_clamp (by omega)] at z3
  refine lo2c1 24 (by omega) (fun j h4 => Fr (fun q k => q = 151 ∧ 24 * b ≤ k ∧ k < 24 * b + 24) y3 h4 ∧ ∀ k, k < j → h4.1 151 (24 * b + k) = r k) ?_ ?_ 0 (Nat.zero_le _) _ ⟨Fr.rf, fun k hk => absurd hk (Nat.not_lt_zero _)⟩
  · intro k j h4 hj hI hk
    obtain ⟨i1, i2⟩ := hI
    unfold FX12_image_18
    have e135 : h4.1 135 j = r j := by rw [i1.i (by omega), z3, h_i_1, if_neg (by omega), fc.i (by omega)]; exact hn j hj
    rw [show (24 : Int32) = nI 24 from rfl, nI_mul, nI_add, show ix (nI (24 * b + j)) = 24 * b + j from nI_clamp (by omega), show ix (nI j) = j from nI_clamp (by omega), e135]
    refine br_f (nI_ge hj (by omega)) ⟨vp_in_nI (by omega) (by omega), vp_in_nI (by omega) (by omega), Lt_i fun y z => Lt_eq (nI_1 _) (hk _ ⟨?_, fun i hi => ?_⟩)⟩
    · rw [z]; exact i1.st (by omega)
    · rw [z, h_i_1]
      by_cases e : i = j
      · subst e; rw [if_pos ⟨rfl, rfl⟩]
      · rw [if_neg (by omega)]; exact i2 i (by omega)
  · intro k h4 hI
    obtain ⟨i1, i2⟩ := hI
    have fr : Fr (fun q k => q = 150 ∨ q = 151) y2 h4 := by
      refine Fr.tr (h1 := y3) ?_ (i1.mono fun q k p => by omega)
      rw [z3]
      exact Fr.rf.st (by omega)
    have f : Fr (fun q k => (q = 95 ∧ k = 6) ∨ q = 97 ∨ q = 150 ∨ q = 151) h h4 := (fc.mono fun q k p => by omega).tr (fr.mono fun q k p => by omega)
    have e135 : h4.1 135 21 = r 21 := by rw [f.i (by omega)]; exact hn 21 (by omega)
    unfold FX12_image_18
    refine br_t (nI_le (a := 24) (Nat.le_refl _) (by decide)) ⟨e135.symm, Rel.up (B := B) ⟨w, r, cc.frx f (fun q k z p => by unfold CX at z; omega), ?_⟩ (by omega)⟩
    have hx : ∀ q k, RX q k → ¬ ((q = 95 ∧ k = 6) ∨ q = 97 ∨ q = 150 ∨ q = 151) → h4.1 q k = h.1 q k := fun q k _ y => f.i y
    obtain ⟨b1, b2, b3, b4, b5, _, b7, b8, b9⟩ := d
    refine ⟨TapeR.fr b1 fun q k z => f.i (by omega), FaultR.fr b2 fun q k z => f.i (by omega), TimeR.fr b3 fun q k z => f.i (by omega), LyR.fr b4 fun q k z => f.i (by omega), ArcR.fr b5 fun q k z => f.i (by omega), ?_, SgR.fr b7 fun q k z => f.i (by omega), HrdR.fr b8 fun q k z => f.i (by omega), fun i hi => by rw [f.l (by omega)]; exact b9 i hi⟩
    have e150 : ∀ j, h4.1 150 j = if j = b then 1 else h.1 150 j := fun j => by
      rw [i1.i (by omega), z3, h_i_1, fc.i (by omega)]
      by_cases e : j = b
      · rw [if_pos ⟨rfl, e⟩, if_pos e]; rfl
      · rw [if_neg (by omega), if_neg e]
    refine ⟨m ||| 2 ^ b, hl, ?_, fun j hj => ?_⟩
    · rw [fr.i (by omega), z2, h_i_1, if_pos ⟨rfl, rfl⟩]
    · rw [e150, Nat.testBit_or, Nat.testBit_two_pow]
      by_cases e : j = b
      · subst e
        rw [if_pos (by simp), if_pos rfl]
        refine ⟨rfl, r, hP, ?_, fun k hk => i2 k hk⟩
        rw [Nat.mul_comm 24 j]
        exact w1.fr fun k => by rw [fr.i (by omega), z2, h_i_1, if_neg (by omega)]
      · have eb : (decide (b = j)) = false := decide_eq_false (fun z => e z.symm)
        rw [if_neg e, eb, Bool.or_false]
        have := m3 j hj
        by_cases hm : m.testBit j = true
        · rw [if_pos hm] at this ⊢
          obtain ⟨x1, r', x2, x3, x4⟩ := this
          refine ⟨x1, r', x2, x3.off hn7 fun k h1 h2 => ?_, fun k hk => ?_⟩
          · rw [fr.i (by omega), z2, h_i_1, if_neg (by omega), f1.i (by omega)]
          · rw [i1.i (by omega), z3, h_i_1, if_neg (by omega), fc.i (by omega)]
            exact x4 k hk
        · rw [if_neg hm] at this ⊢
          exact this
theorem op_back {B : Nat} (p : Int32) : OK B (MX11_back p) (MX12_back p) := by
  intro h hr
  obtain ⟨w, r, c, d⟩ := hr
  have cc := c
  obtain ⟨hW, hP, hw, hrw, hr, hn⟩ := c
  have hn7 := hW.1
  have idle := Rel.idle cc d
  have no : (p < 0 ∨ (3 : Int32) ≤ p) → MX12_back p h (fun r2 h2 => (-1 : Int32) = r2 ∧ Rel (B + 60) h2) := by
    intro z
    unfold MX12_back MX12_isBox
    refine br_c (fun _ => br_t rfl ⟨rfl, idle⟩) (fun z0 => br_c (fun _ => br_t rfl ⟨rfl, idle⟩) (fun z3 => absurd z (by rintro (y | y); exact z0 y; exact z3 y)))
  unfold MX11_back
  refine br_c (fun c => no (Or.inl c)) (fun c0 => br_c (fun c3 => no (Or.inr c3)) (fun c3 => ?_))
  obtain ⟨b, hb, rfl⟩ := box_3 c0 c3
  obtain ⟨m, m1, m2, m3⟩ : BoxR B h w := d.2.2.2.2.2.1
  have mb := m3 b hb
  unfold MX1_goBack
  rw [m2]
  refine br_c (fun cz => ?_) (fun cz => ?_)
  · have hm := (box_bit b hb m m1).mp cz
    rw [if_neg (by rw [hm]; decide)] at mb
    refine br_t rfl ?_
    unfold MX12_back MX12_isBox
    refine br_f c0 (br_f c3 (br_f (by decide) ⟨vp_in_nI (by omega) (by omega), ?_⟩))
    rw [show ix (nI b) = b from nI_clamp (by omega), mb]
    exact br_t rfl ⟨rfl, idle⟩
  · have hm : m.testBit b = true := by
      cases hz : m.testBit b with
      | true => rfl
      | false => exact absurd ((box_bit b hb m m1).mpr hz) cz
    rw [if_pos hm] at mb
    obtain ⟨x1, u, x2, x3, x4⟩ := mb
    rw [show (24 : Int32) = nI 24 from rfl, nI_mul, Nat.mul_comm b 24]
    refine cs_restore hn7 x3 (by omega) (by omega) (by omega) fun h1 f1 r1 => ?_
    unfold MX1_forgetActs
    refine Lt_i fun y2 z2 => Lt_i fun y3 z3 => Lt_i fun y4 z4 => br_f (by decide) ?_
    have e96 : ∀ q k, q ≠ 95 → y4.1 q k = h1.1 q k := fun q k hq => by rw [z4, h_i_1, if_neg (by omega), z3, h_i_1, if_neg (by omega), z2, h_i_1, if_neg (by omega)]
    have g4 : Fr ActC h y4 := by
      rw [z4, z3, z2]
      exact (((f1.mono fun q k p => by unfold ActC; omega).st (by unfold ActC AKc; omega)).st (by unfold ActC AKc; omega)).st (by unfold ActC AKc; omega)
    have r4 : CR y4 w.1 34 u := by
      rw [z4, z3, z2]
      refine CR.fr (P := fun q _ => q = 95) r1 (by refine Fr.st (Fr.st (Fr.st Fr.rf ?_) ?_) ?_ <;> rfl) (fun q k p => by omega)
    show MX12_back (nI b) y4 (fun r2 h2 => y4.1 34 3 = r2 ∧ Rel (B + 60) h2)
    rw [r4.2.2.2.1]
    have e150 : y4.1 150 b = 1 := by rw [e96 _ _ (by omega), f1.i (by omega)]; exact x1
    unfold MX12_back MX12_isBox
    refine br_f c0 (br_f c3 (br_f (by decide) ⟨vp_in_nI (by omega) (by omega), ?_⟩))
    rw [show ix (nI b) = b from nI_clamp (by omega), e150]
    refine br_f (by decide) ?_
    refine lo2c1 24 (by omega) (fun j h5 => Fr (fun q k => q = 135) y4 h5 ∧ ∀ k, k < j → h5.1 135 k = u k) ?_ ?_ 0 (Nat.zero_le _) _ ⟨Fr.rf, fun k hk => absurd hk (Nat.not_lt_zero _)⟩
    · intro k j h5 hj hI hk
      obtain ⟨i1, i2⟩ := hI
      unfold FX12_back_20
      have e151 : h5.1 151 (24 * b + j) = u j := by rw [i1.i (by omega), e96 _ _ (by omega), f1.i (by omega)]; exact x4 j hj
      rw [show (24 : Int32) = nI 24 from rfl, nI_mul, nI_add, show ix (nI (24 * b + j)) = 24 * b + j from nI_clamp (by omega), show ix (nI j) = j from nI_clamp (by omega), e151]
      refine br_f (nI_ge hj (by omega)) ⟨vp_in_nI (by omega) (by omega), vp_in_nI (by omega) (by omega), Lt_i fun y z => Lt_eq (nI_1 _) (hk _ ⟨?_, fun i hi => ?_⟩)⟩
      · rw [z]; exact Fr.st (P := fun q k => q = 135) i1 rfl
      · rw [z, h_i_1]
        by_cases e : i = j
        · subst e; rw [if_pos ⟨rfl, rfl⟩]
        · rw [if_neg (by omega)]; exact i2 i (by omega)
    · intro k h5 hI
      obtain ⟨i1, i2⟩ := hI
      unfold FX12_back_20
      refine br_t (nI_le (a := 24) (Nat.le_refl _) (by decide)) (Lt_i fun y6 z6 => Lt_i fun y7 z7 => ?_)
      have n7 : Nw y7 u := fun k hk => by rw [z7, h_i_1, if_neg (by omega), z6, h_i_1, if_neg (by omega)]; exact i2 k hk
      refine ⟨(n7 21 (by omega)).symm, Rel.act (U := []) (R := []) (od := 0) cc d g4 ?_ (x2.up (by omega)) r4 n7 ⟨by omega, ?_, ?_, ?_, fun i x hi => by simp at hi, fun i x hi => by simp at hi⟩ ⟨?_, ?_, fun i x hi => by simp at hi, fun i x hi => by simp at hi⟩ (by simp) (fun i x hi => by simp at hi) (fun i x hi => by simp at hi) (fun hz => absurd rfl hz)⟩
      · rw [z7, z6]
        exact ((i1.mono fun q k p => by unfold ActR; omega).st (by unfold ActR; omega)).st (by unfold ActR; omega)
      · rw [z4, h_i_1, if_neg (by omega), z3, h_i_1, if_pos ⟨rfl, rfl⟩]; rfl
      · rw [z4, h_i_1, if_pos ⟨rfl, rfl⟩]; rfl
      · rw [z4, h_i_1, if_neg (by omega), z3, h_i_1, if_neg (by omega), z2, h_i_1, if_pos ⟨rfl, rfl⟩]; rfl
      · rw [z7, h_i_1, if_neg (by omega), z6, h_i_1, if_pos ⟨rfl, rfl⟩]; rfl
      · rw [z7, h_i_1, if_pos ⟨rfl, rfl⟩]; rfl
