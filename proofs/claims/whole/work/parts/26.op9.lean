-- ===== about, boast, queue, course =====
def abV (w : ob_W) (r : ob_P) (d0 d1 s0 s1 tl ly p : Int32) : Int32 :=
  if p = 0 then nI w.1 else if p = 1 then r 21 else if p = 2 then r 23 else if p = 3 then r 22 else if p = 4 then wv w 7 1 else
  if p = 5 then (if wgV w (bitI (nI (mkS w r 2))) < wv w 7 1 then 0 else 1) else if p = 6 then nI (mkS w r 0) else if p = 7 then nI (mkS w r 2) else
  if p = 8 then d0 else if p = 9 then d1 else if p = 10 then s0 else if p = 11 then s1 else if p = 12 then tl else if p = 13 then wv w 7 3 else if p = 14 then ly else -1
theorem op_about {B : Nat} (p : Int32) : OK B (fun h Q => MX11_about p h fun x => Q x h) (MX12_about p) := OK.ask fun h w r c d => by
  obtain ⟨hW, hP, hw, hrw, hr, hn⟩ := c
  have hn7 := hW.1
  obtain ⟨t1, _, t3, t4, a1, _, g1, _⟩ := d
  obtain ⟨tl, _, tl1, tl2, _⟩ := t1
  obtain ⟨tm, _, tm1, tm2⟩ := t3
  obtain ⟨ln, _, ln1, ln2, _⟩ := t4
  obtain ⟨U, R, od, _, _, u1, u2, _, u3, u4, _⟩ := a1
  obtain ⟨sc, _, sc1, sc2, _⟩ := g1
  refine ⟨fun x => x = abV w r (nI U.length) (nI R.length) (nI sc) (nI tm) (nI tl) (nI ln) p, fun Q hq => ?_, fun h1 f1 x hx Q hq => ?_⟩
  · show MX11_about p h fun x => Q x h
    have fin : ∀ v, v = abV w r (nI U.length) (nI R.length) (nI sc) (nI tm) (nI tl) (nI ln) p → Q v h := fun v e => hq v h e Fr.rf
    have e0 : h.1 35 0 = nI (mkS w r 0) := hr.1 0 (by omega)
    have e2 : h.1 35 2 = nI (mkS w r 2) := hr.1 2 (by omega)
    unfold MX11_about
    rw [hw.1, hr.2.2.2.1, hr.2.2.2.2.1, hr.2.2.2.2.2, hw.2.2.2.2.1, hw.2.2.2.2.2.2.1, e0, e2, u1, u2, sc1, tm1, tl1, ln1]
    unfold abV at fin
    clear hq e0 e2 u1 u2 u3 u4 sc1 sc2 tm1 tm2 tl1 tl2 ln1 ln2
    refine br_c (fun c => ?_) (fun c0 => ?_)
    · exact fin _ (by rw [if_pos c])
    refine br_c (fun c => ?_) (fun c1 => ?_)
    · exact fin _ (by rw [if_neg c0, if_pos c])
    refine br_c (fun c => ?_) (fun c2 => ?_)
    · exact fin _ (by rw [if_neg c0, if_neg c1, if_pos c])
    refine br_c (fun c => ?_) (fun c3 => ?_)
    · exact fin _ (by rw [if_neg c0, if_neg c1, if_neg c2, if_pos c])
    refine br_c (fun c => ?_) (fun c4 => ?_)
    · exact fin _ (by rw [if_neg c0, if_neg c1, if_neg c2, if_neg c3, if_pos c])
    refine br_c (fun c => ?_) (fun c5 => ?_)
    · refine cs_isBarredBy hn7 hw ?_
      rw [if_neg c0, if_neg c1, if_neg c2, if_neg c3, if_neg c4, if_pos c] at fin
      by_cases e : wgV w (bitI (nI (mkS w r 2))) < wv w 7 1
      · rw [if_pos e] at fin ⊢
        exact br_t rfl (fin _ rfl)
      · rw [if_neg e] at fin ⊢
        exact br_f (by decide) (fin _ rfl)
    refine br_c (fun c => ?_) (fun c6 => ?_)
    · exact fin _ (by rw [if_neg c0, if_neg c1, if_neg c2, if_neg c3, if_neg c4, if_neg c5, if_pos c])
    refine br_c (fun c => ?_) (fun c7 => ?_)
    · exact fin _ (by rw [if_neg c0, if_neg c1, if_neg c2, if_neg c3, if_neg c4, if_neg c5, if_neg c6, if_pos c])
    refine br_c (fun c => ?_) (fun c8 => ?_)
    · exact fin _ (by rw [if_neg c0, if_neg c1, if_neg c2, if_neg c3, if_neg c4, if_neg c5, if_neg c6, if_neg c7, if_pos c])
    refine br_c (fun c => ?_) (fun c9 => ?_)
    · exact fin _ (by rw [if_neg c0, if_neg c1, if_neg c2, if_neg c3, if_neg c4, if_neg c5, if_neg c6, if_neg c7, if_neg c8, if_pos c])
    refine br_c (fun c => ?_) (fun c10 => ?_)
    · exact fin _ (by rw [if_neg c0, if_neg c1, if_neg c2, if_neg c3, if_neg c4, if_neg c5, if_neg c6, if_neg c7, if_neg c8, if_neg c9, if_pos c])
    refine br_c (fun c => ?_) (fun c11 => ?_)
    · exact fin _ (by rw [if_neg c0, if_neg c1, if_neg c2, if_neg c3, if_neg c4, if_neg c5, if_neg c6, if_neg c7, if_neg c8, if_neg c9, if_neg c10, if_pos c])
    refine br_c (fun c => ?_) (fun c12 => ?_)
    · exact fin _ (by rw [if_neg c0, if_neg c1, if_neg c2, if_neg c3, if_neg c4, if_neg c5, if_neg c6, if_neg c7, if_neg c8, if_neg c9, if_neg c10, if_neg c11, if_pos c])
    refine br_c (fun c => ?_) (fun c13 => ?_)
    · exact fin _ (by rw [if_neg c0, if_neg c1, if_neg c2, if_neg c3, if_neg c4, if_neg c5, if_neg c6, if_neg c7, if_neg c8, if_neg c9, if_neg c10, if_neg c11, if_neg c12, if_pos c])
    refine br_c (fun c => ?_) (fun c14 => ?_)
    · exact fin _ (by rw [if_neg c0, if_neg c1, if_neg c2, if_neg c3, if_neg c4, if_neg c5, if_neg c6, if_neg c7, if_neg c8, if_neg c9, if_neg c10, if_neg c11, if_neg c12, if_neg c13, if_pos c])
    exact fin _ (by rw [if_neg c0, if_neg c1, if_neg c2, if_neg c3, if_neg c4, if_neg c5, if_neg c6, if_neg c7, if_neg c8, if_neg c9, if_neg c10, if_neg c11, if_neg c12, if_neg c13, if_neg c14])
  · subst hx
    have hn1 := hn.sc f1
    have hw1 := hrw.sc hn7 f1
    have fin : ∀ v h2, Fr SR h1 h2 → v = abV w r (nI U.length) (nI R.length) (nI sc) (nI tm) (nI tl) (nI ln) p → Q v h2 := fun v h2 f e => by rw [e]; exact hq h2 f
    have z : ∀ k, (k = 59 ∨ k = 60 ∨ k = 70 ∨ k = 71 ∨ k = 1 ∨ k = 62) → h1.1 108 k = h.1 108 k := fun k hk => f1.i (by unfold SC; omega)
    unfold MX12_about
    rw [hw1.1, hn1 21 (by omega), hn1 23 (by omega), hn1 22 (by omega), hw1.2.2.2.2.1, hw1.2.2.2.2.2.1, z 59 (by omega), z 60 (by omega), z 70 (by omega), z 71 (by omega), z 1 (by omega), z 62 (by omega), u3, u4, sc2, tm2, tl2, ln2]
    unfold abV at fin
    clear hq z u1 u2 u3 u4 sc1 sc2 tm1 tm2 tl1 tl2 ln1 ln2
    refine br_c (fun c => ?_) (fun c0 => ?_)
    · exact fin _ _ Fr.rf (by rw [if_pos c])
    refine br_c (fun c => ?_) (fun c1 => ?_)
    · exact fin _ _ Fr.rf (by rw [if_neg c0, if_pos c])
    refine br_c (fun c => ?_) (fun c2 => ?_)
    · exact fin _ _ Fr.rf (by rw [if_neg c0, if_neg c1, if_pos c])
    refine br_c (fun c => ?_) (fun c3 => ?_)
    · exact fin _ _ Fr.rf (by rw [if_neg c0, if_neg c1, if_neg c2, if_pos c])
    refine br_c (fun c => ?_) (fun c4 => ?_)
    · exact fin _ _ Fr.rf (by rw [if_neg c0, if_neg c1, if_neg c2, if_neg c3, if_pos c])
    refine br_c (fun c => ?_) (fun c5 => ?_)
    · refine rs_standing hW hw1 hn1 fun h2 f2 => rs_isBarred hW (hw1.sr hn7 f2) (rs_truth ?_)
      rw [if_neg c0, if_neg c1, if_neg c2, if_neg c3, if_neg c4, if_pos c] at fin
      by_cases e : wgV w (bitI (nI (mkS w r 2))) < wv w 7 1
      · rw [if_pos e] at fin ⊢
        exact fin _ _ f2 rfl
      · rw [if_neg e] at fin ⊢
        exact fin _ _ f2 rfl
    refine br_c (fun c => ?_) (fun c6 => ?_)
    · exact rs_waitingNow hW hw1 hn1 fun h2 f2 => fin _ _ f2 (by rw [if_neg c0, if_neg c1, if_neg c2, if_neg c3, if_neg c4, if_neg c5, if_pos c])
    refine br_c (fun c => ?_) (fun c7 => ?_)
    · exact rs_standing hW hw1 hn1 fun h2 f2 => fin _ _ f2 (by rw [if_neg c0, if_neg c1, if_neg c2, if_neg c3, if_neg c4, if_neg c5, if_neg c6, if_pos c])
    refine br_c (fun c => ?_) (fun c8 => ?_)
    · exact fin _ _ Fr.rf (by rw [if_neg c0, if_neg c1, if_neg c2, if_neg c3, if_neg c4, if_neg c5, if_neg c6, if_neg c7, if_pos c])
    refine br_c (fun c => ?_) (fun c9 => ?_)
    · exact fin _ _ Fr.rf (by rw [if_neg c0, if_neg c1, if_neg c2, if_neg c3, if_neg c4, if_neg c5, if_neg c6, if_neg c7, if_neg c8, if_pos c])
    refine br_c (fun c => ?_) (fun c10 => ?_)
    · exact fin _ _ Fr.rf (by rw [if_neg c0, if_neg c1, if_neg c2, if_neg c3, if_neg c4, if_neg c5, if_neg c6, if_neg c7, if_neg c8, if_neg c9, if_pos c])
    refine br_c (fun c => ?_) (fun c11 => ?_)
    · exact fin _ _ Fr.rf (by rw [if_neg c0, if_neg c1, if_neg c2, if_neg c3, if_neg c4, if_neg c5, if_neg c6, if_neg c7, if_neg c8, if_neg c9, if_neg c10, if_pos c])
    refine br_c (fun c => ?_) (fun c12 => ?_)
    · exact fin _ _ Fr.rf (by rw [if_neg c0, if_neg c1, if_neg c2, if_neg c3, if_neg c4, if_neg c5, if_neg c6, if_neg c7, if_neg c8, if_neg c9, if_neg c10, if_neg c11, if_pos c])
    refine br_c (fun c => ?_) (fun c13 => ?_)
    · exact fin _ _ Fr.rf (by rw [if_neg c0, if_neg c1, if_neg c2, if_neg c3, if_neg c4, if_neg c5, if_neg c6, if_neg c7, if_neg c8, if_neg c9, if_neg c10, if_neg c11, if_neg c12, if_pos c])
    refine br_c (fun c => ?_) (fun c14 => ?_)
    · exact fin _ _ Fr.rf (by rw [if_neg c0, if_neg c1, if_neg c2, if_neg c3, if_neg c4, if_neg c5, if_neg c6, if_neg c7, if_neg c8, if_neg c9, if_neg c10, if_neg c11, if_neg c12, if_neg c13, if_pos c])
    exact fin _ _ Fr.rf (by rw [if_neg c0, if_neg c1, if_neg c2, if_neg c3, if_neg c4, if_neg c5, if_neg c6, if_neg c7, if_neg c8, if_neg c9, if_neg c10, if_neg c11, if_neg c12, if_neg c13, if_neg c14])
-- whom all others follow
theorem ahd_tr {r : ob_P} {a b c : Nat} {ra rb rc : Int32} (h1 : ahd r a ra b rb = true) (h2 : ahd r c rc b rb = false) : ahd r a ra c rc = true := by
  unfold ahd at *
  simp only [Bool.or_eq_true, Bool.and_eq_true, decide_eq_true_eq, Bool.or_eq_false_iff, Bool.and_eq_false_iff, decide_eq_false_iff_not] at *
  obtain ⟨h3, h4⟩ := h2
  simp only [Int32.lt_iff_toInt_lt, ← Int32.toInt_inj] at *
  rcases h4 with h4 | h4 <;> rcases h1 with h1 | ⟨h1, h5⟩ <;> omega
theorem ahd_as {r : ob_P} {a b : Nat} {ra rb : Int32} (h1 : ahd r a ra b rb = true) : ahd r b rb a ra = false := by
  unfold ahd at *
  simp only [Bool.or_eq_true, Bool.and_eq_true, decide_eq_true_eq, Bool.or_eq_false_iff, Bool.and_eq_false_iff, decide_eq_false_iff_not] at *
  simp only [Int32.lt_iff_toInt_lt, ← Int32.toInt_inj] at *
  rcases h1 with h1 | ⟨h1, h5⟩ <;> omega
theorem best_nn {w : ob_W} {r : ob_P} {p : Nat → Bool} : ∀ {j}, best w r p j = none → ∀ c, c < j → p c = false
  | 0, _, c, hc => absurd hc (Nat.not_lt_zero _)
  | j + 1, h, c, hc => by
    rw [best_succ] at h
    cases hb : best w r p j with
    | none =>
      rw [hb] at h
      simp only at h
      by_cases e : c = j
      · subst e
        cases hp : p c with
        | false => rfl
        | true => rw [hp] at h; simp at h
      · exact best_nn hb c (by omega)
    | some b =>
      rw [hb] at h
      simp only at h
      by_cases e : (p j && ahd r j (rnk w r j) b (rnk w r b)) = true
      · rw [if_pos e] at h; cases h
      · rw [if_neg e] at h; cases h
theorem best_mx {w : ob_W} {r : ob_P} {p : Nat → Bool} : ∀ {j b}, best w r p j = some b → ∀ c, c < j → p c = true → ahd r c (rnk w r c) b (rnk w r b) = false
  | 0, b, h, c, hc, _ => absurd hc (Nat.not_lt_zero _)
  | j + 1, b, h, c, hc, hp => by
    have self : ∀ x, ahd r x (rnk w r x) x (rnk w r x) = false := fun x => by
      cases e : ahd r x (rnk w r x) x (rnk w r x) with
      | false => rfl
      | true => exact e.symm.trans (ahd_as e)
    rw [best_succ] at h
    cases hb : best w r p j with
    | none =>
      rw [hb] at h
      simp only at h
      by_cases e : p j = true
      · rw [if_pos e] at h
        cases h
        by_cases e2 : c = j
        · rw [e2]; exact self j
        · have := best_nn hb c (by omega)
          rw [this] at hp
          exact absurd hp (by decide)
      · rw [if_neg e] at h; cases h
    | some b' =>
      rw [hb] at h
      simp only at h
      have ih := best_mx hb
      by_cases e : (p j && ahd r j (rnk w r j) b' (rnk w r b')) = true
      · rw [if_pos e] at h
        cases h
        rw [Bool.and_eq_true] at e
        by_cases e2 : c = j
        · rw [e2]; exact self j
        · exact ahd_as (ahd_tr e.2 (ih c (by omega) hp))
      · rw [if_neg e] at h
        cases h
        by_cases e2 : c = j
        · subst e2
          rw [hp, Bool.true_and] at e
          simpa using e
        · exact ih c (by omega) hp
theorem best_cg {w : ob_W} {r r' : ob_P} {p p' : Nat → Bool} : ∀ {j}, (∀ k, k < j → p k = p' k) → (∀ k, k < j → rnk w r k = rnk w r' k) → (∀ k, k < j → r (14 + k) = r' (14 + k)) → best w r p j = best w r' p' j
  | 0, _, _, _ => rfl
  | j + 1, h1, h2, h3 => by
    have ih := best_cg (w := w) (r := r) (r' := r') (p := p) (p' := p') (j := j) (fun k hk => h1 k (by omega)) (fun k hk => h2 k (by omega)) (fun k hk => h3 k (by omega))
    rw [best_succ, best_succ, ← ih]
    cases hb : best w r p j with
    | none => simp only [h1 j (by omega)]
    | some b =>
      have := (best_lt hb).1
      simp only
      unfold ahd
      rw [h1 j (by omega), h2 j (by omega), h2 b (by omega), h3 j (by omega), h3 b (by omega)]
theorem fct_mov {w : ob_W} {r : ob_P} {p : Nat → Bool} {o : Nat} {g : Int32} (hn7 : w.1 ≤ 7) (hp : ∀ k, k < w.1 → p k = true → r k = 0) : fct w (mov w.1 p 5 r) o g = fct w r o g := by
  have hc : cnt (hrd (mov w.1 p 5 r)) w.1 = cnt (hrd r) w.1 := by
    apply cnt_congr
    intro k hk
    unfold hrd mov
    by_cases e : k < w.1 ∧ p k = true
    · rw [if_pos e, hp k hk e.2]; decide
    · rw [if_neg e]
  funext j
  unfold fct
  rw [hc, mov_hi hn7 (by omega), mov_hi hn7 (by omega), mov_hi hn7 (by omega)]
theorem rnk_mov {w : ob_W} {r : ob_P} {p : Nat → Bool} {o : Nat} (hn7 : w.1 ≤ 7) (hp : ∀ k, k < w.1 → p k = true → r k = 0) : rnk w (mov w.1 p 5 r) o = rnk w r o := by
  unfold rnk ordV
  rw [fct_mov hn7 hp]
/-- with grave g he is ahead of all -/
def boC (w : ob_W) (r : ob_P) (o : Nat) (g : Int32) (c : Nat) : Bool := decide (c = o) || decide (r c ≠ 0) || ahd r o (ordV w r o g) c (rnk w r c)
def boV (w : ob_W) (r : ob_P) (o : Nat) (g : Int32) : Prop := ∀ c, c < w.1 → boC w r o g c = true
def boX (w : ob_W) (r : ob_P) (o : Nat) (x : Int32) : Prop := (∃ g, g < 100 ∧ boV w r o (nI g) ∧ (∀ g', g' < g → ¬ boV w r o (nI g')) ∧ x = nI g) ∨ ((∀ g, g < 100 → ¬ boV w r o (nI g)) ∧ x = -1)
theorem boV_none {w : ob_W} {r : ob_P} {o : Nat} {g : Int32} (h : best w r (fun c => decide (c ≠ o) && isS r 0 c) w.1 = none) : boV w r o g := by
  intro c hc
  have := best_nn h c hc
  unfold boC
  by_cases e : c = o
  · simp [e]
  · by_cases e2 : r c = 0
    · simp [isS, e, e2] at this
    · simp [e2]
theorem boV_some {w : ob_W} {r : ob_P} {o b : Nat} {g : Int32} (h : best w r (fun c => decide (c ≠ o) && isS r 0 c) w.1 = some b) : boV w r o g ↔ ahd r o (ordV w r o g) b (rnk w r b) = true := by
  obtain ⟨b1, b2⟩ := best_lt h
  simp only [Bool.and_eq_true, decide_eq_true_eq, isS] at b2
  constructor
  · intro hv
    have := hv b b1
    unfold boC at this
    simpa [b2.1, b2.2] using this
  · intro ha c hc
    unfold boC
    by_cases e : c = o
    · simp [e]
    · by_cases e2 : r c = 0
      · have := best_mx h c hc (by simp [e, isS, e2])
        rw [ahd_tr ha this]
        simp
      · simp [e2]
theorem cs_leastGrave {h : ob_H} {w : ob_W} {r : ob_P} {o : Nat} {Q : Int32 → ob_H → Prop} (hW : WFW w) (hw : CW h w) (hr : CR h w.1 34 r) (ho : o < w.1) (h0 : r o = 0) (hq : ∀ x h', Fr SC h h' → boX w r o x → Q x h') : MX0_leastGrave (nI o) h Q := by
  have hn7 := hW.1
  have hmv : ∀ k, k < w.1 → (fun x => decide (x = o)) k = true → r k = 0 := fun k _ hk => by rw [of_decide_eq_true hk]; exact h0
  unfold MX0_leastGrave
  refine cs_copy hn7 hr (by omega) fun h2 f2 r2 => ?_
  have g2 : Fr SC h h2 := f2.mono fun q k p => by unfold SC; omega
  rw [ja_shl o (by omega), ← mk_one ho]
  refine cs_move hn7 r2 (a := 0) (b := 5) (by omega) (by omega) (by omega) hmv fun h3 f3 r3 => ?_
  have g3 : Fr SC h h3 := g2.tr (f3.mono fun q k p => by unfold SC; omega)
  refine cs_turn hW (hw.sc g3) r3 (by omega) fun h4 f4 => ?_
  have g4 : Fr SC h h4 := g3.tr (f4.mono fun q k p => by unfold CE at p; unfold SC; omega)
  have et : trn w (mov w.1 (fun x => decide (x = o)) 5 r) = best w r (fun c => decide (c ≠ o) && isS r 0 c) w.1 := by
    unfold trn
    apply best_cg
    · intro k hk
      unfold isS mov
      by_cases e : k = o
      · subst e
        rw [if_pos ⟨hk, by simp⟩]
        simp
      · rw [if_neg (by simp [e])]
        simp [e]
    · exact fun k _ => rnk_mov hn7 hmv
    · exact fun k hk => mov_hi hn7 (by omega)
  rw [show nI 5 = (5 : Int32) from rfl, et]
  -- the loop
  have loop : ∀ (h5 : ob_H) (b : Option Nat) (s0 : Int32) (x2 : Int32) (fl : Int32), Fr SC h h5 → best w r (fun c => decide (c ≠ o) && isS r 0 c) w.1 = b → x2 = tI b → (∀ c, b = some c → s0 = rnk w r c ∧ fl = tru (decide (r (14 + o) < r (14 + c)))) → lo2 (FX0_leastGrave_101 (nI o) x2 s0 fl Q) 0 h5 := by
    intro h5 b s0 x2 fl f5 hb e2 hbs
    refine lo2c1 100 (by omega) (fun g h1 => Fr SC h h1 ∧ ∀ g', g' < g → ¬ boV w r o (nI g')) ?_ ?_ 0 (Nat.zero_le _) _ ⟨f5, fun g' hg => absurd hg (Nat.not_lt_zero _)⟩
    · intro k g h1 hg hI hk
      obtain ⟨i1, i2⟩ := hI
      unfold FX0_leastGrave_101
      refine br_f (nI_ge (b := 100) hg (by decide)) (cs_orderOf hW (hw.sc i1) (hr.sc i1) ho (by omega) fun h6 f6 => ?_)
      have g6 : Fr SC h h6 := i1.tr (f6.mono SC_CE34)
      have yes : boV w r o (nI g) → Q (nI g) h6 := fun hv => hq _ _ g6 (Or.inl ⟨g, hg, hv, i2, rfl⟩)
      have no : ¬ boV w r o (nI g) → k (nI (g + 1)) h6 := fun hv => hk _ ⟨g6, fun g' hg' => by
        by_cases e : g' = g
        · rw [e]; exact hv
        · exact i2 g' (by omega)⟩
      cases b with
      | none =>
        rw [e2]
        exact br_t (by decide) (yes (boV_none hb))
      | some c =>
        obtain ⟨s1, s2⟩ := hbs c rfl
        have hc := (best_lt hb).1
        have hiff := boV_some (g := nI g) hb
        subst s1 s2 e2
        refine br_f (nI_pos (by omega)) (br_c (fun d => yes (hiff.mpr ?_)) (fun d => br_c (fun d2 => br_c (fun d3 => Lt_eq (nI_1 _) (no fun hv => ?_)) (fun d3 => yes (hiff.mpr ?_))) (fun d2 => Lt_eq (nI_1 _) (no fun hv => ?_))))
        · simp [ahd, d]
        · have := hiff.mp hv
          simp only [ahd, d, d2, decide_false, Bool.false_or, decide_true, Bool.true_and, decide_eq_true_eq] at this
          rw [tru, if_pos (by simpa using this)] at d3
          exact absurd d3 (by decide)
        · by_cases e : r (14 + o) < r (14 + c)
          · simp [ahd, d2, e]
          · rw [tru, if_neg (by simpa using e)] at d3
            exact absurd rfl d3
        · have := hiff.mp hv
          simp [ahd, d, d2] at this
    · intro k h1 hI
      obtain ⟨i1, i2⟩ := hI
      unfold FX0_leastGrave_101
      exact br_t (nI_le (a := 100) (Nat.le_refl _) (by decide)) (hq _ _ i1 (Or.inr ⟨i2, rfl⟩))
  cases hb : best w r (fun c => decide (c ≠ o) && isS r 0 c) w.1 with
  | none =>
    refine br_f (by decide) ?_
    unfold KX0_leastGrave_65
    exact br_t (by decide) (loop h4 none 0 _ 1 g4 hb rfl (fun c hc => by cases hc))
  | some b =>
    have hbl := (best_lt hb).1
    rw [show tI (some b) = nI b from rfl]
    rw [show ix (nI b) = b from nI_clamp (by omega)]
    refine br_t (nI_pos' (by omega)) ⟨vp_in_nI (by omega) (by omega), ?_⟩
    rw [(hw.sc g4).2.1 0 (by omega) b hbl]
    refine cs_orderOf hW (hw.sc g4) (hr.sc g4) hbl (by omega) fun h5 f5 => ?_
    have g5 : Fr SC h h5 := g4.tr (f5.mono SC_CE34)
    unfold KX0_leastGrave_65
    rw [show ix (nI b) = b from nI_clamp (by omega), show ix (nI o) = o from nI_clamp (by omega), (hr.sc g5).2.1 b hbl, (hr.sc g5).2.1 o ho]
    refine br_f (nI_pos (by omega)) ⟨vp_in_nI (by omega) (by omega), vp_in_nI (by omega) (by omega), br_c (fun d => loop h5 (some b) _ _ 0 g5 hb rfl (fun c hc => ?_)) (fun d => loop h5 (some b) _ _ 1 g5 hb rfl (fun c hc => ?_))⟩
    · cases hc
      refine ⟨rfl, ?_⟩
      rw [tru, if_neg (by simpa using d)]
    · cases hc
      refine ⟨rfl, ?_⟩
      rw [tru, if_pos (by simpa using d)]
theorem op_boast {B : Nat} (p : Int32) : OK B (MX11_boast p) (MX12_boast p) := OK.ask fun h w r c _ => by
  obtain ⟨hW, hP, hw, hrw, hr, hn⟩ := c
  have hn7 := hW.1
  refine ⟨fun x => (∃ o, o < w.1 ∧ p = nI o ∧ r o = 0 ∧ boX w r o x) ∨ (¬ wtg w r p ∧ x = -1), fun Q hq => ?_, fun h1 f1 x hx Q hq => ?_⟩
  · unfold MX11_boast
    refine cs_isWaiting hn7 hw hr (fun ⟨o, ho, e, h0⟩ => ?_) (fun z => br_t rfl (hq _ h (Or.inr ⟨z, rfl⟩) Fr.rf))
    subst e
    exact br_f (by decide) (cs_leastGrave hW hw hr ho h0 fun x h2 f2 hb => hq x h2 (Or.inl ⟨o, ho, rfl, h0, hb⟩) f2)
  · have hn1 := hn.sc f1
    have hw1 := hrw.sc hn7 f1
    unfold MX12_boast
    refine rs_isWaiting hn7 hw1 hn1 (fun z => ?_) (fun z => ?_)
    · rcases hx with ⟨o, ho, e, h0, hb⟩ | ⟨hx, _⟩
      · subst e
        refine br_f (by decide) (rs_load hn1 fun h2 f2 a2 => ?_)
        have g2 : Fr SR h1 h2 := f2.mono fun q k p => by unfold SR; omega
        refine lo2c1 100 (by omega) (fun g h3 => Fr SR h1 h3 ∧ Air h3 r ∧ ∀ g', g' < g → ¬ boV w r o (nI g')) ?_ ?_ 0 (Nat.zero_le _) _ ⟨g2, a2, fun g' hg => absurd hg (Nat.not_lt_zero _)⟩
        · intro k g h3 hg hI hk
          obtain ⟨i1, i2, i3⟩ := hI
          have hw3 := hw1.sr hn7 i1
          unfold FX12_boast_16
          refine br_f (by rw [show (99 : Int32) = nI 99 from rfl, nI_lt2 (by omega) (by omega)]; omega) ?_
          refine rs_worked (f := 0) hW hw3 i2 (by omega) ho (fun _ => rfl) (fun e => absurd e (by decide)) fun h4 f4 => ?_
          have g4 := i1.tr (f4.mono SE_SR)
          have a4 := i2.se f4
          have ex : ∀ (x4 : Int32) h5, Fr SR h1 h5 → Air h5 r → (x4 = 1 → boV w r o (nI g)) → (x4 = 0 → ¬ boV w r o (nI g)) → (x4 = 0 ∨ x4 = 1) → KX12_boast_97 (nI o) (nI g) x4 h5 Q k := by
            intro x4 h5 g5 a5 e1 e0 e
            unfold KX12_boast_97
            rcases e with rfl | rfl
            · refine br_t rfl (Lt_eq (nI_1 _) (hk _ ⟨g5, a5, fun g' hg' => ?_⟩))
              by_cases e : g' = g
              · rw [e]; exact e0 rfl
              · exact i3 g' (by omega)
            · refine br_f (by decide) ?_
              rcases hb with ⟨g', b1, b2, b3, b4⟩ | ⟨b1, _⟩
              · have : g' = g := by
                  rcases Nat.lt_trichotomy g' g with c | c | c
                  · exact absurd b2 (i3 g' c)
                  · exact c
                  · exact absurd (e1 rfl) (b3 g c)
                subst this
                rw [← b4]
                exact hq h5 g5
              · exact absurd (e1 rfl) (b1 g hg)
          refine lo3c2 w.1 (by omega) (fun j x4 h5 => Fr SR h1 h5 ∧ Air h5 r ∧ ((x4 = 1 ∧ ∀ c, c < j → boC w r o (nI g) c = true) ∨ (x4 = 0 ∧ ¬ boV w r o (nI g)))) ?_ ?_ 0 (Nat.zero_le _) _ _ ⟨g4, a4, Or.inl ⟨rfl, fun c hc => absurd hc (Nat.not_lt_zero _)⟩⟩
          · intro k2 j x4 h5 hj hI hk2
            obtain ⟨j1, j2, j3⟩ := hI
            have hw5 := hw1.sr hn7 j1
            unfold FX12_boast_37
            rw [hw5.1, show ix (nI j) = j from nI_clamp (by omega), j2 j (by omega)]
            refine br_f (nI_ge hj (by omega)) ?_
            rcases j3 with ⟨rfl, j3⟩ | ⟨rfl, j3⟩
            · have next : ∀ h6, Fr SR h1 h6 → Air h6 r → boC w r o (nI g) j = true → k2 1 (nI (j + 1)) h6 := fun h6 f6 a6 hc => hk2 _ _ ⟨f6, a6, Or.inl ⟨rfl, fun c hc2 => by
                by_cases e : c = j
                · rw [e]; exact hc
                · exact j3 c (by omega)⟩⟩
              refine br_f (by decide) (br_c (fun c => Lt_eq (nI_1 _) (next _ j1 j2 ?_)) (fun c => ⟨vp_in_nI (by omega) (by omega), br_c (fun d => rs_rankOf hW hw5 j2 hj fun h6 f6 => ?_) (fun d => Lt_eq (nI_1 _) (next _ j1 j2 ?_))⟩))
              · have := (nI_eq (by omega) (by omega)).mp c
                simp [boC, this]
              · have g6 := j1.tr (f6.mono SE_SR)
                have a6 := j2.se f6
                have hne : j ≠ o := fun e => c (by rw [e])
                refine rs_isAhead a6 (by omega) (by omega) ?_
                show ((tru (ahd r o (ordV w r o (nI g)) j (rnk w r j))) = 0 → _) ∧ (¬ (tru (ahd r o (ordV w r o (nI g)) j (rnk w r j))) = 0 → _)
                cases ha : ahd r o (ordV w r o (nI g)) j (rnk w r j) with
                | true => exact br_f (by decide) (Lt_eq (nI_1 _) (next _ g6 a6 (by simp [boC, ha])))
                | false =>
                  refine br_t rfl (Lt_eq (nI_1 _) (hk2 _ _ ⟨g6, a6, Or.inr ⟨rfl, fun hv => ?_⟩⟩))
                  have := hv j hj
                  simp [boC, ha, hne, d] at this
              · simp [boC, d]
            · exact br_t rfl (ex 0 h5 j1 j2 (fun e => absurd e (by decide)) (fun _ => j3) (Or.inl rfl))
          · intro k2 x4 h5 hI
            obtain ⟨j1, j2, j3⟩ := hI
            have hw5 := hw1.sr hn7 j1
            unfold FX12_boast_37
            rw [hw5.1]
            refine br_t (nI_le (Nat.le_refl _) (by omega)) ?_
            rcases j3 with ⟨rfl, j3⟩ | ⟨rfl, j3⟩
            · exact ex 1 h5 j1 j2 (fun _ => j3) (fun e => absurd e (by decide)) (Or.inr rfl)
            · exact ex 0 h5 j1 j2 (fun e => absurd e (by decide)) (fun _ => j3) (Or.inl rfl)
        · intro k h3 hI
          obtain ⟨i1, i2, i3⟩ := hI
          unfold FX12_boast_16
          refine br_t (by decide) ?_
          rcases hb with ⟨g', b1, b2, _, _⟩ | ⟨_, b2⟩
          · exact absurd b2 (i3 g' b1)
          · rw [← b2]
            exact hq h3 i1
      · exact absurd z hx
    · rcases hx with ⟨o, ho, e, h0, _⟩ | ⟨_, hx⟩
      · exact absurd ⟨o, ho, e, h0⟩ z
      · subst hx
        exact br_t rfl (hq h1 Fr.rf)
