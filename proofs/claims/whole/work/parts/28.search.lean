-- ===== the search for the earliest dusk: pure =====
def solM (g : Nat → Int32 × List Nat) (p : Nat → Bool) : Nat → Option (Int32 × List Nat)
  | 0 => none
  | j + 1 => if p j = true then (match solM g p j with
      | none => some ((g j).1, j :: (g j).2)
      | some x => if (g j).1 < x.1 then some ((g j).1, j :: (g j).2) else some x) else solM g p j
def sol (w : ob_W) : Nat → ob_P → Int32 × List Nat
  | 0, r => (r 21, [])
  | f + 1, r => (solM (fun o => sol w f (her w r o 1)) (isS r 0) w.1).getD (r 21, [])
def upS (a : Int32 × List Nat) (path : List Nat) (x : Int32 × List Nat) : Int32 × List Nat := if x.1 < a.1 then (x.1, path ++ x.2) else a
def updO (a : Int32 × List Nat) (path : List Nat) (x : Option (Int32 × List Nat)) : Int32 × List Nat := match x with
  | none => a
  | some x => upS a path x
theorem upS_t {a : Int32 × List Nat} {path : List Nat} {x : Int32 × List Nat} (h : x.1 < a.1) : upS a path x = (x.1, path ++ x.2) := if_pos h
theorem upS_f {a : Int32 × List Nat} {path : List Nat} {x : Int32 × List Nat} (h : ¬ x.1 < a.1) : upS a path x = a := if_neg h
theorem upS_s {g : Nat → Int32 × List Nat} {p : Nat → Bool} {a : Int32 × List Nat} {path : List Nat} {j : Nat} (h : p j = true) : upS (updO a path (solM g p j)) (path ++ [j]) (g j) = updO a path (solM g p (j + 1)) := by
  have e0 : upS a (path ++ [j]) (g j) = upS a path ((g j).1, j :: (g j).2) := by
    by_cases c : (g j).1 < a.1
    · rw [upS_t c, upS_t (x := ((g j).1, j :: (g j).2)) c]; simp
    · rw [upS_f c, upS_f (x := ((g j).1, j :: (g j).2)) c]
  rw [solM, if_pos h]
  cases hs : solM g p j with
  | none => exact e0
  | some x =>
    show upS (upS a path x) (path ++ [j]) (g j) = updO a path (if (g j).1 < x.1 then some ((g j).1, j :: (g j).2) else some x)
    by_cases c1 : (g j).1 < x.1
    · rw [if_pos c1]
      show _ = upS a path ((g j).1, j :: (g j).2)
      by_cases c2 : x.1 < a.1
      · rw [upS_t c2, upS_t (a := (x.1, path ++ x.2)) c1, upS_t (x := ((g j).1, j :: (g j).2)) (Int32.lt_trans c1 c2)]
        simp
      · rw [upS_f c2, e0]
    · rw [if_neg c1]
      show _ = upS a path x
      by_cases c2 : x.1 < a.1
      · rw [upS_t c2, upS_f (a := (x.1, path ++ x.2)) c1]
      · rw [upS_f c2, upS_f]
        simp only [Int32.lt_iff_toInt_lt] at *
        omega
theorem solM_no {g : Nat → Int32 × List Nat} {p : Nat → Bool} {j : Nat} (h : p j = false) : solM g p (j + 1) = solM g p j := by rw [solM, if_neg (by rw [h]; decide)]
theorem solM_none {g : Nat → Int32 × List Nat} {p : Nat → Bool} : ∀ {j}, (∀ k, k < j → p k = false) → solM g p j = none
  | 0, _ => rfl
  | j + 1, h => by rw [solM_no (h j (by omega)), solM_none (fun k hk => h k (by omega))]
theorem solM_some {g : Nat → Int32 × List Nat} {p : Nat → Bool} : ∀ {j k}, k < j → p k = true → ∃ x, solM g p j = some x
  | 0, k, h, _ => absurd h (Nat.not_lt_zero _)
  | j + 1, k, h, hp => by
    rw [solM]
    by_cases c : p j = true
    · rw [if_pos c]
      cases solM g p j with
      | none => exact ⟨_, rfl⟩
      | some x =>
        simp only
        split
        · exact ⟨_, rfl⟩
        · exact ⟨_, rfl⟩
    · rw [if_neg c]
      refine solM_some (k := k) ?_ hp
      by_cases e : k = j
      · subst e; exact absurd hp c
      · omega
theorem solM_all {g : Nat → Int32 × List Nat} {p : Nat → Bool} {P : Int32 → Prop} : ∀ {j}, (∀ k, k < j → p k = true → P (g k).1) → ∀ x, solM g p j = some x → P x.1
  | 0, _, x, h => by cases h
  | j + 1, hp, x, h => by
    have ih := solM_all (g := g) (p := p) (P := P) (j := j) (fun k hk => hp k (by omega))
    rw [solM] at h
    by_cases c : p j = true
    · rw [if_pos c] at h
      cases hs : solM g p j with
      | none =>
        rw [hs] at h
        simp only [Option.some.injEq] at h
        rw [← h]
        exact hp j (by omega) c
      | some y =>
        rw [hs] at h
        simp only at h
        by_cases c2 : (g j).1 < y.1
        · rw [if_pos c2] at h
          simp only [Option.some.injEq] at h
          rw [← h]
          exact hp j (by omega) c
        · rw [if_neg c2] at h
          simp only [Option.some.injEq] at h
          rw [← h]
          exact ih y hs
    · rw [if_neg c] at h
      exact ih x h
theorem solM_cg {g g' : Nat → Int32 × List Nat} {p p' : Nat → Bool} : ∀ {j}, (∀ k, k < j → p k = p' k) → (∀ k, k < j → p k = true → g k = g' k) → solM g p j = solM g' p' j
  | 0, _, _ => rfl
  | j + 1, h1, h2 => by
    have ih := solM_cg (g := g) (g' := g') (p := p) (p' := p') (j := j) (fun k hk => h1 k (by omega)) (fun k hk => h2 k (by omega))
    rw [solM, solM, ← ih, ← h1 j (by omega)]
    by_cases c : p j = true
    · rw [if_pos c, if_pos c, ← h2 j (by omega) c]
    · rw [if_neg c, if_neg c]
theorem sol_leaf {w : ob_W} {r : ob_P} (h : ∀ k, k < w.1 → isS r 0 k = false) : ∀ f, sol w f r = (r 21, [])
  | 0 => rfl
  | f + 1 => by rw [sol, solM_none h]; rfl
theorem sol_min {w : ob_W} (hW : WFW w) : ∀ {f : Nat} {r : ob_P} {m : Nat}, r 21 = nI m → ∃ m', m ≤ m' ∧ m' ≤ m + 60 * f ∧ (sol w f r).1 = nI m'
  | 0, r, m, h => ⟨m, Nat.le_refl _, by omega, h⟩
  | f + 1, r, m, h => by
    rw [sol]
    cases hs : solM (fun o => sol w f (her w r o 1)) (isS r 0) w.1 with
    | none => exact ⟨m, Nat.le_refl _, by omega, h⟩
    | some x =>
      refine solM_all (P := fun v => ∃ m', m ≤ m' ∧ m' ≤ m + 60 * (f + 1) ∧ v = nI m') (fun k hk hp => ?_) x hs
      obtain ⟨d, d1, d2, d3⟩ := min_60 hW hk
      obtain ⟨m', a, b, c⟩ := sol_min hW (f := f) (r := her w r k 1) (m := m + d) (by rw [her_21 hW.1 hk, h, d3, nI_add])
      exact ⟨m', by omega, by omega, c⟩
/-- alike for all that may come -/
def Eqv (w : ob_W) (r s : ob_P) : Prop := r 21 = s 21 ∧ ∀ k, k < w.1 → (r k = 0 ↔ s k = 0) ∧ (r k = 6 ↔ s k = 6) ∧ (r k = 0 → r (7 + k) = s (7 + k))
theorem lev_06 {w : ob_W} {r : ob_P} {k : Nat} (hk : k < w.1) : (lev w r k = 0 ↔ (r k = 0 ∧ lvs w r k = false)) ∧ (lev w r k = 6 ↔ r k = 6) := by
  unfold lev
  cases hl : lvs w r k with
  | true =>
    rw [if_pos ⟨hk, rfl⟩]
    have h0 : r k = 0 := by
      unfold lvs at hl
      rw [Bool.and_eq_true] at hl
      simpa [isS] using hl.1
    rw [h0]
    exact ⟨⟨fun h => absurd h (by decide), fun h => absurd h.2 (by decide)⟩, ⟨fun h => absurd h (by decide), fun h => absurd h (by decide)⟩⟩
  | false =>
    rw [if_neg (by simp)]
    simp
/-- what one heard makes of another, before who leaves -/
theorem her3_at {w : ob_W} {r : ob_P} {o k : Nat} (hn7 : w.1 ≤ 7) (ho : o < w.1) (hk : k < w.1) (h0 : r o = 0) :
    (her3 w (her2 w (her1 w r o 1) o) o k = 0 ↔ (k ≠ o ∧ ((r k = 0 ∧ bitI (wv w 4 o) k = false) ∨ (r k = 6 ∧ bitI (wv w 5 o) k = true)))) ∧
    (her3 w (her2 w (her1 w r o 1) o) o k = 6 ↔ (k ≠ o ∧ r k = 6 ∧ bitI (wv w 5 o) k = false)) ∧
    (her3 w (her2 w (her1 w r o 1) o) o (7 + k) = if k ≠ o ∧ r k = 6 ∧ bitI (wv w 5 o) k = true then r 21 + wv w 1 o else r (7 + k)) ∧
    (her3 w (her2 w (her1 w r o 1) o) o k = 1 ↔ (k = o ∨ r k = 1)) := by
  have e1 : her1 w r o 1 k = if k = o then 1 else r k := by
    unfold her1 pu
    by_cases e : k = o
    · rw [if_pos e, if_pos e]
    · rw [if_neg e, if_neg e, if_neg (by omega)]
  have e17 : her1 w r o 1 (7 + k) = r (7 + k) := by
    unfold her1 pu
    rw [if_neg (by omega), if_neg (by omega)]
  have e121 : her1 w r o 1 21 = r 21 + wv w 1 o := by
    unfold her1 pu
    rw [if_neg (by omega), if_pos rfl]
  have e2 : her2 w (her1 w r o 1) o k = if k ≠ o ∧ bitI (wv w 4 o) k = true ∧ r k = 0 then 3 else if k = o then 1 else r k := by
    unfold her2
    rw [e1]
    by_cases e : k = o
    · subst e
      rw [if_pos rfl, if_neg (by simp), if_neg (by simp)]
    · rw [if_neg e]
      simp [e, hk]
  have e27 : her2 w (her1 w r o 1) o (7 + k) = r (7 + k) := by
    unfold her2
    rw [if_neg (by omega), e17]
  have e221 : her2 w (her1 w r o 1) o 21 = r 21 + wv w 1 o := by
    unfold her2
    rw [if_neg (by omega), e121]
  have eb : brg w (her2 w (her1 w r o 1) o) o k = (bitI (wv w 5 o) k && decide (k ≠ o ∧ r k = 6)) := by
    unfold brg isS
    rw [e2]
    congr 1
    by_cases e : k = o
    · subst e
      simp
    · by_cases e6 : r k = 6
      · simp [e, e6]
      · by_cases c : k ≠ o ∧ bitI (wv w 4 o) k = true ∧ r k = 0
        · rw [if_pos c]; simp [e, e6]
        · rw [if_neg c, if_neg e]; simp [e, e6]
  have e3 : her3 w (her2 w (her1 w r o 1) o) o k = if k ≠ o ∧ r k = 6 ∧ bitI (wv w 5 o) k = true then 0 else if k ≠ o ∧ bitI (wv w 4 o) k = true ∧ r k = 0 then 3 else if k = o then 1 else r k := by
    unfold her3
    rw [eb, e2]
    by_cases c : k ≠ o ∧ r k = 6 ∧ bitI (wv w 5 o) k = true
    · rw [if_pos ⟨hk, by simp [c.1, c.2.1, c.2.2]⟩, if_pos c]
    · rw [if_neg c, if_neg (by
        rintro ⟨_, h⟩
        rw [Bool.and_eq_true, decide_eq_true_eq] at h
        exact c ⟨h.2.1, h.2.2, h.1⟩), if_neg (by omega)]
  have e37 : her3 w (her2 w (her1 w r o 1) o) o (7 + k) = if k ≠ o ∧ r k = 6 ∧ bitI (wv w 5 o) k = true then r 21 + wv w 1 o else r (7 + k) := by
    unfold her3
    rw [if_neg (by omega), Nat.add_sub_cancel_left, eb, e27, e221]
    by_cases c : k ≠ o ∧ r k = 6 ∧ bitI (wv w 5 o) k = true
    · rw [if_pos c, if_pos ⟨by omega, by omega, by simp [c.1, c.2.1, c.2.2]⟩]
    · rw [if_neg c, if_neg (by
        rintro ⟨_, _, h⟩
        rw [Bool.and_eq_true, decide_eq_true_eq] at h
        exact c ⟨h.2.1, h.2.2, h.1⟩)]
  refine ⟨?_, ?_, e37, ?_⟩
  · rw [e3]
    by_cases e : k = o
    · subst e; simp
    · by_cases e6 : r k = 6
      · cases hb : bitI (wv w 5 o) k <;> simp [e, e6]
      · cases hb : bitI (wv w 4 o) k <;> by_cases e0 : r k = 0 <;> simp [e, e6, e0]
  · rw [e3]
    by_cases e : k = o
    · subst e; simp
    · by_cases e6 : r k = 6
      · cases hb : bitI (wv w 5 o) k <;> simp [e, e6]
      · cases hb : bitI (wv w 4 o) k <;> by_cases e0 : r k = 0 <;> simp [e, e6, e0]
  · rw [e3]
    by_cases e : k = o
    · subst e; simp
    · by_cases e6 : r k = 6
      · cases hb : bitI (wv w 5 o) k <;> simp [e, e6]
      · cases hb : bitI (wv w 4 o) k <;> by_cases e0 : r k = 0 <;> simp [e, e6, e0]
theorem lvs_iff {w : ob_W} {r : ob_P} {k : Nat} : lvs w r k = true ↔ (r k = 0 ∧ wv w 2 k < r 21 - r (7 + k)) := by
  unfold lvs isS
  simp
theorem lev_hi {w : ob_W} {r : ob_P} {k : Nat} (hn7 : w.1 ≤ 7) (hk : 7 ≤ k) : lev w r k = r k := by
  unfold lev
  exact if_neg (by omega)
theorem her_at {w : ob_W} {r : ob_P} {o : Nat} : her w r o 1 = lev w (her3 w (her2 w (her1 w r o 1) o) o) := rfl
theorem her3_21 {w : ob_W} {r : ob_P} {o : Nat} (hn7 : w.1 ≤ 7) (ho : o < w.1) : her3 w (her2 w (her1 w r o 1) o) o 21 = r 21 + wv w 1 o := by
  have := her_21 (w := w) (r := r) (o := o) (s := 1) hn7 ho
  rw [her_at, lev_hi hn7 (by omega)] at this
  exact this
theorem Eqv.her {w : ob_W} {r s : ob_P} {o : Nat} (hn7 : w.1 ≤ 7) (a : Eqv w r s) (ho : o < w.1) (h0 : r o = 0) : Eqv w (her w r o 1) (her w s o 1) := by
  obtain ⟨a1, a2⟩ := a
  have h0' : s o = 0 := (a2 o ho).1.mp h0
  refine ⟨by rw [her_21 hn7 ho, her_21 hn7 ho, a1], fun k hk => ?_⟩
  obtain ⟨b1, b2, b3⟩ := a2 k hk
  obtain ⟨c1, c2, c3, c4⟩ := her3_at hn7 ho hk h0
  obtain ⟨d1, d2, d3, d4⟩ := her3_at hn7 ho hk h0'
  have e21 := her3_21 (r := r) hn7 ho
  have f21 := her3_21 (r := s) hn7 ho
  rw [her_at, her_at]
  generalize her3 w (her2 w (her1 w r o 1) o) o = R at *
  generalize her3 w (her2 w (her1 w s o 1) o) o = S at *
  have z0 : R k = 0 ↔ S k = 0 := by rw [c1, d1, b1, b2]
  have z6 : R k = 6 ↔ S k = 6 := by rw [c2, d2, b2]
  have z7 : R k = 0 → R (7 + k) = S (7 + k) := by
    intro z
    rw [c3, d3]
    have h1 := c1.mp z
    by_cases e : k ≠ o ∧ r k = 6 ∧ bitI (wv w 5 o) k = true
    · rw [if_pos e, if_pos ⟨e.1, b2.mp e.2.1, e.2.2⟩, a1]
    · rw [if_neg e, if_neg (fun z => e ⟨z.1, b2.mpr z.2.1, z.2.2⟩)]
      apply b3
      rcases h1.2 with h2 | h2
      · exact h2.1
      · exact absurd ⟨h1.1, h2.1, h2.2⟩ e
  have zl : lvs w R k = lvs w S k := by
    rw [Bool.eq_iff_iff, lvs_iff, lvs_iff, e21, f21, a1]
    constructor
    · rintro ⟨h1, h2⟩
      exact ⟨z0.mp h1, by rw [← z7 h1]; exact h2⟩
    · rintro ⟨h1, h2⟩
      have h3 := z0.mpr h1
      exact ⟨h3, by rw [z7 h3]; exact h2⟩
  refine ⟨?_, ?_, ?_⟩
  · rw [(lev_06 hk).1, (lev_06 hk).1, z0, zl]
  · rw [(lev_06 hk).2, (lev_06 hk).2, z6]
  · intro z
    rw [lev_hi hn7 (by omega), lev_hi hn7 (by omega)]
    exact z7 ((lev_06 hk).1.mp z).1
theorem sol_eqv {w : ob_W} (hn7 : w.1 ≤ 7) : ∀ {f : Nat} {r s : ob_P}, Eqv w r s → sol w f r = sol w f s
  | 0, r, s, a => by rw [sol, sol, a.1]
  | f + 1, r, s, a => by
    rw [sol, sol, a.1]
    congr 1
    apply solM_cg
    · intro k hk
      unfold isS
      rw [Bool.eq_iff_iff, decide_eq_true_eq, decide_eq_true_eq]
      exact (a.2 k hk).1
    · intro k hk hp
      exact sol_eqv hn7 (Eqv.her hn7 a hk (by simpa [isS] using hp))
/-- a room that comes of another by hearing -/
def Rch (w : ob_W) (a r : ob_P) : Prop :=
  r 21 = a 21 + su (fun k => if r k = 1 ∧ a k ≠ 1 then wv w 1 k else 0) w.1 ∧
  (∀ k, k < w.1 → (r k = 6 ↔ (a k = 6 ∧ ∀ o, o < w.1 → r o = 1 → a o ≠ 1 → bitI (wv w 5 o) k = false))) ∧
  (∀ k, k < w.1 → a k = 1 → r k = 1)
theorem Rch.rf {w : ob_W} {a : ob_P} : Rch w a a := by
  refine ⟨?_, fun k _ => ⟨fun h => ⟨h, fun o _ h1 h2 => absurd h1 h2⟩, fun h => h.1⟩, fun k _ h => h⟩
  rw [su_zero (fun k _ => if_neg (fun z => z.2 z.1))]
  simp
theorem su_one {f g : Nat → Int32} {o : Nat} {x : Int32} : ∀ {n}, o < n → (∀ k, k < n → k ≠ o → f k = g k) → f o = 0 → g o = x → su g n = su f n + x
  | 0, h, _, _, _ => absurd h (Nat.not_lt_zero _)
  | n + 1, h, hfg, h0, hx => by
    rw [su, su]
    by_cases e : o = n
    · subst e
      rw [su_congr (f := f) (g := g) (fun k hk => hfg k (by omega) (by omega)), h0, hx]
      simp
    · rw [su_one (f := f) (g := g) (by omega) (fun k hk => hfg k (by omega)) h0 hx, hfg n (by omega) (fun z => e z.symm)]
      rw [Int32.add_assoc, Int32.add_assoc, Int32.add_comm x]
theorem her_1 {w : ob_W} {r : ob_P} {o k : Nat} (hn7 : w.1 ≤ 7) (ho : o < w.1) (hk : k < w.1) (h0 : r o = 0) : her w r o 1 k = 1 ↔ (k = o ∨ r k = 1) := by
  obtain ⟨_, _, _, c4⟩ := her3_at hn7 ho hk h0
  rw [her_at]
  unfold lev
  cases hl : lvs w (her3 w (her2 w (her1 w r o 1) o) o) k with
  | true =>
    rw [if_pos ⟨hk, rfl⟩, ← c4]
    have := (lvs_iff.mp hl).1
    rw [this]
    exact ⟨fun h => absurd h (by decide), fun h => absurd h (by decide)⟩
  | false =>
    rw [if_neg (by simp)]
    exact c4
theorem Rch.her {w : ob_W} {a r : ob_P} {o : Nat} (hn7 : w.1 ≤ 7) (b : Rch w a r) (ho : o < w.1) (h0 : r o = 0) : Rch w a (her w r o 1) := by
  obtain ⟨b1, b2, b3⟩ := b
  have ha : a o ≠ 1 := fun e => by
    have := b3 o ho e
    rw [h0] at this
    exact absurd this (by decide)
  refine ⟨?_, fun k hk => ?_, fun k hk h => (her_1 hn7 ho hk h0).mpr (Or.inr (b3 k hk h))⟩
  · rw [her_21 hn7 ho, b1, Int32.add_assoc]
    congr 1
    refine (su_one (o := o) ho (fun k hk hne => ?_) ?_ ?_).symm
    · have := her_1 hn7 ho hk h0
      by_cases c : r k = 1 ∧ a k ≠ 1
      · rw [if_pos c, if_pos ⟨this.mpr (Or.inr c.1), c.2⟩]
      · rw [if_neg c, if_neg]
        rintro ⟨z1, z2⟩
        rcases this.mp z1 with z | z
        · exact hne z
        · exact c ⟨z, z2⟩
    · rw [if_neg]
      rintro ⟨z, _⟩
      rw [h0] at z
      exact absurd z (by decide)
    · rw [if_pos ⟨(her_1 hn7 ho ho h0).mpr (Or.inl rfl), ha⟩]
  · obtain ⟨_, c2, _, _⟩ := her3_at hn7 ho hk h0
    rw [her_at, (lev_06 hk).2, c2, b2 k hk]
    constructor
    · rintro ⟨z1, ⟨z2, z3⟩, z4⟩
      refine ⟨z2, fun o' ho' h1 h2 => ?_⟩
      rcases (her_1 hn7 ho ho' h0).mp h1 with e | e
      · rw [e]; exact z4
      · exact z3 o' ho' e h2
    · rintro ⟨z2, z3⟩
      refine ⟨?_, ⟨z2, fun o' ho' h1 h2 => z3 o' ho' ((her_1 hn7 ho ho' h0).mpr (Or.inr h1)) h2⟩, z3 o ho ((her_1 hn7 ho ho h0).mpr (Or.inl rfl)) ha⟩
      intro e
      subst e
      have := (b2 k hk).mpr ⟨z2, fun o' ho' h1 h2 => z3 o' ho' ((her_1 hn7 ho ho' h0).mpr (Or.inr h1)) h2⟩
      rw [h0] at this
      exact absurd this (by decide)
/-- a state is known by who is heard, who waits, and since when -/
theorem Rch.eqv {w : ob_W} {a r s : ob_P} (b : Rch w a r) (c : Rch w a s) (h1 : mkS w r 1 = mkS w s 1) (h0 : mkS w r 0 = mkS w s 0) (h7 : ∀ k, k < w.1 → r k = 0 → r (7 + k) = s (7 + k)) : Eqv w r s := by
  have mkb : ∀ (t : Int32) k, k < w.1 → mkS w r t = mkS w s t → (r k = t ↔ s k = t) := fun t k hk h => by
    have := congrArg (fun x : Nat => x.testBit k) h
    simp only [mk_bit, hk, decide_true, Bool.true_and, isS] at this
    rw [Bool.eq_iff_iff, decide_eq_true_eq, decide_eq_true_eq] at this
    exact this
  refine ⟨?_, fun k hk => ⟨mkb 0 k hk h0, ?_, h7 k hk⟩⟩
  · rw [b.1, c.1]
    congr 1
    apply su_congr
    intro k hk
    have := mkb 1 k hk h1
    by_cases e : r k = 1 ∧ a k ≠ 1
    · rw [if_pos e, if_pos ⟨this.mp e.1, e.2⟩]
    · rw [if_neg e, if_neg (fun z => e ⟨this.mpr z.1, z.2⟩)]
  · rw [b.2.1 k hk, c.2.1 k hk]
    constructor
    · rintro ⟨z1, z2⟩
      exact ⟨z1, fun o ho y1 y2 => z2 o ho ((mkb 1 o ho h1).mpr y1) y2⟩
    · rintro ⟨z1, z2⟩
      exact ⟨z1, fun o ho y1 y2 => z2 o ho ((mkb 1 o ho h1).mp y1) y2⟩
theorem her_ct1 {w : ob_W} {r : ob_P} {o : Nat} (hn7 : w.1 ≤ 7) (ho : o < w.1) (h0 : r o = 0) : cnt (isS (her w r o 1) 1) w.1 = cnt (isS r 1) w.1 + 1 := by
  have hh : ∀ k, k < w.1 → isS (her w r o 1) 1 k = (decide (k = o) || isS r 1 k) := fun k hk => by
    unfold isS
    rw [Bool.eq_iff_iff, decide_eq_true_eq, Bool.or_eq_true, decide_eq_true_eq, decide_eq_true_eq]
    exact her_1 hn7 ho hk h0
  have hgen : ∀ (p q : Nat → Bool) (n : Nat), o < n → (∀ k, k < n → q k = (decide (k = o) || p k)) → p o = false → cnt q n = cnt p n + 1 := by
    intro p q n
    induction n with
    | zero => intro h; exact absurd h (Nat.not_lt_zero _)
    | succ n ih =>
      intro h1 h2 h3
      rw [cnt, cnt, h2 n (by omega)]
      by_cases e : o = n
      · subst e
        have : cnt q o = cnt p o := cnt_congr fun k hk => by rw [h2 k (by omega)]; simp; omega
        rw [this, h3]
        simp
      · have := ih (by omega) (fun k hk => h2 k (by omega)) h3
        rw [this]
        have e' : ¬ n = o := fun z => e z.symm
        simp [e']
        omega
  refine hgen _ _ _ ho hh ?_
  unfold isS
  rw [h0]
  decide
