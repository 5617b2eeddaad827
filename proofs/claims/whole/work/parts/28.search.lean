-- ===== the search for the earliest dusk: pure =====
def solM (g : Nat → Int32 × List Nat) (p : Nat → Bool) : Nat → Option (Int32 × List Nat)
  | 0 => none
  | j + 1 => if p j = true then (match solM g p j with
      | none => some ((g j).1, j :: (g j).2)
      | some x => if (g j).1 < x.1 then some ((g j).1, j :: (g j).2) else some x) else solM g p j
def sol (w : ob_W) : Nat → ob_P → Int32 × List Nat
  | 0, r => (r 21, [])
  | f + 1, r => (solM (fun o => sol w f (her w r o 1)) (isS r 0) w.1).getD (r 21, [])
def upS (a : Int32 × List Nat) (path : List Nat) (x : Int32 × List Nat) : Int32 × List Nat := if x.1 < a.1 then (x.1, path ++ x.2) else a
def updO (a : Int32 × List Nat) (path : List Nat) (x : Option (Int32 × List Nat)) : Int32 × List Nat := match x with
  | none => a
  | some x => upS a path x
theorem upS_t {a : Int32 × List Nat} {path : List Nat} {x : Int32 × List Nat} (h : x.1 < a.1) : upS a path x = (x.1, path ++ x.2) := if_pos h
theorem upS_f {a : Int32 × List Nat} {path : List Nat} {x : Int32 × List Nat} (h : ¬ x.1 < a.1) : upS a path x = a := if_neg h
theorem upS_s {g : Nat → Int32 × List Nat} {p : Nat → Bool} {a : Int32 × List Nat} {path : List Nat} {j : Nat} (h : p j = true) : upS (updO a path (solM g p j)) (path ++ [j]) (g j) = updO a path (solM g p (j + 1)) := by
  have e0 : upS a (path ++ [j]) (g j) = upS a path ((g j).1, j :: (g j).2) := by
    by_cases c : (g j).1 < a.1
    · rw [upS_t c, upS_t (x := ((g j).1, j :: (g j).2)) c]; simp
    · rw [upS_f c, upS_f (x := ((g j).1, j :: (g j).2)) c]
  rw [solM, if_pos h]
  cases hs : solM g p j with
  | none => exact e0
  | some x =>
    show upS (upS a path x) (path ++ [j]) (g j) = updO a path (if (g j).1 < x.1 then some ((g j).1, j :: (g j).2) else some x)
    by_cases c1 : (g j).1 < x.1
    · rw [if_pos c1]
      show _ = upS a path ((g j).1, j :: (g j).2)
      by_cases c2 : x.1 < a.1
      · rw [upS_t c2, upS_t (a := (x.1, path ++ x.2)) c1, upS_t (x := ((g j).1, j :: (g j).2)) (Int32.lt_trans c1 c2)]
        simp
      · rw [upS_f c2, e0]
    · rw [if_neg c1]
      show _ = upS a path x
      by_cases c2 : x.1 < a.1
      · rw [upS_t c2, upS_f (a := (x.1, path ++ x.2)) c1]
      · rw [upS_f c2, upS_f]
        simp only [Int32.lt_iff_toInt_lt] at *
        omega
theorem solM_no {g : Nat → Int32 × List Nat} {p : Nat → Bool} {j : Nat} (h : p j = false) : solM g p (j + 1) = solM g p j := by rw [solM, if_neg (by rw [h]; decide)]
theorem solM_none {g : Nat → Int32 × List Nat} {p : Nat → Bool} : ∀ {j}, (∀ k, k < j → p k = false) → solM g p j = none
  | 0, _ => rfl
  | j + 1, h => by rw [solM_no (h j (by omega)), solM_none (fun k hk => h k (by omega))]
theorem solM_some {g : Nat → Int32 × List Nat} {p : Nat → Bool} : ∀ {j k}, k < j → p k = true → ∃ x, solM g p j = some x
  | 0, k, h, _ => absurd h (Nat.not_lt_zero _)
  | j + 1, k, h, hp => by
    rw [solM]
    by_cases c : p j = true
    · rw [if_pos c]
      cases solM g p j with
      | none => exact ⟨_, rfl⟩
      | some x =>
        simp only
        split
        · exact ⟨_, rfl⟩
        · exact ⟨_, rfl⟩
    · rw [if_neg c]
      refine solM_some (k := k) ?_ hp
      by_cases e : k = j
      · subst e; exact absurd hp c
      · omega
theorem solM_all {g : Nat → Int32 × List Nat} {p : Nat → Bool} {P : Int32 → Prop} : ∀ {j}, (∀ k, k < j → p k = true → P (g k).1) → ∀ x, solM g p j = some x → P x.1
  | 0, _, x, h => by cases h
  | j + 1, hp, x, h => by
    have ih := solM_all (g := g) (p := p) (P := P) (j := j) (fun k hk => hp k (by omega))
    rw [solM] at h
    by_cases c : p j = true
    · rw [if_pos c] at h
      cases hs : solM g p j with
      | none =>
        rw [hs] at h
        simp only [Option.some.injEq] at h
        rw [← h]
        exact hp j (by omega) c
      | some y =>
        rw [hs] at h
        simp only at h
        by_cases c2 : (g j).1 < y.1
        · rw [if_pos c2] at h
          simp only [Option.some.injEq] at h
          rw [← h]
          exact hp j (by omega) c
        · rw [if_neg c2] at h
          simp only [Option.some.injEq] at h
          rw [← h]
          exact ih y hs
    · rw [if_neg c] at h
      exact ih x h
theorem solM_cg {g g' : Nat → Int32 × List Nat} {p p' : Nat → Bool} : ∀ {j}, (∀ k, k < j → p k = p' k) → (∀ k, k < j → p k = true → g k = g' k) → solM g p j = solM g' p' j
  | 0, _, _ => rfl
  | j + 1, h1, h2 => by
    have ih := solM_cg (g := g) (g' := g') (p := p) (p' := p') (j := j) (fun k hk => h1 k (by omega)) (fun k hk => h2 k (by omega))
    rw [solM, solM, ← ih, ← h1 j (by omega)]
    by_cases c : p j = true
    · rw [if_pos c, if_pos c, ← h2 j (by omega) c]
    · rw [if_neg c, if_neg c]
theorem sol_leaf {w : ob_W} {r : ob_P} (h : ∀ k, k < w.1 → isS r 0 k = false) : ∀ f, sol w f r = (r 21, [])
  | 0 => rfl
  | f + 1 => by rw [sol, solM_none h]; rfl
theorem sol_min {w : ob_W} (hW : WFW w) : ∀ {f : Nat} {r : ob_P} {m : Nat}, r 21 = nI m → ∃ m', m ≤ m' ∧ m' ≤ m + 60 * f ∧ (sol w f r).1 = nI m'
  | 0, r, m, h => ⟨m, Nat.le_refl _, by omega, h⟩
  | f + 1, r, m, h => by
    rw [sol]
    cases hs : solM (fun o => sol w f (her w r o 1)) (isS r 0) w.1 with
    | none => exact ⟨m, Nat.le_refl _, by omega, h⟩
    | some x =>
      refine solM_all (P := fun v => ∃ m', m ≤ m' ∧ m' ≤ m + 60 * (f + 1) ∧ v = nI m') (fun k hk hp => ?_) x hs
      obtain ⟨d, d1, d2, d3⟩ := min_60 hW hk
      obtain ⟨m', a, b, c⟩ := sol_min hW (f := f) (r := her w r k 1) (m := m + d) (by rw [her_21 hW.1 hk, h, d3, nI_add])
      exact ⟨m', by omega, by omega, c⟩
/-- alike for all that may come -/
def Eqv (w : ob_W) (r s : ob_P) : Prop := r 21 = s 21 ∧ ∀ k, k < w.1 → (r k = 0 ↔ s k = 0) ∧ (r k = 6 ↔ s k = 6) ∧ (r k = 0 → r (7 + k) = s (7 + k))
theorem lev_06 {w : ob_W} {r : ob_P} {k : Nat} (hk : k < w.1) : (lev w r k = 0 ↔ (r k = 0 ∧ lvs w r k = false)) ∧ (lev w r k = 6 ↔ r k = 6) := by
  unfold lev
  cases hl : lvs w r k with
  | true =>
    rw [if_pos ⟨hk, rfl⟩]
    have h0 : r k = 0 := by
      unfold lvs at hl
      rw [Bool.and_eq_true] at hl
      simpa [isS] using hl.1
    rw [h0]
    exact ⟨⟨fun h => absurd h (by decide), fun h => absurd h.2 (by decide)⟩, ⟨fun h => absurd h (by decide), fun h => absurd h (by decide)⟩⟩
  | false =>
    rw [if_neg (by simp)]
    simp
/-- what one heard makes of another, before who leaves -/
theorem her3_at {w : ob_W} {r : ob_P} {o k : Nat} (hn7 : w.1 ≤ 7) (ho : o < w.1) (hk : k < w.1) (h0 : r o = 0) :
    (her3 w (her2 w (her1 w r o 1) o) o k = 0 ↔ (k ≠ o ∧ ((r k = 0 ∧ bitI (wv w 4 o) k = false) ∨ (r k = 6 ∧ bitI (wv w 5 o) k = true)))) ∧
    (her3 w (her2 w (her1 w r o 1) o) o k = 6 ↔ (k ≠ o ∧ r k = 6 ∧ bitI (wv w 5 o) k = false)) ∧
    (her3 w (her2 w (her1 w r o 1) o) o (7 + k) = if k ≠ o ∧ r k = 6 ∧ bitI (wv w 5 o) k = true then r 21 + wv w 1 o else r (7 + k)) ∧
    (her3 w (her2 w (her1 w r o 1) o) o k = 1 ↔ (k = o ∨ r k = 1)) := by
  have e1 : her1 w r o 1 k = if k = o then 1 else r k := by
    unfold her1 pu
    by_cases e : k = o
    · rw [if_pos e, if_pos e]
    · rw [if_neg e, if_neg e, if_neg (by omega)]
  have e17 : her1 w r o 1 (7 + k) = r (7 + k) := by
    unfold her1 pu
    rw [if_neg (by omega), if_neg (by omega)]
  have e121 : her1 w r o 1 21 = r 21 + wv w 1 o := by
    unfold her1 pu
    rw [if_neg (by omega), if_pos rfl]
  have e2 : her2 w (her1 w r o 1) o k = if k ≠ o ∧ bitI (wv w 4 o) k = true ∧ r k = 0 then 3 else if k = o then 1 else r k := by
    unfold her2
    rw [e1]
    by_cases e : k = o
    · subst e
      rw [if_pos rfl, if_neg (by simp), if_neg (by simp)]
    · rw [if_neg e]
      simp [e, hk]
  have e27 : her2 w (her1 w r o 1) o (7 + k) = r (7 + k) := by
    unfold her2
    rw [if_neg (by omega), e17]
  have e221 : her2 w (her1 w r o 1) o 21 = r 21 + wv w 1 o := by
    unfold her2
    rw [if_neg (by omega), e121]
  have eb : brg w (her2 w (her1 w r o 1) o) o k = (bitI (wv w 5 o) k && decide (k ≠ o ∧ r k = 6)) := by
    unfold brg isS
    rw [e2]
    congr 1
    by_cases e : k = o
    · subst e
      simp
    · by_cases e6 : r k = 6
      · simp [e, e6]
      · by_cases c : k ≠ o ∧ bitI (wv w 4 o) k = true ∧ r k = 0
        · rw [if_pos c]; simp [e, e6]
        · rw [if_neg c, if_neg e]; simp [e, e6]
  have e3 : her3 w (her2 w (her1 w r o 1) o) o k = if k ≠ o ∧ r k = 6 ∧ bitI (wv w 5 o) k = true then 0 else if k ≠ o ∧ bitI (wv w 4 o) k = true ∧ r k = 0 then 3 else if k = o then 1 else r k := by
    unfold her3
    rw [eb, e2]
    by_cases c : k ≠ o ∧ r k = 6 ∧ bitI (wv w 5 o) k = true
    · rw [if_pos ⟨hk, by simp [c.1, c.2.1, c.2.2]⟩, if_pos c]
    · rw [if_neg c, if_neg (by
        rintro ⟨_, h⟩
        rw [Bool.and_eq_true, decide_eq_true_eq] at h
        exact c ⟨h.2.1, h.2.2, h.1⟩), if_neg (by omega)]
  have e37 : her3 w (her2 w (her1 w r o 1) o) o (7 + k) = if k ≠ o ∧ r k = 6 ∧ bitI (wv w 5 o) k = true then r 21 + wv w 1 o else r (7 + k) := by
    unfold her3
    rw [if_neg (by omega), Nat.add_sub_cancel_left, eb, e27, e221]
    by_cases c : k ≠ o ∧ r k = 6 ∧ bitI (wv w 5 o) k = true
    · rw [if_pos c, if_pos ⟨by omega, by omega, by simp [c.1, c.2.1, c.2.2]⟩]
    · rw [if_neg c, if_neg (by
        rintro ⟨_, _, h⟩
        rw [Bool.and_eq_true, decide_eq_true_eq] at h
        exact c ⟨h.2.1, h.2.2, h.1⟩)]
  refine ⟨?_, ?_, e37, ?_⟩
  · rw [e3]
    by_cases e : k = o
    · subst e; simp
    · by_cases e6 : r k = 6
      · cases hb : bitI (wv w 5 o) k <;> simp [e, e6]
      · cases hb : bitI (wv w 4 o) k <;> by_cases e0 : r k = 0 <;> simp [e, e6, e0]
  · rw [e3]
    by_cases e : k = o
    · subst e; simp
    · by_cases e6 : r k = 6
      · cases hb : bitI (wv w 5 o) k <;> simp [e, e6]
      · cases hb : bitI (wv w 4 o) k <;> by_cases e0 : r k = 0 <;> simp [e, e6, e0]
  · rw [e3]
    by_cases e : k = o
    · subst e; simp
    · by_cases e6 : r k = 6
      · cases hb : bitI (wv w 5 o) k <;> simp [e, e6]
      · cases hb : bitI (wv w 4 o) k <;> by_cases e0 : r k = 0 <;> simp [e, e6, e0]
