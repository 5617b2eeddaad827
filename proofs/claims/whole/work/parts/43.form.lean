-- ===== formulas: what the class reads, what the reference reads; pure =====
abbrev tx_S : Type := List tx_t
def hdT (S : tx_S) : tx_t := S.headD (0, 0, 0, [], 0)
abbrev kdT (S : tx_S) : Nat := (hdT S).1
/-- tokens up to the end, or to what is none -/
def Sok : tx_S → Prop
  | [] => False
  | t :: S => (t.1 = 3 → t.2.2.1 < 10000) ∧ (t.1 ≤ 1 ∨ Sok S)
/-- a fault at the first token -/
def badT {α : Type} (S : tx_S) (c : Nat) : Sum (Nat × Nat) α := .inl (if kdT S = 1 then 1 else c, (hdT S).2.1)
/-- tokens, units in this formula, units in all -/
abbrev tx_U : Type := tx_S × Nat × Nat
abbrev tx_R : Type := Sum (Nat × Nat) (List ob_S × tx_U)
/-- the level at which a kind joins two; 9: none -/
def lvO (k : Nat) : Nat := if k = 117 then 0 else if k = 118 then 1 else if k = 60 ∨ k = 61 ∨ k = 62 then 2 else if k = 43 ∨ k = 45 then 3 else if k = 37 ∨ k = 42 ∨ k = 47 then 4 else 9
def sgn (k : Nat) : Nat := if k = 118 then 38 else if k = 117 then 124 else k
def facK (k : Nat) : Bool := decide (100 ≤ k ∧ k ≤ 105)
def stpU (t : tx_t) : ob_S := if t.1 = 3 then (0, nI t.2.2.1) else (1, nI (t.1 - 100))
def pUnit (rp : Nat → Nat → tx_U → tx_R) (w : Nat) (u : tx_U) : tx_R :=
  if ¬ (kdT u.1 = 40 ∨ kdT u.1 = 3 ∨ facK (kdT u.1) = true) ∨ 30 ≤ u.2.1 ∨ 60 ≤ u.2.2 then badT u.1 2 else
  if kdT u.1 = 40 then
    if 6 < w then badT u.1 2 else
    match rp 0 (w + 1) (u.1.tail, u.2.1 + 1, u.2.2 + 1) with
    | .inl e => .inl e
    | .inr x => if kdT x.2.1 = 41 then .inr (x.1, (x.2.1.tail, x.2.2)) else badT x.2.1 2
  else .inr ([stpU (hdT u.1)], (u.1.tail, u.2.1 + 1, u.2.2 + 1))
def pLoop (rp : Nat → Nat → tx_U → tx_R) (l w : Nat) : Nat → List ob_S → tx_U → tx_R
  | 0, L, u => .inr (L, u)
  | n + 1, L, u => if lvO (kdT u.1) = l then
      match rp (l + 1) w (u.1.tail, u.2) with
      | .inl e => .inl e
      | .inr x => if l = 2 then .inr (L ++ x.1 ++ [(3, nI (sgn (kdT u.1)))], x.2) else pLoop rp l w n (L ++ x.1 ++ [(3, nI (sgn (kdT u.1)))]) x.2
    else .inr (L, u)
def pE : Nat → Nat → Nat → tx_U → tx_R
  | 0, _, _, u => badT u.1 2
  | F + 1, l, w, u =>
    if 5 ≤ l then pUnit (pE F) w u else
    if l = 2 ∧ kdT u.1 = 119 then
      if 6 < w then badT u.1 2 else
      match pE F 2 (w + 1) (u.1.tail, u.2) with
      | .inl e => .inl e
      | .inr x => .inr (x.1 ++ [(2, 0)], x.2)
    else match pE F (l + 1) w u with
      | .inl e => .inl e
      | .inr x => pLoop (pE F) l w 1600 x.1 x.2
-- the reference: a stack of signs, the bracket 20, the not 21
def tgh (c : Nat) : Nat := if c = 21 then 3 else if c = 38 then 2 else if c = 43 ∨ c = 45 then 5 else if c = 60 ∨ c = 61 ∨ c = 62 then 4 else if c = 124 then 1 else 6
def stpC (c : Nat) : ob_S := if c = 21 then (2, 0) else (3, nI c)
def clo (m : Nat) : List Nat → List ob_S → List Nat × List ob_S
  | [], out => ([], out)
  | c :: st, out => if c = 20 ∨ tgh c < m then (c :: st, out) else clo m st (out ++ [stpC c])
def dpS (st : List Nat) : Nat := st.countP (fun c => decide (c = 20 ∨ c = 21))
def hasB (st : List Nat) : Bool := decide (20 ∈ st)
def hasR : List Nat → Bool
  | [] => false
  | c :: st => if c = 20 then false else if 4 < tgh c then hasR st else decide (tgh c = 4)
def mayN : List Nat → Bool
  | [] => true
  | c :: _ => decide (c = 20 ∨ tgh c < 4)
abbrev tx_G : Type := List Nat × List ob_S × Nat × Nat
def go : tx_S → Bool → tx_G → tx_R
  | [], _, _ => .inl (0, 0)
  | t :: S, true, g =>
    if t.1 = 119 ∧ mayN g.1 = true then (if 6 < dpS g.1 then badT (t :: S) 2 else go S true (21 :: g.1, g.2)) else
    if t.1 = 40 then (if 30 ≤ g.2.2.1 ∨ 60 ≤ g.2.2.2 ∨ 6 < dpS g.1 then badT (t :: S) 2 else go S true (20 :: g.1, g.2.1, g.2.2.1 + 1, g.2.2.2 + 1)) else
    if ¬ (t.1 = 3 ∨ facK t.1 = true) ∨ 30 ≤ g.2.2.1 ∨ 60 ≤ g.2.2.2 then badT (t :: S) 2 else go S false (g.1, g.2.1 ++ [stpU t], g.2.2.1 + 1, g.2.2.2 + 1)
  | t :: S, false, g =>
    if t.1 = 41 ∧ hasB g.1 = true then go S false ((clo 0 g.1 g.2.1).1.tail, (clo 0 g.1 g.2.1).2, g.2.2) else
    if lvO t.1 ≠ 9 ∧ ¬ (lvO t.1 = 2 ∧ hasR g.1 = true) then go S true (sgn t.1 :: (clo (tgh (sgn t.1)) g.1 g.2.1).1, (clo (tgh (sgn t.1)) g.1 g.2.1).2, g.2.2) else
    if hasB g.1 = true then badT (t :: S) 2 else .inr ((clo 0 g.1 g.2.1).2, (t :: S, g.2.2))
-- ===== closing =====
theorem clo_clo {m m' : Nat} (h : m' ≤ m) : ∀ {st : List Nat} {out : List ob_S}, clo m' st out = clo m' (clo m st out).1 (clo m st out).2
  | [], out => rfl
  | c :: st, out => by
    by_cases c1 : c = 20 ∨ tgh c < m
    · have : clo m (c :: st) out = (c :: st, out) := by rw [clo, if_pos c1]
      rw [this]
    · have h1 : clo m (c :: st) out = clo m st (out ++ [stpC c]) := by rw [clo, if_neg c1]
      have h2 : clo m' (c :: st) out = clo m' st (out ++ [stpC c]) := by rw [clo, if_neg (by omega)]
      rw [h1, h2]
      exact clo_clo h
theorem clo_to {m m' : Nat} {st b : List Nat} {out x : List ob_S} (h : m' ≤ m) (e : clo m st out = (b, x)) : clo m' st out = clo m' b x := by
  rw [clo_clo h, e]
/-- nothing on top is closed -/
def Bas (m : Nat) (b : List Nat) : Prop := ∀ c, b.head? = some c → c = 20 ∨ tgh c < m
theorem Bas.clo {m : Nat} {b : List Nat} {out : List ob_S} (h : Bas m b) : clo m b out = (b, out) := by
  cases b with
  | nil => rfl
  | cons c st => rw [CObjectionsLaw_law_r6515_ce058c.clo, if_pos (h c rfl)]
theorem clo_in {m : Nat} : ∀ {st : List Nat} {out : List ob_S}, 20 ∈ st ↔ 20 ∈ (clo m st out).1
  | [], out => Iff.rfl
  | c :: st, out => by
    by_cases c1 : c = 20 ∨ tgh c < m
    · rw [clo, if_pos c1]
    · rw [clo, if_neg c1, ← clo_in (st := st), List.mem_cons]
      constructor
      · rintro (e | e)
        · exact absurd (Or.inl e.symm) c1
        · exact e
      · exact Or.inr
theorem clo_R {m : Nat} (h : 5 ≤ m) : ∀ {st : List Nat} {out : List ob_S}, hasR st = hasR (clo m st out).1
  | [], out => rfl
  | c :: st, out => by
    by_cases c1 : c = 20 ∨ tgh c < m
    · rw [clo, if_pos c1]
    · rw [clo, if_neg c1, ← clo_R h, hasR, if_neg (by omega), if_pos (by omega)]
theorem Bas.noR {b : List Nat} (h : Bas 4 b) : hasR b = false := by
  cases b with
  | nil => rfl
  | cons c st =>
    rw [hasR]
    by_cases c0 : c = 20
    · rw [if_pos c0]
    · have : tgh c < 4 := by
        rcases h c rfl with e | e
        · exact absurd e c0
        · exact e
      rw [if_neg c0, if_neg (by omega)]
      exact decide_eq_false (by omega)
theorem Bas.mono {m m' : Nat} {b : List Nat} (h : Bas m b) (hm : m ≤ m') : Bas m' b := fun c hc => by
  rcases h c hc with e | e
  · exact Or.inl e
  · exact Or.inr (by omega)
theorem Bas.may {b : List Nat} (h : Bas 4 b) : mayN b = true := by
  cases b with
  | nil => rfl
  | cons c st => rw [mayN]; exact decide_eq_true (h c rfl)
def tgL (l : Nat) : Nat := if l = 0 then 1 else if l = 1 then 2 else if l = 2 then 4 else if l = 3 then 5 else if l = 4 then 6 else 7
theorem lvO_tg {k l : Nat} (h : lvO k = l) (hl : l ≤ 4) : tgh (sgn k) = tgL l ∧ sgn k ≠ 20 ∧ sgn k ≠ 21 ∧ k ≠ 41 ∧ 1 < k ∧ k ≠ 3 ∧ (nI (sgn k) = 37 ∨ nI (sgn k) = 38 ∨ nI (sgn k) = 42 ∨ nI (sgn k) = 43 ∨ nI (sgn k) = 45 ∨ nI (sgn k) = 47 ∨ nI (sgn k) = 60 ∨ nI (sgn k) = 61 ∨ nI (sgn k) = 62 ∨ nI (sgn k) = 124) := by
  have hk : k = 117 ∨ k = 118 ∨ k = 60 ∨ k = 61 ∨ k = 62 ∨ k = 43 ∨ k = 45 ∨ k = 37 ∨ k = 42 ∨ k = 47 := by
    unfold lvO at h
    split at h
    · omega
    · split at h
      · omega
      · split at h
        · omega
        · split at h
          · omega
          · split at h
            · omega
            · omega
  subst h
  rcases hk with rfl | rfl | rfl | rfl | rfl | rfl | rfl | rfl | rfl | rfl <;> decide
/-- what stands open behind a part of level l that began over b -/
def Pnd (l : Nat) (b st : List Nat) (out' X : List ob_S) : Prop := if l = 2 then ∃ j Y, clo 4 st out' = (List.replicate j 21 ++ b, Y) ∧ Y ++ List.replicate j (2, 0) = X else clo (tgL l) st out' = (b, X)
/-- no sign can join on at these levels -/
def Ext (l : Nat) (S : tx_S) (st : List Nat) : Prop := ∀ l', l ≤ l' → l' ≤ 4 → lvO (kdT S) = l' → l' = 2 ∧ hasR st = true
theorem clo_nots {b : List Nat} : ∀ {j : Nat} {Y : List ob_S} {m : Nat}, m ≤ 3 → clo m (List.replicate j 21 ++ b) Y = clo m b (Y ++ List.replicate j (2, 0))
  | 0, Y, m, _ => by simp
  | j + 1, Y, m, hm => by
    rw [List.replicate_succ, List.cons_append, clo, if_neg (by rintro (h | h); exact absurd h (by decide); rw [show tgh 21 = 3 from rfl] at h; omega), clo_nots hm, List.replicate_succ]
    simp [stpC]
/-- .. a sign of a looser level closes all that -/
theorem Pnd.cl {l m : Nat} {b st : List Nat} {out' X : List ob_S} (h : Pnd l b st out' X) (hm : m ≤ tgL l) (hm2 : l = 2 → m ≤ 3) : clo m st out' = clo m b X := by
  unfold Pnd at h
  by_cases e : l = 2
  · rw [if_pos e] at h
    obtain ⟨j, Y, h1, h2⟩ := h
    have := hm2 e
    rw [clo_to (by omega) h1, clo_nots this, h2]
  · rw [if_neg e] at h
    exact clo_to hm h
theorem Sok.tail {S : tx_S} (h : Sok S) (hk : 1 < kdT S) : Sok S.tail := by
  cases S with
  | nil => exact h.elim
  | cons t S =>
    rcases h.2 with e | e
    · have hk : 1 < t.1 := hk
      omega
    · exact e
theorem Sok.ne {S : tx_S} (h : Sok S) : ∃ S', S = hdT S :: S' ∧ S.tail = S' := by
  cases S with
  | nil => exact h.elim
  | cons t S => exact ⟨S, rfl, rfl⟩
theorem len_tail {S : tx_S} (h : Sok S) : S.tail.length + 1 = S.length := by
  cases S with
  | nil => exact h.elim
  | cons t S => rfl
theorem dpS_c {c : Nat} {b : List Nat} (h : c ≠ 20) (h' : c ≠ 21) : dpS (c :: b) = dpS b := by
  unfold dpS
  rw [List.countP_cons_of_neg]
  simp [h, h']
theorem dpS_o {c : Nat} {b : List Nat} (h : c = 20 ∨ c = 21) : dpS (c :: b) = dpS b + 1 := by
  unfold dpS
  rw [List.countP_cons_of_pos]
  simpa using h
/-- what a part of a formula comes to: the class's reading is the reference's -/
def Same (l : Nat) (b : List Nat) (out : List ob_S) (u : tx_U) (r : tx_R) : Prop := match r with
  | .inl e => go u.1 true (b, out, u.2) = .inl e
  | .inr x => (∃ st out', go u.1 true (b, out, u.2) = go x.2.1 false (st, out', x.2.2) ∧ Pnd l b st out' (out ++ x.1) ∧ Ext l x.2.1 st) ∧ Sok x.2.1 ∧ x.2.1.length < u.1.length
/-- .. from where the first operand has been read -/
def Same2 (l : Nat) (b : List Nat) (out : List ob_S) (st : List Nat) (out' : List ob_S) (u : tx_U) (r : tx_R) : Prop := match r with
  | .inl e => go u.1 false (st, out', u.2) = .inl e
  | .inr x => (∃ st2 out2, go u.1 false (st, out', u.2) = go x.2.1 false (st2, out2, x.2.2) ∧ Pnd l b st2 out2 (out ++ x.1) ∧ Ext l x.2.1 st2) ∧ Sok x.2.1 ∧ x.2.1.length ≤ u.1.length
theorem go_sign {S : tx_S} {st : List Nat} {out : List ob_S} {g : Nat × Nat} {l : Nat} (hS : Sok S) (hk : lvO (kdT S) = l) (hl : l ≤ 4) (hr : l = 2 → hasR st = false) : go S false (st, out, g) = go S.tail true (sgn (kdT S) :: (clo (tgL l) st out).1, (clo (tgL l) st out).2, g) := by
  obtain ⟨S', e1, e2⟩ := hS.ne
  obtain ⟨t1, t2, t3, t4, t5, t6⟩ := lvO_tg hk hl
  rw [e2]
  generalize hdT S = t at *
  subst e1
  have hk' : lvO t.1 = l := hk
  rw [go, if_neg (fun z => t4 z.1), if_pos ⟨by omega, fun z => by have := hr (by omega); rw [this] at z; exact absurd z.2 (by decide)⟩]
  show go S' true (sgn t.1 :: (clo (tgh (sgn t.1)) st out).1, (clo (tgh (sgn t.1)) st out).2, g) = _
  rw [show tgh (sgn t.1) = tgL l from t1]
  rfl
theorem loop_same {rp : Nat → Nat → tx_U → tx_R} {l w : Nat} {b : List Nat} {out : List ob_S} (hl : l ≤ 4) (hl2 : l ≠ 2) (hB : Bas (tgL l) b) (hw : dpS b = w)
    (hrp : ∀ (b2 : List Nat) (out2 : List ob_S) (u : tx_U), Sok u.1 → u.1.length ≤ 1601 → Bas (tgL (l + 1)) b2 → dpS b2 = w → (3 ≤ l + 1 → mayN b2 = false) → Same (l + 1) b2 out2 u (rp (l + 1) w u)) :
    ∀ (n : Nat) (L : List ob_S) (u : tx_U) (st : List Nat) (out' : List ob_S), Sok u.1 → u.1.length ≤ n → n ≤ 1600 → clo (tgL l) st out' = (b, out ++ L) → Ext (l + 1) u.1 st → Same2 l b out st out' u (pLoop rp l w n L u)
  | 0, L, u, st, out', hS, hn, _, _, _ => by
    obtain ⟨S', e1, _⟩ := hS.ne
    rw [e1] at hn
    exact absurd hn (by simp)
  | n + 1, L, u, st, out', hS, hn, h1600, hc, hx => by
    rw [pLoop]
    by_cases c : lvO (kdT u.1) = l
    · rw [if_pos c]
      obtain ⟨t1, t2, t3, t4, t5, t6, _⟩ := lvO_tg c hl
      have hg := go_sign (st := st) (out := out') (g := u.2) hS c hl (fun z => absurd z hl2)
      rw [hc] at hg
      have hlt := len_tail hS
      have hB2 : Bas (tgL (l + 1)) (sgn (kdT u.1) :: b) := fun c' hc' => by
        simp only [List.head?_cons, Option.some.injEq] at hc'
        right
        rw [← hc', t1]
        have h4 : l = 0 ∨ l = 1 ∨ l = 3 ∨ l = 4 := by omega
        rcases h4 with rfl | rfl | rfl | rfl <;> decide
      have hm : 3 ≤ l + 1 → mayN (sgn (kdT u.1) :: b) = false := fun h3 => by
        rw [mayN]
        refine decide_eq_false ?_
        rintro (z | z)
        · exact t2 z
        · rw [t1] at z
          have h4 : l = 3 ∨ l = 4 := by omega
          rcases h4 with rfl | rfl
          · exact absurd z (by decide)
          · exact absurd z (by decide)
      have ih := hrp (sgn (kdT u.1) :: b) (out ++ L) (u.1.tail, u.2) (hS.tail t5) (by simp only; omega) hB2 (by rw [dpS_c t2 t3]; exact hw) hm
      cases hr : rp (l + 1) w (u.1.tail, u.2) with
      | inl e =>
        rw [hr] at ih
        show go u.1 false (st, out', u.2) = .inl e
        rw [hg]
        exact ih
      | inr x =>
        rw [hr] at ih
        obtain ⟨⟨st2, out2, i1, i2, i3⟩, i4, i5⟩ := ih
        simp only at i5
        simp only
        rw [if_neg hl2]
        have hc2 : clo (tgL l) st2 out2 = (b, out ++ (L ++ x.1 ++ [(3, nI (sgn (kdT u.1)))])) := by
          have hle : tgL l ≤ tgL (l + 1) ∧ (l + 1 = 2 → tgL l ≤ 3) := by
            have h4 : l = 0 ∨ l = 1 ∨ l = 3 ∨ l = 4 := by omega
            rcases h4 with rfl | rfl | rfl | rfl <;> decide
          rw [i2.cl hle.1 hle.2, clo, if_neg (by rw [t1]; rintro (z | z); exact t2 z; omega), hB.clo]
          simp [stpC, t3]
        have ih2 := loop_same hl hl2 hB hw hrp n (L ++ x.1 ++ [(3, nI (sgn (kdT u.1)))]) x.2 st2 out2 i4 (by omega) (by omega) hc2 i3
        unfold Same2 at ih2 ⊢
        cases hp : pLoop rp l w n (L ++ x.1 ++ [(3, nI (sgn (kdT u.1)))]) x.2 with
        | inl e =>
          rw [hp] at ih2
          simp only at ih2 ⊢
          rw [hg]
          exact i1.trans ih2
        | inr y =>
          rw [hp] at ih2
          simp only at ih2 ⊢
          obtain ⟨⟨st3, out3, j1, j2, j3⟩, j4, j5⟩ := ih2
          exact ⟨⟨st3, out3, by rw [hg]; exact i1.trans j1, j2, j3⟩, j4, by omega⟩
    · rw [if_neg c]
      refine ⟨⟨st, out', rfl, ?_, fun l' h1 h2 h3 => ?_⟩, hS, Nat.le_refl _⟩
      · unfold Pnd
        rw [if_neg hl2]
        exact hc
      · by_cases e : l' = l
        · rw [e] at h3; exact absurd h3 c
        · exact hx l' (by omega) h2 h3
