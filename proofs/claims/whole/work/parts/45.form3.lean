-- ===== what a formula that can be read is like =====
def Fct (w : Nat) (u : tx_U) (x : List ob_S × tx_U) : Prop := Sok x.2.1 ∧ u.2.1 < x.2.2.1 ∧ x.2.2.2 + u.2.1 = u.2.2 + x.2.2.1 ∧ x.2.2.1 ≤ 30 ∧ x.2.2.2 ≤ 60 ∧ x.1.length + w + 1 + 9 * u.2.1 ≤ 9 * x.2.2.1 ∧ ∀ R d, d + x.2.2.1 ≤ 30 + u.2.1 → hgt (x.1 ++ R) d = hgt R (d + 1)
theorem hgt_op {s : Int32} {R : List ob_S} {d : Nat} (hs : s = 37 ∨ s = 38 ∨ s = 42 ∨ s = 43 ∨ s = 45 ∨ s = 47 ∨ s = 60 ∨ s = 61 ∨ s = 62 ∨ s = 124) : hgt ([((3 : Int32), s)] ++ R) (d + 2) = hgt R (d + 1) := by
  show hgt ((3, s) :: R) (d + 2) = _
  conv => lhs; unfold hgt
  rw [if_neg (show ¬ (3 : Int32) = 0 by decide), if_neg (show ¬ (3 : Int32) = 1 by decide), if_neg (show ¬ (3 : Int32) = 2 by decide), if_pos rfl, if_pos ⟨by omega, hs⟩]
  rfl
theorem hgt_not {R : List ob_S} {d : Nat} : hgt ([((2 : Int32), (0 : Int32))] ++ R) (d + 1) = hgt R (d + 1) := by
  show hgt ((2, 0) :: R) (d + 1) = _
  conv => lhs; unfold hgt
  rw [if_neg (by decide), if_neg (by decide), if_pos rfl, if_pos (by omega)]
theorem pLoop_fct {rp : Nat → Nat → tx_U → tx_R} {l w : Nat} {u0 : tx_U} (hl : l ≤ 4) (hrp : ∀ u x, Sok u.1 → rp (l + 1) w u = .inr x → Fct w u x) : ∀ (n : Nat) (L : List ob_S) (u : tx_U) (x : List ob_S × tx_U), Fct w u0 (L, u) → pLoop rp l w n L u = .inr x → Fct w u0 x
  | 0, L, u, x, h, e => by
    rw [pLoop] at e
    cases e
    exact h
  | n + 1, L, u, x, h, e => by
    rw [pLoop] at e
    by_cases c : lvO (kdT u.1) = l
    · rw [if_pos c] at e
      obtain ⟨t1, t2, t3, t4, t5, t6, t7⟩ := lvO_tg c hl
      obtain ⟨a1, a2, a3, a4, a5, a6, a7⟩ := h
      simp only at a1 a2 a3 a4 a5 a6 a7
      cases hr : rp (l + 1) w (u.1.tail, u.2) with
      | inl z => rw [hr] at e; cases e
      | inr y =>
        rw [hr] at e
        simp only at e
        obtain ⟨b1, b2, b3, b4, b5, b6, b7⟩ := hrp _ y (a1.tail t5) hr
        simp only at b2 b3 b6 b7
        have key : Fct w u0 (L ++ y.1 ++ [(3, nI (sgn (kdT u.1)))], y.2) := by
          refine ⟨b1, by simp only; omega, by simp only; omega, b4, b5, ?_, fun R d hd => ?_⟩
          · simp only [List.length_append, List.length_singleton]
            omega
          · simp only at hd ⊢
            rw [List.append_assoc, List.append_assoc, a7 _ _ (by omega), b7 _ _ (by omega)]
            exact hgt_op t7
        by_cases e2 : l = 2
        · rw [if_pos e2] at e
          cases e
          exact key
        · rw [if_neg e2] at e
          exact pLoop_fct hl hrp n _ _ x key e
    · rw [if_neg c] at e
      cases e
      exact h
theorem Sok.num {S : tx_S} (h : Sok S) : kdT S = 3 → (hdT S).2.2.1 < 10000 := by
  cases S with
  | nil => exact h.elim
  | cons t S => exact h.1
theorem pE_fct : ∀ (F l w : Nat) (u : tx_U) (x : List ob_S × tx_U), w ≤ 7 → Sok u.1 → pE F l w u = .inr x → Fct w u x
  | 0, l, w, u, x, _, _, e => by
    rw [pE] at e
    cases e
  | F + 1, l, w, u, x, hw, hS, e => by
    rw [pE] at e
    by_cases c5 : 5 ≤ l
    · rw [if_pos c5] at e
      unfold pUnit at e
      by_cases c1 : ¬ (kdT u.1 = 40 ∨ kdT u.1 = 3 ∨ facK (kdT u.1) = true) ∨ 30 ≤ u.2.1 ∨ 60 ≤ u.2.2
      · rw [if_pos c1] at e; cases e
      · rw [if_neg c1] at e
        by_cases c40 : kdT u.1 = 40
        · rw [if_pos c40] at e
          by_cases c6 : 6 < w
          · rw [if_pos c6] at e; cases e
          · rw [if_neg c6] at e
            cases hr : pE F 0 (w + 1) (u.1.tail, u.2.1 + 1, u.2.2 + 1) with
            | inl z => rw [hr] at e; cases e
            | inr y =>
              rw [hr] at e
              simp only at e
              obtain ⟨b1, b2, b3, b4, b5, b6, b7⟩ := pE_fct F 0 (w + 1) _ y (by omega) (hS.tail (by omega)) hr
              simp only at b2 b3 b6 b7
              by_cases c41 : kdT y.2.1 = 41
              · rw [if_pos c41] at e
                cases e
                exact ⟨b1.tail (by omega), by simp only; omega, by simp only; omega, b4, b5, by simp only; omega, fun R d hd => b7 R d (by simp only at hd; omega)⟩
              · rw [if_neg c41] at e; cases e
        · rw [if_neg c40] at e
          cases e
          have hk : kdT u.1 = 3 ∨ facK (kdT u.1) = true := by
            apply Classical.byContradiction
            intro z
            exact c1 (Or.inl (by rintro (y | y); exact c40 y; exact z y))
          have h1 : 1 < kdT u.1 := by
            rcases hk with z | z
            · omega
            · unfold facK at z
              have := of_decide_eq_true z
              omega
          refine ⟨hS.tail h1, by simp only; omega, by simp only; omega, by simp only; omega, by simp only; omega, by simp only [List.length_singleton]; omega, fun R d hd => ?_⟩
          simp only at hd
          have hd30 : d < 30 := by omega
          show hgt (stpU (hdT u.1) :: R) d = _
          unfold stpU
          by_cases c3 : (hdT u.1).1 = 3
          · rw [if_pos c3]
            have := hS.num c3
            conv => lhs; unfold hgt
            rw [if_pos rfl, if_pos ⟨hd30, nI_pos (by omega)⟩]
          · rw [if_neg c3]
            have hf : facK (kdT u.1) = true := by
              rcases hk with z | z
              · exact absurd z c3
              · exact z
            unfold facK at hf
            have hf := of_decide_eq_true hf
            have hf : 100 ≤ (hdT u.1).1 ∧ (hdT u.1).1 ≤ 105 := hf
            conv => lhs; unfold hgt
            rw [if_neg (show ¬ (1 : Int32) = 0 by decide), if_pos rfl, if_pos ⟨hd30, nI_pos (by omega), by simp only; rw [nI_clamp (by omega)]; omega⟩]
    · rw [if_neg c5] at e
      by_cases cn : l = 2 ∧ kdT u.1 = 119
      · rw [if_pos cn] at e
        by_cases c6 : 6 < w
        · rw [if_pos c6] at e; cases e
        · rw [if_neg c6] at e
          cases hr : pE F 2 (w + 1) (u.1.tail, u.2) with
          | inl z => rw [hr] at e; cases e
          | inr y =>
            rw [hr] at e
            cases e
            obtain ⟨b1, b2, b3, b4, b5, b6, b7⟩ := pE_fct F 2 (w + 1) _ y (by omega) (hS.tail (by omega)) hr
            simp only at b2 b3 b6 b7
            refine ⟨b1, b2, b3, b4, b5, by simp only [List.length_append, List.length_singleton]; omega, fun R d hd => ?_⟩
            simp only at hd ⊢
            rw [List.append_assoc, b7 _ _ (by omega)]
            exact hgt_not
      · rw [if_neg cn] at e
        cases hr : pE F (l + 1) w u with
        | inl z => rw [hr] at e; cases e
        | inr y =>
          rw [hr] at e
          simp only at e
          have hy := pE_fct F (l + 1) w u y hw hS hr
          exact pLoop_fct (by omega) (fun u x h1 h2 => pE_fct F (l + 1) w u x hw h1 h2) 1600 y.1 y.2 x hy e
theorem pE_wf {S : tx_S} {all : Nat} {x : List ob_S × tx_U} (hS : Sok S) (h : pE 120 0 0 (S, 0, all) = .inr x) : WFf x.1 ∧ 0 < x.1.length ∧ x.2.2.1 ≤ 30 ∧ x.2.2.2 ≤ 60 := by
  obtain ⟨b1, b2, b3, b4, b5, b6, b7⟩ := pE_fct 120 0 0 _ x (by omega) hS h
  simp only at b2 b3 b6 b7
  have h0 := b7 [] 0 (by omega)
  rw [List.append_nil] at h0
  refine ⟨⟨h0.trans rfl, by omega⟩, ?_, b4, b5⟩
  rcases Nat.eq_zero_or_pos x.1.length with z | z
  · have : x.1 = [] := List.length_eq_zero_iff.mp z
    rw [this] at h0
    exact absurd h0 (by decide)
  · exact z
-- ===== the tokens of a text =====
def TkOk (T : tx_T) (t : tx_t) : Prop := (t.1 = 3 → t.2.2.1 < 10000) ∧ (t.1 = 2 → LtL t.2.2.2.1 ∧ t.2.2.2.1.length ≤ 8 ∧ ∀ i, i < 20 → wdsL.getD i [] ≠ t.2.2.2.1) ∧ (100 ≤ t.1 → t.2.2.2.1 = wdsL.getD (t.1 - 100) []) ∧ (t.1 ≤ 3 ∨ (37 ≤ t.1 ∧ t.1 ≤ 62) ∨ (100 ≤ t.1 ∧ t.1 < 120)) ∧ t.2.1 ≤ T.1
def Str (T : tx_T) : tx_S → Prop
  | [] => False
  | t :: S => TkOk T t ∧ (t.1 ≤ 1 → S = []) ∧ (1 < t.1 → t.2.2.2.2 ≤ T.1 ∧ hdT S = tk T t.2.2.2.2 ∧ Str T S)
theorem vl_lt {T : tx_T} {q : Nat} : ∀ {m}, (∀ i, i < m → isDg (T.2 (q + i)) = true) → vl T q m < 10 ^ m
  | 0, _ => Nat.one_pos
  | m + 1, h => by
    have ih := vl_lt (T := T) (q := q) (m := m) fun i hi => h i (by omega)
    have := h m (by omega)
    unfold isDg at this
    have := of_decide_eq_true this
    rw [vl, Nat.pow_succ]
    omega
theorem wix_word {l : List Nat} (h : 100 ≤ wix l) : l = wdsL.getD (wix l - 100) [] := by
  unfold wix at h ⊢
  by_cases c : l ∈ wdsL
  · rw [if_pos c, Nat.add_sub_cancel_left]
    have := List.idxOf_lt_length_of_mem c
    rw [List.getD_eq_getElem?_getD, List.getElem?_eq_getElem this, Option.getD_some]
    exact (List.getElem_idxOf this).symm
  · rw [if_neg c] at h
    omega
theorem wix_2 {l : List Nat} (h : wix l = 2) : ∀ i, i < 20 → wdsL.getD i [] ≠ l := by
  intro i hi e
  have := wix_at i hi
  rw [e] at this
  omega
theorem tk_ok {T : tx_T} {p : Nat} (hp : p ≤ T.1) : TkOk T (tk T p) ∧ (1 < (tk T p).1 → p < (tk T p).2.2.2.2 ∧ (tk T p).2.2.2.2 ≤ T.1) := by
  have hm := run_len (f := isBl) hp
  unfold tk
  generalize hq : p + run isBl T p = q at *
  have hpq : p ≤ q := by omega
  unfold tkq
  by_cases c0 : T.1 ≤ q
  · rw [if_pos c0]
    exact ⟨⟨fun z => absurd (show (0 : Nat) = 3 from z) (by decide), fun z => absurd (show (0 : Nat) = 2 from z) (by decide), fun z => absurd (show 100 ≤ 0 from z) (by decide), Or.inl (show 0 ≤ 3 by decide), show q ≤ T.1 from hm⟩, fun z => absurd (show 1 < 0 from z) (by decide)⟩
  · rw [if_neg c0]
    have hqn : q ≤ T.1 := by omega
    by_cases cl : isLt (T.2 q) = true
    · rw [if_pos cl]
      have hr := run_len (f := isLt) hqn
      have hr1 : 0 < run isLt T q := by
        rcases Nat.eq_zero_or_pos (run isLt T q) with z | z
        · have := run_out (f := isLt) hqn (by rw [z]; omega)
          rw [z, Nat.add_zero, cl] at this
          exact absurd this (by decide)
        · exact z
      have wr := wix_rng (wrd T q (run isLt T q))
      unfold TkOk
      simp only
      by_cases h8 : 8 < run isLt T q
      · rw [if_pos h8]
        exact ⟨⟨by omega, fun z => absurd z (by omega), fun z => absurd z (by omega), by omega, hqn⟩, fun z => absurd z (by omega)⟩
      · rw [if_neg h8]
        exact ⟨⟨by omega, fun z => ⟨wrd_lt hqn (Nat.le_refl _), by rw [wrd_len]; omega, wix_2 z⟩, fun z => wix_word z, by omega, hqn⟩, fun _ => ⟨by omega, hr⟩⟩
    · rw [if_neg cl]
      by_cases cd : isDg (T.2 q) = true
      · rw [if_pos cd]
        have hr := run_len (f := isDg) hqn
        have hr1 : 0 < run isDg T q := by
          rcases Nat.eq_zero_or_pos (run isDg T q) with z | z
          · have := run_out (f := isDg) hqn (by rw [z]; omega)
            rw [z, Nat.add_zero, cd] at this
            exact absurd this (by decide)
          · exact z
        unfold TkOk
        simp only
        by_cases hb : 4 < run isDg T q ∨ (q + run isDg T q < T.1 ∧ isLt (T.2 (q + run isDg T q)) = true)
        · rw [if_pos hb]
          exact ⟨⟨by omega, fun z => absurd z (by omega), fun z => absurd z (by omega), by omega, hqn⟩, fun z => absurd z (by omega)⟩
        · rw [if_neg hb]
          refine ⟨⟨fun _ => ?_, fun z => absurd z (by omega), fun z => absurd z (by omega), by omega, hqn⟩, fun _ => ⟨by omega, hr⟩⟩
          have := vl_lt (T := T) (q := q) (m := run isDg T q) fun i hi => run_in hqn hi
          have h4 : run isDg T q ≤ 4 := by omega
          have := Nat.pow_le_pow_right (show 0 < 10 by decide) h4
          omega
      · rw [if_neg cd]
        unfold TkOk
        simp only
        by_cases cs : isSg (T.2 q) = true
        · rw [if_pos cs]
          unfold isSg at cs
          have cs := of_decide_eq_true cs
          exact ⟨⟨by omega, by omega, by omega, by omega, hqn⟩, fun _ => ⟨by omega, by omega⟩⟩
        · rw [if_neg cs]
          exact ⟨⟨by omega, by omega, by omega, by omega, hqn⟩, fun z => by omega⟩
theorem Str_ex {T : tx_T} : ∀ (d p : Nat), T.1 - p = d → p ≤ T.1 → ∃ S, hdT S = tk T p ∧ Str T S ∧ S.length ≤ d + 1 := by
  intro d
  induction d using Nat.strongRecOn with
  | ind d ih =>
    intro p hd hp
    obtain ⟨h1, h2⟩ := tk_ok hp
    by_cases c : 1 < (tk T p).1
    · obtain ⟨a, b⟩ := h2 c
      obtain ⟨S, s1, s2, s3⟩ := ih (T.1 - (tk T p).2.2.2.2) (by omega) _ rfl b
      exact ⟨tk T p :: S, rfl, ⟨h1, fun z => absurd z (by omega), fun _ => ⟨b, s1, s2⟩⟩, by simp only [List.length_cons]; omega⟩
    · exact ⟨[tk T p], rfl, ⟨h1, fun _ => rfl, fun z => absurd z c⟩, by simp⟩
theorem Str.sok {T : tx_T} : ∀ {S : tx_S}, Str T S → Sok S
  | [], h => h
  | t :: S, h => by
    refine ⟨h.1.1, ?_⟩
    rcases Nat.lt_or_ge 1 t.1 with z | z
    · exact Or.inr (Str.sok (h.2.2 z).2.2)
    · exact Or.inl z
theorem Str.hd {T : tx_T} {S : tx_S} (h : Str T S) : TkOk T (hdT S) := by
  cases S with
  | nil => exact h.elim
  | cons t S => exact h.1
theorem Str.tl {T : tx_T} {S : tx_S} (h : Str T S) (hk : 1 < kdT S) : (hdT S).2.2.2.2 ≤ T.1 ∧ hdT S.tail = tk T (hdT S).2.2.2.2 ∧ Str T S.tail := by
  cases S with
  | nil => exact h.elim
  | cons t S => exact h.2.2 hk
