-- ===== formulas: the two readings are one =====
theorem lvO_9 (k : Nat) : lvO k = 9 ∨ lvO k ≤ 4 := by
  unfold lvO
  repeat' split
  all_goals omega
theorem Bas7 (b : List Nat) : Bas 7 b := fun c _ => by
  right
  unfold tgh
  repeat' split
  all_goals omega
theorem unit_same {rp : Nat → Nat → tx_U → tx_R} {w : Nat} {b : List Nat} {out : List ob_S} {u : tx_U} (hS : Sok u.1) (hlen : u.1.length ≤ 1601) (hw : dpS b = w) (hN : kdT u.1 = 119 → mayN b = false)
    (hrp : w ≤ 6 → ∀ u2 : tx_U, Sok u2.1 → u2.1.length ≤ 1601 → Same 0 (20 :: b) out u2 (rp 0 (w + 1) u2)) : Same 5 b out u (pUnit rp w u) := by
  obtain ⟨S', e1, e2⟩ := hS.ne
  have hlt := len_tail hS
  obtain ⟨S, g⟩ := u
  simp only at *
  have n119 : ¬ (kdT S = 119 ∧ mayN b = true) := by
    rintro ⟨z1, z2⟩
    rw [hN z1] at z2
    exact absurd z2 (by decide)
  have goS : ∀ g : Nat × Nat, go S true (b, out, g) = if kdT S = 40 then (if 30 ≤ g.1 ∨ 60 ≤ g.2 ∨ 6 < dpS b then badT S 2 else go S.tail true (20 :: b, out, g.1 + 1, g.2 + 1)) else
      if ¬ (kdT S = 3 ∨ facK (kdT S) = true) ∨ 30 ≤ g.1 ∨ 60 ≤ g.2 then badT S 2 else go S.tail false (b, out ++ [stpU (hdT S)], g.1 + 1, g.2 + 1) := by
    intro g
    rw [e2]
    generalize hdT S = t at *
    subst e1
    rw [go, if_neg (show ¬ (t.1 = 119 ∧ mayN (b, out, g).1 = true) from n119)]
    rfl
  unfold pUnit
  simp only
  by_cases c1 : ¬ (kdT S = 40 ∨ kdT S = 3 ∨ facK (kdT S) = true) ∨ 30 ≤ g.1 ∨ 60 ≤ g.2
  · rw [if_pos c1]
    show go S true (b, out, g) = _
    rw [goS]
    by_cases c40 : kdT S = 40
    · rw [if_pos c40, if_pos]
      · rfl
      · rcases c1 with z | z | z
        · exact absurd (Or.inl c40) z
        · exact Or.inl z
        · exact Or.inr (Or.inl z)
    · rw [if_neg c40, if_pos]
      · rfl
      · rcases c1 with z | z
        · exact Or.inl (fun y => z (Or.inr y))
        · exact Or.inr z
  · rw [if_neg c1]
    have c1' : ¬ 30 ≤ g.1 ∧ ¬ 60 ≤ g.2 ∧ (kdT S = 40 ∨ kdT S = 3 ∨ facK (kdT S) = true) := by
      refine ⟨fun z => c1 (Or.inr (Or.inl z)), fun z => c1 (Or.inr (Or.inr z)), ?_⟩
      exact Decidable.not_not.mp (fun z => c1 (Or.inl z))
    by_cases c40 : kdT S = 40
    · rw [if_pos c40]
      by_cases c6 : 6 < w
      · rw [if_pos c6]
        show go S true (b, out, g) = _
        rw [goS, if_pos c40, if_pos (Or.inr (Or.inr (by omega)))]
        rfl
      · rw [if_neg c6]
        have hgo : go S true (b, out, g) = go S.tail true (20 :: b, out, g.1 + 1, g.2 + 1) := by
          rw [goS, if_pos c40, if_neg (by rw [hw]; omega)]
        have ih := hrp (by omega) (S.tail, g.1 + 1, g.2 + 1) (hS.tail (by omega)) (by simp only; omega)
        cases hr : rp 0 (w + 1) (S.tail, g.1 + 1, g.2 + 1) with
        | inl e =>
          rw [hr] at ih
          show go S true (b, out, g) = _
          rw [hgo]
          exact ih
        | inr x =>
          rw [hr] at ih
          obtain ⟨⟨st, out', i1, i2, i3⟩, i4, i5⟩ := ih
          simp only at i1 i5 ⊢
          have hc := i2.cl (m := 0) (Nat.zero_le _) (fun _ => by omega)
          have h20 : clo 0 (20 :: b) (out ++ x.1) = (20 :: b, out ++ x.1) := by rw [clo, if_pos (Or.inl rfl)]
          rw [h20] at hc
          have hB : hasB st = true := decide_eq_true (clo_in.mpr (by rw [hc]; exact List.mem_cons_self))
          obtain ⟨S2, f1, f2⟩ := i4.ne
          by_cases c41 : kdT x.2.1 = 41
          · rw [if_pos c41]
            refine ⟨⟨b, out ++ x.1, ?_, ?_, fun l' h1 h2 _ => by omega⟩, i4.tail (by omega), ?_⟩
            · show go S true (b, out, g) = _
              rw [hgo, i1]
              show go x.2.1 false (st, out', x.2.2) = go x.2.1.tail false (b, out ++ x.1, x.2.2)
              rw [f2]
              generalize x.2.1 = Z at *
              generalize hdT Z = t at *
              subst f1
              rw [go, if_pos ⟨c41, hB⟩]
              simp only
              rw [hc]
              rfl
            · exact (Bas7 b).clo
            · have := len_tail i4
              simp only
              omega
          · rw [if_neg c41]
            show go S true (b, out, g) = _
            rw [hgo, i1]
            generalize x.2.1 = Z at *
            generalize ht : hdT Z = t at *
            subst f1
            have hk9 : ¬ (lvO t.1 ≠ 9 ∧ ¬ (lvO t.1 = 2 ∧ hasR st = true)) := by
              rintro ⟨z1, z2⟩
              rcases lvO_9 t.1 with z | z
              · exact z1 z
              · obtain ⟨y1, y2⟩ := i3 (lvO t.1) (Nat.zero_le _) z rfl
                exact z2 ⟨y1, y2⟩
            rw [go, if_neg (fun z => c41 z.1), if_neg hk9, if_pos hB]
            rfl
    · rw [if_neg c40]
      have hk : kdT S = 3 ∨ facK (kdT S) = true := by
        rcases c1'.2.2 with z | z
        · exact absurd z c40
        · exact z
      have h1 : 1 < kdT S := by
        rcases hk with z | z
        · omega
        · unfold facK at z
          have := of_decide_eq_true z
          omega
      refine ⟨⟨b, out ++ [stpU (hdT S)], ?_, (Bas7 b).clo, fun l' h1 h2 _ => by omega⟩, hS.tail h1, by simp only; omega⟩
      show go S true (b, out, g) = _
      rw [goS, if_neg c40, if_neg]
      rintro (z | z)
      · exact z hk
      · omega
theorem pE_same : ∀ (F l w : Nat) (b : List Nat) (out : List ob_S) (u : tx_U), l ≤ 5 → w ≤ 7 → 6 * (7 - w) + (6 - l) ≤ F → Sok u.1 → u.1.length ≤ 1601 → Bas (tgL l) b → dpS b = w → (3 ≤ l → kdT u.1 = 119 → mayN b = false) → Same l b out u (pE F l w u)
  | 0, l, w, b, out, u, hl, hw, hF, _, _, _, _, _ => by omega
  | F + 1, l, w, b, out, u, hl, hw, hF, hS, hlen, hB, hd, hN => by
    rw [pE]
    by_cases c5 : 5 ≤ l
    · rw [if_pos c5]
      have e5 : l = 5 := by omega
      subst e5
      refine unit_same hS hlen hd (hN (by omega)) fun h6 u2 hS2 hl2 => pE_same F 0 (w + 1) (20 :: b) out u2 (by omega) (by omega) (by omega) hS2 hl2 ?_ ?_ (fun z => by omega)
      · intro c hc
        simp only [List.head?_cons, Option.some.injEq] at hc
        exact Or.inl hc.symm
      · rw [dpS_o (Or.inl rfl), hd]
    · rw [if_neg c5]
      by_cases cn : l = 2 ∧ kdT u.1 = 119
      · rw [if_pos cn]
        obtain ⟨rfl, cn⟩ := cn
        obtain ⟨S', e1, e2⟩ := hS.ne
        have hmay : mayN b = true := Bas.may hB
        have hlt := len_tail hS
        have hgo : go u.1 true (b, out, u.2) = if 6 < dpS b then badT u.1 2 else go u.1.tail true (21 :: b, out, u.2) := by
          obtain ⟨S, g⟩ := u
          simp only at *
          rw [e2]
          generalize hdT S = t at *
          subst e1
          rw [go, if_pos ⟨cn, hmay⟩]
        by_cases c6 : 6 < w
        · rw [if_pos c6]
          show go u.1 true (b, out, u.2) = _
          rw [hgo, if_pos (by omega)]
          rfl
        · rw [if_neg c6]
          rw [if_neg (by omega)] at hgo
          have ih := pE_same F 2 (w + 1) (21 :: b) out (u.1.tail, u.2) (by omega) (by omega) (by omega) (hS.tail (by omega)) (by simp only; omega) (fun c hc => by
            simp only [List.head?_cons, Option.some.injEq] at hc
            right
            rw [← hc]
            decide) (by rw [dpS_o (Or.inr rfl), hd]) (fun z => by omega)
          cases hr : pE F 2 (w + 1) (u.1.tail, u.2) with
          | inl e =>
            rw [hr] at ih
            show go u.1 true (b, out, u.2) = _
            rw [hgo]
            exact ih
          | inr x =>
            rw [hr] at ih
            obtain ⟨⟨st, out', i1, i2, i3⟩, i4, i5⟩ := ih
            simp only at i1 i5
            refine ⟨⟨st, out', hgo.trans i1, ?_, i3⟩, i4, by simp only; omega⟩
            unfold Pnd at i2 ⊢
            rw [if_pos rfl] at i2 ⊢
            obtain ⟨j, Y, j1, j2⟩ := i2
            refine ⟨j + 1, Y, ?_, ?_⟩
            · rw [j1, List.replicate_succ']
              simp
            · rw [List.replicate_succ', ← List.append_assoc, j2]
              simp
      · rw [if_neg cn]
        have hl4 : l ≤ 4 := by omega
        have hmono : tgL l ≤ tgL (l + 1) ∧ (l + 1 = 2 → tgL l ≤ 3) := by
          have h4 : l = 0 ∨ l = 1 ∨ l = 2 ∨ l = 3 ∨ l = 4 := by omega
          rcases h4 with rfl | rfl | rfl | rfl | rfl <;> decide
        have ih := pE_same F (l + 1) w b out u (by omega) hw (by omega) hS hlen (hB.mono hmono.1) hd (fun z1 z2 => by
          by_cases e2 : l = 2
          · exact absurd ⟨e2, z2⟩ cn
          · exact hN (by omega) z2)
        cases hr : pE F (l + 1) w u with
        | inl e =>
          rw [hr] at ih
          exact ih
        | inr x =>
          rw [hr] at ih
          obtain ⟨⟨st, out', i1, i2, i3⟩, i4, i5⟩ := ih
          simp only
          have hc : clo (tgL l) st out' = (b, out ++ x.1) := by rw [i2.cl hmono.1 hmono.2, hB.clo]
          by_cases e2 : l = 2
          · subst e2
            have hnr : hasR st = false := by
              unfold Pnd at i2
              rw [if_neg (by omega)] at i2
              have : hasR st = hasR b := by rw [clo_R (m := 5) (Nat.le_refl _) (out := out')]; rw [show tgL (2 + 1) = 5 from rfl] at i2; rw [i2]
              rw [this]
              exact Bas.noR hB
            rw [pLoop]
            by_cases ck : lvO (kdT x.2.1) = 2
            · rw [if_pos ck]
              obtain ⟨t1, t2, t3, t4, t5, t6, _⟩ := lvO_tg ck (by omega)
              have hg := go_sign (st := st) (out := out') (g := x.2.2) i4 ck (by omega) (fun _ => hnr)
              rw [hc] at hg
              have hlt := len_tail i4
              have ih2 := pE_same F 3 w (sgn (kdT x.2.1) :: b) (out ++ x.1) (x.2.1.tail, x.2.2) (by omega) hw (by omega) (i4.tail t5) (by simp only; omega) (fun c hc => by
                simp only [List.head?_cons, Option.some.injEq] at hc
                right
                rw [← hc, t1]
                decide) (by rw [dpS_c t2 t3]; exact hd) (fun _ _ => by
                rw [mayN]
                refine decide_eq_false ?_
                rintro (z | z)
                · exact t2 z
                · rw [t1] at z; exact absurd z (by decide))
              cases hr2 : pE F (2 + 1) w (x.2.1.tail, x.2.2) with
              | inl e =>
                rw [show 2 + 1 = 3 from rfl] at hr2
                rw [hr2] at ih2
                show go u.1 true (b, out, u.2) = _
                rw [i1, hg]
                exact ih2
              | inr y =>
                rw [show 2 + 1 = 3 from rfl] at hr2
                rw [hr2] at ih2
                obtain ⟨⟨st3, out3, j1, j2, j3⟩, j4, j5⟩ := ih2
                simp only at j1 j5 ⊢
                rw [if_pos trivial]
                unfold Pnd at j2
                rw [if_neg (by omega)] at j2
                refine ⟨⟨st3, out3, by rw [i1, hg]; exact j1, ?_, fun l' h1 h2 h3 => ?_⟩, j4, by simp only; omega⟩
                · unfold Pnd
                  rw [if_pos rfl]
                  refine ⟨0, out ++ (x.1 ++ y.1 ++ [(3, nI (sgn (kdT x.2.1)))]), ?_, by simp⟩
                  rw [clo_to (show 4 ≤ tgL 3 by decide) j2, clo, if_neg (by rw [t1]; rintro (z | z); exact t2 z; exact absurd z (by decide)), Bas.clo (show Bas 4 b from hB)]
                  simp [stpC, t3]
                · by_cases e : l' = 2
                  · refine ⟨e, ?_⟩
                    rw [clo_R (m := 5) (Nat.le_refl _) (out := out3)]
                    rw [show tgL 3 = 5 from rfl] at j2
                    rw [j2, hasR, if_neg t2, if_neg (by rw [t1]; decide)]
                    exact decide_eq_true t1
                  · exact j3 l' (by omega) h2 h3
            · rw [if_neg ck]
              refine ⟨⟨st, out', i1, ?_, fun l' h1 h2 h3 => ?_⟩, i4, i5⟩
              · unfold Pnd
                rw [if_pos rfl]
                exact ⟨0, out ++ x.1, by simpa using (show clo 4 st out' = (b, out ++ x.1) from hc), by simp⟩
              · by_cases e : l' = 2
                · rw [e] at h3; exact absurd h3 ck
                · exact i3 l' (by omega) h2 h3
          · have lp := loop_same (rp := pE F) hl4 e2 hB hd (fun b2 out2 u2 a1 a2 a3 a4 a5 => pE_same F (l + 1) w b2 out2 u2 (by omega) hw (by omega) a1 a2 a3 a4 (fun z _ => a5 z)) 1600 x.1 x.2 st out' i4 (by omega) (Nat.le_refl _) hc i3
            cases hp : pLoop (pE F) l w 1600 x.1 x.2 with
            | inl e =>
              rw [hp] at lp
              show go u.1 true (b, out, u.2) = _
              rw [i1]
              exact lp
            | inr y =>
              rw [hp] at lp
              obtain ⟨⟨st2, out2, j1, j2, j3⟩, j4, j5⟩ := lp
              exact ⟨⟨st2, out2, i1.trans j1, j2, j3⟩, j4, by omega⟩
theorem go_pE {S : tx_S} {g : Nat × Nat} (hS : Sok S) (hl : S.length ≤ 1601) : go S true ([], [], g) = pE 120 0 0 (S, g) ∧ ∀ x, pE 120 0 0 (S, g) = .inr x → Sok x.2.1 ∧ x.2.1.length < S.length := by
  have h := pE_same 120 0 0 [] [] (S, g) (by omega) (by omega) (by omega) hS hl (fun c hc => by simp at hc) rfl (fun z => by omega)
  cases hr : pE 120 0 0 (S, g) with
  | inl e =>
    rw [hr] at h
    exact ⟨h, fun x hx => by cases hx⟩
  | inr x =>
    rw [hr] at h
    obtain ⟨⟨st, out', i1, i2, i3⟩, i4, i5⟩ := h
    refine ⟨?_, fun y hy => by cases hy; exact ⟨i4, i5⟩⟩
    simp only at i1
    rw [i1]
    have hc := i2.cl (m := 0) (Nat.zero_le _) (fun _ => by omega)
    have hn : hasB st = false := by
      refine decide_eq_false fun z => ?_
      have := (clo_in (m := 0) (out := out')).mp z
      rw [hc] at this
      simp [clo] at this
    obtain ⟨S2, f1, f2⟩ := i4.ne
    obtain ⟨L, Z, g2⟩ := x
    simp only at *
    generalize ht : hdT Z = t at *
    subst f1
    have hk9 : ¬ (lvO t.1 ≠ 9 ∧ ¬ (lvO t.1 = 2 ∧ hasR st = true)) := by
      rintro ⟨z1, z2⟩
      rcases lvO_9 t.1 with z | z
      · exact z1 z
      · obtain ⟨y1, y2⟩ := i3 (lvO t.1) (Nat.zero_le _) z rfl
        exact z2 ⟨y1, y2⟩
    rw [go, if_neg (fun z => by rw [hn] at z; exact absurd z.2 (by decide)), if_neg hk9, if_neg (by rw [hn]; decide), hc]
    simp [clo]
