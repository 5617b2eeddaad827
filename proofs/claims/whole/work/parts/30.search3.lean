-- ===== soonest: the class's run, the reference's rows =====
theorem cs_run {h : ob_H} {w : ob_W} {r : ob_P} {Q : ob_H → Prop} (hW : WFW w) (hw : CW h w) (hr : CR h w.1 34 r) (hm : ∃ m, m ≤ 900000 ∧ r 21 = nI m) (hq : ∀ h', Fr SC h h' → BS h' (sol w 7 r) → Q h') : MX8_run 34 h Q := by
  have hn7 := hW.1
  obtain ⟨m, hm1, hm2⟩ := hm
  unfold MX8_run
  refine Lt_i fun y1 z1 => Lt_i fun y2 z2 => ?_
  have f2 : Fr SC h y2 := by
    rw [z2, z1]
    exact (Fr.rf.st (by unfold SC; omega)).st (by unfold SC; omega)
  have b1 : y2.1 47 2 = 2147483647 := by rw [z2, h_i_1, if_neg (by omega), z1, h_i_1, if_pos (by omega)]
  have b2 : y2.1 47 1 = 0 := by rw [z2, h_i_1, if_pos (by omega)]
  refine lo2c1 128 (by omega) (fun j h3 => Fr SC h h3 ∧ h3.1 47 2 = 2147483647 ∧ h3.1 47 1 = 0 ∧ ∀ i, i < j → h3.1 51 (8 * i) = -1) ?_ ?_ 0 (Nat.zero_le _) _ ⟨f2, b1, b2, fun i hi => absurd hi (Nat.not_lt_zero _)⟩
  · intro k j h3 hj hI hk
    obtain ⟨i1, i2, i3, i4⟩ := hI
    unfold FX8_run_13
    rw [show (8 : Int32) = nI 8 from rfl, nI_mul, show ix (nI (j * 8)) = j * 8 from nI_clamp (by omega)]
    refine br_f (nI_ge (b := 128) hj (by decide)) ⟨vp_in_nI (by omega) (by omega), Lt_i fun y z => Lt_eq (nI_1 _) (hk _ ⟨?_, ?_, ?_, fun i hi => ?_⟩)⟩
    · rw [z]; exact i1.st (by unfold SC; omega)
    · rw [z, h_i_1, if_neg (by omega)]; exact i2
    · rw [z, h_i_1, if_neg (by omega)]; exact i3
    · rw [z, h_i_1]
      by_cases e : i = j
      · rw [if_pos ⟨rfl, by omega⟩]
      · rw [if_neg (by omega)]; exact i4 i (by omega)
  · intro k h3 hI
    obtain ⟨i1, i2, i3, i4⟩ := hI
    unfold FX8_run_13
    refine br_t (nI_le (a := 128) (Nat.le_refl _) (by decide)) (cs_copy hn7 (hr.sc i1) (by omega) fun h4 f4 r4 => ?_)
    have g4 : Fr SC h h4 := i1.tr (f4.mono fun q k p => by unfold SC; omega)
    obtain ⟨m', q1, q2, q3⟩ := sol_min hW (f := 7) hm2
    have hlt : (sol w 7 r).1 < (2147483647 : Int32) := by
      rw [q3, Int32.lt_iff_toInt_lt, nI_toInt (by omega), show (2147483647 : Int32).toInt = 2147483647 by decide]
      omega
    refine cs_explore hW (a := r) 7 0 12 r [] ((2147483647 : Int32), []) (fun _ => False) h4 _ (by omega) (by omega) rfl Rch.rf (by omega) (Nat.le_trans (cnt_le _ _) hn7) ⟨m, by omega, hm2⟩ (hw.sc g4) r4 ?_ ?_ ?_ (fun _ z => z.elim) fun h5 f5 b5 m5 _ => ?_
    · exact ⟨by rw [f4.i (by omega)]; exact i2, by simp, by rw [f4.i (by omega)]; exact i3, fun i x hx => by simp at hx⟩
    · intro i x hx
      simp at hx
    · intro H h1 _
      left
      rw [f4.i (by omega)]
      exact i4 H h1
    · rw [upS_t hlt] at b5
      refine hq h5 (g4.tr (f5.mono fun q k p => by unfold XD at p; unfold SC; omega)) ?_
      simpa using b5
-- the reference's rows: what is left of a stack of rooms
def foS (g : Nat → Int32 × List Nat) (p : Nat → Bool) (path : List Nat) : Nat → Nat → Int32 × List Nat → Int32 × List Nat
  | 0, _, acc => acc
  | m + 1, j, acc => foS g p path m (j + 1) (if p j = true then upS acc (path ++ [j]) (g j) else acc)
theorem foS_sol {g : Nat → Int32 × List Nat} {p : Nat → Bool} {path : List Nat} {a : Int32 × List Nat} : ∀ {m j : Nat}, foS g p path m j (updO a path (solM g p j)) = updO a path (solM g p (j + m))
  | 0, j => rfl
  | m + 1, j => by
    rw [foS, show j + (m + 1) = (j + 1) + m by omega, ← foS_sol (m := m) (j := j + 1)]
    congr 1
    cases hp : p j with
    | true => rw [if_pos rfl]; exact upS_s hp
    | false => rw [if_neg (by decide), solM_no hp]
theorem foS_skip {g : Nat → Int32 × List Nat} {p : Nat → Bool} {path : List Nat} {acc : Int32 × List Nat} : ∀ {m j : Nat}, (∀ k, j ≤ k → k < j + m → p k = false) → foS g p path m j acc = acc
  | 0, j, _ => rfl
  | m + 1, j, h => by
    rw [foS, h j (by omega) (by omega), if_neg (by decide)]
    exact foS_skip fun k h1 h2 => h k (by omega) (by omega)
theorem foS_skip1 {g : Nat → Int32 × List Nat} {p : Nat → Bool} {path : List Nat} {acc : Int32 × List Nat} {m j : Nat} (h : p j = false) : foS g p path (m + 1) j acc = foS g p path m (j + 1) acc := by
  rw [foS, h, if_neg (by decide)]
/-- a room met: a leaf, or not -/
def entS (w : ob_W) (r : ob_P) (path : List Nat) (acc : Int32 × List Nat) : Int32 × List Nat := if mkS w r 0 = 0 then upS acc path (r 21, []) else acc
theorem mkS_0 {w : ob_W} {r : ob_P} : mkS w r 0 = 0 ↔ ∀ k, k < w.1 → isS r 0 k = false := by
  constructor
  · intro h k hk
    have := mk_bit (isS r 0) w.1 k
    rw [show mk (isS r 0) w.1 = 0 from h, Nat.zero_testBit] at this
    simpa [hk] using this.symm
  · exact mk_none
theorem entS_sol {w : ob_W} {r : ob_P} {path : List Nat} {acc : Int32 × List Nat} {f : Nat} (hl : lft w r ≤ f) : foS (fun k => sol w (f - 1) (her w r k 1)) (isS r 0) path w.1 0 (entS w r path acc) = upS acc path (sol w f r) := by
  by_cases c : mkS w r 0 = 0
  · have hno := mkS_0.mp c
    rw [entS, if_pos c, foS_skip (fun k _ h2 => hno k (by omega)), sol_leaf hno]
  · rw [entS, if_neg c]
    obtain ⟨k, hk, hp⟩ : ∃ k, k < w.1 ∧ isS r 0 k = true := by
      apply Classical.byContradiction
      intro hc
      apply c
      apply mk_none
      intro k hk
      cases hz : isS r 0 k with
      | false => rfl
      | true => exact absurd ⟨k, hk, hz⟩ hc
    have := lft_pos hk (show r k = 0 by simpa [isS] using hp)
    obtain ⟨f', rfl⟩ : ∃ f', f = f' + 1 := ⟨f - 1, by omega⟩
    obtain ⟨x, hx⟩ := solM_some (g := fun o => sol w f' (her w r o 1)) hk hp
    have h1 := foS_sol (g := fun o => sol w f' (her w r o 1)) (p := isS r 0) (path := path) (a := acc) (m := w.1) (j := 0)
    rw [show updO acc path (solM (fun o => sol w f' (her w r o 1)) (isS r 0) 0) = acc from rfl, Nat.zero_add, hx] at h1
    rw [Nat.add_sub_cancel, h1, sol, hx]
    rfl
def pthS (t : List (ob_P × Nat)) : List Nat := (t.map (fun x => x.2 - 1)).reverse
theorem pthS_c {x : ob_P × Nat} {t : List (ob_P × Nat)} : pthS (x :: t) = pthS t ++ [x.2 - 1] := by simp [pthS]
theorem pthS_l {t : List (ob_P × Nat)} : (pthS t).length = t.length := by simp [pthS]
def resS (w : ob_W) : List (ob_P × Nat) → Int32 × List Nat → Int32 × List Nat
  | [], acc => acc
  | x :: t, acc => resS w t (foS (fun k => sol w (6 - t.length) (her w x.1 k 1)) (isS x.1 0) (pthS t) (w.1 - x.2) x.2 (if x.2 = 0 then entS w x.1 (pthS t) acc else acc))
def wtS : List (ob_P × Nat) → Nat
  | [] => 0
  | x :: t => (8 - x.2) * 9 ^ (7 - t.length) + wtS t
/-- a room on the stack -/
def OneS (w : ob_W) (h : ob_H) (x : ob_P × Nat) (d : Nat) : Prop := (∀ k, k < 24 → h.1 142 (24 * d + k) = x.1 k) ∧ h.1 141 d = nI x.2 - 1 ∧ x.2 ≤ w.1 ∧ d + lft w x.1 ≤ 7
def AllS (w : ob_W) (h : ob_H) : List (ob_P × Nat) → Prop
  | [] => True
  | x :: t => OneS w h x t.length ∧ 1 ≤ x.2 ∧ AllS w h t
theorem OneS.fr {w : ob_W} {h h' : ob_H} {x : ob_P × Nat} {d : Nat} (a : OneS w h x d) (e2 : ∀ k, k < 24 * (d + 1) → h'.1 142 k = h.1 142 k) (e1 : h'.1 141 d = h.1 141 d) : OneS w h' x d :=
  ⟨fun k hk => by rw [e2 _ (by omega)]; exact a.1 k hk, by rw [e1]; exact a.2.1, a.2.2⟩
theorem AllS.fr {w : ob_W} {h h' : ob_H} : ∀ {t : List (ob_P × Nat)}, AllS w h t → (∀ k, k < 24 * t.length → h'.1 142 k = h.1 142 k) → (∀ k, k < t.length → h'.1 141 k = h.1 141 k) → AllS w h' t
  | [], _, _, _ => trivial
  | x :: t, a, e2, e1 => by
    simp only [List.length_cons] at e2 e1
    exact ⟨a.1.fr (fun k hk => e2 k (by omega)) (e1 _ (by omega)), a.2.1, AllS.fr a.2.2 (fun k hk => e2 k (by omega)) (fun k hk => e1 k (by omega))⟩
theorem AllS.row {w : ob_W} {h : ob_H} : ∀ {t : List (ob_P × Nat)}, AllS w h t → ∀ i y, (pthS t)[i]? = some y → h.1 141 i = nI y
  | [], _, i, y, hy => by simp [pthS] at hy
  | x :: t, a, i, y, hy => by
    rw [pthS_c] at hy
    by_cases e : i < t.length
    · rw [List.getElem?_append_left (by rw [pthS_l]; exact e)] at hy
      exact AllS.row a.2.2 i y hy
    · rw [List.getElem?_append_right (by rw [pthS_l]; omega), pthS_l] at hy
      have hi : i - t.length = 0 := by
        have := (List.getElem?_eq_some_iff.mp hy).1
        simpa using this
      rw [hi] at hy
      simp only [List.getElem?_cons_zero, Option.some.injEq] at hy
      have ei : i = t.length := by omega
      subst ei
      rw [a.1.2.1, ← hy]
      obtain ⟨m, hm⟩ : ∃ m, x.2 = m + 1 := ⟨x.2 - 1, by have := a.2.1; omega⟩
      rw [hm, nI_pred]
      simp
theorem rs_putAhead {h : ob_H} {r : ob_P} {d : Nat} {Q : ob_H → Prop} (hd : d < 8) (ha : Air h r) (hq : ∀ h', Fr (fun q k => q = 142 ∧ 24 * d ≤ k ∧ k < 24 * d + 24) h h' → (∀ k, k < 24 → h'.1 142 (24 * d + k) = r k) → Q h') : MX12_putAhead (nI d) h Q := by
  unfold MX12_putAhead
  refine lo2c1 24 (by omega) (fun j h1 => Fr (fun q k => q = 142 ∧ 24 * d ≤ k ∧ k < 24 * d + 24) h h1 ∧ ∀ k, k < j → h1.1 142 (24 * d + k) = r k) ?_ ?_ 0 (Nat.zero_le _) _ ⟨Fr.rf, fun k hk => absurd hk (Nat.not_lt_zero _)⟩
  · intro k j h1 hj hI hk
    obtain ⟨i1, i2⟩ := hI
    unfold FX12_putAhead_2
    rw [show (24 : Int32) = nI 24 from rfl, nI_mul, nI_add, show ix (nI (24 * d + j)) = 24 * d + j from nI_clamp (by omega), show ix (nI j) = j from nI_clamp (by omega), i1.i (by omega), ha j hj]
    refine br_f (nI_ge hj (by omega)) ⟨vp_in_nI (by omega) (by omega), vp_in_nI (by omega) (by omega), Lt_i fun y z => Lt_eq (nI_1 _) (hk _ ⟨?_, fun i hi => ?_⟩)⟩
    · rw [z]; exact i1.st (by omega)
    · rw [z, h_i_1]
      by_cases e : i = j
      · subst e; rw [if_pos ⟨rfl, rfl⟩]
      · rw [if_neg (by omega)]; exact i2 i (by omega)
  · intro k h1 hI
    unfold FX12_putAhead_2
    exact br_t (nI_le (a := 24) (Nat.le_refl _) (by decide)) (hq h1 hI.1 hI.2)
theorem rs_takeAhead {h : ob_H} {r : ob_P} {d : Nat} {Q : ob_H → Prop} (hd : d < 8) (ha : ∀ k, k < 24 → h.1 142 (24 * d + k) = r k) (hq : ∀ h', Fr (fun q _ => q = 136) h h' → Air h' r → Q h') : MX12_takeAhead (nI d) h Q := by
  unfold MX12_takeAhead
  refine lo2c1 24 (by omega) (fun j h1 => Fr (fun q _ => q = 136) h h1 ∧ ∀ k, k < j → h1.1 136 k = r k) ?_ ?_ 0 (Nat.zero_le _) _ ⟨Fr.rf, fun k hk => absurd hk (Nat.not_lt_zero _)⟩
  · intro k j h1 hj hI hk
    obtain ⟨i1, i2⟩ := hI
    unfold FX12_takeAhead_2
    rw [show (24 : Int32) = nI 24 from rfl, nI_mul, nI_add, show ix (nI (24 * d + j)) = 24 * d + j from nI_clamp (by omega), show ix (nI j) = j from nI_clamp (by omega), i1.i (by omega), ha j hj]
    refine br_f (nI_ge hj (by omega)) ⟨vp_in_nI (by omega) (by omega), vp_in_nI (by omega) (by omega), Lt_i fun y z => Lt_eq (nI_1 _) (hk _ ⟨?_, fun i hi => ?_⟩)⟩
    · rw [z]; exact i1.st rfl
    · rw [z, h_i_1]
      by_cases e : i = j
      · subst e; rw [if_pos ⟨rfl, rfl⟩]
      · rw [if_neg (by omega)]; exact i2 i (by omega)
  · intro k h1 hI
    unfold FX12_takeAhead_2
    exact br_t (nI_le (a := 24) (Nat.le_refl _) (by decide)) (hq h1 hI.1 hI.2)
theorem lo3_g {S A B C : Type} {F : (A → B → C → Prop) → A → B → C → Prop} (I : S → A → B → C → Prop) (μ : S → Nat) (hs : ∀ (k : A → B → C → Prop) (s : S) (a1 : A) (b1 : B) (c1 : C), I s a1 b1 c1 → (∀ s2 a2 b2 c2, I s2 a2 b2 c2 → μ s2 < μ s → k a2 b2 c2) → F k a1 b1 c1) (s : S) {a1 : A} {b1 : B} {c1 : C} (h0 : I s a1 b1 c1) : lo3 F a1 b1 c1 := by
  have key : ∀ m s a2 b2 c2, μ s < m → I s a2 b2 c2 → it3 F m a2 b2 c2 := by
    intro m
    induction m with
    | zero => intro s a2 b2 c2 h; exact absurd h (Nat.not_lt_zero _)
    | succ m ih =>
      intro s a2 b2 c2 h hI
      exact hs _ s a2 b2 c2 hI (fun s3 a3 b3 c3 hI2 hlt => ih s3 a3 b3 c3 (Nat.lt_of_lt_of_le hlt (Nat.le_of_lt_succ h)) hI2)
  exact ⟨_, key _ s a1 b1 c1 (Nat.lt_succ_self _) h0⟩
/-- the lies of the reference -/
def LM (h : ob_H) (L : List Nat) : Prop := L.length ≤ 7 ∧ h.1 108 62 = nI L.length ∧ ∀ i y, L[i]? = some y → h.1 140 i = nI y
theorem LM.fr {h h' : ob_H} {L : List Nat} (a : LM h L) (e : ∀ q k, (q = 108 ∧ k = 62) ∨ q = 140 → h'.1 q k = h.1 q k) : LM h' L :=
  ⟨a.1, by rw [e _ _ (by omega)]; exact a.2.1, fun i y hy => by rw [e _ _ (by omega)]; exact a.2.2 i y hy⟩
def TopS (w : ob_W) (h : ob_H) : List (ob_P × Nat) → Prop
  | [] => True
  | x :: t => OneS w h x t.length ∧ AllS w h t
theorem AllS.top {w : ob_W} {h : ob_H} : ∀ {t : List (ob_P × Nat)}, AllS w h t → TopS w h t
  | [], _ => trivial
  | _ :: _, a => ⟨a.1, a.2.2⟩
theorem wt_push {d j x : Nat} (hd : d < 7) (hj : x ≤ j) (hj7 : j < 7) (W : Nat) : (8 - 0) * 9 ^ (7 - (d + 1)) + ((8 - (j + 1)) * 9 ^ (7 - d) + W) < (8 - x) * 9 ^ (7 - d) + W := by
  have e : 9 ^ (7 - d) = 9 ^ (7 - (d + 1)) * 9 := by
    rw [← Nat.pow_succ]
    congr 1
    omega
  rw [e]
  have hp : 0 < 9 ^ (7 - (d + 1)) := Nat.pow_pos (by decide)
  generalize 9 ^ (7 - (d + 1)) = P at *
  have h1 : ((8 - (j + 1)) + 1) * (P * 9) ≤ (8 - x) * (P * 9) := Nat.mul_le_mul_right _ (by omega)
  rw [Nat.add_mul] at h1
  omega
theorem rs_soonest {h : ob_H} {w : ob_W} {r : ob_P} {Q : Int32 → ob_H → Prop} (hW : WFW w) (hw : RW h w) (hn : Nw h r) (hm : ∃ m, m ≤ 900000 ∧ r 21 = nI m)
    (hq : ∀ h', Fr LR h h' → LM h' (sol w 7 r).2 → Q (sol w 7 r).1 h') : MX12_soonest h Q := by
  have hn7 := hW.1
  obtain ⟨m, hm1, hm2⟩ := hm
  obtain ⟨m', q1, q2, q3⟩ := sol_min hW (f := 7) hm2
  have hlt : (sol w 7 r).1 < (1000000000 : Int32) := by
    rw [q3, Int32.lt_iff_toInt_lt, nI_toInt (by omega), show (1000000000 : Int32).toInt = 1000000000 by decide]
    omega
  unfold MX12_soonest
  refine rs_load hn fun h2 f2 a2 => Lt_i fun y1 z1 => ?_
  have ha1 : Air y1 r := fun k hk => by rw [z1, h_i_1, if_neg (by omega)]; exact a2 k hk
  refine rs_putAhead (d := 0) (by omega) ha1 fun h3 f3 e3 => Lt_i fun y4 z4 => ?_
  have g4 : Fr LR h y4 := by
    rw [z4]
    refine Fr.st (Fr.tr (h1 := y1) ?_ (f3.mono fun q k p => by unfold LR SR; omega)) (by unfold LR SR; omega)
    rw [z1]
    exact (f2.mono fun q k p => by unfold LR SR; omega).st (by unfold LR; omega)
  refine lo3_g (S := List (ob_P × Nat)) (fun st least n hh => ∃ acc : Int32 × List Nat, resS w st acc = sol w 7 r ∧ least = acc.1 ∧ n = nI st.length - 1 ∧ LM hh acc.2 ∧ Fr LR h hh ∧ TopS w hh st) wtS ?_ [(r, 0)] ⟨((1000000000 : Int32), []), ?_, rfl, (show (0 : Int32) = nI 1 - 1 by decide), ?_, g4, ?_, trivial⟩
  · intro k st a1 b1 c1 hI hk
    obtain ⟨acc, i1, rfl, rfl, i4, i5, i6⟩ := hI
    unfold FX12_soonest_27
    cases st with
    | nil =>
      have i1' : acc = sol w 7 r := i1
      subst i1'
      exact br_t (by decide) (hq c1 i5 i4)
    | cons x t =>
      obtain ⟨o1, o2⟩ := i6
      have hd7 : t.length ≤ 7 := by have := o1.2.2.2; omega
      have hx7 : x.2 ≤ 7 := by have := o1.2.2.1; omega
      rw [show nI (x :: t).length - 1 = nI t.length by rw [List.length_cons, nI_pred]]
      refine br_f (nI_pos (by omega)) (rs_takeAhead (by omega) o1.1 fun h1 f1 a1 => ⟨vp_in_nI (by omega) (by omega), Lt_i fun v zv => ?_⟩)
      have g1 : Fr LR h h1 := i5.tr (f1.mono fun q k p => by unfold LR SR; omega)
      have hw1 : RW h1 w := hw.lr hn7 g1
      rw [show ix (nI t.length) = t.length from nI_clamp (by omega), f1.i (by omega), o1.2.1, Int32.sub_add_cancel] at zv
      subst zv
      have p1 : OneS w h1 x t.length := o1.fr (fun k _ => f1.i (by omega)) (f1.i (by omega))
      have p2 : AllS w h1 t := o2.fr (fun k _ => f1.i (by omega)) (fun k _ => f1.i (by omega))
      have l1 : LM h1 acc.2 := i4.fr fun q k z => f1.i (by omega)
      have main : ∀ (acc1 : Int32 × List Nat) (h2 : ob_H), resS w t (foS (fun k => sol w (6 - t.length) (her w x.1 k 1)) (isS x.1 0) (pthS t) (w.1 - x.2) x.2 acc1) = sol w 7 r → LM h2 acc1.2 → Fr LR h h2 → OneS w h2 x t.length → AllS w h2 t → Air h2 x.1 → lo1 (FX12_soonest_110 acc1.1 (nI t.length) h2 Q k) (nI x.2) := by
        intro acc1 h2 j1 j2 j3 j4 j5 j6
        have hw2 : RW h2 w := hw.lr hn7 j3
        refine lo1c1 w.1 (by omega) (fun j => x.2 ≤ j ∧ resS w t (foS (fun k => sol w (6 - t.length) (her w x.1 k 1)) (isS x.1 0) (pthS t) (w.1 - j) j acc1) = sol w 7 r) ?_ ?_ x.2 j4.2.2.1 ⟨Nat.le_refl _, j1⟩
        · intro k1 j hj hI hk1
          obtain ⟨hxj, hres⟩ := hI
          obtain ⟨e, he⟩ : ∃ e, w.1 - j = e + 1 := ⟨w.1 - j - 1, by omega⟩
          rw [he] at hres
          have he' : w.1 - (j + 1) = e := by omega
          unfold FX12_soonest_110
          rw [hw2.1, show ix (nI j) = j from nI_clamp (by omega), j6 j (by omega)]
          refine br_f (nI_ge hj (by omega)) ⟨vp_in_nI (by omega) (by omega), br_c (fun c => ?_) (fun c => ?_)⟩
          · have hp : isS x.1 0 j = true := by simpa [isS] using c
            have hl1 := lft_pos hj c
            have hl2 := lft_her (s := 1) hn7 hj (by decide) c
            have h47 := j4.2.2.2
            have hd6 : t.length < 7 := by omega
            unfold KX12_soonest_133
            rw [show ix (nI t.length) = t.length from nI_clamp (by omega)]
            refine ⟨vp_in_nI (by omega) (by omega), Lt_i fun y5 z5 => ?_⟩
            have hw5 : h2.1 108 48 = y5.1 108 48 := by rw [z5, h_i_1, if_neg (by omega)]
            rw [← hw5, hw2.1]
            have g5 : Fr LR h y5 := by rw [z5]; exact j3.st (by unfold LR SR; omega)
            have a5 : Air y5 x.1 := fun k hk => by rw [z5, h_i_1, if_neg (by omega)]; exact j6 k hk
            refine br_t (by rw [nI_lt2 (by omega) (by omega)]; exact hj) (rs_goHear hn7 (hw.lr hn7 g5) a5 hj fun h6 f6 a6 => Lt_eq (nI_1 _) (rs_putAhead (by omega) a6 fun h7 f7 e7 => ⟨vp_in_nI (by omega) (by omega), Lt_i fun y8 z8 => ?_⟩))
            rw [show ix (nI (t.length + 1)) = t.length + 1 from nI_clamp (by omega)] at z8
            have g6 : Fr LR h h6 := g5.tr (f6.mono fun q k p => by unfold LR SR; omega)
            have g7 : Fr LR h h7 := g6.tr (f7.mono fun q k p => by unfold LR SR; omega)
            have g8 : Fr LR h y8 := by rw [z8]; exact g7.st (by unfold LR SR; omega)
            have e142 : ∀ k, k < 24 * (t.length + 1) → y8.1 142 k = h2.1 142 k := fun k hk => by
              rw [z8, h_i_1, if_neg (by omega), f7.i (by omega), f6.i (by omega), z5, h_i_1, if_neg (by omega)]
            have e141 : ∀ k, k < t.length → y8.1 141 k = h2.1 141 k := fun k hk => by
              rw [z8, h_i_1, if_neg (by omega), f7.i (by omega), f6.i (by omega), z5, h_i_1, if_neg (by omega)]
            refine hk ((her w x.1 j 1, 0) :: (x.1, j + 1) :: t) _ _ _ ⟨acc1, ?_, rfl, ?_, ?_, g8, ⟨?_, ?_, Nat.zero_le _, ?_⟩, ⟨?_, ?_, by simp only; omega, j4.2.2.2⟩, by simp, ?_⟩ ?_
            · rw [resS, resS]
              simp only [List.length_cons]
              rw [if_neg (Nat.succ_ne_zero j), if_pos trivial, Nat.sub_zero, pthS_c, Nat.add_sub_cancel, show 6 - (t.length + 1) = 6 - t.length - 1 by omega, entS_sol (by omega), he']
              rw [foS, if_pos hp] at hres
              exact hres
            · rw [List.length_cons, List.length_cons, nI_pred]
            · exact j2.fr fun q k z => by rw [z8, h_i_1, if_neg (by omega), f7.i (by omega), f6.i (by omega), z5, h_i_1, if_neg (by omega)]
            · intro k hk
              rw [z8, h_i_1, if_neg (by omega)]
              exact e7 k hk
            · rw [z8, h_i_1, if_pos ⟨rfl, rfl⟩]
              show (-1 : Int32) = nI 0 - 1
              decide
            · simp only [List.length_cons]
              have := j4.2.2.2
              omega
            · intro k hk
              rw [e142 _ (by omega)]
              exact j4.1 k hk
            · rw [z8, h_i_1, if_neg (by omega), f7.i (by omega), f6.i (by omega), z5, h_i_1, if_pos ⟨rfl, rfl⟩, nI_pred]
            · exact j5.fr (fun k hk => e142 k (by omega)) e141
            · rw [wtS, wtS, wtS]
              exact wt_push hd6 hxj (by omega) _
          · have hp : isS x.1 0 j = false := by simpa [isS] using c
            refine Lt_eq (nI_1 _) (hk1 ⟨by omega, ?_⟩)
            rw [foS_skip1 hp] at hres
            rw [he']
            exact hres
        · intro k1 hI
          obtain ⟨hxj, hres⟩ := hI
          rw [Nat.sub_self, foS] at hres
          unfold FX12_soonest_110
          rw [hw2.1]
          refine br_t (nI_le (Nat.le_refl _) (by omega)) ?_
          unfold KX12_soonest_133
          rw [show ix (nI t.length) = t.length from nI_clamp (by omega)]
          refine ⟨vp_in_nI (by omega) (by omega), Lt_i fun y5 z5 => ?_⟩
          have hw5 : h2.1 108 48 = y5.1 108 48 := by rw [z5, h_i_1, if_neg (by omega)]
          rw [← hw5, hw2.1]
          refine br_f (by rw [nI_lt2 (by omega) (by omega)]; omega) (Lt_i fun v zv => hk t _ _ _ ⟨acc1, hres, rfl, ?_, ?_, ?_, ?_⟩ ?_)
          · rw [zv, Int32.sub_eq_add_neg]
          · exact j2.fr fun q k z => by rw [z5, h_i_1, if_neg (by omega)]
          · rw [z5]; exact j3.st (by unfold LR SR; omega)
          · exact AllS.top (j5.fr (fun k _ => by rw [z5, h_i_1, if_neg (by omega)]) (fun k hk => by rw [z5, h_i_1, if_neg (by omega)]))
          · rw [wtS]
            have : 0 < (8 - x.2) * 9 ^ (7 - t.length) := Nat.mul_pos (by omega) (Nat.pow_pos (by decide))
            omega
      have same : (if x.2 = 0 then entS w x.1 (pthS t) acc else acc) = acc → lo1 (FX12_soonest_110 acc.1 (nI t.length) h1 Q k) (nI x.2) := fun e => main acc h1 (by rw [← i1, resS, e]) l1 g1 p1 p2 a1
      refine rs_thatAre hw1.1 hn7 a1 (br_c (fun c => br_c (fun c0 => br_c (fun cm => ?_) (fun cm => ?_)) (fun c0 => ?_)) (fun c => ?_))
      · rw [a1 21 (by omega)] at cm
        refine same ?_
        rw [entS, upS_f (x := (x.1 21, [])) (Int32.not_lt.mpr cm)]
        simp
      · rw [a1 21 (by omega)] at cm ⊢
        have hx0 : x.2 = 0 := (nI_eq (b := 0) (by omega) (by omega)).mp c0
        have hm0 : mkS w x.1 0 = 0 := (nI_eq (b := 0) (by have := mkS_lt (w := w) (r := x.1) (s := 0); have := pw7 hn7; omega) (by omega)).mp c
        refine Lt_i fun v zv => ?_
        subst zv
        have hres : resS w t (foS (fun k => sol w (6 - t.length) (her w x.1 k 1)) (isS x.1 0) (pthS t) (w.1 - x.2) x.2 (x.1 21, pthS t)) = sol w 7 r := by
          rw [← i1, resS, if_pos hx0, entS, if_pos hm0, upS_t (x := (x.1 21, [])) (Int32.not_le.mp cm)]
          simp
        refine lo2c1 t.length (by omega) (fun j h2 => Fr (fun q k => q = 140) h1 h2 ∧ ∀ i y, i < j → (pthS t)[i]? = some y → h2.1 140 i = nI y) ?_ ?_ 0 (Nat.zero_le _) _ ⟨Fr.rf, fun i y hi => absurd hi (Nat.not_lt_zero _)⟩
        · intro k2 j h2 hj hI hk2
          obtain ⟨f2, e2⟩ := hI
          unfold FX12_soonest_79
          rw [show ix (nI j) = j from nI_clamp (by omega)]
          refine br_f (nI_ge hj (by omega)) ⟨vp_in_nI (by omega) (by omega), vp_in_nI (by omega) (by omega), Lt_i fun y5 z5 => Lt_eq (nI_1 _) (hk2 _ ⟨?_, fun i y hi hy => ?_⟩)⟩
          · rw [z5]; exact Fr.st (P := fun q k => q = 140) f2 rfl
          · rw [z5, h_i_1]
            by_cases e : i = j
            · subst e
              rw [if_pos ⟨rfl, rfl⟩, f2.i (by omega)]
              exact AllS.row p2 i y hy
            · rw [if_neg (by omega)]
              exact e2 i y (by omega) hy
        · intro k2 h2 hI
          obtain ⟨f2, e2⟩ := hI
          unfold FX12_soonest_79
          refine br_t (nI_le (Nat.le_refl _) (by omega)) (Lt_i fun y5 z5 => ?_)
          have fx : Fr (fun q k => (q = 108 ∧ k = 62) ∨ q = 140) h1 y5 := by
            rw [z5]
            exact (f2.mono fun q k p => Or.inr p).st (by omega)
          refine main (x.1 21, pthS t) y5 hres ⟨by simp only; rw [pthS_l]; exact hd7, ?_, fun i y hy => ?_⟩ (g1.tr (fx.mono fun q k p => by unfold LR; omega)) (p1.fr (fun k _ => fx.i (by omega)) (fx.i (by omega))) (p2.fr (fun k _ => fx.i (by omega)) (fun k _ => fx.i (by omega))) (fun k hk => by rw [fx.i (by omega)]; exact a1 k hk)
          · rw [z5, h_i_1, if_pos ⟨rfl, rfl⟩]
            simp only
            rw [pthS_l]
          · rw [z5, h_i_1, if_neg (by omega)]
            have hi := (List.getElem?_eq_some_iff.mp hy).1
            simp only at hi hy
            rw [pthS_l] at hi
            exact e2 i y hi hy
      · refine same (if_neg fun e => c0 ?_)
        rw [e]; rfl
      · refine same ?_
        have hne : ¬ mkS w x.1 0 = 0 := fun e => c (by rw [show mk (isS x.1 0) w.1 = 0 from e]; rfl)
        by_cases e0 : x.2 = 0
        · rw [if_pos e0, entS, if_neg hne]
        · rw [if_neg e0]
  · rw [resS, resS, if_pos rfl]
    have := entS_sol (w := w) (r := r) (path := pthS []) (acc := ((1000000000 : Int32), [])) (f := 7) (Nat.le_trans (cnt_le _ _) hn7)
    simp only [List.length_nil] at this ⊢
    exact this.trans (by rw [upS_t hlt]; simp [pthS])
  · refine ⟨by simp, ?_, fun i y hy => by simp at hy⟩
    rw [z4, h_i_1, if_neg (by omega), f3.i (by omega), z1, h_i_1, if_pos ⟨rfl, rfl⟩]
    rfl
  · refine ⟨fun k hk => ?_, ?_, Nat.zero_le _, ?_⟩
    · rw [z4, h_i_1, if_neg (by omega)]
      exact e3 k hk
    · rw [z4, h_i_1, if_pos ⟨rfl, rfl⟩]
      show (-1 : Int32) = nI 0 - 1
      decide
    · have := cnt_le (fun o => decide (r o = 0 ∨ r o = 6)) w.1
      show 0 + cnt (fun o => decide (r o = 0 ∨ r o = 6)) w.1 ≤ 7
      omega
theorem op_soonest {B : Nat} (hB : B ≤ 100000) : OK B MX11_soonest MX12_soonest := OK.ly fun h w r c _ => by
  obtain ⟨hW, hP, hw, hrw, hr, hn⟩ := c
  have hn7 := hW.1
  have hm : ∃ m, m ≤ 900000 ∧ r 21 = nI m := by
    obtain ⟨m, h1, h2⟩ := hP.2.1
    exact ⟨m, by omega, h2⟩
  refine ⟨fun x L => x = (sol w 7 r).1 ∧ L = (sol w 7 r).2.map nI, fun Q hq => ?_, fun h1 f1 x L hx Q hq => ?_⟩
  · unfold MX11_soonest
    refine cs_run hW hw hr hm fun h1 f1 b1 => ?_
    obtain ⟨b1, b2, b3, b4⟩ := b1
    unfold MX11_lay
    rw [b3, show ix (nI (sol w 7 r).2.length) = (sol w 7 r).2.length from nI_clamp (by omega)]
    refine Lt_i fun y1 z1 => ⟨nI_pos (by omega), by omega, by omega, Lt_i fun y2 z2 => ?_⟩
    have e472 : y2.1 47 2 = (sol w 7 r).1 := by rw [z2, h_c_1, if_neg (by omega), z1, h_i_1, if_neg (by omega)]; exact b1
    show Q (y2.1 47 2) y2
    rw [e472]
    refine hq _ ((sol w 7 r).2.map nI) y2 ⟨rfl, rfl⟩ ?_ (by simpa using b2) ?_ ?_
    · rw [z2, z1]
      exact ((f1.mono SC_LC).st (by unfold LC; omega)).cp (fun k _ _ => by unfold LC; omega)
    · rw [z2, h_c_1, if_neg (by omega), z1, h_i_1, if_pos (by omega)]
      simp
    · intro i y hy
      rw [List.getElem?_map] at hy
      cases hg : (sol w 7 r).2[i]? with
      | none => rw [hg] at hy; cases hy
      | some x =>
        rw [hg] at hy
        simp only [Option.map_some, Option.some.injEq] at hy
        have hi := (List.getElem?_eq_some_iff.mp hg).1
        rw [z2, h_c_1, if_pos rfl, if_pos (by omega), z1, h_i_1, if_neg (by omega), Nat.sub_zero, Nat.zero_add, b4 i x hg]
        exact hy
  · obtain ⟨rfl, rfl⟩ := hx
    refine rs_soonest hW (hrw.lc hn7 f1) (hn.lc f1) hm fun h2 f2 l2 => hq h2 f2 (by simpa using l2.2.1) (fun i y hy => ?_)
    rw [List.getElem?_map] at hy
    cases hg : (sol w 7 r).2[i]? with
    | none => rw [hg] at hy; cases hy
    | some x =>
      rw [hg] at hy
      simp only [Option.map_some, Option.some.injEq] at hy
      rw [l2.2.2 i x hg]
      exact hy
