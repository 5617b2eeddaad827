-- ===== more questions: by, upset, first, gain, crowd =====
def foL (g : Int32 → Nat × Int32 → Int32) (L : List (Nat × Int32)) (j : Nat) : Int32 := (L.take j).foldl g 0
theorem foL_s {g : Int32 → Nat × Int32 → Int32} {L : List (Nat × Int32)} {j : Nat} {x : Nat × Int32} (h : L[j]? = some x) : foL g L (j + 1) = g (foL g L j) x := by
  unfold foL
  rw [List.take_succ, h]
  simp
def byG (p : Int32) (a : Int32) (x : Nat × Int32) : Int32 := if p < x.2 then a else a + 1
theorem op_by {B : Nat} (p : Int32) : OK B (MX11_by p) (MX12_by p) := OK.ask fun h w r c _ => by
  obtain ⟨hW, hP, hw, hrw, hr, hn⟩ := c
  have hn7 := hW.1
  refine ⟨fun x => x = if p < 0 ∨ 9999 < p then -1 else foL (byG p) (gn w r).1 (gn w r).1.length, fun Q hq => ?_, fun h1 f1 x hx Q hq => ?_⟩
  · unfold MX11_by
    refine br_c (fun c => hq _ h (by rw [if_pos (Or.inl c)]) Fr.rf) (fun c => br_c (fun c2 => ?_) (fun c2 => hq _ h (by rw [if_pos (Or.inr (Int32.not_le.mp c2))]) Fr.rf))
    have hfin : ∀ h1, Fr SC h h1 → Q (foL (byG p) (gn w r).1 (gn w r).1.length) h1 := fun h1 f1 => hq _ h1 (if_neg (by rintro (z | z); exact c z; exact absurd c2 (Int32.not_le.mpr z))).symm f1
    refine cs_goOn hW hw hr (by omega) fun h1 f1 c1 _ => ?_
    obtain ⟨d1, d2, d3⟩ := c1
    refine lo2c2 (gn w r).1.length (by omega) (fun j a => a = foL (byG p) (gn w r).1 j) ?_ ?_ 0 (Nat.zero_le _) _ rfl
    · intro k j a hj hI hk
      have ej : ix (nI j) = j := nI_clamp (by omega)
      obtain ⟨⟨o, b⟩, hob⟩ : ∃ x, (gn w r).1[j]? = some x := ⟨_, List.getElem?_eq_getElem hj⟩
      obtain ⟨e1, e2⟩ := d3 j o b hob
      subst hI
      unfold FX11_by_29
      rw [d1, ej, e2]
      refine br_f (nI_ge hj (by omega)) ⟨vp_in_nI (by omega) (by omega), br_c (fun c => ?_) (fun c => ?_)⟩
      · refine Lt_eq (nI_1 _) (hk _ ?_)
        rw [foL_s hob, byG, if_pos c]
      · refine Lt_i fun y1 z1 => Lt_eq (nI_1 _) (hk _ ?_)
        rw [foL_s hob, byG, if_neg c, z1]
    · intro k a hI
      subst hI
      unfold FX11_by_29
      rw [d1]
      exact br_t (nI_le (Nat.le_refl _) (by omega)) (hfin h1 (f1.mono SC_CG))
  · subst hx
    unfold MX12_by
    refine rs_isIn (fun a b => br_f (by decide) ?_) (fun a => br_t rfl ?_)
    · rw [if_neg (by rintro (z | z); exact a z; exact b z)] at hq
      refine rs_duskNow hW (hrw.sc hn7 f1) (hn.sc f1) fun h2 f2 c2 _ => ?_
      obtain ⟨d1, d2, d3⟩ := c2
      refine lo2c2 (gn w r).1.length (by omega) (fun j a => a = foL (byG p) (gn w r).1 j) ?_ ?_ 0 (Nat.zero_le _) _ rfl
      · intro k j a hj hI hk
        have ej : ix (nI j) = j := nI_clamp (by omega)
        obtain ⟨⟨o, b⟩, hob⟩ : ∃ x, (gn w r).1[j]? = some x := ⟨_, List.getElem?_eq_getElem hj⟩
        obtain ⟨e1, e2⟩ := d3 j o b hob
        subst hI
        unfold FX12_by_22
        rw [d1, ej, e2]
        refine br_f (nI_ge hj (by omega)) ⟨vp_in_nI (by omega) (by omega), br_c (fun c => ?_) (fun c => ?_)⟩
        · unfold KX12_by_46
          refine rs_truth (Lt_i fun y1 z1 => Lt_eq (nI_1 _) (hk _ ?_))
          rw [foL_s hob, byG, if_pos c, z1]
          simp
        · unfold KX12_by_46
          refine rs_truth (Lt_i fun y1 z1 => Lt_eq (nI_1 _) (hk _ ?_))
          rw [foL_s hob, byG, if_neg c, z1]
          simp
      · intro k a hI
        subst hI
        unfold FX12_by_22
        rw [d1]
        exact br_t (nI_le (Nat.le_refl _) (by omega)) (hq h2 f2)
    · rw [if_pos a] at hq
      exact hq h1 Fr.rf
/-- how many follow one whose grave is less -/
def ups (w : ob_W) (L : List (Nat × Int32)) : Nat → Int32
  | 0 => 0
  | j + 1 => if j = 0 then 0 else match L[j - 1]?, L[j]? with
    | some x, some y => if wv w 0 y.1 ≤ wv w 0 x.1 then ups w L j else ups w L j + 1
    | _, _ => ups w L j
theorem op_upset {B : Nat} : OK B MX11_upset MX12_upset := OK.ask fun h w r c _ => by
  obtain ⟨hW, hP, hw, hrw, hr, hn⟩ := c
  have hn7 := hW.1
  have hlen : (gn w r).1.length ≤ 7 := gon_len
  have hs1 : ∀ j, ¬ j < (gn w r).1.length → j = max 1 (gn w r).1.length → True := fun _ _ _ => trivial
  refine ⟨fun x => x = ups w (gn w r).1 (max 1 (gn w r).1.length), fun Q hq => ?_, fun h1 f1 x hx Q hq => ?_⟩
  · unfold MX11_upset
    refine cs_goOn hW hw hr (by omega) fun h1 f1 c1 _ => ?_
    obtain ⟨d1, d2, d3⟩ := c1
    have hw1 := hw.sc (f1.mono SC_CG)
    have hlm : max 1 (gn w r).1.length ≤ 7 := by omega
    refine lo2c2 (max 1 (gn w r).1.length) (by omega) (fun j a => 1 ≤ j ∧ a = ups w (gn w r).1 j) ?_ ?_ 1 (by omega) _ ⟨Nat.le_refl _, rfl⟩
    · intro k j a hj hI hk
      obtain ⟨h1j, rfl⟩ := hI
      obtain ⟨i, rfl⟩ : ∃ i, j = i + 1 := ⟨j - 1, by omega⟩
      have hj' : i + 1 < (gn w r).1.length := by omega
      have ej : ix (nI (i + 1)) = i + 1 := nI_clamp (by omega)
      have ei : ix (nI i) = i := nI_clamp (by omega)
      obtain ⟨⟨o, b⟩, hob⟩ : ∃ x, (gn w r).1[i]? = some x := ⟨_, List.getElem?_eq_getElem (by omega)⟩
      obtain ⟨⟨o2, b2⟩, hob2⟩ : ∃ x, (gn w r).1[i + 1]? = some x := ⟨_, List.getElem?_eq_getElem (by omega)⟩
      have l1 := gon_mem hob
      have l2 := gon_mem hob2
      have w1 := hw1.2.1 0 (by omega)
      unfold FX11_upset_16
      rw [d1, nI_pred, ej, ei, (d3 _ _ _ hob).1, (d3 _ _ _ hob2).1, show ix (nI o) = o from nI_clamp (by omega), show ix (nI o2) = o2 from nI_clamp (by omega), w1 o l1, w1 o2 l2]
      refine br_f (nI_ge hj' (by omega)) ⟨vp_in_nI (by omega) (by omega), vp_in_nI (by omega) (by omega), vp_in_nI (by omega) (by omega), vp_in_nI (by omega) (by omega), br_c (fun c => ?_) (fun c => ?_)⟩
      · refine Lt_eq (nI_1 _) (hk _ ⟨by omega, ?_⟩)
        conv => rhs; unfold ups
        rw [if_neg (by omega), Nat.add_sub_cancel, hob, hob2]
        simp only
        rw [if_pos c]
      · refine Lt_i fun y1 z1 => Lt_eq (nI_1 _) (hk _ ⟨by omega, ?_⟩)
        rw [z1]
        conv => rhs; unfold ups
        rw [if_neg (by omega), Nat.add_sub_cancel, hob, hob2]
        simp only
        rw [if_neg c]
    · intro k a hI
      obtain ⟨_, rfl⟩ := hI
      unfold FX11_upset_16
      rw [d1]
      exact br_t (nI_le (by omega) (by omega)) (hq _ h1 rfl (f1.mono SC_CG))
  · subst hx
    unfold MX12_upset
    refine rs_duskNow hW (hrw.sc hn7 f1) (hn.sc f1) fun h2 f2 c2 _ => ?_
    obtain ⟨d1, d2, d3⟩ := c2
    have hw1 := (hrw.sc hn7 f1).sr hn7 f2
    have hlm : max 1 (gn w r).1.length ≤ 7 := by omega
    refine lo2c2 (max 1 (gn w r).1.length) (by omega) (fun j a => 1 ≤ j ∧ a = ups w (gn w r).1 j) ?_ ?_ 1 (by omega) _ ⟨Nat.le_refl _, rfl⟩
    · intro k j a hj hI hk
      obtain ⟨h1j, rfl⟩ := hI
      obtain ⟨i, rfl⟩ : ∃ i, j = i + 1 := ⟨j - 1, by omega⟩
      have hj' : i + 1 < (gn w r).1.length := by omega
      have ej : ix (nI (i + 1)) = i + 1 := nI_clamp (by omega)
      have ei : ix (nI i) = i := nI_clamp (by omega)
      obtain ⟨⟨o, b⟩, hob⟩ : ∃ x, (gn w r).1[i]? = some x := ⟨_, List.getElem?_eq_getElem (by omega)⟩
      obtain ⟨⟨o2, b2⟩, hob2⟩ : ∃ x, (gn w r).1[i + 1]? = some x := ⟨_, List.getElem?_eq_getElem (by omega)⟩
      have l1 := gon_mem hob
      have l2 := gon_mem hob2
      have w1 := hw1.2.1 0 (by omega)
      rw [show 128 + 0 = 128 from rfl] at w1
      unfold FX12_upset_9
      rw [d1, nI_pred, ej, ei, (d3 _ _ _ hob).1, (d3 _ _ _ hob2).1, show ix (nI o) = o from nI_clamp (by omega), show ix (nI o2) = o2 from nI_clamp (by omega), w1 o l1, w1 o2 l2]
      refine br_f (nI_ge hj' (by omega)) ⟨vp_in_nI (by omega) (by omega), vp_in_nI (by omega) (by omega), vp_in_nI (by omega) (by omega), vp_in_nI (by omega) (by omega), br_c (fun c => ?_) (fun c => ?_)⟩
      · unfold KX12_upset_50
        refine rs_truth (Lt_i fun y1 z1 => Lt_eq (nI_1 _) (hk _ ⟨by omega, ?_⟩))
        have z2 : y1 = ups w (gn w r).1 (i + 1) := by rw [z1]; simp
        rw [z2]
        conv => rhs; unfold ups
        rw [if_neg (by omega), Nat.add_sub_cancel, hob, hob2]
        simp only
        rw [if_pos c]
      · unfold KX12_upset_50
        refine rs_truth (Lt_i fun y1 z1 => Lt_eq (nI_1 _) (hk _ ⟨by omega, ?_⟩))
        have z2 : y1 = ups w (gn w r).1 (i + 1) + 1 := by rw [z1]; simp
        rw [z2]
        conv => rhs; unfold ups
        rw [if_neg (by omega), Nat.add_sub_cancel, hob, hob2]
        simp only
        rw [if_neg c]
    · intro k a hI
      obtain ⟨_, rfl⟩ := hI
      unfold FX12_upset_9
      rw [d1]
      exact br_t (nI_le (by omega) (by omega)) (hq h2 f2)
theorem her_21 {w : ob_W} {r : ob_P} {o : Nat} {s : Int32} (hn7 : w.1 ≤ 7) (ho : o < w.1) : her w r o s 21 = r 21 + wv w 1 o := by
  unfold her lev
  rw [if_neg (by omega)]
  unfold her3
  rw [if_neg (by omega), if_neg (by omega)]
  unfold her2
  rw [if_neg (by omega)]
  unfold her1 pu
  rw [if_neg (by omega), if_pos rfl]
theorem min_60 {w : ob_W} {o : Nat} (hW : WFW w) (ho : o < w.1) : ∃ m, 1 ≤ m ∧ m ≤ 60 ∧ wv w 1 o = nI m := by
  obtain ⟨_, _, _, h4, _⟩ := hW
  obtain ⟨_, _, h1, h2, _⟩ := h4 o ho
  have a1 := Int32.le_iff_toInt_le.mp h1
  have a2 := Int32.le_iff_toInt_le.mp h2
  rw [show (1 : Int32).toInt = 1 by decide] at a1
  rw [show (60 : Int32).toInt = 60 by decide] at a2
  refine ⟨(wv w 1 o).toInt.toNat, by omega, by omega, ?_⟩
  apply Int32.toInt_inj.mp
  rw [nI_toInt (by omega)]
  omega
theorem gon_min {w : ob_W} (hW : WFW w) : ∀ {f : Nat} {r : ob_P} {m : Nat}, r 21 = nI m → ∃ m', m ≤ m' ∧ m' ≤ m + 60 * f ∧ (gon w f r).2 21 = nI m'
  | 0, r, m, h => ⟨m, Nat.le_refl _, by omega, h⟩
  | f + 1, r, m, h => by
    cases ht : trn w r with
    | none => rw [gon_none ht]; exact ⟨m, Nat.le_refl _, by omega, h⟩
    | some o =>
      rw [gon_some ht]
      obtain ⟨d, d1, d2, d3⟩ := min_60 hW (trn_lt ht).1
      obtain ⟨m', a, b, c⟩ := gon_min hW (f := f) (r := her w r o 1) (m := m + d) (by rw [her_21 hW.1 (trn_lt ht).1, h, d3, nI_add])
      exact ⟨m', by omega, by omega, c⟩
theorem dsk_min {w : ob_W} {r : ob_P} {m : Nat} (hW : WFW w) (h : r 21 = nI m) : ∃ m', m ≤ m' ∧ m' ≤ m + 420 ∧ dsk w r = nI m' := gon_min (f := 7) hW h
/-- which one heard first makes the dusk earliest -/
def fst1 (w : ob_W) (r : ob_P) : Nat → Option (Nat × Int32)
  | 0 => none
  | j + 1 => if isS r 0 j then (match fst1 w r j with
      | none => some (j, dsk w (her w r j 1))
      | some x => if dsk w (her w r j 1) < x.2 then some (j, dsk w (her w r j 1)) else some x) else fst1 w r j
theorem cs_findFirst {h : ob_H} {w : ob_W} {r : ob_P} {Q : Int32 → ob_H → Prop} (hW : WFW w) (hw : CW h w) (hr : CR h w.1 34 r) (hq : ∀ x h', Fr SC h h' → (fst1 w r w.1 = none → x = 0) → (∀ y, fst1 w r w.1 = some y → x = 1 ∧ h'.1 92 0 = nI y.1 ∧ h'.1 92 4 = y.2) → Q x h') : MX0_findFirst h Q := by
  have hn7 := hW.1
  unfold MX0_findFirst
  refine lo3c2 w.1 (by omega) (fun j a h1 => Fr SC h h1 ∧ (a = 0 ∨ a = 1) ∧ (fst1 w r j = none → a = 0) ∧ ∀ y, fst1 w r j = some y → a = 1 ∧ h1.1 92 0 = nI y.1 ∧ h1.1 92 4 = y.2) ?_ ?_ 0 (Nat.zero_le _) _ _ ⟨Fr.rf, Or.inl rfl, fun _ => rfl, fun y hy => by simp [fst1] at hy⟩
  · intro k j a h1 hj hI hk
    obtain ⟨i1, i2, i3, i4⟩ := hI
    unfold FX0_findFirst_4
    rw [(hw.sc i1).1]
    refine br_f (nI_ge hj (by omega)) (cs_waits hn7 (hr.sc i1) hj ?_)
    cases hz : isS r 0 j with
    | false =>
      refine br_t rfl (Lt_eq (nI_1 _) (hk _ _ ⟨i1, i2, ?_, ?_⟩))
      · intro hy
        rw [fst1, hz] at hy
        exact i3 hy
      · intro y hy
        rw [fst1, hz] at hy
        exact i4 y hy
    | true =>
      have h0 : r j = 0 := by simpa [isS] using hz
      refine br_f (by decide) (cs_copy hn7 (hr.sc i1) (by omega) fun h2 f2 r2 => ?_)
      have g2 : Fr SC h h2 := i1.tr (f2.mono fun q k p => by unfold SC; omega)
      refine cs_hearAs hW (hw.sc g2) r2 hj h0 ⟨by omega, by omega⟩ (by omega) (s := 1) fun h3 f3 r3 => ?_
      have g3 : Fr SC h h3 := g2.tr (f3.mono fun q k p => by unfold CM at p; unfold SC; omega)
      refine cs_follow hW (hw.sc g3) r3 fun h4 f4 _ _ => ?_
      have g4 : Fr SC h h4 := g3.tr (f4.mono SC_CG)
      have e92 : ∀ k, h4.1 92 k = h1.1 92 k := fun k => by rw [f4.i (by unfold CG; omega), f3.i (by unfold CM; omega), f2.i (by omega)]
      have hst : ∀ (v : Int32), fst1 w r (j + 1) = some (j, v) → KX0_findFirst_72 (nI j) v h4 Q k := by
        intro v hv
        unfold KX0_findFirst_72
        refine Lt_i fun y1 z1 => Lt_i fun y2 z2 => Lt_eq (nI_1 _) (hk _ _ ⟨?_, Or.inr rfl, fun hy => (Option.some_ne_none _ (hv.symm.trans hy)).elim, fun y hy => ?_⟩)
        · rw [z2, z1]
          exact (g4.st (by unfold SC; omega)).st (by unfold SC; omega)
        · have ey : (j, v) = y := Option.some.inj (hv.symm.trans hy)
          subst ey
          refine ⟨rfl, ?_, ?_⟩
          · rw [z2, h_i_1, if_neg (by omega), z1, h_i_1, if_pos (by omega)]
          · rw [z2, h_i_1, if_pos (by omega)]
      cases hf : fst1 w r j with
      | none =>
        rw [i3 hf]
        refine br_t rfl (hst _ ?_)
        rw [fst1, hz, hf]
        rfl
      | some y =>
        obtain ⟨b1, b2, b3⟩ := i4 y hf
        rw [b1, e92, b3]
        refine br_f (by decide) (br_c (fun c => ?_) (fun c => ?_))
        · have e : fst1 w r (j + 1) = some y := by
            rw [fst1, hz, hf]
            simp only [if_true]
            exact if_neg (Int32.not_lt.mpr c)
          refine Lt_eq (nI_1 _) (hk _ _ ⟨g4, Or.inr rfl, fun hy => (Option.some_ne_none _ (e.symm.trans hy)).elim, fun y' hy => ?_⟩)
          have ey : y = y' := Option.some.inj (e.symm.trans hy)
          subst ey
          rw [e92, e92]
          exact ⟨rfl, b2, b3⟩
        · refine hst _ ?_
          rw [fst1, hz, hf]
          simp only [if_true]
          exact if_pos (Int32.not_le.mp c)
  · intro k a h1 hI
    obtain ⟨i1, i2, i3, i4⟩ := hI
    unfold FX0_findFirst_4
    rw [(hw.sc i1).1]
    refine br_t (nI_le (Nat.le_refl _) (by omega)) ⟨by rcases i2 with rfl | rfl <;> rfl, hq a h1 i1 i3 i4⟩
theorem fst1_lt {w : ob_W} {r : ob_P} : ∀ {j : Nat} {y : Nat × Int32}, fst1 w r j = some y → y.1 < j ∧ y.2 = dsk w (her w r y.1 1) ∧ r y.1 = 0
  | 0, y, h => by simp [fst1] at h
  | j + 1, y, h => by
    rw [fst1] at h
    have ih : ∀ y', fst1 w r j = some y' → y'.1 < j ∧ y'.2 = dsk w (her w r y'.1 1) ∧ r y'.1 = 0 := fun y' h' => fst1_lt h'
    by_cases hz : isS r 0 j = true
    · have h0 : r j = 0 := by simpa [isS] using hz
      rw [if_pos hz] at h
      cases hf : fst1 w r j with
      | none =>
        rw [hf] at h
        simp only [Option.some.injEq] at h
        subst h
        exact ⟨Nat.lt_succ_self _, rfl, h0⟩
      | some y' =>
        rw [hf] at h
        simp only at h
        split at h
        · simp only [Option.some.injEq] at h
          subst h
          exact ⟨Nat.lt_succ_self _, rfl, h0⟩
        · simp only [Option.some.injEq] at h
          subst h
          have := ih _ hf
          exact ⟨by omega, this.2⟩
    · rw [if_neg hz] at h
      have := ih _ h
      exact ⟨by omega, this.2⟩
def fstV (w : ob_W) (r : ob_P) (p : Int32) : Int32 := match fst1 w r w.1 with
  | none => -1
  | some y => if p = 0 then nI y.1 else y.2
theorem op_first {B : Nat} (hB : B ≤ 100000) (p : Int32) : OK B (MX11_first p) (MX12_first p) := OK.ask fun h w r c _ => by
  obtain ⟨hW, hP, hw, hrw, hr, hn⟩ := c
  have hn7 := hW.1
  refine ⟨fun x => x = if p < 0 ∨ 1 < p then -1 else fstV w r p, fun Q hq => ?_, fun h1 f1 x hx Q hq => ?_⟩
  · unfold MX11_first
    refine br_c (fun c => hq _ h (by rw [if_pos (Or.inl c)]) Fr.rf) (fun c => br_c (fun c2 => hq _ h (by rw [if_pos (Or.inr c2)]) Fr.rf) (fun c2 => ?_))
    have hfin : ∀ v h1, Fr SC h h1 → v = fstV w r p → Q v h1 := fun v h1 f1 e => hq v h1 (e.trans (if_neg (c := p < 0 ∨ 1 < p) (by rintro (z | z); exact c z; exact c2 z)).symm) f1
    refine cs_findFirst hW hw hr fun x h1 f1 a1 a2 => ?_
    unfold fstV at hfin
    cases hf : fst1 w r w.1 with
    | none =>
      rw [hf] at hfin
      rw [a1 hf]
      exact br_t rfl (hfin _ h1 f1 rfl)
    | some y =>
      rw [hf] at hfin
      obtain ⟨b1, b2, b3⟩ := a2 y hf
      rw [b1, b2, b3]
      refine br_f (by decide) (br_c (fun c => hfin _ h1 f1 (by simp [c])) (fun c => hfin _ h1 f1 (by simp [c])))
  · subst hx
    have hn1 := hn.sc f1
    have hw1 := hrw.sc hn7 f1
    unfold MX12_first
    refine rs_isIn (fun a b => br_f (by decide) ?_) (fun a => br_t rfl ?_)
    · rw [if_neg (by rintro (z | z); exact a z; exact b z)] at hq
      refine lo4c3 w.1 (by omega) (fun j a b h2 => Fr SR h1 h2 ∧ (fst1 w r j = none → a = -1 ∧ b = 1000000000) ∧ ∀ y, fst1 w r j = some y → a = nI y.1 ∧ b = y.2) ?_ ?_ 0 (Nat.zero_le _) _ _ _ ⟨Fr.rf, fun _ => ⟨rfl, rfl⟩, fun y hy => by simp [fst1] at hy⟩
      · intro k j a b h2 hj hI hk
        obtain ⟨i1, i2, i3⟩ := hI
        unfold FX12_first_20
        have ej : ix (nI j) = j := nI_clamp (by omega)
        rw [(hw1.sr hn7 i1).1, ej, (hn1.sr i1) j (by omega)]
        refine br_f (nI_ge hj (by omega)) ⟨vp_in_nI (by omega) (by omega), br_c (fun c => ?_) (fun c => ?_)⟩
        · have hz : isS r 0 j = true := by simpa [isS] using c
          refine rs_load (hn1.sr i1) fun h3 f3 a3 => ?_
          have g3 : Fr SR h1 h3 := i1.tr (f3.mono (fun q k p => by unfold SR; omega))
          refine rs_goHear hn7 (hw1.sr hn7 g3) a3 hj fun h4 f4 a4 => ?_
          have g4 : Fr SR h1 h4 := g3.tr (f4.mono (fun q k p => by unfold SR; omega))
          refine rs_goOn hW (hw1.sr hn7 g4) a4 fun h5 f5 _ _ => ?_
          have g5 : Fr SR h1 h5 := g4.tr f5
          cases hf : fst1 w r j with
          | none =>
            obtain ⟨e1, e2⟩ := i2 hf
            subst e1 e2
            obtain ⟨m, hm1, hm2⟩ := hP.2.1
            obtain ⟨d, d1, d2, d3⟩ := min_60 hW hj
            obtain ⟨m', _, q2, q3⟩ := dsk_min (m := m + d) hW (r := her w r j 1) (by rw [her_21 hn7 hj, hm2, d3, nI_add])
            refine br_t (by rw [q3, show (1000000000 : Int32) = nI 1000000000 from rfl, nI_lt2 (by omega) (by omega)]; omega) ?_
            have e : fst1 w r (j + 1) = some (j, dsk w (her w r j 1)) := by rw [fst1, hz, hf]; rfl
            refine Lt_eq (nI_1 _) (hk _ _ _ ⟨g5, fun hy => (Option.some_ne_none _ (e.symm.trans hy)).elim, fun y hy => ?_⟩)
            have ey := Option.some.inj (e.symm.trans hy)
            subst ey
            exact ⟨rfl, rfl⟩
          | some y =>
            obtain ⟨e1, e2⟩ := i3 y hf
            subst e1 e2
            refine br_c (fun c => ?_) (fun c => ?_)
            · have e : fst1 w r (j + 1) = some (j, dsk w (her w r j 1)) := by
                rw [fst1, hz, hf]
                simp only [if_true]
                exact if_pos c
              refine Lt_eq (nI_1 _) (hk _ _ _ ⟨g5, fun hy => (Option.some_ne_none _ (e.symm.trans hy)).elim, fun y hy => ?_⟩)
              have ey := Option.some.inj (e.symm.trans hy)
              subst ey
              exact ⟨rfl, rfl⟩
            · have e : fst1 w r (j + 1) = some y := by
                rw [fst1, hz, hf]
                simp only [if_true]
                exact if_neg c
              refine Lt_eq (nI_1 _) (hk _ _ _ ⟨g5, fun hy => (Option.some_ne_none _ (e.symm.trans hy)).elim, fun y' hy => ?_⟩)
              have ey := Option.some.inj (e.symm.trans hy)
              subst ey
              exact ⟨rfl, rfl⟩
        · have hz : isS r 0 j = false := by simpa [isS] using c
          have e : fst1 w r (j + 1) = fst1 w r j := by rw [fst1, hz]; rfl
          refine Lt_eq (nI_1 _) (hk _ _ _ ⟨i1, ?_, ?_⟩)
          · rw [e]; exact i2
          · rw [e]; exact i3
      · intro k a b h2 hI
        obtain ⟨i1, i2, i3⟩ := hI
        unfold FX12_first_20
        rw [(hw1.sr hn7 i1).1]
        refine br_t (nI_le (Nat.le_refl _) (by omega)) ?_
        unfold fstV at hq
        cases hf : fst1 w r w.1 with
        | none =>
          rw [hf] at hq
          obtain ⟨e1, e2⟩ := i2 hf
          subst e1
          exact br_f (by decide) (hq h2 i1)
        | some y =>
          rw [hf] at hq
          obtain ⟨e1, e2⟩ := i3 y hf
          subst e1 e2
          have := (fst1_lt hf).1
          refine br_t (by rw [show (0 : Int32) = nI 0 from rfl, nI_le2 (by omega) (by omega)]; omega) (br_c (fun c => ?_) (fun c => ?_))
          · have h3 := hq h2 i1
            simp only at h3
            rwa [if_pos c] at h3
          · have h3 := hq h2 i1
            simp only at h3
            rwa [if_neg c] at h3
    · rw [if_pos a] at hq
      exact hq h1 Fr.rf
theorem cs_duskWithout {h : ob_H} {w : ob_W} {r : ob_P} {p : Nat → Bool} {Q : Int32 → ob_H → Prop} (hW : WFW w) (hw : CW h w) (hr : CR h w.1 34 r) (hp : ∀ k, k < w.1 → p k = true → r k = 0) (hq : ∀ h', Fr SC h h' → Q (dsk w (mov w.1 p 5 r)) h') : MX0_duskWithout (nI (mk p w.1)) h Q := by
  have hn7 := hW.1
  unfold MX0_duskWithout
  refine cs_copy hn7 hr (by omega) fun h2 f2 r2 => ?_
  have g2 : Fr SC h h2 := f2.mono fun q k p => by unfold SC; omega
  refine cs_move hn7 r2 (a := 0) (b := 5) (by omega) (by omega) (by omega) hp fun h3 f3 r3 => ?_
  have g3 : Fr SC h h3 := g2.tr (f3.mono fun q k p => by unfold SC; omega)
  exact cs_follow hW (hw.sc g3) r3 fun h4 f4 _ _ => hq h4 (g3.tr (f4.mono SC_CG))
theorem rs_duskWithout {h : ob_H} {w : ob_W} {r : ob_P} {p : Nat → Bool} {Q : Int32 → ob_H → Prop} (hW : WFW w) (hw : RW h w) (hn : Nw h r) (hq : ∀ h', Fr SR h h' → Q (dsk w (mov w.1 p 5 r)) h') : MX12_duskWithout (nI (mk p w.1)) h Q := by
  have hn7 := hW.1
  unfold MX12_duskWithout
  refine rs_load hn fun h2 f2 a2 => ?_
  have g2 : Fr SR h h2 := f2.mono fun q k p => by unfold SR; omega
  refine lo2c1 w.1 (by omega) (fun j h3 => Fr SR h h3 ∧ Air h3 (mov j p 5 r)) ?_ ?_ 0 (Nat.zero_le _) _ ⟨g2, a2.cg fun k _ => by simp [mov]⟩
  · intro k j h3 hj hI hk
    obtain ⟨i1, i2⟩ := hI
    unfold FX12_duskWithout_6
    have ej : ix (nI j) = j := nI_clamp (by omega)
    have eb : bitI (nI (mk p w.1)) j = p j := by rw [bitI_nI (mk7 hn7) (by omega), mk_bit]; simp [hj]
    rw [(hw.sr hn7 i1).1, ej]
    refine br_f (nI_ge hj (by omega)) (br_c (fun c => ⟨vp_in_nI (by omega) (by omega), ?_⟩) (fun c => ?_))
    · have hpj : p j = true := eb ▸ bit1.mp c
      refine Lt_i fun y z => Lt_eq (nI_1 _) (hk _ ⟨?_, ?_⟩)
      · rw [z]; exact i1.st (by unfold SR; omega)
      · rw [z]
        refine i2.put.cg fun q hq => ?_
        unfold pu mov
        by_cases e : q = j
        · subst e
          rw [if_pos rfl, if_pos ⟨by omega, hpj⟩]
        · rw [if_neg e]
          have hlt : (q < j ∧ p q = true) ↔ (q < j + 1 ∧ p q = true) := ⟨fun ⟨x, y⟩ => ⟨by omega, y⟩, fun ⟨x, y⟩ => ⟨by omega, y⟩⟩
          simp only [hlt]
    · have hpj : p j = false := by
        cases hz : p j with
        | false => rfl
        | true => exact absurd (bit1.mpr (eb.trans hz)) c
      refine Lt_eq (nI_1 _) (hk _ ⟨i1, i2.cg fun q hq => ?_⟩)
      unfold mov
      have hlt : (q < j ∧ p q = true) ↔ (q < j + 1 ∧ p q = true) := ⟨fun ⟨x, y⟩ => ⟨by omega, y⟩, fun ⟨x, y⟩ => ⟨by
        by_cases e : q = j
        · subst e; rw [hpj] at y; exact absurd y (by decide)
        · omega, y⟩⟩
      simp only [hlt]
  · intro k h3 hI
    obtain ⟨i1, i2⟩ := hI
    unfold FX12_duskWithout_6
    rw [(hw.sr hn7 i1).1]
    exact br_t (nI_le (Nat.le_refl _) (by omega)) (rs_goOn hW (hw.sr hn7 i1) i2 fun h4 f4 _ _ => hq h4 (i1.tr f4))
theorem mov_none {n : Nat} {v : Int32} {r : ob_P} {p : Nat → Bool} (hp : ∀ k, k < n → p k = false) : mov n p v r = r := by
  funext k
  unfold mov
  exact if_neg fun z => by rw [hp k z.1] at z; exact absurd z.2 (by decide)
theorem op_gain {B : Nat} (p : Int32) : OK B (MX11_gain p) (MX12_gain p) := OK.ask fun h w r c _ => by
  obtain ⟨hW, hP, hw, hrw, hr, hn⟩ := c
  have hn7 := hW.1
  refine ⟨fun x => (∃ o, o < w.1 ∧ p = nI o ∧ r o = 0 ∧ x = dsk w r - dsk w (mov w.1 (fun x => decide (x = o)) 5 r)) ∨ (¬ wtg w r p ∧ x = -1000000000), fun Q hq => ?_, fun h1 f1 x hx Q hq => ?_⟩
  · unfold MX11_gain
    refine cs_isWaiting hn7 hw hr (fun ⟨o, ho, e, h0⟩ => ?_) (fun z => br_t rfl (hq _ h (Or.inr ⟨z, rfl⟩) Fr.rf))
    subst e
    refine br_f (by decide) ?_
    have e0 : (0 : Int32) = nI (mk (fun _ => false) w.1) := by rw [mk_none (fun _ _ => rfl)]; rfl
    rw [ja_shl o (by omega), ← mk_one ho]
    conv => arg 1; rw [e0]
    refine cs_duskWithout hW hw hr (fun k _ hk => absurd hk (by decide)) fun h2 f2 => ?_
    rw [mov_none (fun _ _ => rfl)]
    refine cs_duskWithout hW (hw.sc f2) (hr.sc f2) (fun k _ hk => by rw [of_decide_eq_true hk]; exact h0) fun h3 f3 => ?_
    exact hq _ h3 (Or.inl ⟨o, ho, rfl, h0, rfl⟩) (f2.tr f3)
  · have hn1 := hn.sc f1
    have hw1 := hrw.sc hn7 f1
    unfold MX12_gain
    refine rs_isWaiting hn7 hw1 hn1 (fun z => ?_) (fun z => ?_)
    · rcases hx with ⟨o, ho, e, h0, e2⟩ | ⟨hx, _⟩
      · subst e e2
        refine br_f (by decide) (rs_duskNow hW hw1 hn1 fun h2 f2 _ _ => ?_)
        rw [ja_shl o (by omega), ← mk_one ho]
        exact rs_duskWithout hW (hw1.sr hn7 f2) (hn1.sr f2) fun h3 f3 => hq h3 (f2.tr f3)
      · exact absurd z hx
    · rcases hx with ⟨o, ho, e, h0, e2⟩ | ⟨_, hx⟩
      · exact absurd ⟨o, ho, e, h0⟩ z
      · subst hx
        exact br_t rfl (hq h1 Fr.rf)
