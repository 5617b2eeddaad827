-- ===== the search for the earliest dusk: the class =====
theorem and127 : ∀ H, H < 128 → nI H &&& 127 = nI H := by decide +kernel
theorem cs_wasHere {h : ob_H} {n o : Nat} {r : ob_P} {Q : Int32 → ob_H → Prop} (hn : n ≤ 7) (hr : CR h n o r) (ho : 51 < o)
    (hq : ∀ x h', Fr (fun q _ => q = 51) h h' → (∀ k, ¬ (8 * mk (isS r 1) n ≤ k ∧ k < 8 * mk (isS r 1) n + 8) → h'.1 51 k = h.1 51 k) → h'.1 51 (8 * mk (isS r 1) n) = nI (mk (isS r 0) n) → (∀ k, k < n → r k = 0 → h'.1 51 (8 * mk (isS r 1) n + 1 + k) = r (7 + k)) →
      (x = 0 ∨ (x = 1 ∧ h.1 51 (8 * mk (isS r 1) n) = nI (mk (isS r 0) n) ∧ ∀ k, k < n → r k = 0 → h.1 51 (8 * mk (isS r 1) n + 1 + k) = r (7 + k))) → Q x h') : MX8_wasHere o h Q := by
  have e1 : h.1 (o + 1) 1 = nI (mk (isS r 1) n) := hr.1 1 (by omega)
  have e0 : h.1 (o + 1) 0 = nI (mk (isS r 0) n) := hr.1 0 (by omega)
  have h1 : mk (isS r 1) n < 128 := mk7 hn
  have h0 : mk (isS r 0) n < 128 := mk7 hn
  have hbit : ∀ k, (mk (isS r 0) n).testBit k = true ↔ (k < n ∧ r k = 0) := fun k => by rw [mk_bit]; simp [isS]
  unfold MX8_wasHere
  rw [e1, and127 _ h1, e0, show (8 : Int32) = nI 8 from rfl, nI_mul]
  generalize hH : mk (isS r 1) n = H at *
  generalize hWv : mk (isS r 0) n = W at *
  rw [Nat.mul_comm H 8]
  refine Lt_i fun v1 z1 => Lt_i fun v3 z3 => ?_
  subst z1 z3
  rw [show ix (nI (8 * H)) = 8 * H from nI_clamp (by omega)]
  have main : ∀ s0 : Int32, (s0 = 0 ∨ (s0 = 1 ∧ h.1 51 (8 * H) = nI W)) → KX8_wasHere_35 o (nI (8 * H)) (nI W) s0 h Q := by
    intro s0 hs0
    unfold KX8_wasHere_35
    rw [show ix (nI (8 * H)) = 8 * H from nI_clamp (by omega)]
    refine ⟨vp_in_nI (by omega) (by omega), Lt_i fun y0 z0 => ?_⟩
    refine lo3c2 7 (by omega) (fun j x h1 => Fr (fun q _ => q = 51) h h1 ∧ (∀ k, ¬ (8 * H ≤ k ∧ k < 8 * H + 1 + j) → h1.1 51 k = h.1 51 k) ∧ h1.1 51 (8 * H) = nI W ∧ (∀ k, k < j → k < n → r k = 0 → h1.1 51 (8 * H + 1 + k) = r (7 + k)) ∧ (x = 0 ∨ (x = 1 ∧ h.1 51 (8 * H) = nI W ∧ ∀ k, k < j → k < n → r k = 0 → h.1 51 (8 * H + 1 + k) = r (7 + k)))) ?_ ?_ 0 (Nat.zero_le _) _ _ ⟨?_, ?_, ?_, fun k hk => absurd hk (Nat.not_lt_zero _), ?_⟩
    · intro k j x h1 hj hI hk
      obtain ⟨i1, i2, i3, i4, i5⟩ := hI
      unfold FX8_wasHere_47
      refine br_f (nI_ge (b := 7) hj (by decide)) (bit00 (α := True) (fun b => ?_) (fun b => ?_))
      · rw [bitI_nI h0 (by omega)] at b
        have nb : ¬ (j < n ∧ r j = 0) := fun z => by have := (hbit j).mpr z; rw [b] at this; exact absurd this (by decide)
        refine Lt_eq (nI_1 _) (hk _ _ ⟨i1, fun k hk => i2 k (by omega), i3, fun k hk hkn h0 => ?_, ?_⟩)
        · by_cases e : k = j
          · subst e; exact absurd ⟨hkn, h0⟩ nb
          · exact i4 k (by omega) hkn h0
        · rcases i5 with e | ⟨e, e2, e3⟩
          · exact Or.inl e
          · refine Or.inr ⟨e, e2, fun k hk hkn h0 => ?_⟩
            by_cases e : k = j
            · subst e; exact absurd ⟨hkn, h0⟩ nb
            · exact e3 k (by omega) hkn h0
      · rw [bitI_nI h0 (by omega)] at b
        obtain ⟨hjn, hj0⟩ := (hbit j).mp b
        have er : h1.1 (o + 3) j = r (7 + j) := by rw [i1.i (by omega)]; exact hr.2.2.1 j hjn
        have store : ∀ s : Int32, (s = 0 ∨ (s = 1 ∧ x = 1 ∧ h1.1 51 (8 * H + 1 + j) = r (7 + j))) → KX8_wasHere_94 o (nI (8 * H)) (nI W) (nI j) s h1 Q k := by
          intro s hs
          unfold KX8_wasHere_94
          rw [nI_1, nI_add, show ix (nI j) = j from nI_clamp (by omega), show ix (nI (8 * H + 1 + j)) = 8 * H + 1 + j from nI_clamp (by omega), er]
          refine ⟨vp_in_nI (by omega) (by omega), vp_in_nI (by omega) (by omega), Lt_i fun y z => Lt_eq (nI_1 _) (hk _ _ ⟨?_, fun k hk => ?_, ?_, fun k hk hkn h0 => ?_, ?_⟩)⟩
          · rw [z]; exact Fr.st (P := fun q _ => q = 51) i1 rfl
          · rw [z, h_i_1, if_neg (by omega)]
            exact i2 k (by omega)
          · rw [z, h_i_1, if_neg (by omega)]
            exact i3
          · rw [z, h_i_1]
            by_cases e : k = j
            · subst e; rw [if_pos (by omega)]
            · rw [if_neg (by omega)]; exact i4 k (by omega) hkn h0
          · rcases hs with e | ⟨e, ex, e4⟩
            · exact Or.inl e
            · rcases i5 with e5 | ⟨_, e2, e3⟩
              · rw [ex] at e5; exact absurd e5 (by decide)
              · refine Or.inr ⟨e, e2, fun k hk hkn h0 => ?_⟩
                by_cases e : k = j
                · subst e; rw [← i2 _ (by omega)]; exact e4
                · exact e3 k (by omega) hkn h0
        rcases i5 with rfl | ⟨rfl, e2, e3⟩
        · exact br_t rfl (store 0 (Or.inl rfl))
        · refine br_f (by decide) ?_
          rw [nI_1, nI_add, show ix (nI j) = j from nI_clamp (by omega), show ix (nI (8 * H + 1 + j)) = 8 * H + 1 + j from nI_clamp (by omega), er]
          exact ⟨vp_in_nI (by omega) (by omega), vp_in_nI (by omega) (by omega), br_c (fun c => store 1 (Or.inr ⟨rfl, rfl, c⟩)) (fun c => store 0 (Or.inl rfl))⟩
    · intro k x h1 hI
      obtain ⟨i1, i2, i3, i4, i5⟩ := hI
      unfold FX8_wasHere_47
      refine br_t (nI_le (a := 7) (Nat.le_refl _) (by decide)) ⟨by rcases i5 with rfl | ⟨rfl, _⟩ <;> rfl, hq x h1 i1 (fun k hk => i2 k (by omega)) i3 (fun k hk => i4 k (by omega) hk) ?_⟩
      rcases i5 with e | ⟨e, e2, e3⟩
      · exact Or.inl e
      · exact Or.inr ⟨e, e2, fun k hk => e3 k (by omega) hk⟩
    · rw [z0]; exact Fr.st (P := fun q _ => q = 51) Fr.rf rfl
    · intro k hk
      rw [z0, h_i_1, if_neg (by omega)]
    · rw [z0, h_i_1, if_pos (by omega)]
    · rcases hs0 with e | ⟨e, e2⟩
      · exact Or.inl e
      · exact Or.inr ⟨e, e2, fun k hk => absurd hk (Nat.not_lt_zero _)⟩
  exact ⟨vp_in_nI (by omega) (by omega), br_c (fun c => main 1 (Or.inr ⟨rfl, c⟩)) (fun c => main 0 (Or.inl rfl))⟩
def XD (d q k : Nat) : Prop := (q = 47 ∧ (k = 1 ∨ k = 2)) ∨ q = 48 ∨ (q = 50 ∧ d ≤ k) ∨ q = 51 ∨ (57 + 5 * d ≤ q ∧ q ≤ 91) ∨ q = 30 ∨ q = 33
def BS (h : ob_H) (a : Int32 × List Nat) : Prop := h.1 47 2 = a.1 ∧ a.2.length ≤ 7 ∧ h.1 47 1 = nI a.2.length ∧ ∀ i x, a.2[i]? = some x → h.1 48 i = nI x
theorem BS.fr {h h' : ob_H} {a : Int32 × List Nat} (b : BS h a) (e : ∀ q k, (q = 47 ∧ (k = 1 ∨ k = 2)) ∨ q = 48 → h'.1 q k = h.1 q k) : BS h' a := by
  obtain ⟨b1, b2, b3, b4⟩ := b
  refine ⟨by rw [e _ _ (by omega)]; exact b1, b2, by rw [e _ _ (by omega)]; exact b3, fun i x hx => by rw [e _ _ (by omega)]; exact b4 i x hx⟩
def PS (h : ob_H) (path : List Nat) : Prop := ∀ i x, path[i]? = some x → h.1 50 i = nI x
abbrev hc (w : ob_W) (r : ob_P) : Nat := cnt (isS r 1) w.1
def SV (w : ob_W) (a : ob_P) (h : ob_H) (m : Int32) (H : Nat) : Prop := h.1 51 (8 * H) = -1 ∨ ∃ ρ, Rch w a ρ ∧ mkS w ρ 1 = H ∧ h.1 51 (8 * H) = nI (mkS w ρ 0) ∧ (∀ k, k < w.1 → ρ k = 0 → h.1 51 (8 * H + 1 + k) = ρ (7 + k)) ∧ ¬ (sol w (7 - (hc w ρ - hc w a)) ρ).1 < m
theorem SV.fr {w : ob_W} {a : ob_P} {h h' : ob_H} {m m' : Int32} {H : Nat} (hn : w.1 ≤ 7) (b : SV w a h m H) (e : ∀ i, i < 8 → h'.1 51 (8 * H + i) = h.1 51 (8 * H + i)) (hm : m' ≤ m) : SV w a h' m' H := by
  have e0 := e 0 (by omega)
  rw [Nat.add_zero] at e0
  rcases b with b | ⟨ρ, b1, b2, b3, b4, b5⟩
  · left; rw [e0]; exact b
  · right
    refine ⟨ρ, b1, b2, by rw [e0]; exact b3, fun k hk h0 => ?_, fun z => b5 ?_⟩
    · have := e (1 + k) (by omega)
      rw [← Nat.add_assoc] at this
      rw [this]
      exact b4 k hk h0
    · simp only [Int32.lt_iff_toInt_lt, Int32.le_iff_toInt_le] at *
      omega
def Mem (w : ob_W) (a : ob_P) (ip : Nat → Prop) (h : ob_H) (m : Int32) : Prop := ∀ H, H < 128 → ¬ ip H → SV w a h m H
theorem upS_le {a : Int32 × List Nat} {p : List Nat} {x : Int32 × List Nat} : (upS a p x).1 ≤ a.1 ∧ (upS a p x).1 ≤ x.1 := by
  by_cases c : x.1 < a.1
  · rw [upS_t c]; exact ⟨Int32.le_of_lt c, Int32.le_refl _⟩
  · rw [upS_f c]; exact ⟨Int32.le_refl _, Int32.not_lt.mp c⟩
theorem hc_ctb {w : ob_W} {r : ob_P} (hn : w.1 ≤ 7) : ctb (mkS w r 1) = hc w r := cnt_mk hn
theorem rmI_nI {d : Nat} (hd : d < 8) : rmI (nI d) = 52 + 5 * d := by
  unfold rmI
  have := nI_clamp (n := d) (by omega)
  rw [this]
theorem cs_explore {w : ob_W} {a : ob_P} (hW : WFW w) : ∀ (f d F : Nat) (r : ob_P) (path : List Nat) (acc : Int32 × List Nat) (ip : Nat → Prop) (h : ob_H) (Q : ob_H → Prop), d + f = 7 → f < F → path.length = d → Rch w a r → hc w r = hc w a + d → lft w r ≤ f →
    (∃ m, m + 60 * f ≤ 1000000 ∧ r 21 = nI m) → CW h w → CR h w.1 (52 + 5 * d) r → BS h acc → PS h path → Mem w a ip h acc.1 → (∀ H, ip H → ctb H < hc w r) →
    (∀ h', Fr (XD d) h h' → BS h' (upS acc path (sol w f r)) → Mem w a ip h' (upS acc path (sol w f r)).1 → (∀ H, H < 128 → ctb H < hc w r → ∀ i, i < 8 → h'.1 51 (8 * H + i) = h.1 51 (8 * H + i)) → Q h') → MX8_explore F (nI d) h Q
  | f, d, 0, r, path, acc, ip, h, Q, _, hF, _, _, _, _, _, _, _, _, _, _, _, _ => absurd hF (Nat.not_lt_zero _)
  | f, d, F + 1, r, path, acc, ip, h, Q, hd, hF, hp, hR, hh, hl, hm, hw, hr, hb, hps, hmem, hip, hq => by
    have hn7 := hW.1
    have hd8 : d < 8 := by omega
    obtain ⟨m, hm1, hm2⟩ := hm
    have emin : h.1 (52 + 5 * d) 3 = r 21 := hr.2.2.2.1
    have ek0 : h.1 (52 + 5 * d + 1) 0 = nI (mkS w r 0) := hr.1 0 (by omega)
    have hl0 := mkS_lt (w := w) (r := r) (s := 0)
    have hl1 := mkS_lt (w := w) (r := r) (s := 1)
    have h27 := pw7 hn7
    show GX8_explore (MX8_explore F) (nI d) h Q
    unfold GX8_explore
    rw [nI_1, rmI_nI hd8, emin, ek0, hb.1]
    refine br_f (nI_pos (by omega)) (br_t (nI_le (b := 7) (by omega) (by decide)) ⟨vp_in_nI (by omega) (by omega), br_c (fun c => ?_) (fun c => ?_)⟩)
    · refine br_c (fun c0 => ?_) (fun c0 => br_c (fun c7 => ?_) (fun c7 => ?_))
      · -- a leaf
        have hno : ∀ k, k < w.1 → isS r 0 k = false := fun k hk => by
          have e : mkS w r 0 = 0 := (nI_eq (b := 0) (by omega) (by omega)).mp c0
          have := mk_bit (isS r 0) w.1 k
          rw [show mk (isS r 0) w.1 = 0 from e, Nat.zero_testBit] at this
          simpa [hk] using this.symm
        have es : sol w f r = (r 21, []) := sol_leaf hno f
        have eu : upS acc path (sol w f r) = (r 21, path) := by rw [es, upS_t c]; simp
        rw [eu] at hq
        unfold MX8_keep
        rw [show ix (nI d) = d from nI_clamp (by omega)]
        refine Lt_i fun y1 z1 => Lt_i fun y2 z2 => ⟨nI_pos (by omega), by omega, by omega, Lt_i fun y3 z3 => ?_⟩
        have f3 : Fr (XD d) h y3 := by
          rw [z3, z2, z1]
          exact ((Fr.rf.st (by unfold XD; omega)).st (by unfold XD; omega)).cp (fun k _ _ => by unfold XD; omega)
        have e51 : ∀ k, y3.1 51 k = h.1 51 k := fun k => by
          rw [z3, h_c_1, if_neg (by omega), z2, h_i_1, if_neg (by omega), z1, h_i_1, if_neg (by omega)]
        refine hq y3 f3 ⟨?_, by simp only; omega, ?_, fun i x hx => ?_⟩ (fun H h1 h2 => (hmem H h1 h2).fr hn7 (fun i _ => e51 _) (Int32.le_of_lt c)) (fun H _ _ i _ => e51 _)
        · rw [z3, h_c_1, if_neg (by omega), z2, h_i_1, if_neg (by omega), z1, h_i_1, if_pos (by omega)]
        · rw [z3, h_c_1, if_neg (by omega), z2, h_i_1, if_pos (by omega)]
          simp only
          rw [hp]
        · have hi := (List.getElem?_eq_some_iff.mp hx).1
          simp only at hi
          rw [z3, h_c_1, if_pos rfl, if_pos (by omega), z2, h_i_1, if_neg (by omega), z1, h_i_1, if_neg (by omega), Nat.sub_zero, Nat.zero_add]
          exact hps i x hx
      · -- none waits at the seventh
        exfalso
        have e7 : d = 7 := (nI_eq (b := 7) (by omega) (by omega)).mp c7
        apply c0
        have e : mkS w r 0 = 0 := mk_none fun k hk => by
          cases hz : isS r 0 k with
          | false => rfl
          | true =>
            have := lft_pos hk (by simpa [isS] using hz)
            omega
        rw [e]; rfl
      · have hd7 : d < 7 := by
          rcases Nat.lt_or_ge d 7 with z | z
          · exact z
          · exfalso
            apply c7
            rw [show d = 7 by omega]; rfl
        obtain ⟨f', rfl⟩ : ∃ f', f = f' + 1 := ⟨f - 1, by omega⟩
        have hsome : ∃ x, solM (fun o => sol w f' (her w r o 1)) (isS r 0) w.1 = some x := by
          apply Classical.byContradiction
          intro hc2
          apply c0
          have e : mkS w r 0 = 0 := mk_none fun k hk => by
            cases hz : isS r 0 k with
            | false => rfl
            | true => exact absurd (solM_some hk hz) hc2
          rw [e]; rfl
        obtain ⟨x, hx⟩ := hsome
        have es : sol w (f' + 1) r = x := by rw [sol, hx]; rfl
        have hcr := hc_ctb (r := r) hn7
        have hnip : ¬ ip (mkS w r 1) := fun z => by have := hip _ z; omega
        refine cs_wasHere hn7 hr (by omega) fun y h2 f2 s1 s2 s3 s4 => ?_
        have hsl : ∀ H, H < 128 → H ≠ mkS w r 1 → ∀ i, i < 8 → h2.1 51 (8 * H + i) = h.1 51 (8 * H + i) := fun H hH hne i hi => s1 _ (by
          show ¬ (8 * mkS w r 1 ≤ 8 * H + i ∧ 8 * H + i < 8 * mkS w r 1 + 8)
          omega)
        have fx2 : Fr (XD d) h h2 := f2.mono fun q k p => by unfold XD; omega
        have hb2 : BS h2 acc := hb.fr fun q k z => f2.i (by omega)
        have hw2 : CW h2 w := hw.fr f2 (fun q k p => by omega)
        have hr2 : CR h2 w.1 (52 + 5 * d) r := hr.fr f2 (fun q k p => by omega)
        have hps2 : PS h2 path := fun i x hx => by rw [f2.i (by omega)]; exact hps i x hx
        -- the slot is this room's
        have slot : ∀ h3 : ob_H, (∀ i, i < 8 → h3.1 51 (8 * mkS w r 1 + i) = h2.1 51 (8 * mkS w r 1 + i)) → ∀ mm, ¬ (sol w (f' + 1) r).1 < mm → SV w a h3 mm (mkS w r 1) := fun h3 e mm hmm => by
          have e0 := e 0 (by omega)
          rw [Nat.add_zero] at e0
          refine Or.inr ⟨r, hR, rfl, by rw [e0]; exact s2, fun k hk h0 => ?_, ?_⟩
          · have := e (1 + k) (by omega)
            rw [← Nat.add_assoc] at this
            rw [this]
            exact s3 k hk h0
          · rw [hh, Nat.add_sub_cancel_left, show 7 - d = f' + 1 by omega]
            exact hmm
        rcases s4 with rfl | ⟨rfl, t1, t2⟩
        · -- not here before
          refine br_t rfl ⟨vp_in_nI (by omega) (by omega), ?_⟩
          rw [rmI_nI (by omega)]
          have hmem2 : Mem w a (fun H => ip H ∨ H = mkS w r 1) h2 acc.1 := fun H h1 h2' => (hmem H h1 (fun z => h2' (Or.inl z))).fr hn7 (hsl H h1 (fun z => h2' (Or.inr z))) (Int32.le_refl _)
          refine lo2c1 w.1 (by omega) (fun j h3 => Fr (XD d) h2 h3 ∧ BS h3 (updO acc path (solM (fun o => sol w f' (her w r o 1)) (isS r 0) j)) ∧ Mem w a (fun H => ip H ∨ H = mkS w r 1) h3 (updO acc path (solM (fun o => sol w f' (her w r o 1)) (isS r 0) j)).1 ∧ ∀ H, H < 128 → ctb H < hc w r + 1 → ∀ i, i < 8 → h3.1 51 (8 * H + i) = h2.1 51 (8 * H + i)) ?_ ?_ 0 (Nat.zero_le _) _ ⟨Fr.rf, hb2, hmem2, fun _ _ _ _ _ => rfl⟩
          · intro k j h3 hj hI hk
            obtain ⟨i1, i2, i3, i4⟩ := hI
            have hw3 : CW h3 w := hw2.fr i1 (fun q k p => by unfold XD at p; omega)
            have hr3 : CR h3 w.1 (52 + 5 * d) r := hr2.fr i1 (fun q k p => by unfold XD at p; omega)
            unfold FX8_explore_76
            rw [hw3.1]
            refine br_f (nI_ge hj (by omega)) (cs_waits hn7 hr3 hj ?_)
            cases hz : isS r 0 j with
            | false =>
              refine br_t rfl (Lt_eq (nI_1 _) (hk _ ⟨i1, ?_, ?_, i4⟩))
              · rw [solM_no hz]; exact i2
              · rw [solM_no hz]; exact i3
            | true =>
              have h0 : r j = 0 := by simpa [isS] using hz
              refine br_f (by decide) (cs_copy hn7 hr3 (by omega) fun h4 f4 r4 => ?_)
              have hw4 : CW h4 w := hw3.fr f4 (fun q k p => by omega)
              refine cs_hearAs hW hw4 r4 hj h0 ⟨by omega, by omega⟩ (by omega) (s := 1) fun h5 f5 r5 => ⟨vp_in_nI (by omega) (by omega), Lt_i fun y5 z5 => ?_⟩
              rw [show ix (nI d) = d from nI_clamp (by omega)] at z5
              have f4' : Fr (XD d) h3 h4 := f4.mono fun q k p => by unfold XD; omega
              have f5' : Fr (XD d) h4 h5 := f5.mono fun q k p => by unfold CM at p; unfold XD; omega
              have g5 : Fr (XD d) h3 y5 := by rw [z5]; exact (f4'.tr f5').st (by unfold XD; omega)
              have e5 : ∀ q k, ¬ (57 + 5 * d ≤ q ∧ q ≤ 61 + 5 * d) → q ≠ 30 → q ≠ 33 → ¬ (q = 50 ∧ k = d) → y5.1 q k = h3.1 q k := fun q k c1 c2 c3 c4 => by
                rw [z5, h_i_1, if_neg c4, f5.i (by unfold CM; omega), f4.i (by omega)]
              have r5' : CR y5 w.1 (52 + 5 * (d + 1)) (her w r j 1) := by
                rw [z5]
                exact r5.fr (P := fun q _ => q = 50) (Fr.st (P := fun q _ => q = 50) Fr.rf rfl) (fun q k p => by omega)
              have hw5 : CW y5 w := hw3.fr g5 (fun q k p => by unfold XD at p; omega)
              obtain ⟨dm, d1, d2, d3⟩ := min_60 hW hj
              have hc1 := her_ct1 (w := w) hn7 hj h0
              rw [show nI d + (1 : Int32) = nI (d + 1) from nI_add d 1]
              refine cs_explore hW f' (d + 1) F (her w r j 1) (path ++ [j]) _ (fun H => ip H ∨ H = mkS w r 1) y5 _ (by omega) (by omega) (by simp [hp]) (hR.her hn7 hj h0) (by show cnt (isS (her w r j 1) 1) w.1 = _; rw [hc1]; show hc w r + 1 = _; omega)
                (by have := lft_her (s := 1) hn7 hj (by decide) h0; omega) ?_ hw5 r5' (i2.fr fun q k z => e5 q k (by omega) (by omega) (by omega) (by omega)) ?_ ?_ ?_ fun h6 f6 b6 m6 l6 => ?_
              · exact ⟨m + dm, by omega, by rw [her_21 hn7 hj, hm2, d3, nI_add]⟩
              · intro i x hx
                by_cases e : i = d
                · subst e
                  rw [List.getElem?_append_right (by omega)] at hx
                  simp [hp] at hx
                  rw [z5, h_i_1, if_pos ⟨rfl, rfl⟩, hx]
                · have hi := (List.getElem?_eq_some_iff.mp hx).1
                  simp [hp] at hi
                  rw [List.getElem?_append_left (by omega)] at hx
                  rw [e5 50 i (by omega) (by omega) (by omega) (by omega), i1.i (by unfold XD; omega)]
                  exact hps2 i x hx
              · exact fun H h1 h2 => (i3 H h1 h2).fr hn7 (fun i _ => e5 _ _ (by omega) (by omega) (by omega) (by omega)) (Int32.le_refl _)
              · intro H z
                show ctb H < cnt (isS (her w r j 1) 1) w.1
                rw [hc1]
                rcases z with z | z
                · have := hip H z
                  show ctb H < hc w r + 1
                  omega
                · show ctb H < hc w r + 1
                  rw [z, hcr]; omega
              · have hup := upS_s (g := fun o => sol w f' (her w r o 1)) (p := isS r 0) (a := acc) (path := path) (j := j) hz
                rw [hup] at b6 m6
                refine Lt_eq (nI_1 _) (hk _ ⟨(i1.tr g5).tr (f6.mono fun q k p => by unfold XD at p ⊢; omega), b6, m6, fun H h1 h2 i hi => ?_⟩)
                rw [l6 H h1 (by show ctb H < cnt (isS (her w r j 1) 1) w.1; rw [hc1]; exact h2) i hi, e5 _ _ (by omega) (by omega) (by omega) (by omega)]
                exact i4 H h1 h2 i hi
          · intro k h3 hI
            obtain ⟨i1, i2, i3, i4⟩ := hI
            have hw3 : CW h3 w := hw2.fr i1 (fun q k p => by unfold XD at p; omega)
            unfold FX8_explore_76
            rw [hw3.1]
            refine br_t (nI_le (Nat.le_refl _) (by omega)) ?_
            rw [hx] at i2 i3
            have eu : updO acc path (some x) = upS acc path (sol w (f' + 1) r) := by rw [es]; rfl
            rw [eu] at i2 i3
            refine hq h3 (fx2.tr i1) i2 (fun H h1 h2' => ?_) (fun H h1 h2' i hi => ?_)
            · by_cases e : H = mkS w r 1
              · subst e
                exact slot h3 (fun i hi => i4 _ h1 (by rw [hcr]; omega) i hi) _ (Int32.not_lt.mpr upS_le.2)
              · exact i3 H h1 (by rintro (z | z); exact h2' z; exact e z)
            · rw [i4 H h1 (by omega) i hi]
              exact hsl H h1 (fun z => by rw [z, hcr] at h2'; omega) i hi
        · -- here before
          refine br_f (by decide) ?_
          have hge : ¬ (sol w (f' + 1) r).1 < acc.1 := by
            rcases hmem _ (by omega) hnip with b | ⟨ρ, b1, b2, b3, b4, b5⟩
            · exfalso
              have : h.1 51 (8 * mkS w r 1) = nI (mkS w r 0) := t1
              rw [b] at this
              have h1 : decide ((-1 : Int32) < 0) = decide (nI (mkS w r 0) < 0) := congrArg (fun x : Int32 => decide (x < 0)) this
              rw [decide_eq_false (nI_pos (n := mkS w r 0) (by omega))] at h1
              exact absurd h1 (by decide)
            · have e0 : mkS w ρ 0 = mkS w r 0 := by
                have hl2 := mkS_lt (w := w) (r := ρ) (s := 0)
                exact (nI_eq (by omega) (by omega)).mp (b3.symm.trans t1)
              have hv := Rch.eqv hR b1 b2.symm e0.symm (fun k hk h0 => by
                have hz : ρ k = 0 := by
                  have := congrArg (fun x : Nat => x.testBit k) e0
                  simp only [mk_bit, hk, decide_true, Bool.true_and, isS] at this
                  rw [Bool.eq_iff_iff, decide_eq_true_eq, decide_eq_true_eq] at this
                  exact this.mpr h0
                rw [← b4 k hk hz]
                exact (t2 k hk h0).symm)
              have ec : hc w ρ = hc w r := by rw [← hc_ctb hn7, ← hc_ctb hn7, b2]
              rw [ec, hh, Nat.add_sub_cancel_left, show 7 - d = f' + 1 by omega, ← sol_eqv hn7 hv] at b5
              exact b5
          have eu : upS acc path (sol w (f' + 1) r) = acc := upS_f hge
          rw [eu] at hq
          refine hq h2 fx2 hb2 (fun H h1 h2' => ?_) (fun H h1 h2' i hi => hsl H h1 (fun z => by rw [z, hcr] at h2'; omega) i hi)
          by_cases e : H = mkS w r 1
          · subst e
            exact slot h2 (fun _ _ => rfl) _ hge
          · exact (hmem H h1 h2').fr hn7 (hsl H h1 e) (Int32.le_refl _)
    · -- no better
      have hge : ¬ (sol w f r).1 < acc.1 := by
        obtain ⟨m', q1, q2, q3⟩ := sol_min hW (f := f) hm2
        rw [hm2] at c
        rw [q3]
        intro z
        exact c (Int32.lt_of_le_of_lt (nI_le q1 (by omega)) z)
      have eu : upS acc path (sol w f r) = acc := upS_f hge
      rw [eu] at hq
      exact hq h Fr.rf hb hmem (fun _ _ _ _ _ => rfl)
