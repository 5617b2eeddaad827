-- ===== fits, sure, ask =====
/-- alike but for what is spent and the seed -/
def Sm (r s : ob_P) : Prop := ∀ k, k < 22 → r k = s k
theorem sm_fct {w : ob_W} {r s : ob_P} (hn7 : w.1 ≤ 7) (a : Sm r s) {o : Nat} (ho : o < w.1) (g : Int32) : fct w r o g = fct w s o g := by
  funext j
  have hc : cnt (hrd r) w.1 = cnt (hrd s) w.1 := cnt_congr fun k hk => by unfold hrd; rw [a k (by omega)]
  unfold fct
  rw [a 21 (by omega), a (7 + o) (by omega), a (14 + o) (by omega), hc]
theorem sm_best {w : ob_W} {r s : ob_P} (hn7 : w.1 ≤ 7) (a : Sm r s) : ∀ {j}, j ≤ w.1 → best w r (isS r 0) j = best w s (isS s 0) j
  | 0, _ => rfl
  | j + 1, hj => by
    have ih := sm_best hn7 a (j := j) (by omega)
    have hi : isS r 0 j = isS s 0 j := by unfold isS; rw [a j (by omega)]
    have hr : ∀ o, o < w.1 → rnk w r o = rnk w s o := fun o ho => by unfold rnk ordV; rw [sm_fct hn7 a ho]
    rw [best_succ, best_succ, ← ih, hi]
    cases hb : best w r (isS r 0) j with
    | none => rfl
    | some b =>
      have hlt := (best_lt hb).1
      simp only
      unfold ahd
      rw [hr j (by omega), hr b (by omega), a (14 + j) (by omega), a (14 + b) (by omega)]
theorem sm_lev {w : ob_W} {r s : ob_P} (hn7 : w.1 ≤ 7) (a : Sm r s) : Sm (lev w r) (lev w s) := by
  intro k hk
  unfold lev
  by_cases hk1 : k < w.1
  · have : lvs w r k = lvs w s k := by unfold lvs isS; rw [a k hk, a 21 (by omega), a (7 + k) (by omega)]
    rw [this, a k hk]
  · rw [if_neg (fun z => hk1 z.1), if_neg (fun z => hk1 z.1)]
    exact a k hk
theorem sm_her {w : ob_W} {r s : ob_P} {o : Nat} {x : Int32} (hn7 : w.1 ≤ 7) (a : Sm r s) : Sm (her w r o x) (her w s o x) := by
  have h1 : Sm (her1 w r o x) (her1 w s o x) := fun k hk => by unfold her1 pu; rw [a k hk, a 21 (by omega)]
  have h2 : Sm (her2 w (her1 w r o x) o) (her2 w (her1 w s o x) o) := fun k hk => by unfold her2; rw [h1 k hk]
  have hb : ∀ k, k < 22 → brg w (her2 w (her1 w r o x) o) o k = brg w (her2 w (her1 w s o x) o) o k := fun k hk => by unfold brg isS; rw [h2 k hk]
  have h3 : Sm (her3 w (her2 w (her1 w r o x) o) o) (her3 w (her2 w (her1 w s o x) o) o) := fun k hk => by
    unfold her3
    rw [hb k hk, h2 k hk, h2 21 (by omega), hb (k - 7) (by omega)]
  exact sm_lev hn7 h3
theorem sm_gon {w : ob_W} (hn7 : w.1 ≤ 7) : ∀ {f : Nat} {r s : ob_P}, Sm r s → (gon w f r).1 = (gon w f s).1
  | 0, r, s, _ => rfl
  | f + 1, r, s, a => by
    have ht : trn w r = trn w s := sm_best hn7 a (Nat.le_refl _)
    cases h : trn w r with
    | none => rw [gon_none h, gon_none (ht ▸ h)]
    | some o =>
      rw [gon_some h, gon_some (ht ▸ h), a 21 (by omega), sm_gon hn7 (sm_her (o := o) (x := 1) hn7 a)]
/-- what lies in the rows of who is heard -/
def hdI (x : Option Nat) (d : Int32) : Int32 := match x with
  | some o => nI o
  | none => d
theorem hdA_lt {w : ob_W} {g : Int32} {p o : Nat} (h : hdA w g p = some o) : o < w.1 := by
  unfold hdA at h
  cases hg : (gn (wg w g) (bgn w)).1[p]? with
  | none => rw [hg] at h; cases h
  | some x =>
    rw [hg] at h
    simp only [Option.map_some, Option.some.injEq] at h
    rw [← h]
    exact gon_mem (w := wg w g) (f := 7) (i := p) (b := x.2) hg
theorem WFW_wg {w : ob_W} {g : Nat} (hW : WFW w) (hg : g < 100) : WFW (wg w (nI g)) := by
  obtain ⟨a1, a2, a3, a4, a5, a6⟩ := hW
  refine ⟨a1, a2, a3, fun o ho => ?_, fun a b ha hb => ?_, ?_⟩
  · obtain ⟨b1, b2, b3⟩ := a4 o ho
    have e : ∀ c, c ≠ 0 → wv (wg w (nI g)) c o = wv w c o := fun c hc => by
      show (if c = 0 ∧ o = w.1 - 1 then nI g else wv w c o) = _
      rw [if_neg (fun z => hc z.1)]
    rw [e 1 (by omega), e 2 (by omega), e 3 (by omega), e 4 (by omega), e 5 (by omega)]
    have e0 : wv (wg w (nI g)) 0 o = if o = w.1 - 1 then nI g else wv w 0 o := by
      show (if 0 = 0 ∧ o = w.1 - 1 then nI g else wv w 0 o) = _
      by_cases z : o = w.1 - 1 <;> simp [z]
    rw [e0]
    refine ⟨?_, ?_, b3⟩
    · split
      · exact nI_le (a := 0) (Nat.zero_le _) (by omega)
      · exact b1
    · split
      · exact nI_le (b := 99) (by omega) (by decide)
      · exact b2
  · have e : ∀ k, wv (wg w (nI g)) 6 k = wv w 6 k := fun k => by
      show (if 6 = 0 ∧ k = w.1 - 1 then nI g else wv w 6 k) = _
      rw [if_neg (fun z => absurd z.1 (by decide))]
    rw [e, e]
    exact a5 a b ha hb
  · have e : wv (wg w (nI g)) 7 0 = wv w 7 0 := by
      show (if 7 = 0 ∧ 0 = w.1 - 1 then nI g else wv w 7 0) = _
      rw [if_neg (fun z => absurd z.1 (by decide))]
    rw [e]
    exact a6
theorem wg_7 {w : ob_W} {g : Int32} {c k : Nat} (hc : c ≠ 0) : wv (wg w g) c k = wv w c k := by
  show (if c = 0 ∧ k = w.1 - 1 then g else wv w c k) = _
  rw [if_neg (fun z => hc z.1)]
theorem wg_0 {w : ob_W} {g : Int32} {k : Nat} : wv (wg w g) 0 k = if k = w.1 - 1 then g else wv w 0 k := by
  show (if 0 = 0 ∧ k = w.1 - 1 then g else wv w 0 k) = _
  by_cases z : k = w.1 - 1 <;> simp [z]
theorem bgn_wg {w : ob_W} {g : Int32} : bgn (wg w g) = bgn w := by
  funext k
  unfold bgn
  rw [wg_7 (by omega)]
  rfl
theorem CW.wg {h h' : ob_H} {w : ob_W} {g : Int32} (a : CW h w) (e1 : ∀ q k, (20 ≤ q ∧ q ≤ 29) ∨ q = 31 ∨ q = 32 → ¬ (q = 21 ∧ k = w.1 - 1) → h'.1 q k = h.1 q k) (e2 : h'.1 21 (w.1 - 1) = g) : CW h' (wg w g) := by
  obtain ⟨a1, a2, a3, a4, a5, a6, a7, a8, a9⟩ := a
  have cf : ∀ f L, (f = 28 ∨ f = 31) → CF h f L → CF h' f L := fun f L hf b => by
    refine ⟨by rw [e1 f 1 (by omega) (by omega)]; exact b.1, fun k hk => ?_⟩
    rw [e1 (f + 1) k (by omega) (by omega)]
    exact b.2 k hk
  refine ⟨by rw [e1 _ _ (by omega) (by omega)]; exact a1, fun c hc k hk => ?_, fun x y hx hy => ?_, ?_, ?_, ?_, ?_, cf _ _ (Or.inl rfl) a8, cf _ _ (Or.inr rfl) a9⟩
  · by_cases c0 : c = 0
    · subst c0
      rw [wg_0]
      by_cases ek : k = w.1 - 1
      · rw [if_pos ek, ek]; exact e2
      · rw [if_neg ek, e1 _ _ (by omega) (by omega)]; exact a2 0 hc k hk
    · rw [wg_7 c0, e1 _ _ (by omega) (by omega)]; exact a2 c hc k hk
  · rw [wg_7 (by omega), e1 _ _ (by omega) (by omega)]; exact a3 x y hx hy
  · rw [wg_7 (by omega), e1 _ _ (by omega) (by omega)]; exact a4
  · rw [wg_7 (by omega), e1 _ _ (by omega) (by omega)]; exact a5
  · rw [wg_7 (by omega), e1 _ _ (by omega) (by omega)]; exact a6
  · rw [wg_7 (by omega), e1 _ _ (by omega) (by omega)]; exact a7
theorem RW.wg {h h' : ob_H} {w : ob_W} {g : Int32} (hn7 : w.1 ≤ 7) (a : RW h w) (e1 : ∀ q k, (q = 108 ∧ (k = 48 ∨ k = 49 ∨ k = 50 ∨ k = 23)) ∨ (128 ≤ q ∧ q ≤ 134) ∨ (114 ≤ q ∧ q ≤ 116) → ¬ (q = 128 ∧ k = w.1 - 1) → h'.1 q k = h.1 q k) (e2 : h'.1 128 (w.1 - 1) = g) : RW h' (wg w g) := by
  obtain ⟨a1, a2, a3, a4, a5, a6, a7, a8⟩ := a
  have rf : ∀ f L, RFm h f L → RFm h' f L := fun f L b => by
    unfold RFm at b ⊢
    rw [e1 116 f (by omega) (by omega)]
    rcases b with ⟨b1, b2, b3⟩ | b
    · refine Or.inl ⟨b1, b2, fun k hk => ?_⟩
      rw [e1 114 _ (by omega) (by omega), e1 115 _ (by omega) (by omega)]
      exact b3 k hk
    · exact Or.inr b
  refine ⟨by rw [e1 _ _ (by omega) (by omega)]; exact a1, fun c hc k hk => ?_, fun x y hx hy => ?_, ?_, ?_, ?_, rf _ _ a7, rf _ _ a8⟩
  · by_cases c0 : c = 0
    · subst c0
      rw [wg_0]
      by_cases ek : k = w.1 - 1
      · rw [if_pos ek, ek]; exact e2
      · rw [if_neg ek, e1 _ _ (by omega) (by omega)]; exact a2 0 hc k hk
    · rw [wg_7 c0, e1 _ _ (by omega) (by omega)]; exact a2 c hc k hk
  · rw [wg_7 (by omega), e1 _ _ (by omega) (by omega)]; exact a3 x y hx hy
  · rw [wg_7 (by omega), e1 _ _ (by omega) (by omega)]; exact a4
  · rw [wg_7 (by omega), e1 _ _ (by omega) (by omega)]; exact a5
  · rw [wg_7 (by omega), e1 _ _ (by omega) (by omega)]; exact a6
theorem nI_7 (a b : Nat) : nI a * 7 + nI b = nI (a * 7 + b) := by rw [nI_m7, Nat.mul_comm]
/-- what finding who is heard writes -/
def HW (n q k : Nat) : Prop := CG q k ∨ (q = 21 ∧ k = n - 1) ∨ q = 104 ∨ (q = 98 ∧ k = 12)
def Hrd1 (h : ob_H) (w : ob_W) : Prop := ∀ g, g < 100 → ∀ p, p < 7 → h.1 104 (g * 7 + p) = hdI (hdA w (nI g) p) 7
set_option maxHeartbeats 1000000 in
theorem cs_findHeard {h : ob_H} {w : ob_W} {Q : ob_H → Prop} (hW : WFW w) (hw : CW h w) (h0 : 0 < w.1) (hd : HrdR h w)
    (hq : ∀ h', Fr (HW w.1) h h' → h'.1 21 (w.1 - 1) = h.1 21 (w.1 - 1) → h'.1 98 12 = 1 → Hrd1 h' w → Q h') : MX9_findHeard (nI w.1 - 1) h Q := by
  have hn7 := hW.1
  have el : nI w.1 - 1 = nI (w.1 - 1) := nI_sub (b := 1) h0
  rw [el]
  have il : ix (nI (w.1 - 1)) = w.1 - 1 := nI_clamp (by omega)
  have bl : vp_in (nI (w.1 - 1)) 7 := vp_in_nI (by omega) (by omega)
  unfold MX9_findHeard
  rw [il]
  rcases hd with hd | ⟨hd, _, hd2⟩
  · rw [hd]
    refine br_t rfl ⟨bl, Lt_i fun v zv => ?_⟩
    refine lo2c1 100 (by omega) (fun j h1 => Fr (HW w.1) h h1 ∧ ∀ g, g < j → ∀ p, p < 7 → h1.1 104 (g * 7 + p) = hdI (hdA w (nI g) p) 7) ?_ ?_ 0 (Nat.zero_le _) _ ⟨Fr.rf, fun g hg => absurd hg (Nat.not_lt_zero _)⟩
    · intro k j h1 hj hI hk
      obtain ⟨i1, i2⟩ := hI
      unfold FX9_findHeard_20
      rw [il]
      refine br_f (nI_ge (b := 100) hj (by decide)) ⟨bl, Lt_i fun y1 z1 => ?_⟩
      have f1 : Fr (HW w.1) h y1 := by rw [z1]; exact i1.st (by unfold HW; omega)
      have hw1 : CW y1 (wg w (nI j)) := hw.wg (fun q k z1 z2 => f1.i (by unfold HW CG; omega)) (by rw [z1, h_i_1, if_pos ⟨rfl, rfl⟩])
      have hW1 := WFW_wg hW hj
      refine cs_begin hW1 hw1 (by omega) fun h2 f2 r2 => ?_
      have hw2 := hw1.fr f2 (fun q k p => by omega)
      refine cs_follow hW1 hw2 r2 fun h3 f3 c3 _ => ?_
      have e3 : (gn (wg w (nI j)) (pu (bgn (wg w (nI j))) 23 (wv (wg w (nI j)) 7 2))).1 = (gn (wg w (nI j)) (bgn w)).1 := by
        refine sm_gon (w := wg w (nI j)) hn7 fun k hk => ?_
        rw [bgn_wg]
        unfold pu
        rw [if_neg (by omega)]
      rw [e3] at c3
      obtain ⟨d1, d2, d3⟩ := c3
      have f3' : Fr (HW w.1) h h3 := (f1.tr (f2.mono fun q k p => by unfold HW CG; omega)).tr (f3.mono fun q k p => Or.inl p)
      have old : ∀ q k, q = 104 → h3.1 q k = h1.1 q k := fun q k z => by rw [f3.i (by unfold CG; omega), f2.i (by omega), z1, h_i_1, if_neg (by omega)]
      refine lo2c1 7 (by omega) (fun m h4 => Fr (HW w.1) h h4 ∧ (∀ q k, q ≠ 104 → h4.1 q k = h3.1 q k) ∧ (∀ g, g < j → ∀ p, p < 7 → h4.1 104 (g * 7 + p) = hdI (hdA w (nI g) p) 7) ∧ ∀ p, p < m → h4.1 104 (j * 7 + p) = hdI (hdA w (nI j) p) 7) ?_ ?_ 0 (Nat.zero_le _) _ ⟨f3', fun _ _ _ => rfl, fun g hg p hp => by rw [old _ _ rfl]; exact i2 g hg p hp, fun p hp => absurd hp (Nat.not_lt_zero _)⟩
      · intro k2 m h4 hm hI hk2
        obtain ⟨j1, j2, j3, j4⟩ := hI
        have st : ∀ v, v = hdI (hdA w (nI j) m) 7 → KX9_findHeard_102 (nI (w.1 - 1)) v (nI j) (nI m) v (nI j * 7 + nI m) h4 Q k k2 := by
          intro v hv
          unfold KX9_findHeard_102
          rw [nI_7, show ix (nI (j * 7 + m)) = j * 7 + m from nI_clamp (by omega)]
          refine ⟨vp_in_nI (by omega) (by omega), Lt_i fun y z => Lt_eq (nI_1 _) (hk2 _ ⟨?_, fun q k hq => ?_, fun g hg p hp => ?_, fun p hp => ?_⟩)⟩
          · rw [z]; exact j1.st (by unfold HW; omega)
          · rw [z, h_i_1, if_neg (by omega)]; exact j2 q k hq
          · rw [z, h_i_1, if_neg (by omega)]; exact j3 g hg p hp
          · rw [z, h_i_1]
            by_cases e : p = m
            · subst e; rw [if_pos ⟨rfl, rfl⟩]; exact hv
            · rw [if_neg (by omega)]; exact j4 p (by omega)
        unfold FX9_findHeard_57
        rw [j2 39 3 (by omega), d1, show ix (nI m) = m from nI_clamp (by omega)]
        refine br_f (nI_ge (b := 7) hm (by decide)) (br_c (fun c => ?_) (fun c => ⟨vp_in_nI (by omega) (by omega), ?_⟩))
        · have hle : (gn (wg w (nI j)) (bgn w)).1.length ≤ m := (nI_leI (by omega) (by omega)).mp c
          exact st 7 (by
            unfold hdA
            rw [List.getElem?_eq_none hle]; rfl)
        · have hlt : m < (gn (wg w (nI j)) (bgn w)).1.length := by
            apply Classical.byContradiction
            intro z
            exact c ((nI_leI (by omega) (by omega)).mpr (by omega))
          have hg := List.getElem?_eq_getElem hlt
          rw [j2 40 m (by omega), (d3 m _ _ hg).1]
          refine st _ ?_
          unfold hdA
          rw [hg]; rfl
      · intro k2 h4 hI
        obtain ⟨j1, j2, j3, j4⟩ := hI
        unfold FX9_findHeard_57
        refine br_t (nI_le (a := 7) (Nat.le_refl _) (by decide)) (Lt_eq (nI_1 _) (hk _ ⟨j1, fun g hg p hp => ?_⟩))
        by_cases e : g = j
        · subst e; exact j4 p hp
        · exact j3 g (by omega) p hp
    · intro k h1 hI
      obtain ⟨i1, i2⟩ := hI
      unfold FX9_findHeard_20
      rw [il]
      refine br_t (nI_le (a := 100) (Nat.le_refl _) (by decide)) ⟨bl, Lt_i fun y1 z1 => Lt_i fun y2 z2 => hq y2 ?_ ?_ ?_ fun g hg p hp => ?_⟩
      · rw [z2, z1]; exact (i1.st (by unfold HW; omega)).st (by unfold HW; omega)
      · rw [z2, h_i_1, if_neg (by omega), z1, h_i_1, if_pos ⟨rfl, rfl⟩, zv]
      · rw [z2, h_i_1, if_pos ⟨rfl, rfl⟩]
      · rw [z2, h_i_1, if_neg (by omega), z1, h_i_1, if_neg (by omega)]
        exact i2 g hg p hp
  · rw [hd]
    refine br_f (by decide) (hq h Fr.rf rfl hd fun g hg p hp => ?_)
    rw [hd2 g hg p hp]
    unfold hdI
    cases hdA w (nI g) p <;> rfl
