-- ===== queue, course: they tell who =====
/-- the core's cells -/
def CX (q k : Nat) : Prop := (20 ≤ q ∧ q ≤ 29) ∨ q = 31 ∨ q = 32 ∨ (34 ≤ q ∧ q ≤ 37) ∨ (q = 108 ∧ (k = 48 ∨ k = 49 ∨ k = 50 ∨ k = 23)) ∨ (128 ≤ q ∧ q ≤ 135) ∨ (114 ≤ q ∧ q ≤ 116)
theorem Core.frx {B : Nat} {h h' : ob_H} {w : ob_W} {r : ob_P} (a : Core B h w r) {P : Nat → Nat → Prop} (hf : Fr P h h') (hP : ∀ q k, CX q k → ¬ P q k) : Core B h' w r := by
  obtain ⟨a1, a2, a3, a4, a5, a6⟩ := a
  refine ⟨a1, a2, a3.fr hf (fun q k p => ?_), a4.fr a1.1 hf (fun q k p => ?_), a5.fr hf (fun q k p => ?_), fun k hk => ?_⟩
  · refine ⟨fun z => hP q k ?_ p, fun z => hP q k ?_ p, fun z => hP q k ?_ p⟩ <;> unfold CX <;> omega
  · refine ⟨fun z => hP q k ?_ p, fun z => hP q k ?_ p, fun z => hP q k ?_ p⟩ <;> unfold CX <;> omega
  · refine fun z => hP q k ?_ p
    unfold CX; omega
  · rw [hf.i (hP 135 k (by unfold CX; omega))]
    exact a6 k hk
/-- what is written where the lies are told -/
def LC (q k : Nat) : Prop := SC q k ∨ (q = 0 ∧ k = 11) ∨ q = 107
def LR (q k : Nat) : Prop := SR q k ∨ (q = 108 ∧ k = 62) ∨ q = 140
theorem Rel.ly {B : Nat} {h h1 h2 : ob_H} {w : ob_W} {r : ob_P} (a : Core B h w r) (b : Rest B h w) (f1 : Fr LC h h1) (f2 : Fr LR h1 h2) (l : LyR h2) : Rel (B + 60) h2 := by
  have f : Fr (fun q k => LC q k ∨ LR q k) h h2 := (f1.mono (fun q k p => Or.inl p)).tr (f2.mono (fun q k p => Or.inr p))
  have hx : ∀ q k, RX q k → (¬ (q = 0 ∧ k = 11) ∧ q ≠ 107 ∧ ¬ (q = 108 ∧ k = 62) ∧ q ≠ 140) → h2.1 q k = h.1 q k := fun q k z y => f.i (by
    have s := SX_RX q k z
    unfold SX at s
    rintro (p | p)
    · rcases p with p | p | p
      · exact s (Or.inl p)
      · exact y.1 p
      · exact y.2.1 p
    · rcases p with p | p | p
      · exact s (Or.inr p)
      · exact y.2.2.1 p
      · exact y.2.2.2 p)
  refine ⟨w, r, (a.frx f (fun q k z p => ?_)).up (by omega), Rest.up ?_ (by omega : B ≤ B + 60)⟩
  · unfold CX at z
    rcases p with (p | p) | (p | p)
    · unfold SC at p; omega
    · omega
    · unfold SR at p; omega
    · omega
  · obtain ⟨a1, a2, a3, a4, a5, a6, a7, a8, a9⟩ := b
    exact ⟨TapeR.fr a1 fun q k z => hx q k (Or.inl z) (by omega), FaultR.fr a2 fun q k z => hx q k (Or.inr (Or.inl z)) (by omega), TimeR.fr a3 fun q k z => hx q k (Or.inr (Or.inr (Or.inl z))) (by omega), l,
      ArcR.fr a5 fun q k z => hx q k (Or.inr (Or.inr (Or.inr (Or.inr (Or.inl z))))) (by omega), BoxR.fr a6 fun q k z => hx q k (Or.inr (Or.inr (Or.inr (Or.inr (Or.inr (Or.inl z)))))) (by omega), SgR.fr a7 fun q k z => hx q k (Or.inr (Or.inr (Or.inr (Or.inr (Or.inr (Or.inr (Or.inl z))))))) (by omega), HrdR.fr a8 fun q k z => hx q k (Or.inr (Or.inr (Or.inr (Or.inr (Or.inr (Or.inr (Or.inr (Or.inl z)))))))) (by omega), fun i hi => by rw [f.l (by unfold LC SC LR SR; omega)]; exact a9 i hi⟩
theorem OK.ly {B : Nat} {M1 M2 : ob_H → (Int32 → ob_H → Prop) → Prop} (hh : ∀ h w r, Core B h w r → Rest B h w → ∃ v : Int32 → List Int32 → Prop, (∀ (Q : Int32 → ob_H → Prop), (∀ x L h1, v x L → Fr LC h h1 → L.length ≤ 7 → h1.1 0 11 = nI L.length → (∀ i y, L[i]? = some y → h1.1 107 i = y) → Q x h1) → M1 h Q) ∧ (∀ h1, Fr LC h h1 → ∀ x L, v x L → ∀ (Q : Int32 → ob_H → Prop), (∀ h2, Fr LR h1 h2 → h2.1 108 62 = nI L.length → (∀ i y, L[i]? = some y → h2.1 140 i = y) → Q x h2) → M2 h1 Q)) : OK B M1 M2 := by
  intro h hr
  obtain ⟨w, r, h1, h2⟩ := hr
  obtain ⟨v, a, b⟩ := hh h w r h1 h2
  refine a _ fun x L h1' hx f1 hl e1 e2 => b h1' f1 x L hx _ fun h2' f2 e3 e4 => ⟨rfl, Rel.ly h1 h2 f1 f2 ⟨L.length, hl, ?_, e3, fun k hk => ?_⟩⟩
  · rw [f2.i (by unfold LR SR; omega)]; exact e1
  · rw [f2.i (by unfold LR SR; omega), e2 k _ (List.getElem?_eq_getElem hk), e4 k _ (List.getElem?_eq_getElem hk)]
theorem SC_LC : ∀ q k, SC q k → LC q k := fun _ _ p => Or.inl p
theorem SR_LR : ∀ q k, SR q k → LR q k := fun _ _ p => Or.inl p
theorem CW.lc {h h' : ob_H} {w : ob_W} (a : CW h w) (hf : Fr LC h h') : CW h' w := a.fr hf (fun q k p => by unfold LC SC at p; omega)
theorem CR.lc {h h' : ob_H} {n : Nat} {r : ob_P} (a : CR h n 34 r) (hf : Fr LC h h') : CR h' n 34 r := a.fr hf (fun q k p => by unfold LC SC at p; omega)
theorem RW.lc {h h' : ob_H} {w : ob_W} (hn : w.1 ≤ 7) (a : RW h w) (hf : Fr LC h h') : RW h' w := a.fr hn hf (fun q k p => by unfold LC SC at p; omega)
theorem Nw.lc {h h' : ob_H} {r : ob_P} (a : Nw h r) (hf : Fr LC h h') : Nw h' r := fun k hk => by rw [hf.i (by unfold LC SC; omega)]; exact a k hk
theorem RW.lr {h h' : ob_H} {w : ob_W} (hn : w.1 ≤ 7) (a : RW h w) (hf : Fr LR h h') : RW h' w := a.fr hn hf (fun q k p => by unfold LR SR at p; omega)
theorem op_course {B : Nat} : OK B MX11_course MX12_course := OK.ly fun h w r c _ => by
  obtain ⟨hW, hP, hw, hrw, hr, hn⟩ := c
  have hn7 := hW.1
  have hlen : (gn w r).1.length ≤ 7 := gon_len
  refine ⟨fun x L => x = nI (gn w r).1.length ∧ L = (gn w r).1.map (fun y => nI y.1), fun Q hq => ?_, fun h1 f1 x L hx Q hq => ?_⟩
  · unfold MX11_course
    refine cs_goOn hW hw hr (by omega) fun h1 f1 c1 _ => ?_
    obtain ⟨d1, d2, d3⟩ := c1
    unfold MX11_lay
    rw [d1, show ix (nI (gn w r).1.length) = (gn w r).1.length from nI_clamp (by omega)]
    refine Lt_i fun y1 z1 => ⟨nI_pos (by omega), by omega, by omega, Lt_i fun y2 z2 => ?_⟩
    have e11 : y2.1 0 11 = nI (gn w r).1.length := by rw [z2, h_c_1, if_neg (by omega), z1, h_i_1, if_pos (by omega)]
    show Q (y2.1 0 11) y2
    rw [e11]
    refine hq _ ((gn w r).1.map (fun y => nI y.1)) y2 ⟨rfl, rfl⟩ ?_ (by simpa using hlen) (by simpa using e11) ?_
    · rw [z2, z1]
      exact (((f1.mono SC_CG).mono SC_LC).st (by unfold LC; omega)).cp (fun k _ _ => by unfold LC; omega)
    · intro i y hy
      rw [List.getElem?_map] at hy
      cases hg : (gn w r).1[i]? with
      | none => rw [hg] at hy; cases hy
      | some x =>
        rw [hg] at hy
        simp only [Option.map_some, Option.some.injEq] at hy
        have hi := (List.getElem?_eq_some_iff.mp hg).1
        rw [z2, h_c_1, if_pos rfl, if_pos (by omega), z1, h_i_1, if_neg (by omega), Nat.sub_zero, Nat.zero_add, (d3 i x.1 x.2 hg).1]
        exact hy
  · obtain ⟨rfl, rfl⟩ := hx
    unfold MX12_course
    refine rs_duskNow hW (hrw.lc hn7 f1) (hn.lc f1) fun h2 f2 c2 _ => ?_
    obtain ⟨d1, d2, d3⟩ := c2
    refine lo2c1 (gn w r).1.length (by omega) (fun j h3 => Fr LR h1 h3 ∧ h3.1 108 57 = nI (gn w r).1.length ∧ (∀ i, h3.1 137 i = h2.1 137 i) ∧ ∀ i, i < j → h3.1 140 i = h2.1 137 i) ?_ ?_ 0 (Nat.zero_le _) _ ⟨f2.mono SR_LR, d1, fun _ => rfl, fun i hi => absurd hi (Nat.not_lt_zero _)⟩
    · intro k j h3 hj hI hk
      obtain ⟨i1, i2, i3, i4⟩ := hI
      unfold FX12_course_7
      rw [i2, show ix (nI j) = j from nI_clamp (by omega), i3]
      refine br_f (nI_ge hj (by omega)) ⟨vp_in_nI (by omega) (by omega), Lt_i fun y z => Lt_eq (nI_1 _) (hk _ ⟨?_, ?_, fun i => ?_, fun i hi => ?_⟩)⟩
      · rw [z]; exact i1.st (by unfold LR; omega)
      · rw [z, h_i_1, if_neg (by omega)]; exact i2
      · rw [z, h_i_1, if_neg (by omega)]; exact i3 i
      · rw [z, h_i_1]
        by_cases e : i = j
        · rw [if_pos ⟨rfl, e⟩, e]
        · rw [if_neg (by omega)]; exact i4 i (by omega)
    · intro k h3 hI
      obtain ⟨i1, i2, i3, i4⟩ := hI
      unfold FX12_course_7
      rw [i2]
      refine br_t (nI_le (Nat.le_refl _) (by omega)) (Lt_i fun y z => ?_)
      have e57 : y.1 108 57 = nI (gn w r).1.length := by rw [z, h_i_1, if_neg (by omega)]; exact i2
      rw [e57]
      refine hq y ?_ ?_ ?_
      · rw [z]; exact i1.st (by unfold LR; omega)
      · rw [z, h_i_1, if_pos (by omega)]; simp
      · intro i v hy
        rw [List.getElem?_map] at hy
        cases hg : (gn w r).1[i]? with
        | none => rw [hg] at hy; cases hy
        | some x =>
          rw [hg] at hy
          simp only [Option.map_some, Option.some.injEq] at hy
          have hi := (List.getElem?_eq_some_iff.mp hg).1
          rw [z, h_i_1, if_neg (by omega), i4 i hi, (d3 i x.1 x.2 hg).1]
          exact hy
def sbt (S b : Nat) : Nat := S &&& (127 ^^^ 2 ^ b)
theorem sbt_bit {S b k : Nat} (hS : S < 128) (hb : b < 7) : tb (sbt S b) k = (tb S k && decide (k ≠ b)) := by
  unfold tb sbt
  rw [Nat.testBit_and, Nat.testBit_xor, Nat.testBit_two_pow]
  by_cases hk : k < 7
  · have : ∀ i, i < 7 → Nat.testBit 127 i = true := by decide
    rw [this k hk]
    by_cases e : b = k
    · subst e; simp
    · have e' : ¬ k = b := fun z => e z.symm
      simp [e, e']
  · have h2 : 2 ^ 7 ≤ 2 ^ k := Nat.pow_le_pow_right (by decide) (by omega)
    rw [Nat.testBit_lt_two_pow (x := S) (by omega)]
    rfl
theorem sbt_le {S b : Nat} : sbt S b ≤ S := Nat.and_le_left
theorem sbt_cnt {S b n : Nat} (hS : S < 128) (hb : b < 7) (hbn : b < n) (h : tb S b = true) : cnt (tb (sbt S b)) n + 1 ≤ cnt (tb S) n :=
  cnt_lt (o := b) (fun k _ hk => by rw [sbt_bit hS hb] at hk; simp at hk; exact hk.1) hbn h (by rw [sbt_bit hS hb]; simp)
def que (w : ob_W) (r : ob_P) : Nat → Nat → List Nat
  | 0, _ => []
  | f + 1, S => match best w r (tb S) w.1 with
    | none => []
    | some b => b :: que w r f (sbt S b)
theorem que_some {w : ob_W} {r : ob_P} {f S b : Nat} (h : best w r (tb S) w.1 = some b) : que w r (f + 1) S = b :: que w r f (sbt S b) := by rw [que, h]
theorem que_none {w : ob_W} {r : ob_P} {S : Nat} (h : best w r (tb S) w.1 = none) : ∀ f, que w r f S = []
  | 0 => rfl
  | f + 1 => by rw [que, h]
theorem que_len {w : ob_W} {r : ob_P} : ∀ {f S}, (que w r f S).length ≤ f
  | 0, _ => Nat.le_refl _
  | f + 1, S => by
    cases h : best w r (tb S) w.1 with
    | none => rw [que_none h]; exact Nat.zero_le _
    | some b => rw [que_some h]; have := que_len (w := w) (r := r) (f := f) (S := sbt S b); simp; omega
/-- the room in which of those who wait only S do -/
def rS (w : ob_W) (r : ob_P) (S : Nat) : ob_P := mov w.1 (fun k => isS r 0 k && !tb S k) 5 r
theorem rS_all {w : ob_W} {r : ob_P} : rS w r (mkS w r 0) = r := by
  unfold rS
  apply mov_none
  intro k hk
  unfold tb
  rw [mk_bit]
  cases isS r 0 k <;> simp [hk]
theorem rS_trn {w : ob_W} {r : ob_P} {S : Nat} (hn7 : w.1 ≤ 7) (hS : ∀ k, tb S k = true → r k = 0) : trn w (rS w r S) = best w r (tb S) w.1 := by
  unfold trn
  apply best_cg
  · intro k hk
    unfold isS rS mov
    by_cases e : k < w.1 ∧ (isS r 0 k && !tb S k) = true
    · rw [if_pos e]
      have := e.2
      rw [Bool.and_eq_true] at this
      have h2 : tb S k = false := by simpa using this.2
      rw [h2]
      decide
    · rw [if_neg e]
      cases h2 : tb S k with
      | true => simpa using hS k h2
      | false =>
        rw [h2] at e
        simp [isS, hk] at e
        simpa using e
  · exact fun k _ => rnk_mov hn7 (fun k _ hk => by
      rw [Bool.and_eq_true] at hk
      simpa [isS] using hk.1)
  · exact fun k hk => mov_hi hn7 (by omega)
theorem rS_mov {w : ob_W} {r : ob_P} {S b : Nat} (hS : S < 128) (hb : b < 7) (h0 : r b = 0) : mov w.1 (fun x => decide (x = b)) 5 (rS w r S) = rS w r (sbt S b) := by
  funext k
  unfold rS mov
  simp only [sbt_bit hS hb]
  by_cases e : k = b
  · subst e
    by_cases hk : k < w.1
    · rw [if_pos ⟨hk, by simp⟩, if_pos ⟨hk, by simp [isS, h0]⟩]
    · rw [if_neg (by simp [hk]), if_neg (by simp [hk]), if_neg (by simp [hk])]
  · rw [if_neg (by simp [e])]
    simp [e]
theorem op_queue {B : Nat} : OK B MX11_queue MX12_queue := OK.ly fun h w r c _ => by
  obtain ⟨hW, hP, hw, hrw, hr, hn⟩ := c
  have hn7 := hW.1
  have hl := mkS_lt (w := w) (r := r) (s := 0)
  have h27 := pw7 hn7
  have hlen : (que w r 7 (mkS w r 0)).length ≤ 7 := que_len
  have hwait : ∀ k, tb (mkS w r 0) k = true → r k = 0 := fun k hk => by
    unfold tb at hk
    rw [mk_bit] at hk
    simp [isS] at hk
    exact hk.2
  refine ⟨fun x L => x = nI (que w r 7 (mkS w r 0)).length ∧ L = (que w r 7 (mkS w r 0)).map nI, fun Q hq => ?_, fun h1 f1 x L hx Q hq => ?_⟩
  · unfold MX11_queue
    refine cs_copy hn7 hr (by omega) fun h2 f2 r2 => Lt_i fun y0 z0 => ?_
    have g0 : Fr LC h y0 := by rw [z0]; exact (f2.mono fun q k p => by unfold LC SC; omega).st (by unfold LC; omega)
    have r0 : CR y0 w.1 42 r := by
      rw [z0]
      exact r2.fr (P := fun q k => q = 0) (Fr.rf.st (P := fun q k => q = 0) rfl) (fun q k p => by omega)
    refine lo2c1 7 (by omega) (fun j h1 => Fr LC h h1 ∧ ∃ S pre, S < 128 ∧ (∀ k, tb S k = true → r k = 0) ∧ CR h1 w.1 42 (rS w r S) ∧ pre.length = j ∧ pre ++ que w r (7 - j) S = que w r 7 (mkS w r 0) ∧ h1.1 0 11 = nI j ∧ ∀ i x, pre[i]? = some x → h1.1 107 i = nI x) ?_ ?_ 0 (Nat.zero_le _) _ ⟨g0, mkS w r 0, [], by omega, hwait, by rw [rS_all]; exact r0, rfl, rfl, by rw [z0, h_i_1, if_pos (by omega)]; rfl, fun i x hx => by simp at hx⟩
    · intro k j h1 hj hI hk
      obtain ⟨i1, S, pre, s1, s2, s3, s4, s5, s6, s7⟩ := hI
      unfold FX11_queue_23
      refine br_f (nI_ge (b := 7) hj (by decide)) (cs_turn hW (hw.lc i1) s3 (by omega) fun h2 f2 => ?_)
      rw [rS_trn hn7 s2]
      have g2 : Fr LC h h2 := i1.tr (f2.mono fun q k p => by unfold CE at p; unfold LC SC; omega)
      have s3' := s3.fr f2 (fun q k p => by unfold CE at p; omega)
      cases hb : best w r (tb S) w.1 with
      | none =>
        refine br_f (by decide) ?_
        rw [que_none hb, List.append_nil] at s5
        rw [f2.i (by unfold CE; omega), s6]
        refine hq _ ((que w r 7 (mkS w r 0)).map nI) h2 ⟨by rw [← s5, s4], rfl⟩ g2 (by simpa using hlen) ?_ ?_
        · rw [f2.i (by unfold CE; omega), s6, List.length_map, ← s5, s4]
        · intro i y hy
          rw [← s5, List.getElem?_map] at hy
          cases hg : pre[i]? with
          | none => rw [hg] at hy; cases hy
          | some x =>
            rw [hg] at hy
            simp only [Option.map_some, Option.some.injEq] at hy
            rw [f2.i (by unfold CE; omega), s7 i x hg]
            exact hy
      | some b =>
        obtain ⟨b1, b2⟩ := best_lt hb
        rw [show tI (some b) = nI b from rfl, show ix (nI j) = j from nI_clamp (by omega), nI_1]
        refine br_t (nI_pos' (by omega)) ⟨vp_in_nI (by omega) (by omega), Lt_i fun y1 z1 => Lt_i fun y2 z2 => ?_⟩
        have g3 : Fr LC h y2 := by rw [z2, z1]; exact (g2.st (by unfold LC; omega)).st (by unfold LC; omega)
        have r3 : CR y2 w.1 42 (rS w r S) := by
          rw [z2, z1]
          exact s3'.fr (P := fun q k => q = 0 ∨ q = 107) ((Fr.rf.st (P := fun q k => q = 0 ∨ q = 107) (Or.inr rfl)).st (Or.inl rfl)) (fun q k p => by omega)
        rw [ja_shl b (by omega), ← mk_one b1]
        have hrb : ∀ k, k < w.1 → (fun x => decide (x = b)) k = true → rS w r S k = nI 0 := fun k hk hkb => by
          have : k = b := of_decide_eq_true hkb
          subst this
          unfold rS mov
          rw [if_neg (by simp [b2])]
          exact s2 k b2
        refine cs_move hn7 r3 (a := 0) (b := 5) (by omega) (by omega) (by omega) hrb fun h4 f4 r4 => ?_
        rw [show nI 5 = (5 : Int32) from rfl, rS_mov s1 (by omega) (s2 b b2)] at r4
        refine Lt_eq rfl (hk _ ⟨g3.tr (f4.mono fun q k p => by unfold LC SC; omega), sbt S b, pre ++ [b], ?_, ?_, r4, by simp [s4], ?_, ?_, ?_⟩)
        · have := sbt_le (S := S) (b := b); omega
        · intro k hk
          rw [sbt_bit s1 (by omega)] at hk
          simp at hk
          exact s2 k hk.1
        · rw [← s5, show 7 - j = (7 - (j + 1)) + 1 by omega, que_some hb]
          simp
        · rw [f4.i (by omega), z2, h_i_1, if_pos (by omega)]
        · intro i x hx
          rw [f4.i (by omega), z2, h_i_1, if_neg (by omega), z1, h_i_1]
          by_cases e : i = j
          · subst e
            rw [← s4, List.getElem?_append_right (Nat.le_refl _)] at hx
            simp at hx
            rw [if_pos ⟨rfl, rfl⟩, hx]
          · rw [if_neg (by omega), f2.i (by unfold CE; omega)]
            have : i < pre.length := by
              have := (List.getElem?_eq_some_iff.mp hx).1
              simp at this
              omega
            rw [List.getElem?_append_left this] at hx
            exact s7 i x hx
    · intro k h1 hI
      obtain ⟨i1, S, pre, s1, s2, s3, s4, s5, s6, s7⟩ := hI
      unfold FX11_queue_23
      rw [Nat.sub_self, que, List.append_nil] at s5
      refine br_t (nI_le (a := 7) (Nat.le_refl _) (by decide)) ?_
      rw [s6]
      refine hq _ ((que w r 7 (mkS w r 0)).map nI) h1 ⟨by rw [← s5, s4], rfl⟩ i1 (by simpa using hlen) ?_ ?_
      · rw [s6, List.length_map, ← s5, s4]
      · intro i y hy
        rw [← s5, List.getElem?_map] at hy
        cases hg : pre[i]? with
        | none => rw [hg] at hy; cases hy
        | some x =>
          rw [hg] at hy
          simp only [Option.map_some, Option.some.injEq] at hy
          rw [s7 i x hg]
          exact hy
  · obtain ⟨rfl, rfl⟩ := hx
    have hn1 := hn.lc f1
    have hw1 := hrw.lc hn7 f1
    unfold MX12_queue
    refine rs_load hn1 fun h2 f2 a2 => ?_
    have g2 : Fr LR h1 h2 := f2.mono fun q k p => by unfold LR SR; omega
    refine rs_thatAre (hw1.lr hn7 g2).1 hn7 a2 (Lt_i fun y0 z0 => ?_)
    have g0 : Fr LR h1 y0 := by rw [z0]; exact g2.st (by unfold LR; omega)
    have a0 : Air y0 r := fun k hk => by rw [z0, h_i_1, if_neg (by omega)]; exact a2 k hk
    refine lo2_i (fun x h3 => Fr LR h1 h3 ∧ Air h3 r ∧ ∃ S pre, x = nI S ∧ S < 2 ^ w.1 ∧ cnt (tb S) 7 + pre.length ≤ 7 ∧ pre ++ que w r (7 - pre.length) S = que w r 7 (mkS w r 0) ∧ h3.1 108 62 = nI pre.length ∧ ∀ i x, pre[i]? = some x → h3.1 140 i = nI x) (fun x _ => x.toNatClampNeg) ?_ ⟨g0, a0, mkS w r 0, [], rfl, hl, by have := cnt_le (tb (mkS w r 0)) 7; simpa using this, rfl, by rw [z0, h_i_1, if_pos (by omega)]; rfl, fun i x hx => by simp at hx⟩
    intro k x h3 hI hk
    obtain ⟨i1, i2, S, pre, rfl, s1, s2, s3, s4, s5⟩ := hI
    unfold FX12_queue_15
    refine br_c (fun c => ?_) (fun c => ?_)
    · have : S = 0 := (nI_eq (b := 0) (by omega) (by omega)).mp c
      subst this
      have hb : best w r (tb 0) w.1 = none := best_none (fun k _ => by simp [tb])
      rw [que_none hb, List.append_nil] at s3
      rw [s4, s3]
      refine hq h3 i1 ?_ ?_
      · rw [s4, s3, List.length_map]
      · intro i y hy
        rw [← s3, List.getElem?_map] at hy
        cases hg : pre[i]? with
        | none => rw [hg] at hy; cases hy
        | some x =>
          rw [hg] at hy
          simp only [Option.map_some, Option.some.injEq] at hy
          rw [s5 i x hg]
          exact hy
    · have hS0 : S ≠ 0 := fun e => c (by rw [e]; rfl)
      refine lo3c2 w.1 (by omega) (fun j a h4 => Fr SE h3 h4 ∧ a = tI (best w r (tb S) j)) ?_ ?_ 0 (Nat.zero_le _) _ _ ⟨Fr.rf, rfl⟩
      · intro k2 j a h4 hj hI hk2
        obtain ⟨j1, rfl⟩ := hI
        have f4 := i1.tr ((j1.mono SE_SR).mono SR_LR)
        have hw4 := hw1.lr hn7 f4
        have a4 := i2.se j1
        unfold FX12_queue_23
        rw [hw4.1]
        refine br_f (nI_ge hj (by omega)) (bit11 (fun b => ?_) (fun b => Lt_eq (nI_1 _) (hk2 _ _ ⟨j1, ?_⟩)))
        · rw [bitI_nI (by omega) (by omega)] at b
          have b' : tb S j = true := b
          cases hb : best w r (tb S) j with
          | none =>
            refine br_t (by decide) (Lt_eq (nI_1 _) (hk2 _ _ ⟨j1, ?_⟩))
            rw [best_succ, hb]
            simp only [b', if_true]
            rfl
          | some c =>
            have hc := (best_lt hb).1
            rw [show tI (some c) = nI c from rfl]
            refine br_f (nI_pos (by omega)) (rs_rankOf hW hw4 a4 hj fun h5 f5 => ?_)
            have g5 := j1.tr f5
            refine rs_rankOf hW (hw4.lr hn7 ((f5.mono SE_SR).mono SR_LR)) (a4.se f5) (by omega) fun h6 f6 => ?_
            have g6 := g5.tr f6
            refine rs_isAhead (i2.se g6) (by omega) (by omega) ?_
            cases ha : ahd r j (rnk w r j) c (rnk w r c) with
            | false =>
              refine br_t rfl (Lt_eq (nI_1 _) (hk2 _ _ ⟨g6, ?_⟩))
              rw [best_succ, hb]
              simp only [b', ha, Bool.and_false]
              rfl
            | true =>
              refine br_f (by decide) (Lt_eq (nI_1 _) (hk2 _ _ ⟨g6, ?_⟩))
              rw [best_succ, hb]
              simp only [b', ha, Bool.and_self, if_true]
              rfl
        · rw [bitI_nI (by omega) (by omega)] at b
          have b' : tb S j = false := b
          rw [best_succ]
          cases hb : best w r (tb S) j with
          | none => simp [b']
          | some c => simp [b']
      · intro k2 a h4 hI
        obtain ⟨j1, rfl⟩ := hI
        have f4 := i1.tr ((j1.mono SE_SR).mono SR_LR)
        have hw4 := hw1.lr hn7 f4
        have a4 := i2.se j1
        have q62 : h4.1 108 62 = nI pre.length := by rw [j1.i (by unfold SE; omega)]; exact s4
        cases hb : best w r (tb S) w.1 with
        | none =>
          exfalso
          apply hS0
          apply Nat.eq_of_testBit_eq
          intro i
          rw [Nat.zero_testBit]
          by_cases hi : i < w.1
          · exact best_nn hb i hi
          · exact Nat.testBit_lt_two_pow (Nat.lt_of_lt_of_le s1 (Nat.pow_le_pow_right (by decide) (by omega)))
        | some b =>
          obtain ⟨b1, b2⟩ := best_lt hb
          have hcn := sbt_cnt (S := S) (b := b) (n := 7) (by omega) (by omega) (by omega) b2
          unfold FX12_queue_23
          rw [hw4.1, q62, show ix (nI pre.length) = pre.length from nI_clamp (by omega), show tI (some b) = nI b from rfl]
          refine br_t (nI_le (Nat.le_refl _) (by omega)) ⟨vp_in_nI (by omega) (by omega), Lt_i fun y1 z1 => ?_⟩
          have q62' : y1.1 108 62 = nI pre.length := by rw [z1, h_i_1, if_neg (by omega)]; exact q62
          rw [q62', nI_1, ja_shl b (by omega), ja_andn _ (by have := Nat.pow_le_pow_right (n := 2) (by decide) (show b ≤ 6 by omega); omega) _ (by omega)]
          refine Lt_i fun y2 z2 => Lt_i fun v zv => ?_
          have g6 : Fr LR h1 y2 := by rw [z2, z1]; exact (f4.st (by unfold LR; omega)).st (by unfold LR; omega)
          have hlt : sbt S b < S := by
            rcases Nat.lt_or_ge (sbt S b) S with c | c
            · exact c
            · have e : sbt S b = S := Nat.le_antisymm sbt_le c
              rw [e] at hcn
              omega
          refine hk v y2 ⟨g6, fun q hq => ?_, sbt S b, pre ++ [b], zv, by omega, by simp; omega, ?_, ?_, ?_⟩ ?_
          · rw [z2, h_i_1, if_neg (by omega), z1, h_i_1, if_neg (by omega)]
            exact a4 q hq
          · rw [← s3, show 7 - pre.length = (7 - (pre ++ [b]).length) + 1 by simp; omega, que_some hb]
            simp
          · rw [z2, h_i_1, if_pos (by omega)]; simp
          · intro i x hx
            rw [z2, h_i_1, if_neg (by omega), z1, h_i_1]
            by_cases e : i = pre.length
            · subst e
              rw [List.getElem?_append_right (Nat.le_refl _)] at hx
              simp at hx
              rw [if_pos ⟨rfl, rfl⟩, hx]
            · rw [if_neg (by omega), j1.i (by unfold SE; omega)]
              have : i < pre.length := by
                have := (List.getElem?_eq_some_iff.mp hx).1
                simp at this
                omega
              rw [List.getElem?_append_left this] at hx
              exact s5 i x hx
          · show v.toNatClampNeg < (nI S).toNatClampNeg
            have zv' : v = nI (sbt S b) := zv
            rw [zv', nI_clamp (by omega), nI_clamp (by omega)]
            exact hlt
