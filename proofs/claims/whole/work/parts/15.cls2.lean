theorem CR.cg {h : ob_H} {n o : Nat} {r r' : ob_P} (a : CR h n o r) (e : ∀ k, k < n → r k = r' k ∧ r (14 + k) = r' (14 + k) ∧ r (7 + k) = r' (7 + k)) (e2 : r 21 = r' 21 ∧ r 22 = r' 22 ∧ r 23 = r' 23) : CR h n o r' := by
  obtain ⟨a1, a2, a3, a4, a5, a6⟩ := a
  refine ⟨fun s hs => ?_, fun k hk => by rw [a2 k hk, (e k hk).2.1], fun k hk => by rw [a3 k hk, (e k hk).2.2], by rw [a4, e2.1], by rw [a5, e2.2.1], by rw [a6, e2.2.2]⟩
  rw [a1 s hs]
  congr 1
  exact mk_congr (fun k hk => by unfold isS; rw [(e k hk).1])
theorem nI_ne {a b : Nat} (ha : a < 2 ^ 31) (hb : b < 2 ^ 31) (h : a ≠ b) : nI a ≠ nI b := fun e => h ((nI_eq ha hb).mp e)
theorem mk_andn {p q : Nat → Bool} {n : Nat} (hn : n ≤ 7) : mk p n &&& (127 ^^^ mk q n) = mk (fun o => p o && !q o) n := by
  apply Nat.eq_of_testBit_eq
  intro o
  rw [Nat.testBit_and, Nat.testBit_xor, mk_bit, mk_bit, mk_bit]
  by_cases ho : o < n
  · have h127 : Nat.testBit 127 o = true := by
      have : ∀ o, o < 7 → Nat.testBit 127 o = true := by decide
      exact this o (by omega)
    simp [ho, h127]
  · simp [ho]
def mov (n : Nat) (p : Nat → Bool) (v : Int32) (r : ob_P) : ob_P := fun k => if k < n ∧ p k = true then v else r k
theorem mov_hi {n : Nat} {p : Nat → Bool} {v : Int32} {r : ob_P} {q : Nat} (hn : n ≤ 7) (hq : 7 ≤ q) : mov n p v r q = r q := if_neg (by omega)
theorem cs_move {h : ob_H} {n o a b : Nat} {r : ob_P} {p : Nat → Bool} {Q : ob_H → Prop} (hn : n ≤ 7) (hr : CR h n o r) (ha : a < 7) (hb : b < 7) (hab : a ≠ b) (hp : ∀ k, k < n → p k = true → r k = nI a)
    (hq : ∀ h', Fr (fun q _ => q = o + 1) h h' → CR h' n o (mov n p (nI b) r) → Q h') : MX6_move o (nI (mk p n)) (nI a) (nI b) h Q := by
  have ea : ix (nI a) = a := nI_clamp (by omega)
  have eb : ix (nI b) = b := nI_clamp (by omega)
  obtain ⟨a1, a2, a3, a4, a5, a6⟩ := hr
  unfold MX6_move
  rw [ea, eb, a1 a ha, ja_andn _ (mk7 hn) _ (mk7 hn), mk_andn hn]
  refine ⟨vp_in_nI (by omega) (by omega), Lt_i fun y1 z1 => ⟨vp_in_nI (by omega) (by omega), Lt_i fun y2 z2 => ?_⟩⟩
  have e1 : y1.1 (o + 1) b = nI (mk (isS r (nI b)) n) := by rw [z1, h_i_1, if_neg (by omega)]; exact a1 b hb
  rw [e1, ja_or _ _ (mk7 hn) (mk7 hn), mk_or] at z2
  have f2 : Fr (fun q _ => q = o + 1) h y2 := by
    rw [z2, z1]
    exact Fr.st (P := fun q _ => q = o + 1) (Fr.st (P := fun q _ => q = o + 1) Fr.rf rfl) rfl
  have hi : ∀ (q : Nat), 7 ≤ q → mov n p (nI b) r q = r q := fun q hq => mov_hi hn hq
  refine hq y2 f2 ⟨fun s hs => ?_, fun k hk => ?_, fun k hk => ?_, ?_, ?_, ?_⟩
  · rw [z2, h_i_1]
    by_cases hsb : s = b
    · subst hsb
      rw [if_pos ⟨rfl, rfl⟩]
      congr 1
      refine mk_congr fun k hk => ?_
      unfold isS mov
      cases hpk : p k with
      | true => simp [hk, hpk]
      | false => simp [hpk]
    · rw [if_neg (by omega), z1, h_i_1]
      by_cases hsa : s = a
      · subst hsa
        rw [if_pos ⟨rfl, rfl⟩]
        congr 1
        refine mk_congr fun k hk => ?_
        unfold isS mov
        cases hpk : p k with
        | true => simp [hk, hpk, nI_ne (a := b) (b := s) (by omega) (by omega) (fun z => hsb z.symm)]
        | false => simp [hpk]
      · rw [if_neg (by omega), a1 s hs]
        congr 1
        refine mk_congr fun k hk => ?_
        unfold isS mov
        cases hpk : p k with
        | true => simp [hk, hpk, hp k hk hpk, nI_ne (a := b) (b := s) (by omega) (by omega) (fun z => hsb z.symm), nI_ne (a := a) (b := s) (by omega) (by omega) (fun z => hsa z.symm)]
        | false => simp [hpk]
  · rw [hi _ (by omega), f2.i (by omega)]; exact a2 k hk
  · rw [hi _ (by omega), f2.i (by omega)]; exact a3 k hk
  · rw [hi _ (by omega), f2.i (by omega)]; exact a4
  · rw [hi _ (by omega), f2.i (by omega)]; exact a5
  · rw [hi _ (by omega), f2.i (by omega)]; exact a6
theorem cs_dismiss {h : ob_H} {w : ob_W} {o : Nat} {r : ob_P} {Q : Int32 → ob_H → Prop} (hn7 : w.1 ≤ 7) (hw : CW h w) (hr : CR h w.1 o r) (ho : 33 < o) (hq : ∀ h', Fr (fun q _ => q = o + 1) h h' → CR h' w.1 o (lev w r) → Q (nI (cnt (lvs w r) w.1)) h') : MX6_dismiss o h Q := by
  unfold MX6_dismiss
  refine lo2c2 w.1 (by omega) (fun j a => a = nI (mk (lvs w r) j)) ?_ ?_ 0 (Nat.zero_le _) _ rfl
  · intro k j a hj ha hk
    subst ha
    have e1 : ix (nI j) = j := nI_clamp (by omega)
    unfold FX6_dismiss_4
    rw [hw.1, e1]
    refine br_f (nI_ge hj (by omega)) (cs_waits hn7 hr hj ?_)
    have same : lvs w r j = false → nI (mk (lvs w r) j) = nI (mk (lvs w r) (j + 1)) := fun hz => by rw [mk_succ, hz]; rfl
    cases hp : isS r 0 j with
    | false => exact br_t rfl (Lt_eq (nI_1 _) (hk _ (same (by simp [lvs, hp]))))
    | true =>
      refine br_f (by decide) (cs_waited hn7 hr hj ⟨vp_in_nI (by omega) (by omega), ?_⟩)
      rw [hw.2.1 2 (by omega) j hj]
      refine br_c (fun c => ?_) (fun c => ?_)
      · exact Lt_eq (nI_1 _) (hk _ (same (by simp [lvs, hp, Int32.not_lt.mpr c])))
      · have hz : lvs w r j = true := by simp [lvs, hp, Int32.not_le.mp c]
        have e2 := mk_orI (p := lvs w r) (j := j) (by omega)
        rw [hz] at e2
        exact Lt_eq e2 (Lt_eq (nI_1 _) (hk _ rfl))
  · intro k a ha
    subst ha
    unfold FX6_dismiss_4
    rw [hw.1]
    refine br_t (nI_le (Nat.le_refl _) (by omega)) (cs_move (a := 0) (b := 4) hn7 hr (by omega) (by omega) (by omega) (fun k hk hl => ?_) fun h1 f1 r1 => cs_bitCount hn7 (hq h1 f1 r1))
    simp only [lvs, Bool.and_eq_true, isS, decide_eq_true_eq] at hl
    exact hl.1
theorem bitI_nI {m k : Nat} (hm : m < 128) (hk : k < 7) : bitI (nI m) k = m.testBit k := by
  unfold bitI
  rw [ja_bit k hk m hm]
  cases m.testBit k <;> simp
theorem mk_bitI {n m : Nat} (hn : n ≤ 7) (hm : m < 2 ^ n) : nI m = nI (mk (bitI (nI m)) n) := by
  congr 1
  apply Nat.eq_of_testBit_eq
  intro k
  rw [mk_bit]
  by_cases hk : k < n
  · rw [bitI_nI (Nat.lt_of_lt_of_le hm (pw7 hn)) (by omega)]
    simp [hk]
  · simp [hk]
    exact Nat.testBit_lt_two_pow (Nat.lt_of_lt_of_le hm (Nat.pow_le_pow_right (by decide) (by omega)))
/-- what a room's acts write -/
def CM (o q _k : Nat) : Prop := (o ≤ q ∧ q ≤ o + 4) ∨ q = 30 ∨ q = 33
theorem CM_w (o : Nat) (ho : 33 < o) : ∀ q k, CM o q k → ¬ (20 ≤ q ∧ q ≤ 29) ∧ q ≠ 31 ∧ q ≠ 32 := fun q k p => by unfold CM at p; omega
theorem CE_CM (o : Nat) : ∀ q k, CE o q k → CM o q k := fun q k p => by unfold CE at p; unfold CM; omega
def cameJ (w : ob_W) (r r2 : ob_P) (o j : Nat) : ob_P := fun k => if 7 ≤ k ∧ k < 7 + j ∧ brg w r2 o (k - 7) = true then r 21 else r k
set_option maxHeartbeats 1000000 in
theorem cs_hearAs {h : ob_H} {w : ob_W} {o k s : Nat} {r : ob_P} {Q : ob_H → Prop} (hW : WFW w) (hw : CW h w) (hr : CR h w.1 o r) (hk : k < w.1) (h0 : r k = 0) (hs : s < 7 ∧ s ≠ 0) (ho : 33 < o) (hq : ∀ h', Fr (CM o) h h' → CR h' w.1 o (her w r k (nI s)) → Q h') : MX6_hearAs o (nI k) (nI s) h Q := by
  have hn7 := hW.1
  have ek : ix (nI k) = k := nI_clamp (by omega)
  have hF1 : ∀ {h h' : ob_H}, Fr (fun q _ => q = o + 1) h h' → Fr (CM o) h h' := fun f => f.mono (fun q k p => by unfold CM; omega)
  obtain ⟨-, -, -, hm, -⟩ := hW
  obtain ⟨-, -, -, -, -, -, -, ⟨m4, hm4, em4⟩, ⟨m5, hm5, em5⟩⟩ := hm k hk
  unfold MX6_hearAs
  rw [ja_shl k (by omega), ← mk_one hk, ek]
  refine cs_move (a := 0) (b := s) hn7 hr (by omega) hs.1 (Ne.symm hs.2) (fun x hx hxk => by simp at hxk; rw [hxk]; exact h0) fun h1 f1 r1 => ?_
  have w1 := hw.fr (hF1 f1) (CM_w o ho)
  refine ⟨vp_in_nI (by omega) (by omega), Lt_i fun y1 z1 => ?_⟩
  rw [r1.2.2.2.1, w1.2.1 1 (by omega) k hk] at z1
  have f2 : Fr (CM o) h y1 := by rw [z1]; exact (hF1 f1).st (by unfold CM; omega)
  have w2 := hw.fr f2 (CM_w o ho)
  have r2 : CR y1 w.1 o (her1 w r k (nI s)) := by
    obtain ⟨a1, a2, a3, a4, a5, a6⟩ := r1
    have e : ∀ x, x < w.1 → mov w.1 (fun x => decide (x = k)) (nI s) r x = her1 w r k (nI s) x := fun x hx => by
      unfold her1 pu mov
      by_cases e : x = k
      · rw [if_pos ⟨hx, by simp [e]⟩, if_pos e]
      · rw [if_neg (by simp [e]), if_neg e, if_neg (by omega)]
    have e' : ∀ x, 7 ≤ x → x ≠ 21 → mov w.1 (fun x => decide (x = k)) (nI s) r x = her1 w r k (nI s) x := fun x hx hx2 => by
      rw [mov_hi hn7 hx]
      unfold her1 pu
      rw [if_neg (by omega), if_neg (by omega)]
    refine ⟨fun t ht => ?_, fun x hx => ?_, fun x hx => ?_, ?_, ?_, ?_⟩
    · rw [z1, h_i_1, if_neg (by omega), a1 t ht]
      congr 1
      exact mk_congr (fun x hx => by unfold isS; rw [e x hx])
    · rw [z1, h_i_1, if_neg (by omega), a2 x hx, e' _ (by omega) (by omega)]
    · rw [z1, h_i_1, if_neg (by omega), a3 x hx, e' _ (by omega) (by omega)]
    · rw [z1, h_i_1, if_pos ⟨rfl, rfl⟩, mov_hi hn7 (by omega)]
      unfold her1 pu
      rw [if_neg (by omega), if_pos rfl]
    · rw [z1, h_i_1, if_neg (by omega), a5, e' _ (by omega) (by omega)]
    · rw [z1, h_i_1, if_neg (by omega), a6, e' _ (by omega) (by omega)]
  rw [w2.2.1 4 (by omega) k hk, r2.1 0 (by omega), em4, mk_bitI hn7 hm4, ja_and _ _ (by have := mk7 (p := bitI (nI m4)) hn7; omega) (by have := mk7 (p := isS (her1 w r k (nI s)) (nI 0)) hn7; omega), mk_and]
  refine cs_move (a := 0) (b := 3) hn7 r2 (by omega) (by omega) (by omega) (fun x hx hxk => ?_) fun h3 f3 r3 => ?_
  · simp only [Bool.and_eq_true, isS, decide_eq_true_eq] at hxk
    exact hxk.2
  have r3' : CR h3 w.1 o (her2 w (her1 w r k (nI s)) k) := r3.cg (fun x hx => by
    refine ⟨?_, ?_, ?_⟩
    · unfold her2 mov
      rw [em4]
      simp only [Bool.and_eq_true, isS, decide_eq_true_eq]
      rfl
    · rw [mov_hi hn7 (by omega)]; unfold her2; rw [if_neg (by omega)]
    · rw [mov_hi hn7 (by omega)]; unfold her2; rw [if_neg (by omega)]) (by unfold her2; refine ⟨?_, ?_, ?_⟩ <;> rw [mov_hi hn7 (by omega), if_neg (by omega)])
  clear r3 r2
  have f3' := f2.tr (hF1 f3)
  have w3 := hw.fr f3' (CM_w o ho)
  generalize hr2 : her2 w (her1 w r k (nI s)) k = r2 at *
  have e5 : nI m5 &&& nI (mk (isS r2 (nI 6)) w.1) = nI (mk (brg w r2 k) w.1) := by
    rw [mk_bitI hn7 hm5, ja_and _ _ (by have := mk7 (p := bitI (nI m5)) hn7; omega) (by have := mk7 (p := isS r2 (nI 6)) hn7; omega), mk_and]
    congr 1
    refine mk_congr fun x hx => ?_
    unfold brg
    rw [em5]
    rfl
  rw [w3.2.1 5 (by omega) k hk, r3'.1 6 (by omega), em5, e5]
  refine Lt_eq rfl ?_
  refine cs_move (a := 6) (b := 0) hn7 r3' (by omega) (by omega) (by omega) (fun x hx hxk => ?_) fun h4 f4 r4 => ?_
  · simp only [brg, Bool.and_eq_true, isS, decide_eq_true_eq] at hxk
    exact hxk.2
  have f4' := f3'.tr (hF1 f4)
  generalize hr4 : mov w.1 (brg w r2 k) (nI 0) r2 = r4v at *
  have h21 : r4v 21 = r2 21 := by rw [← hr4]; exact mov_hi hn7 (by omega)
  refine lo2c1 w.1 (by omega) (fun j h' => Fr (CM o) h h' ∧ CR h' w.1 o (cameJ w r4v r2 k j)) ?_ ?_ 0 (Nat.zero_le _) _ ⟨f4', r4.cg (fun x hx => by unfold cameJ; refine ⟨?_, ?_, ?_⟩ <;> rw [if_neg (by omega)]) (by unfold cameJ; refine ⟨?_, ?_, ?_⟩ <;> rw [if_neg (by omega)])⟩
  · intro kk j h' hj hI hkk
    obtain ⟨hf, hc⟩ := hI
    have w' := hw.fr hf (CM_w o ho)
    have ej : ix (nI j) = j := nI_clamp (by omega)
    have g21 : h'.1 o 3 = r2 21 := by rw [hc.2.2.2.1]; unfold cameJ; rw [if_neg (by omega)]; exact h21
    have keep : ∀ {x}, x ≠ 7 + j → cameJ w r4v r2 k j x = cameJ w r4v r2 k (j + 1) x := fun {x} hx => by
      unfold cameJ
      have : (x < 7 + (j + 1)) ↔ (x < 7 + j) := by omega
      simp only [this]
    unfold FX6_hearAs_78
    rw [w'.1, ja_bit j (by omega) _ (mk7 hn7), mk_bit, ej]
    refine br_f (nI_ge hj (by omega)) ?_
    simp only [hj, decide_true, Bool.true_and]
    cases hb : brg w r2 k j with
    | false =>
      refine br_t (by simp) (Lt_eq (nI_1 _) (hkk _ ⟨hf, hc.cg (fun x hx => ⟨keep (by omega), keep (by omega), ?_⟩) ⟨keep (by omega), keep (by omega), keep (by omega)⟩⟩))
      by_cases e : x = j
      · subst e
        unfold cameJ
        rw [if_neg (by omega), if_neg (by rw [show 7 + x - 7 = x by omega, hb]; simp)]
      · exact keep (by omega)
    | true =>
      refine br_f (by simp) ⟨vp_in_nI (by omega) (by omega), Lt_i fun y5 z5 => Lt_eq (nI_1 _) (hkk _ ⟨by rw [z5]; exact hf.st (by unfold CM; omega), ?_⟩)⟩
      rw [g21] at z5
      obtain ⟨a1, a2, a3, a4, a5, a6⟩ := hc
      refine ⟨fun t ht => ?_, fun x hx => ?_, fun x hx => ?_, ?_, ?_, ?_⟩
      · rw [z5, h_i_1, if_neg (by omega), a1 t ht]
        congr 1
        exact mk_congr (fun x hx => by unfold isS; rw [keep (by omega)])
      · rw [z5, h_i_1, if_neg (by omega), a2 x hx, keep (by omega)]
      · rw [z5, h_i_1]
        by_cases e : x = j
        · subst e
          rw [if_pos ⟨rfl, rfl⟩]
          unfold cameJ
          rw [if_pos ⟨by omega, by omega, by rw [show 7 + x - 7 = x by omega]; exact hb⟩, h21]
        · rw [if_neg (by omega), a3 x hx, keep (by omega)]
      · rw [z5, h_i_1, if_neg (by omega), a4, keep (by omega)]
      · rw [z5, h_i_1, if_neg (by omega), a5, keep (by omega)]
      · rw [z5, h_i_1, if_neg (by omega), a6, keep (by omega)]
  · intro kk h' hI
    obtain ⟨hf, hc⟩ := hI
    have w' := hw.fr hf (CM_w o ho)
    unfold FX6_hearAs_78
    rw [w'.1]
    have hc' : CR h' w.1 o (her3 w r2 k) := hc.cg (fun x hx => by
      rw [← hr4]
      refine ⟨?_, ?_, ?_⟩
      · unfold cameJ her3 mov
        rw [if_neg (by omega)]
        by_cases e : x < w.1 ∧ brg w r2 k x = true
        · rw [if_pos e, if_pos e]; rfl
        · rw [if_neg e, if_neg e, if_neg (by omega)]
      · unfold cameJ her3
        rw [if_neg (by omega), mov_hi hn7 (by omega), if_neg (by omega), if_neg (by omega)]
      · unfold cameJ her3
        rw [mov_hi hn7 (by omega), mov_hi hn7 (by omega)]
        rw [if_neg (show ¬ (7 + x < w.1 ∧ brg w r2 k (7 + x) = true) by omega)]) (by
      rw [← hr4]
      unfold cameJ her3
      refine ⟨?_, ?_, ?_⟩ <;> rw [if_neg (by omega), mov_hi hn7 (by omega), if_neg (by omega), if_neg (by omega)])
    refine br_t (nI_le (Nat.le_refl _) (by omega)) (cs_dismiss hn7 w' hc' ho fun h6 f6 r6 => hq h6 (hf.tr (hF1 f6)) ?_)
    unfold her
    rw [hr2]
    exact r6

theorem cs_sortOf {h : ob_H} {n o k : Nat} {r : ob_P} {Q : Int32 → Prop} (hn : n ≤ 7) (hr : CR h n o r) (hk : k < n) (hs : ∃ s, s < 7 ∧ r k = nI s) (hq : Q (r k)) : MX6_sortOf o (nI k) h Q := by
  obtain ⟨s, hs7, es⟩ := hs
  unfold MX6_sortOf
  refine lo1c1 7 (by omega) (fun j => j ≤ s) ?_ ?_ 0 (Nat.zero_le _) (Nat.zero_le _)
  · intro kk j hj hI hkk
    have ej : ix (nI j) = j := nI_clamp (by omega)
    unfold FX6_sortOf_2
    rw [ej, hr.1 j hj, ja_bit k (by omega) _ (mk7 hn), mk_bit]
    refine br_f (show ¬ nI 7 ≤ nI j from nI_ge hj (by omega)) ⟨vp_in_nI (by omega) (by omega), ?_⟩
    simp only [hk, decide_true, Bool.true_and]
    by_cases e : j = s
    · subst e
      have : isS r (nI j) k = true := by simp [isS, es]
      rw [this]
      refine br_f (by simp) ?_
      rw [← es]
      exact hq
    · have : isS r (nI j) k = false := by simp [isS, es, nI_ne (a := s) (b := j) (by omega) (by omega) (fun z => e z.symm)]
      rw [this]
      exact br_t (by simp) (Lt_eq (nI_1 _) (hkk (by omega)))
  · intro kk hI
    omega
theorem CR.min {h : ob_H} {n o : Nat} {r : ob_P} {v : Int32} (hn : n ≤ 7) (a : CR h n o r) : CR (h_i h o 3 v) n o (pu r 21 v) := by
  obtain ⟨a1, a2, a3, a4, a5, a6⟩ := a
  refine ⟨fun s hs => ?_, fun k hk => ?_, fun k hk => ?_, ?_, ?_, ?_⟩
  · rw [h_i_1, if_neg (by omega), a1 s hs]
    congr 1
    exact mk_congr (fun k hk => by unfold isS pu; rw [if_neg (by omega)])
  · rw [h_i_1, if_neg (by omega), a2 k hk]; unfold pu; rw [if_neg (by omega)]
  · rw [h_i_1, if_neg (by omega), a3 k hk]; unfold pu; rw [if_neg (by omega)]
  · rw [h_i_1, if_pos ⟨rfl, rfl⟩]; unfold pu; rw [if_pos rfl]
  · rw [h_i_1, if_neg (by omega), a5]; unfold pu; rw [if_neg (by omega)]
  · rw [h_i_1, if_neg (by omega), a6]; unfold pu; rw [if_neg (by omega)]
theorem CR.spe {h : ob_H} {n o : Nat} {r : ob_P} {v : Int32} (hn : n ≤ 7) (a : CR h n o r) : CR (h_i h o 4 v) n o (pu r 22 v) := by
  obtain ⟨a1, a2, a3, a4, a5, a6⟩ := a
  refine ⟨fun s hs => ?_, fun k hk => ?_, fun k hk => ?_, ?_, ?_, ?_⟩
  · rw [h_i_1, if_neg (by omega), a1 s hs]
    congr 1
    exact mk_congr (fun k hk => by unfold isS pu; rw [if_neg (by omega)])
  · rw [h_i_1, if_neg (by omega), a2 k hk]; unfold pu; rw [if_neg (by omega)]
  · rw [h_i_1, if_neg (by omega), a3 k hk]; unfold pu; rw [if_neg (by omega)]
  · rw [h_i_1, if_neg (by omega), a4]; unfold pu; rw [if_neg (by omega)]
  · rw [h_i_1, if_pos ⟨rfl, rfl⟩]; unfold pu; rw [if_pos rfl]
  · rw [h_i_1, if_neg (by omega), a6]; unfold pu; rw [if_neg (by omega)]
theorem CR.see {h : ob_H} {n o : Nat} {r : ob_P} {v : Int32} (hn : n ≤ 7) (a : CR h n o r) : CR (h_i h o 5 v) n o (pu r 23 v) := by
  obtain ⟨a1, a2, a3, a4, a5, a6⟩ := a
  refine ⟨fun s hs => ?_, fun k hk => ?_, fun k hk => ?_, ?_, ?_, ?_⟩
  · rw [h_i_1, if_neg (by omega), a1 s hs]
    congr 1
    exact mk_congr (fun k hk => by unfold isS pu; rw [if_neg (by omega)])
  · rw [h_i_1, if_neg (by omega), a2 k hk]; unfold pu; rw [if_neg (by omega)]
  · rw [h_i_1, if_neg (by omega), a3 k hk]; unfold pu; rw [if_neg (by omega)]
  · rw [h_i_1, if_neg (by omega), a4]; unfold pu; rw [if_neg (by omega)]
  · rw [h_i_1, if_neg (by omega), a5]; unfold pu; rw [if_neg (by omega)]
  · rw [h_i_1, if_pos ⟨rfl, rfl⟩]; unfold pu; rw [if_pos rfl]
/-- some minutes pass -/
def pas (w : ob_W) (r : ob_P) (m : Int32) : ob_P := lev w (pu r 21 (r 21 + m))
theorem cs_letPass {h : ob_H} {w : ob_W} {o : Nat} {r : ob_P} {m : Int32} {Q : Int32 → ob_H → Prop} (hn7 : w.1 ≤ 7) (hw : CW h w) (hr : CR h w.1 o r) (ho : 33 < o) (hq : ∀ h', Fr (CM o) h h' → CR h' w.1 o (pas w r m) → Q (nI (cnt (lvs w (pu r 21 (r 21 + m))) w.1)) h') : MX6_letPass o m h Q := by
  unfold MX6_letPass
  refine Lt_i fun y1 z1 => ?_
  rw [hr.2.2.2.1] at z1
  have f1 : Fr (CM o) h y1 := by rw [z1]; exact Fr.rf.st (by unfold CM; omega)
  have r1 : CR y1 w.1 o (pu r 21 (r 21 + m)) := by rw [z1]; exact hr.min hn7
  exact cs_dismiss hn7 (hw.fr f1 (CM_w o ho)) r1 ho fun h2 f2 r2 => hq h2 (f1.tr (f2.mono (fun q k p => by unfold CM; omega))) r2
/-- two exchange their numbers -/
def exc (r : ob_P) (a b : Nat) : ob_P := pu (pu r (14 + a) (r (14 + b))) (14 + b) (r (14 + a))
theorem cs_exchange {h : ob_H} {n o a b : Nat} {r : ob_P} {Q : ob_H → Prop} (hn : n ≤ 7) (hr : CR h n o r) (ha : a < n) (hb : b < n) (hq : ∀ h', Fr (fun q _ => q = o + 2) h h' → CR h' n o (exc r a b) → Q h') : MX6_exchange o (nI a) (nI b) h Q := by
  have ea : ix (nI a) = a := nI_clamp (by omega)
  have eb : ix (nI b) = b := nI_clamp (by omega)
  obtain ⟨a1, a2, a3, a4, a5, a6⟩ := hr
  unfold MX6_exchange
  rw [ea, eb, a2 a ha, a2 b hb]
  refine ⟨vp_in_nI (by omega) (by omega), Lt_eq rfl ⟨vp_in_nI (by omega) (by omega), Lt_i fun y1 z1 => Lt_i fun y2 z2 => hq y2 ?_ ?_⟩⟩
  · rw [z2, z1]
    exact Fr.st (P := fun q _ => q = o + 2) (Fr.st (P := fun q _ => q = o + 2) Fr.rf rfl) rfl
  · have hi : ∀ q, (q < 14 ∨ 21 ≤ q) → exc r a b q = r q := fun q hq => by unfold exc pu; rw [if_neg (by omega), if_neg (by omega)]
    refine ⟨fun s hs => ?_, fun k hk => ?_, fun k hk => ?_, ?_, ?_, ?_⟩
    · rw [z2, h_i_1, if_neg (by omega), z1, h_i_1, if_neg (by omega), a1 s hs]
      congr 1
      exact mk_congr (fun k hk => by unfold isS; rw [hi k (by omega)])
    · unfold exc pu
      rw [z2, h_i_1, z1, h_i_1]
      have hb' : (14 + k = 14 + b) ↔ k = b := by omega
      have ha' : (14 + k = 14 + a) ↔ k = a := by omega
      by_cases e : k = b
      · simp [e]
      · by_cases e2 : k = a
        · simp only [hb', ha', e, e2, true_and, if_true, if_false]
          simp [← e2, e]
        · simp only [hb', ha', e, e2, true_and, if_false]
          exact a2 k hk
    · rw [z2, h_i_1, if_neg (by omega), z1, h_i_1, if_neg (by omega), hi _ (by omega)]; exact a3 k hk
    · rw [z2, h_i_1, if_neg (by omega), z1, h_i_1, if_neg (by omega), hi _ (by omega)]; exact a4
    · rw [z2, h_i_1, if_neg (by omega), z1, h_i_1, if_neg (by omega), hi _ (by omega)]; exact a5
    · rw [z2, h_i_1, if_neg (by omega), z1, h_i_1, if_neg (by omega), hi _ (by omega)]; exact a6
theorem Fr.cp {P : Nat → Nat → Prop} {h h1 : ob_H} {o0 sp o1 dp n : Nat} (a : Fr P h h1) (p : ∀ k, dp ≤ k → k < dp + n → P o1 k) : Fr P h (h_c h1 o0 sp o1 dp n) := by
  refine ⟨fun q j nn => ⟨?_, (a.1 q j nn).2⟩, a.2⟩
  rw [h_c_1]
  by_cases e : q = o1
  · subst e
    rw [if_pos rfl]
    by_cases e2 : dp ≤ j ∧ j < dp + n
    · exact absurd (p j e2.1 e2.2) nn
    · rw [if_neg e2]; exact a.i nn
  · rw [if_neg e]; exact a.i nn
theorem cs_copy {h : ob_H} {n o p : Nat} {r : ob_P} {Q : ob_H → Prop} (hn : n ≤ 7) (hr : CR h n p r) (hop : o + 5 ≤ p ∨ p + 5 ≤ o) (hq : ∀ h', Fr (fun q _ => o ≤ q ∧ q ≤ o + 3) h h' → CR h' n o r → Q h') : MX6_copy o p h Q := by
  obtain ⟨a1, a2, a3, a4, a5, a6⟩ := hr
  unfold MX6_copy
  refine Lt_i fun y1 z1 => Lt_i fun y2 z2 => Lt_i fun y3 z3 => Lt_i fun y4 z4 => Lt_i fun y5 z5 => Lt_i fun y6 z6 => hq y6 ?_ ?_
  · subst z1 z2 z3 z4 z5 z6
    exact Fr.st (Fr.st (Fr.st (Fr.cp (Fr.cp (Fr.cp Fr.rf (fun k _ _ => by omega)) (fun k _ _ => by omega)) (fun k _ _ => by omega)) (by omega)) (by omega)) (by omega)
  · have k1 : ∀ s, s < 7 → y6.1 (o + 1) s = h.1 (p + 1) s := fun s hs => by
      rw [z6, h_i_1, if_neg (by omega), z5, h_i_1, if_neg (by omega), z4, h_i_1, if_neg (by omega), z3, h_c_1, if_neg (by omega), z2, h_c_1, if_neg (by omega), z1, h_c_1, if_pos rfl, if_pos (by omega)]
      simp
    have k2 : ∀ s, s < 7 → y6.1 (o + 2) s = h.1 (p + 2) s := fun s hs => by
      rw [z6, h_i_1, if_neg (by omega), z5, h_i_1, if_neg (by omega), z4, h_i_1, if_neg (by omega), z3, h_c_1, if_neg (by omega), z2, h_c_1, if_pos rfl, if_pos (by omega), z1, h_c_1, if_neg (by omega)]
      simp
    have k3 : ∀ s, s < 7 → y6.1 (o + 3) s = h.1 (p + 3) s := fun s hs => by
      rw [z6, h_i_1, if_neg (by omega), z5, h_i_1, if_neg (by omega), z4, h_i_1, if_neg (by omega), z3, h_c_1, if_pos rfl, if_pos (by omega), z2, h_c_1, if_neg (by omega), z1, h_c_1, if_neg (by omega)]
      simp
    have kk : ∀ j, y3.1 p j = h.1 p j := fun j => by rw [z3, h_c_1, if_neg (by omega), z2, h_c_1, if_neg (by omega), z1, h_c_1, if_neg (by omega)]
    have k4 : y6.1 o 3 = h.1 p 3 := by rw [z6, h_i_1, if_neg (by omega), z5, h_i_1, if_neg (by omega), z4, h_i_1, if_pos ⟨rfl, rfl⟩, kk]
    have k5 : y6.1 o 4 = h.1 p 4 := by rw [z6, h_i_1, if_neg (by omega), z5, h_i_1, if_pos ⟨rfl, rfl⟩, z4, h_i_1, if_neg (by omega), kk]
    have k6 : y6.1 o 5 = h.1 p 5 := by rw [z6, h_i_1, if_pos ⟨rfl, rfl⟩, z5, h_i_1, if_neg (by omega), z4, h_i_1, if_neg (by omega), kk]
    exact ⟨fun s hs => (k1 s hs).trans (a1 s hs), fun k hk => (k2 k (by omega)).trans (a2 k hk), fun k hk => (k3 k (by omega)).trans (a3 k hk), k4.trans a4, k5.trans a5, k6.trans a6⟩
theorem ja_full : ∀ n, n < 8 → ((1 : Int32) <<< (nI n &&& 31)) - 1 = nI (2 ^ n - 1) := by decide +kernel
theorem mk_full : ∀ n, mk (fun _ => true) n = 2 ^ n - 1
  | 0 => rfl
  | n + 1 => by rw [mk_succ, mk_full n]; have : 0 < 2 ^ n := Nat.pos_of_ne_zero (by simp); rw [if_pos rfl, Nat.pow_succ]; omega
theorem mk_none : ∀ {n : Nat} {p : Nat → Bool}, (∀ k, k < n → p k = false) → mk p n = 0
  | 0, _, _ => rfl
  | n + 1, p, h => by rw [mk_succ, mk_none (fun k hk => h k (by omega)), h n (by omega)]; rfl
theorem cs_begin {h : ob_H} {w : ob_W} {o : Nat} {Q : ob_H → Prop} (hW : WFW w) (hw : CW h w) (ho : 33 < o) (hq : ∀ h', Fr (fun q _ => o ≤ q ∧ q ≤ o + 3) h h' → CR h' w.1 o (pu (bgn w) 23 (wv w 7 2)) → Q h') : MX6_begin o h Q := by
  have hn7 := hW.1
  obtain ⟨m, hm, em⟩ := hW.2.2.2.2.2
  have hw0 : h.1 20 0 = nI w.1 := hw.1
  have hw8 : h.1 20 8 = wv w 7 0 := hw.2.2.2.1
  have hw10 : h.1 20 10 = wv w 7 2 := hw.2.2.2.2.2.1
  unfold MX6_begin
  refine lo2c1 7 (by omega) (fun j h' => Fr (fun q _ => o ≤ q ∧ q ≤ o + 3) h h' ∧ ∀ s, s < j → h'.1 (o + 1) s = 0) ?_ ?_ 0 (Nat.zero_le _) _ ⟨Fr.rf, fun k hk => absurd hk (Nat.not_lt_zero _)⟩
  · intro k j h' hj hI hk
    obtain ⟨hf, hz⟩ := hI
    have ej : ix (nI j) = j := nI_clamp (by omega)
    unfold FX6_begin_2
    rw [ej]
    refine br_f (show ¬ nI 7 ≤ nI j from nI_ge hj (by omega)) ⟨vp_in_nI (by omega) (by omega), Lt_i fun y z => Lt_eq (nI_1 _) (hk _ ⟨by rw [z]; exact hf.st (by omega), fun s hs => ?_⟩)⟩
    rw [z, h_i_1]
    by_cases e : s = j
    · simp [e]
    · rw [if_neg (by omega)]; exact hz s (by omega)
  · intro k h' hI
    obtain ⟨hf, hz⟩ := hI
    unfold FX6_begin_2
    refine br_t (show nI 7 ≤ nI 7 from nI_le (Nat.le_refl _) (by omega)) (Lt_i fun y1 z1 => Lt_i fun y2 z2 => ?_)
    have g1 : h'.1 20 8 = wv w 7 0 := by rw [hf.i (by omega)]; exact hw8
    have g2 : y1.1 20 8 = wv w 7 0 := by rw [z1, h_i_1, if_neg (by omega)]; exact g1
    have g3 : y1.1 20 0 = nI w.1 := by rw [z1, h_i_1, if_neg (by omega), hf.i (by omega)]; exact hw0
    rw [g1] at z1
    rw [g2, g3, ja_full _ (by omega), em, mk_bitI hn7 hm, ja_andn _ (mk7 hn7) _ (by have := pw7 hn7; omega), ← mk_full, mk_andn hn7] at z2
    rw [em, mk_bitI hn7 hm] at z1
    have f2 : Fr (fun q _ => o ≤ q ∧ q ≤ o + 3) h y2 := by rw [z2, z1]; exact (hf.st (by omega)).st (by omega)
    have hat : ∀ s, s < 7 → y2.1 (o + 1) s = nI (mk (isS (bgn w) (nI s)) w.1) := by
      intro s hs
      have hb : ∀ x, x < w.1 → bgn w x = if bitI (nI m) x = true then 6 else 0 := fun x hx => by unfold bgn; rw [if_pos hx, em]
      rw [z2, h_i_1]
      by_cases e0 : s = 0
      · subst e0
        rw [if_pos ⟨rfl, rfl⟩]
        congr 1
        refine mk_congr fun x hx => ?_
        unfold isS
        rw [hb x hx]
        cases bitI (nI m) x <;> simp <;> decide
      · rw [if_neg (by omega), z1, h_i_1]
        by_cases e6 : s = 6
        · subst e6
          rw [if_pos ⟨rfl, rfl⟩]
          congr 1
          refine mk_congr fun x hx => ?_
          unfold isS
          rw [hb x hx]
          cases bitI (nI m) x <;> simp <;> decide
        · rw [if_neg (by omega), hz s hs, mk_none]
          · rfl
          · intro x hx
            unfold isS
            rw [hb x hx]
            have n6 : nI s ≠ nI 6 := nI_ne (by omega) (by omega) e6
            have n0 : nI s ≠ nI 0 := nI_ne (by omega) (by omega) e0
            cases bitI (nI m) x with
            | true => simp; exact fun z => n6 z.symm
            | false => simp; exact fun z => n0 z.symm
    refine lo2c1 7 (by omega) (fun j h2 => Fr (fun q _ => o ≤ q ∧ q ≤ o + 3) h h2 ∧ (∀ s, s < 7 → h2.1 (o + 1) s = nI (mk (isS (bgn w) (nI s)) w.1)) ∧ ∀ s, s < j → h2.1 (o + 2) s = nI s ∧ h2.1 (o + 3) s = 0) ?_ ?_ 0 (Nat.zero_le _) _ ⟨f2, hat, fun k hk => absurd hk (Nat.not_lt_zero _)⟩
    · intro k j h2 hj hI hk
      obtain ⟨hf2, hat2, hz2⟩ := hI
      have ej : ix (nI j) = j := nI_clamp (by omega)
      unfold FX6_begin_64
      rw [ej]
      refine br_f (show ¬ nI 7 ≤ nI j from nI_ge hj (by omega)) ⟨vp_in_nI (by omega) (by omega), Lt_i fun y3 z3 => Lt_i fun y4 z4 => Lt_eq (nI_1 _) (hk _ ⟨by rw [z4, z3]; exact (hf2.st (by omega)).st (by omega), fun s hs => ?_, fun s hs => ?_⟩)⟩
      · rw [z4, h_i_1, if_neg (by omega), z3, h_i_1, if_neg (by omega)]; exact hat2 s hs
      · rw [z4, h_i_1, if_neg (by omega), h_i_1, z3, h_i_1, h_i_1]
        by_cases e : s = j
        · subst e; simp
        · rw [if_neg (by omega), if_neg (by omega), if_neg (by omega)]; exact hz2 s (by omega)
    · intro k h2 hI
      obtain ⟨hf2, hat2, hz2⟩ := hI
      unfold FX6_begin_64
      refine br_t (show nI 7 ≤ nI 7 from nI_le (Nat.le_refl _) (by omega)) (Lt_i fun y3 z3 => Lt_i fun y4 z4 => Lt_i fun y5 z5 => ?_)
      have g4 : y4.1 20 10 = wv w 7 2 := by rw [z4, h_i_1, if_neg (by omega), z3, h_i_1, if_neg (by omega), hf2.i (by omega)]; exact hw10
      rw [g4] at z5
      refine hq y5 (by rw [z5, z4, z3]; exact ((hf2.st (by omega)).st (by omega)).st (by omega)) ⟨fun s hs => ?_, fun x hx => ?_, fun x hx => ?_, ?_, ?_, ?_⟩
      · rw [z5, h_i_1, if_neg (by omega), z4, h_i_1, if_neg (by omega), z3, h_i_1, if_neg (by omega), hat2 s hs]
        congr 1
        exact mk_congr (fun x hx => by unfold isS pu; rw [if_neg (by omega)])
      · rw [z5, h_i_1, if_neg (by omega), z4, h_i_1, if_neg (by omega), z3, h_i_1, if_neg (by omega), (hz2 x (by omega)).1]
        unfold pu bgn
        rw [if_neg (by omega), if_neg (by omega), if_pos (by omega), show 14 + x - 14 = x by omega]
      · rw [z5, h_i_1, if_neg (by omega), z4, h_i_1, if_neg (by omega), z3, h_i_1, if_neg (by omega), (hz2 x (by omega)).2]
        unfold pu bgn
        rw [if_neg (by omega), if_neg (by omega), if_neg (by omega)]
      · rw [z5, h_i_1, if_neg (by omega), z4, h_i_1, if_neg (by omega), z3, h_i_1, if_pos ⟨rfl, rfl⟩]
        unfold pu bgn
        rw [if_neg (by omega), if_neg (by omega), if_neg (by omega)]
      · rw [z5, h_i_1, if_neg (by omega), z4, h_i_1, if_pos ⟨rfl, rfl⟩]
        unfold pu bgn
        rw [if_neg (by omega), if_neg (by omega), if_neg (by omega)]
      · rw [z5, h_i_1, if_pos ⟨rfl, rfl⟩]
        unfold pu
        rw [if_pos rfl]
