-- ===== reading a changed picture =====
theorem h_i_1 {h : ob_H} {o k o' k' : Nat} {v : Int32} : (h_i h o k v).1 o' k' = if o' = o ∧ k' = k then v else h.1 o' k' := rfl
theorem h_i_2 {h : ob_H} {o k : Nat} {v : Int32} : (h_i h o k v).2 = h.2 := rfl
theorem h_l_1 {h : ob_H} {o k : Nat} {v : Int64} : (h_l h o k v).1 = h.1 := rfl
theorem h_l_2 {h : ob_H} {o k o' k' : Nat} {v : Int64} : (h_l h o k v).2.1 o' k' = if o' = o ∧ k' = k then v else h.2.1 o' k' := rfl
theorem h_c_1 {h : ob_H} {o0 sp o1 dp n o' k' : Nat} : (h_c h o0 sp o1 dp n).1 o' k' = if o' = o1 then (if dp ≤ k' ∧ k' < dp + n then h.1 o0 (sp + (k' - dp)) else h.1 o1 k') else h.1 o' k' := rfl
/-- outside P nothing changed -/
def Fr (P : Nat → Nat → Prop) (h h' : ob_H) : Prop := (∀ q k, ¬ P q k → h'.1 q k = h.1 q k ∧ h'.2.1 q k = h.2.1 q k) ∧ h'.2.2 = h.2.2
theorem Fr.rf {P : Nat → Nat → Prop} {h : ob_H} : Fr P h h := ⟨fun _ _ _ => ⟨rfl, rfl⟩, rfl⟩
theorem Fr.tr {P : Nat → Nat → Prop} {h h1 h2 : ob_H} (a : Fr P h h1) (b : Fr P h1 h2) : Fr P h h2 :=
  ⟨fun q k n => ⟨((b.1 q k n).1).trans (a.1 q k n).1, ((b.1 q k n).2).trans (a.1 q k n).2⟩, b.2.trans a.2⟩
theorem Fr.mono {P P' : Nat → Nat → Prop} {h h1 : ob_H} (a : Fr P h h1) (hp : ∀ q k, P q k → P' q k) : Fr P' h h1 := ⟨fun q k n => a.1 q k (fun z => n (hp q k z)), a.2⟩
theorem Fr.i {P : Nat → Nat → Prop} {h h1 : ob_H} (a : Fr P h h1) {q k : Nat} (n : ¬ P q k) : h1.1 q k = h.1 q k := (a.1 q k n).1
theorem Fr.l {P : Nat → Nat → Prop} {h h1 : ob_H} (a : Fr P h h1) {q k : Nat} (n : ¬ P q k) : h1.2.1 q k = h.2.1 q k := (a.1 q k n).2
theorem Fr.st {P : Nat → Nat → Prop} {h h1 : ob_H} {o k : Nat} {v : Int32} (a : Fr P h h1) (p : P o k) : Fr P h (h_i h1 o k v) := by
  refine ⟨fun q j n => ⟨?_, (a.1 q j n).2⟩, a.2⟩
  rw [h_i_1, if_neg]
  · exact a.i n
  · rintro ⟨rfl, rfl⟩
    exact n p
-- ===== counts and masks =====
def cnt (p : Nat → Bool) : Nat → Nat
  | 0 => 0
  | n + 1 => cnt p n + (if p n then 1 else 0)
def mk (p : Nat → Bool) : Nat → Nat
  | 0 => 0
  | n + 1 => mk p n + (if p n then 2 ^ n else 0)
theorem mk_lt (p : Nat → Bool) : ∀ n, mk p n < 2 ^ n
  | 0 => Nat.one_pos
  | n + 1 => by
    have h := mk_lt p n
    unfold mk
    rw [Nat.pow_succ]
    split <;> omega
theorem mk_bit (p : Nat → Bool) : ∀ n o, (mk p n).testBit o = (decide (o < n) && p o)
  | 0, o => by simp [mk]
  | n + 1, o => by
    have h := mk_bit p n o
    have hl := mk_lt p n
    unfold mk
    by_cases hp : p n = true
    · rw [if_pos hp, Nat.add_comm]
      by_cases ho : o = n
      · subst ho
        rw [Nat.testBit_two_pow_add_eq, h]
        simp [hp]
      · rcases Nat.lt_or_gt_of_ne ho with hlt | hgt
        · rw [Nat.testBit_two_pow_add_gt hlt, h]
          simp [hlt, Nat.lt_succ_of_lt hlt]
        · rw [Nat.testBit_lt_two_pow]
          · simp; omega
          · calc 2 ^ n + mk p n < 2 ^ n + 2 ^ n := by omega
              _ = 2 ^ (n + 1) := by rw [Nat.pow_succ]; omega
              _ ≤ 2 ^ o := Nat.pow_le_pow_right (by decide) hgt
    · rw [if_neg hp, Nat.add_zero, h]
      by_cases ho : o = n
      · subst ho; simp [hp]
      · have : (o < n + 1) ↔ (o < n) := by omega
        simp [this]
theorem mk_congr {p q : Nat → Bool} : ∀ {n}, (∀ o, o < n → p o = q o) → mk p n = mk q n
  | 0, _ => rfl
  | n + 1, h => by
    unfold mk
    rw [mk_congr (fun o ho => h o (by omega)), h n (by omega)]
theorem cnt_congr {p q : Nat → Bool} : ∀ {n}, (∀ o, o < n → p o = q o) → cnt p n = cnt q n
  | 0, _ => rfl
  | n + 1, h => by
    unfold cnt
    rw [cnt_congr (fun o ho => h o (by omega)), h n (by omega)]
theorem cnt_le (p : Nat → Bool) : ∀ n, cnt p n ≤ n
  | 0 => Nat.le_refl _
  | n + 1 => by have := cnt_le p n; unfold cnt; split <;> omega
theorem mk_and {p q : Nat → Bool} {n : Nat} : mk p n &&& mk q n = mk (fun o => p o && q o) n := by
  apply Nat.eq_of_testBit_eq
  intro o
  rw [Nat.testBit_and, mk_bit, mk_bit, mk_bit]
  cases decide (o < n) <;> cases p o <;> cases q o <;> rfl
theorem mk_or {p q : Nat → Bool} {n : Nat} : mk p n ||| mk q n = mk (fun o => p o || q o) n := by
  apply Nat.eq_of_testBit_eq
  intro o
  rw [Nat.testBit_or, mk_bit, mk_bit, mk_bit]
  cases decide (o < n) <;> cases p o <;> cases q o <;> rfl
theorem mk_one {n o : Nat} (ho : o < n) : mk (fun x => decide (x = o)) n = 2 ^ o := by
  apply Nat.eq_of_testBit_eq
  intro x
  rw [mk_bit, Nat.testBit_two_pow]
  by_cases hx : x = o
  · subst hx; simp [ho]
  · simp [hx, Ne.symm hx]
-- the Java operations on masks of seven
theorem ja_and (a b : Nat) (ha : a < 2 ^ 31) (hb : b < 2 ^ 31) : nI a &&& nI b = nI (a &&& b) := by
  apply Int32.toBitVec_inj.mp
  rw [Int32.toBitVec_and]
  apply BitVec.eq_of_toNat_eq
  rw [BitVec.toNat_and, pk_tn (by omega), pk_tn (by omega), pk_tn (by have := Nat.and_le_left (n := a) (m := b); omega)]
theorem ja_or (a b : Nat) (ha : a < 2 ^ 7) (hb : b < 2 ^ 7) : nI a ||| nI b = nI (a ||| b) := by
  apply Int32.toBitVec_inj.mp
  rw [Int32.toBitVec_or]
  apply BitVec.eq_of_toNat_eq
  rw [BitVec.toNat_or, pk_tn (by omega), pk_tn (by omega), pk_tn (by have := Nat.or_lt_two_pow ha hb; omega)]
theorem ja_shl : ∀ o, o < 7 → (1 : Int32) <<< (nI o &&& 31) = nI (2 ^ o) := by decide +kernel
theorem ja_bit : ∀ o, o < 7 → ∀ m, m < 128 → ((nI m >>> (nI o &&& 31)) &&& 1) = (if m.testBit o then 1 else 0) := by decide +kernel
theorem ja_andn : ∀ b, b < 128 → ∀ a, a < 128 → (nI a &&& (nI b ^^^ (-1))) = nI (a &&& (127 ^^^ b)) := by decide +kernel
example : True := trivial
