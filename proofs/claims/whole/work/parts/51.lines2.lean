-- ===== what is told so far stays well =====
theorem nmF_no : ∀ {N : List (List Nat)} {l : List Nat}, nmF N l = none → ∀ j : Nat, N[j]? ≠ some l
  | [], l, _, j => by simp
  | a :: t, l, h, j => by
    rw [nmF] at h
    by_cases e : a = l
    · rw [if_pos e] at h; cases h
    · rw [if_neg e] at h
      cases hn : nmF t l with
      | some i => rw [hn] at h; cases h
      | none =>
        cases j with
        | zero => simpa using e
        | succ j => simpa using nmF_no hn j
theorem mk_or2 : ∀ b, b < 7 → ∀ m, m < 128 → (nI m ||| ((1 : Int32) <<< (nI b &&& 31))) = nI (m ||| 2 ^ b) ∧ (bitI (nI m) b = false → ctb (m ||| 2 ^ b) = ctb m + 1) ∧ m ||| 2 ^ b < 128 := by decide +kernel
theorem or_lt {m b n : Nat} (hm : m < 2 ^ n) (hb : b < n) : m ||| 2 ^ b < 2 ^ n := Nat.or_lt_two_pow hm (Nat.pow_lt_pow_right (by decide) hb)
theorem suN_cg {f g : Nat → Nat} : ∀ {n}, (∀ k, k < n → f k = g k) → suN f n = suN g n
  | 0, _ => rfl
  | n + 1, h => by rw [suN, suN, suN_cg (fun k hk => h k (by omega)), h n (by omega)]
theorem suN_one {f g : Nat → Nat} {a : Nat} (h2 : g a = f a + 1) : ∀ {n}, a < n → (∀ k, k < n → k ≠ a → g k = f k) → suN g n = suN f n + 1
  | 0, h, _ => absurd h (Nat.not_lt_zero _)
  | n + 1, h, hk => by
    rw [suN, suN]
    by_cases e : a = n
    · subst e
      rw [suN_cg (f := g) (g := f) fun k h => hk k (by omega) (by omega)]
      omega
    · rw [suN_one h2 (n := n) (by omega) (fun k h => hk k (by omega)), hk n (by omega) (fun z => e z.symm)]
      omega
theorem pcI_nI {m : Nat} (h : m < 128) : pcI (nI m) = ctb m := by
  unfold pcI
  rw [nI_clamp (by omega)]
theorem addO_at {D : tx_D} {l : List Nat} {g m s p : Nat} {late : Bool} {c k : Nat} : wv (addO D l g m s p late).1 c k = if c < 4 ∧ k = D.1.1 then nI (if c = 0 then g else if c = 1 then m else if c = 2 then s else p) else if c = 7 ∧ k = 0 ∧ late = true then wv D.1 7 0 ||| ((1 : Int32) <<< (nI D.1.1 &&& 31)) else wv D.1 c k := rfl
theorem DI_addO {D : tx_D} {l : List Nat} {g m s p : Nat} {late : Bool} (d : DI D) (hn : D.1.1 < 7) (hl : LtL l) (h8 : l.length ≤ 8) (hnew : nmF D.2.1 l = none) (hg : g ≤ 99) (hm : 1 ≤ m ∧ m ≤ 60) (hs : s ≤ 999) (hp : p ≤ 99) : DI (addO D l g m s p late) := by
  obtain ⟨d1, d2, d3, d4, d5, d6, d7, d8, d9, d10, d11, d12, d13, d14, d15, d16, d17, d18, d19⟩ := d
  have hno := nmF_no hnew
  have e4 : ∀ c k, 4 ≤ c → c ≠ 7 → wv (addO D l g m s p late).1 c k = wv D.1 c k := fun c k h1 h2 => by
    rw [addO_at, if_neg (by omega), if_neg (by omega)]
  have hpw : 2 ^ D.1.1 ≤ 2 ^ (D.1.1 + 1) := Nat.pow_le_pow_right (by decide) (by omega)
  refine ⟨by show D.1.1 + 1 ≤ 7; omega, by show (D.2.1 ++ [l]).length = D.1.1 + 1; simp [d2], fun x hx => ?_, fun i j x hi hj => ?_, fun k hk => ?_, fun c hc k hk => ?_, fun a b ha hb => ?_, ?_, d9, ?_, d11, d12, d13, d14, d15, d16, ?_, ?_, d19⟩
  · rcases List.mem_append.mp hx with z | z
    · exact d3 x z
    · simp at z; rw [z]; exact ⟨hl, h8⟩
  · have key : ∀ i x, (D.2.1 ++ [l])[i]? = some x → (i < D.2.1.length ∧ D.2.1[i]? = some x) ∨ (i = D.2.1.length ∧ x = l) := fun i x h => by
      by_cases z : i < D.2.1.length
      · rw [List.getElem?_append_left z] at h; exact Or.inl ⟨z, h⟩
      · have hi := (List.getElem?_eq_some_iff.mp h).1
        simp at hi
        have ei : i = D.2.1.length := by omega
        subst ei
        simp at h
        exact Or.inr ⟨rfl, h.symm⟩
    rcases key i x hi with ⟨a1, a2⟩ | ⟨a1, a2⟩ <;> rcases key j x hj with ⟨b1, b2⟩ | ⟨b1, b2⟩
    · exact d4 i j x a2 b2
    · rw [b2] at a2; exact absurd a2 (hno i)
    · rw [a2] at b2; exact absurd b2 (hno j)
    · omega
  · have hk : k < D.1.1 + 1 := hk
    have e : ∀ c, c < 4 → wv (addO D l g m s p late).1 c k = if k = D.1.1 then nI (if c = 0 then g else if c = 1 then m else if c = 2 then s else p) else wv D.1 c k := fun c hc => by
      rw [addO_at]
      by_cases z : k = D.1.1
      · rw [if_pos ⟨hc, z⟩, if_pos z]
      · rw [if_neg (fun y => z y.2), if_neg (by omega), if_neg z]
    rw [e 0 (by omega), e 1 (by omega), e 2 (by omega), e 3 (by omega)]
    by_cases z : k = D.1.1
    · rw [if_pos z, if_pos z, if_pos z, if_pos z]
      exact ⟨⟨g, hg, rfl⟩, ⟨m, hm.1, hm.2, rfl⟩, ⟨s, hs, rfl⟩, ⟨p, hp, rfl⟩⟩
    · rw [if_neg z, if_neg z, if_neg z, if_neg z]
      exact d5 k (by omega)
  · rw [e4 c k (by omega) (by omega)]
    obtain ⟨x, x1, x2, x3⟩ := d6 c hc k hk
    exact ⟨x, Nat.lt_of_lt_of_le x1 hpw, x2, fun z => x3 (by have z : D.1.1 + 1 ≤ k := z; omega)⟩
  · rw [e4 6 _ (by omega) (by omega), e4 6 _ (by omega) (by omega)]
    obtain ⟨x1, x, x2, x3, x4⟩ := d7 a b ha hb
    exact ⟨x1, x, x2, x3, fun z => x4 (by have z : D.1.1 + 1 ≤ a ∨ D.1.1 + 1 ≤ b := z; omega)⟩
  · obtain ⟨x, x1, x2⟩ := d8
    have e7 : wv (addO D l g m s p late).1 7 0 = if late = true then wv D.1 7 0 ||| ((1 : Int32) <<< (nI D.1.1 &&& 31)) else wv D.1 7 0 := by
      rw [addO_at, if_neg (by omega)]
      cases late <;> simp
    have h128 : 2 ^ D.1.1 ≤ 128 := by
      have := Nat.pow_le_pow_right (show 0 < 2 by decide) (show D.1.1 ≤ 7 by omega)
      omega
    rw [e7]
    cases late with
    | false => exact ⟨x, Nat.lt_of_lt_of_le x1 hpw, x2⟩
    | true =>
      refine ⟨x ||| 2 ^ D.1.1, or_lt (n := D.1.1 + 1) (Nat.lt_of_lt_of_le x1 hpw) (by omega), ?_⟩
      rw [if_pos rfl, x2]
      exact (mk_or2 D.1.1 hn x (by omega)).1
  · rw [addO_at, if_neg (by omega), if_neg (by omega)]
    exact d10
  · show D.2.2.2.1 = suN (fun k => pcI (wv (addO D l g m s p late).1 4 k)) D.1.1 + pcI (wv (addO D l g m s p late).1 4 D.1.1)
    obtain ⟨x, x1, x2, x3⟩ := d6 4 (Or.inl rfl) D.1.1 hn
    have hx0 : x = 0 := x3 (Nat.le_refl _)
    have hsu : suN (fun k => pcI (wv (addO D l g m s p late).1 4 k)) D.1.1 = suN (fun k => pcI (wv D.1 4 k)) D.1.1 := suN_cg fun k hk => by rw [e4 4 _ (by omega) (by omega)]
    rw [hsu, d17, e4 4 _ (by omega) (by omega), x2, hx0]
    rfl
  · show D.2.2.2.2.1 = suN (fun k => pcI (wv (addO D l g m s p late).1 5 k)) D.1.1 + pcI (wv (addO D l g m s p late).1 5 D.1.1)
    obtain ⟨x, x1, x2, x3⟩ := d6 5 (Or.inr rfl) D.1.1 hn
    have hx0 : x = 0 := x3 (Nat.le_refl _)
    have hsu : suN (fun k => pcI (wv (addO D l g m s p late).1 5 k)) D.1.1 = suN (fun k => pcI (wv D.1 5 k)) D.1.1 := suN_cg fun k hk => by rw [e4 5 _ (by omega) (by omega)]
    rw [hsu, d18, e4 5 _ (by omega) (by omega), x2, hx0]
    rfl
theorem setW_at {D : tx_D} {c a b c' k : Nat} : wv (setW D c a b).1 c' k = if c' = c ∧ k = a then wv D.1 c a ||| ((1 : Int32) <<< (nI b &&& 31)) else wv D.1 c' k := rfl
theorem DI_setW {D : tx_D} {c a b : Nat} (d : DI D) (hc : c = 4 ∨ c = 5) (ha : a < D.1.1) (hb : b < D.1.1) (hbit : bitI (wv D.1 c a) b = false) : DI (setW D c a b) := by
  obtain ⟨d1, d2, d3, d4, d5, d6, d7, d8, d9, d10, d11, d12, d13, d14, d15, d16, d17, d18, d19⟩ := d
  have h128 : 2 ^ D.1.1 ≤ 128 := by
    have := Nat.pow_le_pow_right (show 0 < 2 by decide) (show D.1.1 ≤ 7 by omega)
    omega
  obtain ⟨m, m1, m2, m3⟩ := d6 c hc a (by omega)
  obtain ⟨o1, o2, o3⟩ := mk_or2 b (by omega) m (by omega)
  have en : ∀ c' k, ¬ (c' = c ∧ k = a) → wv (setW D c a b).1 c' k = wv D.1 c' k := fun c' k h => by rw [setW_at, if_neg h]
  have ey : wv (setW D c a b).1 c a = nI (m ||| 2 ^ b) := by rw [setW_at, if_pos ⟨rfl, rfl⟩, m2]; exact o1
  rw [m2] at hbit
  have cnt1 : pcI (wv (setW D c a b).1 c a) = pcI (wv D.1 c a) + 1 := by
    rw [ey, m2, pcI_nI o3, pcI_nI (show m < 128 by omega)]
    exact o2 hbit
  refine ⟨d1, d2, d3, d4, fun k hk => ?_, fun c' hc' k hk => ?_, fun x y hx hy => ?_, ?_, d9, ?_, d11, d12, d13, d14, d15, d16, ?_, ?_, d19⟩
  · rw [en 0 k (by omega), en 1 k (by omega), en 2 k (by omega), en 3 k (by omega)]
    exact d5 k hk
  · by_cases z : c' = c ∧ k = a
    · obtain ⟨rfl, rfl⟩ := z
      exact ⟨m ||| 2 ^ b, or_lt m1 hb, ey, fun z => by have z : D.1.1 ≤ k := z; omega⟩
    · rw [en _ _ z]
      exact d6 c' hc' k hk
  · rw [en 6 _ (by omega), en 6 _ (by omega)]
    exact d7 x y hx hy
  · rw [en 7 0 (by omega)]
    exact d8
  · rw [en 7 3 (by omega)]
    exact d10
  · show (if c = 4 then D.2.2.2.1 + 1 else D.2.2.2.1) = suN _ D.1.1
    by_cases e : c = 4
    · subst e
      rw [if_pos rfl, d17, suN_one (f := fun k => pcI (wv D.1 4 k)) (g := fun k => pcI (wv (setW D 4 a b).1 4 k)) cnt1 ha (fun k hk hne => by rw [en 4 k (by omega)])]
    · rw [if_neg e, d17]
      exact suN_cg fun k hk => by rw [en 4 k (by omega)]
  · show (if c = 4 then D.2.2.2.2.1 else D.2.2.2.2.1 + 1) = suN _ D.1.1
    by_cases e : c = 4
    · rw [if_pos e, d18]
      exact suN_cg fun k hk => by rw [en 5 k (by omega)]
    · have e5 : c = 5 := by omega
      subst e5
      rw [if_neg e, d18, suN_one (f := fun k => pcI (wv D.1 5 k)) (g := fun k => pcI (wv (setW D 5 a b).1 5 k)) cnt1 ha (fun k hk hne => by rw [en 5 k (by omega)])]
theorem setJ_at {D : tx_D} {a b x c k : Nat} : wv (setJ D a b x).1 c k = if c = 6 ∧ (k = 7 * a + b ∨ k = 7 * b + a) then nI x else wv D.1 c k := rfl
theorem DI_setJ {D : tx_D} {a b x : Nat} (d : DI D) (ha : a < D.1.1) (hb : b < D.1.1) (hx : x ≤ 99) (h6 : D.2.2.2.2.2.1 < 6) : DI (setJ D a b x) := by
  obtain ⟨d1, d2, d3, d4, d5, d6, d7, d8, d9, d10, d11, d12, d13, d14, d15, d16, d17, d18, d19⟩ := d
  have en : ∀ c k, c ≠ 6 → wv (setJ D a b x).1 c k = wv D.1 c k := fun c k h => by rw [setJ_at, if_neg (by omega)]
  refine ⟨d1, d2, d3, d4, fun k hk => ?_, fun c' hc' k hk => ?_, fun y z hy hz => ?_, ?_, d9, ?_, d11, d12, d13, d14, d15, d16, ?_, ?_, by show D.2.2.2.2.2.1 + 1 ≤ 6; omega⟩
  · rw [en 0 k (by omega), en 1 k (by omega), en 2 k (by omega), en 3 k (by omega)]
    exact d5 k hk
  · rw [en c' k (by omega)]
    exact d6 c' hc' k hk
  · rw [setJ_at, setJ_at]
    by_cases e : (y = a ∧ z = b) ∨ (y = b ∧ z = a)
    · rw [if_pos ⟨rfl, by omega⟩, if_pos ⟨rfl, by omega⟩]
      exact ⟨rfl, x, hx, rfl, fun w => by have w : D.1.1 ≤ y ∨ D.1.1 ≤ z := w; omega⟩
    · rw [if_neg (by omega), if_neg (by omega)]
      exact d7 y z hy hz
  · rw [en 7 0 (by omega)]; exact d8
  · rw [en 7 3 (by omega)]; exact d10
  · show D.2.2.2.1 = suN _ D.1.1
    rw [d17]
    exact suN_cg fun k hk => by rw [en 4 k (by omega)]
  · show D.2.2.2.2.1 = suN _ D.1.1
    rw [d18]
    exact suN_cg fun k hk => by rw [en 5 k (by omega)]
theorem setF_at {D : tx_D} {i all c k : Nat} {L : List ob_S} : wv (setF D i L all).1 c k = if c = 7 ∧ k = 3 then nI all else wv D.1 c k := rfl
theorem DI_setF {D : tx_D} {i all : Nat} {L : List ob_S} (d : DI D) (hi : i < 2) (hL : WFf L) (h0 : 0 < L.length) (hall : all ≤ 60) : DI (setF D i L all) := by
  obtain ⟨d1, d2, d3, d4, d5, d6, d7, d8, d9, d10, d11, d12, d13, d14, d15, d16, d17, d18, d19⟩ := d
  have en : ∀ c k, ¬ (c = 7 ∧ k = 3) → wv (setF D i L all).1 c k = wv D.1 c k := fun c k h => by rw [setF_at, if_neg h]
  have ef : ∀ j, (setF D i L all).1.2.2 j = if j = i then L else D.1.2.2 j := fun _ => rfl
  have eg : ∀ j, (setF D i L all).2.2.1 j = if j = i then true else D.2.2.1 j := fun _ => rfl
  refine ⟨d1, d2, d3, d4, fun k hk => ?_, fun c' hc' k hk => ?_, fun y z hy hz => ?_, ?_, hall, ?_, ?_, ?_, ?_, ?_, ?_, ?_, ?_, ?_, d19⟩
  · rw [en 0 k (by omega), en 1 k (by omega), en 2 k (by omega), en 3 k (by omega)]
    exact d5 k hk
  · rw [en c' k (by omega)]
    exact d6 c' hc' k hk
  · rw [en 6 _ (by omega), en 6 _ (by omega)]
    exact d7 y z hy hz
  · rw [en 7 0 (by omega)]; exact d8
  · rw [setF_at, if_pos ⟨rfl, rfl⟩]; rfl
  · rw [ef]; split; exact hL; exact d11
  · rw [ef]; split; exact hL; exact d12
  · rw [ef]; split; exact h0; exact d13
  · rw [ef]; split; exact h0; exact d14
  · rw [ef, eg]
    by_cases e : 0 = i
    · rw [if_pos e]; intro z; exact absurd z (by decide)
    · rw [if_neg e, if_neg e]; exact d15
  · rw [ef, eg]
    by_cases e : 1 = i
    · rw [if_pos e]; intro z; exact absurd z (by decide)
    · rw [if_neg e, if_neg e]; exact d16
  · show D.2.2.2.1 = suN _ D.1.1
    rw [d17]
    exact suN_cg fun k hk => by rw [en 4 k (by omega)]
  · show D.2.2.2.2.1 = suN _ D.1.1
    rw [d18]
    exact suN_cg fun k hk => by rw [en 5 k (by omega)]
theorem setB_at {D : tx_D} {i x c k : Nat} : wv (setB D i x).1 c k = if c = 7 ∧ k = i - 1 then nI x else wv D.1 c k := rfl
theorem DI_setB {D : tx_D} {i x : Nat} (d : DI D) (hi : i = 2 ∨ i = 3) : DI (setB D i x) := by
  obtain ⟨d1, d2, d3, d4, d5, d6, d7, d8, d9, d10, d11, d12, d13, d14, d15, d16, d17, d18, d19⟩ := d
  have en : ∀ c k, ¬ (c = 7 ∧ k = i - 1) → wv (setB D i x).1 c k = wv D.1 c k := fun c k h => by rw [setB_at, if_neg h]
  have eg : ∀ j, (setB D i x).2.2.1 j = if j = i then true else D.2.2.1 j := fun _ => rfl
  refine ⟨d1, d2, d3, d4, fun k hk => ?_, fun c' hc' k hk => ?_, fun y z hy hz => ?_, ?_, d9, ?_, d11, d12, d13, d14, ?_, ?_, ?_, ?_, d19⟩
  · rw [en 0 k (by omega), en 1 k (by omega), en 2 k (by omega), en 3 k (by omega)]
    exact d5 k hk
  · rw [en c' k (by omega)]
    exact d6 c' hc' k hk
  · rw [en 6 _ (by omega), en 6 _ (by omega)]
    exact d7 y z hy hz
  · rw [en 7 0 (by omega)]; exact d8
  · rw [en 7 3 (by omega)]; exact d10
  · rw [eg, if_neg (by omega)]; exact d15
  · rw [eg, if_neg (by omega)]; exact d16
  · show D.2.2.2.1 = suN _ D.1.1
    rw [d17]
    exact suN_cg fun k hk => by rw [en 4 k (by omega)]
  · show D.2.2.2.2.1 = suN _ D.1.1
    rw [d18]
    exact suN_cg fun k hk => by rw [en 5 k (by omega)]
