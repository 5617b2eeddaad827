-- ===== the reference's tokens =====
def cd8 (l : List Nat) : Nat := l.foldl (fun a c => a * 256 + c) 0
theorem cd8_s {l : List Nat} {c : Nat} : cd8 (l ++ [c]) = cd8 l * 256 + c := by
  unfold cd8
  rw [List.foldl_append]
  rfl
theorem cd8_lt (l : List Nat) : LtL l → cd8 l < 256 ^ l.length := by
  refine snoc_ind (P := fun l => LtL l → cd8 l < 256 ^ l.length) (fun _ => by decide) (fun l c ih h => ?_) l
  obtain ⟨h1, h2⟩ := LtL_i h
  have := ih h1
  rw [cd8_s, List.length_append, List.length_singleton, Nat.pow_succ]
  omega
theorem cd8_inj (l : List Nat) : ∀ l', LtL l → LtL l' → cd8 l = cd8 l' → l = l' := by
  refine snoc_ind (P := fun l => ∀ l', LtL l → LtL l' → cd8 l = cd8 l' → l = l') (fun l' h h' e => ?_) (fun l c ih l' h h' e => ?_) l
  · revert h' e
    refine snoc_ind (P := fun l' => LtL l' → cd8 [] = cd8 l' → [] = l') (fun _ _ => rfl) (fun l c _ h e => ?_) l'
    obtain ⟨h1, h2⟩ := LtL_i h
    rw [cd8_s, show cd8 [] = 0 from rfl] at e
    omega
  · revert h' e
    refine snoc_ind (P := fun l' => LtL l' → cd8 (l ++ [c]) = cd8 l' → l ++ [c] = l') (fun _ e => ?_) (fun l2 c2 _ h2 e => ?_) l'
    · obtain ⟨h1, h3⟩ := LtL_i h
      rw [cd8_s, show cd8 [] = 0 from rfl] at e
      omega
    · obtain ⟨h1, h3⟩ := LtL_i h
      obtain ⟨h4, h5⟩ := LtL_i h2
      rw [cd8_s, cd8_s] at e
      have e1 : c = c2 := by omega
      have e2 : cd8 l = cd8 l2 := by omega
      rw [e1, ih l2 h1 h4 e2]
theorem p256_8 {n : Nat} (h : n ≤ 8) : 256 ^ n ≤ 2 ^ 64 := by
  have := Nat.pow_le_pow_right (show 0 < 256 by decide) h
  exact Nat.le_trans this (by decide)
theorem w8_eq {l l' : List Nat} (h : LtL l) (h' : LtL l') (h8 : l.length ≤ 8) (h8' : l'.length ≤ 8) : Int64.ofNat (cd8 l) = Int64.ofNat (cd8 l') ↔ l = l' := by
  have a1 := Nat.lt_of_lt_of_le (cd8_lt l h) (p256_8 h8)
  have a2 := Nat.lt_of_lt_of_le (cd8_lt l' h') (p256_8 h8')
  rw [n64_inj (by omega) (by omega)]
  exact ⟨cd8_inj l l' h h', fun e => by rw [e]⟩
theorem shl64 {a c : Nat} (hc : c < 256) : (Int64.ofNat a <<< (((8) : Int32).toInt64 &&& 63)) ||| (nI c).toInt64 = Int64.ofNat (a * 256 + c) := by
  have key : ∀ c, c < 256 → (nI c).toInt64 = Int64.ofNat c := by decide +kernel
  rw [key c hc, show ((8 : Int32).toInt64 &&& 63) = (8 : Int64) by decide]
  apply Int64.toBitVec_inj.mp
  apply BitVec.eq_of_toNat_eq
  have e2 : ∀ n, (Int64.ofNat n).toBitVec.toNat = n % 2 ^ 64 := fun n => rfl
  rw [Int64.toBitVec_or, BitVec.toNat_or, Int64.toBitVec_shiftLeft, show ((8 : Int64).toBitVec.smod 64) = 8#64 by decide, BitVec.shiftLeft_eq', BitVec.toNat_shiftLeft, e2, e2, e2, show (8#64).toNat = 8 from rfl, Nat.shiftLeft_eq]
  have h1 : (a % 2 ^ 64 * 2 ^ 8) % 2 ^ 64 = 2 ^ 8 * (a % 2 ^ 56) := by omega
  rw [h1, Nat.mod_eq_of_lt (show c < 2 ^ 64 by omega), ← Nat.two_pow_add_eq_or_of_lt (show c < 2 ^ 8 by omega)]
  omega
/-- the text lies in the reference -/
def RTx (h : ob_H) (T : tx_T) : Prop := T.1 ≤ 1600 ∧ h.1 108 5 = nI T.1 ∧ ∀ k, k < T.1 → T.2 k < 256 ∧ h.1 109 k = nI (T.2 k)
def srt (k : Nat) : Int32 := if k = 0 then 0 else if k = 1 then 3 else if k = 2 ∨ 100 ≤ k then 1 else if k = 3 then 2 else nI k
def RT (h : ob_H) (t : tx_t) : Prop := h.1 108 6 = srt t.1 ∧ h.1 108 7 = nI t.2.1 ∧ (t.1 = 3 → h.1 108 8 = nI t.2.2.1) ∧ (t.1 = 2 ∨ 100 ≤ t.1 → h.2.1 108 9 = Int64.ofNat (cd8 t.2.2.2.1)) ∧ (t.1 ≠ 1 → h.1 108 4 = nI t.2.2.2.2)
def TkR (q k : Nat) : Prop := q = 108 ∧ (k = 4 ∨ (6 ≤ k ∧ k ≤ 9))
theorem RTx.fr {h h' : ob_H} {T : tx_T} (a : RTx h T) (e : ∀ q k, (q = 108 ∧ k = 5) ∨ q = 109 → h'.1 q k = h.1 q k) : RTx h' T :=
  ⟨a.1, by rw [e _ _ (by omega)]; exact a.2.1, fun k hk => by rw [e _ _ (by omega)]; exact a.2.2 k hk⟩
/-- the byte there, or none -/
def hrB (T : tx_T) (i : Nat) : Int32 := if i < T.1 then nI (T.2 i) else -1
theorem rs_here {h : ob_H} {T : tx_T} {p j : Nat} {Q : Int32 → Prop} (hT : RTx h T) (hj : p + j ≤ 2000) (h4 : h.1 108 4 = nI p) (hq : Q (hrB T (p + j))) : MX12_here (nI j) h Q := by
  have hn := hT.1
  unfold MX12_here
  rw [hT.2.1, h4, nI_add, show ix (nI (p + j)) = p + j from nI_clamp (by omega)]
  unfold hrB at hq
  refine br_c (fun c => ?_) (fun c => ?_)
  · rw [if_neg (by have := (nI_leI (by omega) (by omega)).mp c; omega)] at hq
    exact hq
  · have hlt : p + j < T.1 := by
      apply Classical.byContradiction
      intro z
      exact c (nI_le (by omega) (by omega))
    rw [if_pos hlt] at hq
    rw [(hT.2.2 _ hlt).2]
    exact ⟨vp_in_nI (by omega) (by omega), hq⟩
theorem hrB_ok {T : tx_T} {h : ob_H} (hT : RTx h T) (i : Nat) : (i < T.1 ∧ T.2 i < 256 ∧ hrB T i = nI (T.2 i)) ∨ (T.1 ≤ i ∧ hrB T i = -1) := by
  unfold hrB
  by_cases c : i < T.1
  · rw [if_pos c]; exact Or.inl ⟨c, (hT.2.2 i c).1, rfl⟩
  · rw [if_neg c]; exact Or.inr ⟨by omega, rfl⟩
theorem rs_isLetter {h h1 : ob_H} {T : tx_T} {i : Nat} {Q : Int32 → Prop} (hT : RTx h T) (hq : Q (tru (decide (i < T.1) && isLt (T.2 i)))) : MX12_isLetter (hrB T i) h1 Q := by
  have key : ∀ v, v < 256 → (nI v < 97 ∧ isLt v = false) ∨ (¬ nI v < 97 ∧ 122 < nI v ∧ isLt v = false) ∨ (¬ nI v < 97 ∧ ¬ 122 < nI v ∧ isLt v = true) := by decide +kernel
  unfold MX12_isLetter
  rcases hrB_ok hT i with ⟨a1, a2, a3⟩ | ⟨a1, a2⟩
  · rw [a3]
    rw [decide_eq_true a1, Bool.true_and] at hq
    rcases key _ a2 with ⟨a, b⟩ | ⟨a, b, c⟩ | ⟨a, b, c⟩
    · rw [b] at hq; exact br_t a hq
    · rw [c] at hq; exact br_f a (br_t b hq)
    · rw [c] at hq; exact br_f a (br_f b hq)
  · rw [a2]
    rw [decide_eq_false (by omega), Bool.false_and] at hq
    exact br_t (by decide) hq
theorem rs_isDigit {h h1 : ob_H} {T : tx_T} {i : Nat} {Q : Int32 → Prop} (hT : RTx h T) (hq : Q (tru (decide (i < T.1) && isDg (T.2 i)))) : MX12_isDigit (hrB T i) h1 Q := by
  have key : ∀ v, v < 256 → (nI v < 48 ∧ isDg v = false) ∨ (¬ nI v < 48 ∧ 57 < nI v ∧ isDg v = false) ∨ (¬ nI v < 48 ∧ ¬ 57 < nI v ∧ isDg v = true) := by decide +kernel
  unfold MX12_isDigit
  rcases hrB_ok hT i with ⟨a1, a2, a3⟩ | ⟨a1, a2⟩
  · rw [a3]
    rw [decide_eq_true a1, Bool.true_and] at hq
    rcases key _ a2 with ⟨a, b⟩ | ⟨a, b, c⟩ | ⟨a, b, c⟩
    · rw [b] at hq; exact br_t a hq
    · rw [c] at hq; exact br_f a (br_t b hq)
    · rw [c] at hq; exact br_f a (br_f b hq)
  · rw [a2]
    rw [decide_eq_false (by omega), Bool.false_and] at hq
    exact br_t (by decide) hq
theorem rs_isSign {v : Nat} {h : ob_H} {Q : Int32 → Prop} (hv : v < 256) (hq : Q (tru (isSg v))) : MX12_isSign (nI v) h Q := by
  have e : ∀ c, c < 128 → (nI v = nI c) = (v = c) := fun c hc => propext (nI_eq (by omega) (by omega))
  have yes : isSg v = true → Q 1 := fun z => by rw [z] at hq; exact hq
  have no : isSg v = false → Q 0 := fun z => by rw [z] at hq; exact hq
  unfold MX12_isSign
  rw [show (37 : Int32) = nI 37 from rfl, show (40 : Int32) = nI 40 from rfl, show (41 : Int32) = nI 41 from rfl, show (42 : Int32) = nI 42 from rfl, show (43 : Int32) = nI 43 from rfl, show (45 : Int32) = nI 45 from rfl, show (47 : Int32) = nI 47 from rfl, show (59 : Int32) = nI 59 from rfl, show (60 : Int32) = nI 60 from rfl, show (61 : Int32) = nI 61 from rfl, show (62 : Int32) = nI 62 from rfl,
    e 37 (by omega), e 40 (by omega), e 41 (by omega), e 42 (by omega), e 43 (by omega), e 45 (by omega), e 47 (by omega), e 59 (by omega), e 60 (by omega), e 61 (by omega), e 62 (by omega)]
  unfold isSg at yes no
  refine br_c (fun c => yes (by simp [c])) (fun c1 => br_c (fun c => yes (by simp [c])) (fun c2 => br_c (fun c => yes (by simp [c])) (fun c3 => br_c (fun c => yes (by simp [c])) (fun c4 => br_c (fun c => yes (by simp [c])) (fun c5 => br_c (fun c => yes (by simp [c])) (fun c6 => br_c (fun c => yes (by simp [c])) (fun c7 => br_c (fun c => yes (by simp [c])) (fun c8 => br_c (fun c => yes (by simp [c])) (fun c9 => br_c (fun c => yes (by simp [c])) (fun c10 => br_c (fun c => yes (by simp [c])) (fun c11 => no ?_)))))))))))
  simp [c1, c2, c3, c4, c5, c6, c7, c8, c9, c10, c11]
theorem run_stop {T : tx_T} {q : Nat} {f : Nat → Bool} (hq : q ≤ T.1) : (decide (q + run f T q < T.1) && f (T.2 (q + run f T q))) = false := by
  by_cases h : q + run f T q < T.1
  · rw [run_out hq h, Bool.and_false]
  · rw [decide_eq_false h, Bool.false_and]
theorem run_go {T : tx_T} {q j : Nat} {f : Nat → Bool} (hq : q ≤ T.1) (h : j < run f T q) : (decide (q + j < T.1) && f (T.2 (q + j))) = true := by
  have := run_len (f := f) hq
  rw [run_in hq h, decide_eq_true (by omega)]
  rfl
set_option maxHeartbeats 1000000 in
theorem rs_token {h : ob_H} {T : tx_T} {p : Nat} {Q : ob_H → Prop} (hT : RTx h T) (hp : p ≤ T.1) (hat : h.1 108 4 = nI p) (hq : ∀ h', Fr TkR h h' → RT h' (tk T p) → Q h') : MX12_token h Q := by
  have hn := hT.1
  have hm := run_len (f := isBl) hp
  unfold MX12_token
  have rest : ∀ h1, Fr (fun q k => q = 108 ∧ k = 4) h h1 → h1.1 108 4 = nI (p + run isBl T p) → Lt (h_i h1 108 7 (h1.1 108 4)) fun h17 =>
      MX12_here (0) h17 fun r19 =>
      Lt (h_l h17 108 9 0) fun h23 =>
      Lt (h_i h23 108 8 (0)) fun h25 =>
      ((0 ≤ r19 → MX12_isLetter r19 h25 fun r30 =>
      ((r30 = 0 → MX12_isDigit r19 h25 fun r37 =>
      ((r37 = 0 → MX12_isSign r19 h25 fun r44 =>
      ((r44 = 0 → Lt (h_i h25 108 6 (3)) fun h51 =>
      KX12_token_232 (1) h51 Q) ∧
      (¬ r44 = 0 → Lt (h_i h25 108 6 r19) fun h58 =>
      KX12_token_232 (1) h58 Q))) ∧
      (¬ r37 = 0 → lo2 (FX12_token_144 Q) (0) h25))) ∧
      (¬ r30 = 0 → lo2 (FX12_token_78 Q) (0) h25))) ∧
      (¬ 0 ≤ r19 → Lt (h_i h25 108 6 (0)) fun h137 =>
      KX12_token_232 (0) h137 Q)) := by
    intro h1 f1 e4
    unfold tk at hq
    generalize p + run isBl T p = q at *
    have hT1 : RTx h1 T := hT.fr fun q k z => f1.i (by omega)
    rw [e4]
    refine Lt_i fun y0 z0 => ?_
    have y04 : y0.1 108 4 = nI q := by rw [z0, h_i_1, if_neg (by omega)]; exact e4
    have hT0 : RTx y0 T := hT1.fr fun q k z => by rw [z0, h_i_1, if_neg (by omega)]
    refine rs_here (j := 0) hT0 (by omega) y04 (Lt_i fun y1 z1 => Lt_i fun y z => ?_)
    rw [Nat.add_zero]
    have fy : Fr TkR h y := by
      rw [z, z1, z0]
      exact (((f1.mono fun q k p => by unfold TkR; omega).st (by unfold TkR; omega)).sl (by unfold TkR; omega)).st (by unfold TkR; omega)
    have hTy : RTx y T := hT.fr fun q k z => fy.i (by unfold TkR; omega)
    have y4 : y.1 108 4 = nI q := by rw [z, h_i_1, if_neg (by omega), z1, h_l_1]; exact y04
    have y7 : y.1 108 7 = nI q := by rw [z, h_i_1, if_neg (by omega), z1, h_l_1, z0, h_i_1, if_pos ⟨rfl, rfl⟩]
    have y8 : y.1 108 8 = 0 := by rw [z, h_i_1, if_pos ⟨rfl, rfl⟩]
    have y9 : y.2.1 108 9 = 0 := by rw [z, h_i_2, z1, h_l_2, if_pos ⟨rfl, rfl⟩]
    -- the end of a token
    have fin : ∀ (y' : ob_H) (t : tx_t) (m : Nat) (s : Int32), Fr TkR h y' → tkq T q = t → y'.1 108 4 = nI q → y'.1 108 7 = nI q → t.2.1 = q → s = srt t.1 → (t.1 ≠ 1 → t.2.2.2.2 = q + m ∧ s ≠ 3) → (t.1 = 1 → s = 3) → (t.1 = 3 → y'.1 108 8 = nI t.2.2.1) → (t.1 = 2 ∨ 100 ≤ t.1 → y'.2.1 108 9 = Int64.ofNat (cd8 t.2.2.2.1)) → Lt (h_i y' 108 6 s) fun h2 => KX12_token_232 (nI m) h2 Q := by
      intro y' t m s g1 g2 g3 g4 g5 g6 g7 g8 g9 g10
      rw [g2] at hq
      refine Lt_i fun x v => ?_
      have x6 : x.1 108 6 = s := by rw [v, h_i_1, if_pos ⟨rfl, rfl⟩]
      have x4 : x.1 108 4 = nI q := by rw [v, h_i_1, if_neg (by omega)]; exact g3
      have x7 : x.1 108 7 = nI t.2.1 := by rw [v, h_i_1, if_neg (by omega), g5]; exact g4
      have fx : Fr TkR h x := by rw [v]; exact g1.st (by unfold TkR; omega)
      have x8 : t.1 = 3 → x.1 108 8 = nI t.2.2.1 := fun e => by rw [v, h_i_1, if_neg (by omega)]; exact g9 e
      have x9 : t.1 = 2 ∨ 100 ≤ t.1 → x.2.1 108 9 = Int64.ofNat (cd8 t.2.2.2.1) := fun e => by rw [v]; exact g10 e
      unfold KX12_token_232
      rw [x6, x4]
      refine br_c (fun c => hq x fx ⟨x6.trans g6, x7, x8, x9, fun e => absurd c (g7 e).2⟩) (fun c => ?_)
      rw [nI_add]
      have ne : t.1 ≠ 1 := fun e => c (g8 e)
      refine Lt_i fun u w => hq u ?_ ⟨?_, ?_, fun e => ?_, fun e => ?_, fun _ => ?_⟩
      · rw [w]; exact fx.st (by unfold TkR; omega)
      · rw [w, h_i_1, if_neg (by omega)]; exact x6.trans g6
      · rw [w, h_i_1, if_neg (by omega)]; exact x7
      · rw [w, h_i_1, if_neg (by omega)]; exact x8 e
      · rw [w]; exact x9 e
      · rw [w, h_i_1, if_pos ⟨rfl, rfl⟩, (g7 ne).1]
    rcases hrB_ok hTy q with ⟨a1, a2, a3⟩ | ⟨a1, a2⟩
    · have ge : ¬ T.1 ≤ q := by omega
      rw [a3]
      refine br_t (nI_le (a := 0) (Nat.zero_le _) (by omega)) ?_
      rw [← a3]
      refine rs_isLetter hTy ?_
      rw [decide_eq_true a1, Bool.true_and]
      cases hl : isLt (T.2 q) with
      | true =>
        have et : tkq T q = (if 8 < run isLt T q then 1 else wix (wrd T q (run isLt T q)), q, 0, wrd T q (run isLt T q), q + run isLt T q) := by
          unfold tkq; rw [if_neg ge, if_pos hl]
        have hqn : q ≤ T.1 := by omega
        have hrl := run_len (f := isLt) hqn
        refine br_f (by decide) ?_
        refine lo2c1 (run isLt T q) (by omega) (fun j h2 => Fr (fun q k => q = 108 ∧ k = 9) y h2 ∧ h2.2.1 108 9 = Int64.ofNat (cd8 (wrd T q (min j 8)))) ?_ ?_ 0 (Nat.zero_le _) _ ⟨Fr.rf, y9⟩
        · intro k2 j h2 hj hI hk2
          obtain ⟨i1, i2⟩ := hI
          have hT2 : RTx h2 T := hTy.fr fun q k z => i1.i (by omega)
          have h24 : h2.1 108 4 = nI q := by rw [i1.i (by omega)]; exact y4
          unfold FX12_token_78
          refine rs_here hT2 (by omega) h24 (rs_isLetter hT2 ?_)
          rw [run_go hqn hj]
          refine br_f (by decide) (br_c (fun c => Lt_eq (nI_1 _) (hk2 _ ⟨i1, ?_⟩)) (fun c => rs_here hT2 (by omega) h24 (Lt_i fun x v => Lt_eq (nI_1 _) (hk2 _ ⟨?_, ?_⟩))))
          · have := (nI_leI (a := 8) (by omega) (by omega)).mp c
            rw [show min (j + 1) 8 = min j 8 by omega]
            exact i2
          · rw [v]; exact i1.sl ⟨rfl, rfl⟩
          · have hj8 : j < 8 := by
              apply Nat.lt_of_not_le
              intro z
              exact c (nI_le (a := 8) z (by omega))
            have hb := (hTy.2.2 (q + j) (by omega)).1
            rw [v, h_l_2, if_pos ⟨rfl, rfl⟩, i2, show min j 8 = j by omega, show min (j + 1) 8 = j + 1 by omega, wrd_s, cd8_s]
            unfold hrB
            rw [if_pos (by omega), shl64 hb]
        · intro k2 h2 hI
          obtain ⟨i1, i2⟩ := hI
          have hT2 : RTx h2 T := hTy.fr fun q k z => i1.i (by omega)
          have h24 : h2.1 108 4 = nI q := by rw [i1.i (by omega)]; exact y4
          have h27 : h2.1 108 7 = nI q := by rw [i1.i (by omega)]; exact y7
          have g2 : Fr TkR h h2 := fy.tr (i1.mono fun q k p => by unfold TkR; omega)
          unfold FX12_token_78
          refine rs_here hT2 (by omega) h24 (rs_isLetter hT2 ?_)
          rw [run_stop hqn]
          have wr := wix_rng (wrd T q (run isLt T q))
          refine br_t rfl (br_c (fun c => fin h2 _ _ 1 g2 et h24 h27 rfl ?_ ?_ ?_ ?_ ?_) (fun c => fin h2 _ _ 3 g2 et h24 h27 rfl ?_ ?_ ?_ ?_ ?_))
          all_goals simp only
          · have h8 : ¬ 8 < run isLt T q := by have := (nI_leI (b := 8) (by omega) (by omega)).mp c; omega
            rw [if_neg h8]
            unfold srt
            rw [if_neg (by omega), if_neg (by omega), if_pos (by omega)]
          · intro _; exact ⟨trivial, by decide⟩
          · have h8 : ¬ 8 < run isLt T q := by have := (nI_leI (b := 8) (by omega) (by omega)).mp c; omega
            rw [if_neg h8]
            intro z; omega
          · have h8 : ¬ 8 < run isLt T q := by have := (nI_leI (b := 8) (by omega) (by omega)).mp c; omega
            rw [if_neg h8]
            intro z; omega
          · have h8 : ¬ 8 < run isLt T q := by have := (nI_leI (b := 8) (by omega) (by omega)).mp c; omega
            intro _
            rw [i2, show min (run isLt T q) 8 = run isLt T q by omega]
          · have h8 : 8 < run isLt T q := by
              apply Nat.lt_of_not_le
              intro z
              exact c (nI_le (b := 8) z (by decide))
            rw [if_pos h8]; rfl
          · have h8 : 8 < run isLt T q := by
              apply Nat.lt_of_not_le
              intro z
              exact c (nI_le (b := 8) z (by decide))
            rw [if_pos h8]
            intro z; exact absurd rfl z
          · intro _; trivial
          · have h8 : 8 < run isLt T q := by
              apply Nat.lt_of_not_le
              intro z
              exact c (nI_le (b := 8) z (by decide))
            rw [if_pos h8]
            intro z; omega
          · have h8 : 8 < run isLt T q := by
              apply Nat.lt_of_not_le
              intro z
              exact c (nI_le (b := 8) z (by decide))
            rw [if_pos h8]
            intro z; omega
      | false =>
        refine br_t rfl (rs_isDigit hTy ?_)
        rw [decide_eq_true a1, Bool.true_and]
        have nl : ¬ isLt (T.2 q) = true := by rw [hl]; decide
        cases hd : isDg (T.2 q) with
        | true =>
          have hqn : q ≤ T.1 := by omega
          have hrl := run_len (f := isDg) hqn
          have et : tkq T q = (if 4 < run isDg T q ∨ (q + run isDg T q < T.1 ∧ isLt (T.2 (q + run isDg T q)) = true) then 1 else 3, q, vl T q (run isDg T q), [], q + run isDg T q) := by
            unfold tkq; rw [if_neg ge, if_neg nl, if_pos hd]
          refine br_f (by decide) ?_
          refine lo2c1 (run isDg T q) (by omega) (fun j h2 => Fr (fun q k => q = 108 ∧ k = 8) y h2 ∧ h2.1 108 8 = nI (vl T q (min j 4))) ?_ ?_ 0 (Nat.zero_le _) _ ⟨Fr.rf, y8⟩
          · intro k2 j h2 hj hI hk2
            obtain ⟨i1, i2⟩ := hI
            have hT2 : RTx h2 T := hTy.fr fun q k z => i1.i (by omega)
            have h24 : h2.1 108 4 = nI q := by rw [i1.i (by omega)]; exact y4
            unfold FX12_token_144
            refine rs_here hT2 (by omega) h24 (rs_isDigit hT2 ?_)
            rw [run_go hqn hj]
            refine br_f (by decide) (br_c (fun c => Lt_eq (nI_1 _) (hk2 _ ⟨i1, ?_⟩)) (fun c => rs_here hT2 (by omega) h24 (Lt_i fun x v => Lt_eq (nI_1 _) (hk2 _ ⟨?_, ?_⟩))))
            · have := (nI_leI (a := 4) (by omega) (by omega)).mp c
              rw [show min (j + 1) 4 = min j 4 by omega]
              exact i2
            · rw [v]; exact i1.st ⟨rfl, rfl⟩
            · have hj4 : j < 4 := by
                apply Nat.lt_of_not_le
                intro z
                exact c (nI_le (a := 4) z (by omega))
              have hdg := run_in (f := isDg) hqn hj
              have h48 : 48 ≤ T.2 (q + j) := by unfold isDg at hdg; exact (of_decide_eq_true hdg).1
              rw [v, h_i_1, if_pos ⟨rfl, rfl⟩, i2, show min j 4 = j by omega, show min (j + 1) 4 = j + 1 by omega]
              unfold hrB
              rw [if_pos (by omega), vl, show (10 : Int32) = nI 10 from rfl, nI_mul, nI_add, show (48 : Int32) = nI 48 from rfl, nI_sub (by omega)]
              congr 1
              omega
          · intro k2 h2 hI
            obtain ⟨i1, i2⟩ := hI
            have hT2 : RTx h2 T := hTy.fr fun q k z => i1.i (by omega)
            have h24 : h2.1 108 4 = nI q := by rw [i1.i (by omega)]; exact y4
            have h27 : h2.1 108 7 = nI q := by rw [i1.i (by omega)]; exact y7
            have g2 : Fr TkR h h2 := fy.tr (i1.mono fun q k p => by unfold TkR; omega)
            unfold FX12_token_144
            refine rs_here hT2 (by omega) h24 (rs_isDigit hT2 ?_)
            rw [run_stop hqn]
            have bad : (4 < run isDg T q ∨ (q + run isDg T q < T.1 ∧ isLt (T.2 (q + run isDg T q)) = true)) → Lt (h_i h2 108 6 (3)) fun h74 => KX12_token_232 (nI (run isDg T q)) h74 Q := by
              intro hb
              rw [if_pos hb] at et
              exact fin h2 _ _ 3 g2 et h24 h27 rfl rfl (fun z => absurd rfl z) (fun _ => rfl) (fun z => absurd (show (1 : Nat) = 3 from z) (by decide)) (fun z => absurd (show (1 : Nat) = 2 ∨ 100 ≤ 1 from z) (by decide))
            refine br_t rfl (br_c (fun c => bad (Or.inl ((nI_ltI (a := 4) (by omega) (by omega)).mp c))) (fun c => rs_here hT2 (by omega) h24 (rs_isLetter hT2 ?_)))
            have h4 : ¬ 4 < run isDg T q := fun z => c ((nI_ltI (a := 4) (by omega) (by omega)).mpr z)
            cases hz : (decide (q + run isDg T q < T.1) && isLt (T.2 (q + run isDg T q))) with
            | true =>
              rw [Bool.and_eq_true, decide_eq_true_eq] at hz
              exact br_f (by decide) (bad (Or.inr hz))
            | false =>
              have hb : ¬ (4 < run isDg T q ∨ (q + run isDg T q < T.1 ∧ isLt (T.2 (q + run isDg T q)) = true)) := by
                rintro (x | x)
                · exact h4 x
                · rw [decide_eq_true x.1, x.2] at hz; exact absurd hz (by decide)
              rw [if_neg hb] at et
              refine br_t rfl (fin h2 _ _ 2 g2 et h24 h27 rfl rfl (fun _ => ⟨rfl, by decide⟩) (fun z => absurd (show (3 : Nat) = 1 from z) (by decide)) (fun _ => ?_) (fun z => absurd (show (3 : Nat) = 2 ∨ 100 ≤ 3 from z) (by decide)))
              rw [i2, show min (run isDg T q) 4 = run isDg T q by omega]
        | false =>
          have nd : ¬ isDg (T.2 q) = true := by rw [hd]; decide
          have et : tkq T q = (if isSg (T.2 q) = true then T.2 q else 1, q, 0, [], q + 1) := by
            unfold tkq; rw [if_neg ge, if_neg nl, if_neg nd]
          rw [a3]
          refine br_t rfl (rs_isSign a2 ?_)
          have key : ∀ v, v < 256 → isSg v = true → 37 ≤ v ∧ v < 100 := by decide +kernel
          cases hs : isSg (T.2 q) with
          | true =>
            obtain ⟨k1, k2⟩ := key _ a2 hs
            rw [hs, if_pos rfl] at et
            refine br_f (by decide) (fin y _ 1 _ fy et y4 y7 rfl ?_ ?_ ?_ ?_ ?_)
            all_goals simp only
            · unfold srt
              rw [if_neg (by omega), if_neg (by omega), if_neg (by omega), if_neg (by omega)]
            · intro _
              refine ⟨trivial, fun z => ?_⟩
              have := (nI_eq (a := T.2 q) (b := 3) (by omega) (by omega)).mp z
              omega
            · intro z; omega
            · intro z; omega
            · intro z; omega
          | false =>
            rw [hs, if_neg (by decide)] at et
            exact br_t rfl (fin y _ 1 3 fy et y4 y7 rfl rfl (fun z => absurd rfl z) (fun _ => rfl) (fun z => absurd (show (1 : Nat) = 3 from z) (by decide)) (fun z => absurd (show (1 : Nat) = 2 ∨ 100 ≤ 1 from z) (by decide)))
    · have et : tkq T q = (0, q, 0, [], q) := by unfold tkq; rw [if_pos a1]
      rw [a2]
      exact br_f (by decide) (fin y _ 0 0 fy et y4 y7 rfl rfl (fun _ => ⟨rfl, by decide⟩) (fun z => absurd (show (0 : Nat) = 1 from z) (by decide)) (fun z => absurd (show (0 : Nat) = 3 from z) (by decide)) (fun z => absurd (show (0 : Nat) = 2 ∨ 100 ≤ 0 from z) (by decide)))
  refine lo1_i (fun h1 => ∃ j, j ≤ run isBl T p ∧ Fr (fun q k => q = 108 ∧ k = 4) h h1 ∧ h1.1 108 4 = nI (p + j)) (fun h1 => p + run isBl T p - (h1.1 108 4).toNatClampNeg) ?_ ⟨0, Nat.zero_le _, Fr.rf, hat⟩
  intro k h1 hI hk
  obtain ⟨j, hj, f1, e4⟩ := hI
  have hT1 : RTx h1 T := hT.fr fun q k z => f1.i (by omega)
  have nxt : isBl (T.2 (p + j)) = true → p + j < T.1 → Lt (h_i h1 108 4 ((h1.1 108 4) + (1))) fun h8 => k h8 := by
    intro hb hlt
    have hj' : j < run isBl T p := by
      apply Classical.byContradiction
      intro z
      have e : j = run isBl T p := by omega
      have := run_out (f := isBl) hp (by rw [← e]; exact hlt)
      rw [← e, hb] at this
      exact absurd this (by decide)
    rw [e4, nI_1]
    refine Lt_i fun y z => hk y ⟨j + 1, hj', ?_, ?_⟩ ?_
    · rw [z]; exact f1.st ⟨rfl, rfl⟩
    · rw [z, h_i_1, if_pos ⟨rfl, rfl⟩]; rfl
    · rw [z, h_i_1, if_pos ⟨rfl, rfl⟩, e4, nI_clamp (by omega), nI_clamp (by omega)]
      omega
  unfold FX12_token_0
  have stop : (p + j < T.1 → isBl (T.2 (p + j)) = false) → j = run isBl T p := by
    intro hb
    apply Classical.byContradiction
    intro z
    have hj' : j < run isBl T p := by omega
    have := run_in (f := isBl) hp hj'
    rw [hb (by omega)] at this
    exact absurd this (by decide)
  refine rs_here (p := p + j) (j := 0) hT1 (by omega) e4 (br_c (fun c => ?_) (fun c => rs_here (p := p + j) (j := 0) hT1 (by omega) e4 (br_c (fun c2 => ?_) (fun c2 => ?_))))
  all_goals rw [Nat.add_zero] at c
  · rcases hrB_ok hT1 (p + j) with ⟨a1, a2, a3⟩ | ⟨a1, a2⟩
    · rw [a3] at c
      refine nxt ?_ a1
      unfold isBl
      rw [(nI_eq (b := 32) (by omega) (by omega)).mp c]; rfl
    · rw [a2] at c; exact absurd c (by decide)
  · rw [Nat.add_zero] at c2
    rcases hrB_ok hT1 (p + j) with ⟨a1, a2, a3⟩ | ⟨a1, a2⟩
    · rw [a3] at c2
      refine nxt ?_ a1
      unfold isBl
      rw [(nI_eq (b := 10) (by omega) (by omega)).mp c2]; rfl
    · rw [a2] at c2; exact absurd c2 (by decide)
  · rw [Nat.add_zero] at c2
    refine rest h1 f1 ?_
    rw [e4, stop fun hlt => ?_]
    unfold isBl
    refine decide_eq_false ?_
    unfold hrB at c c2
    rw [if_pos hlt] at c c2
    rintro (z | z)
    · exact c (by rw [z]; rfl)
    · exact c2 (by rw [z]; rfl)
