-- ===== texts and their tokens: pure =====
/-- a text: its length, its bytes -/
abbrev tx_T : Type := Nat × (Nat → Nat)
def isBl (c : Nat) : Bool := decide (c = 32 ∨ c = 10)
def isLt (c : Nat) : Bool := decide (97 ≤ c ∧ c ≤ 122)
def isDg (c : Nat) : Bool := decide (48 ≤ c ∧ c ≤ 57)
def isSg (v : Nat) : Bool := decide (v = 37 ∨ v = 40 ∨ v = 41 ∨ v = 42 ∨ v = 43 ∨ v = 45 ∨ v = 47 ∨ v = 59 ∨ v = 60 ∨ v = 61 ∨ v = 62)
def rn (f : Nat → Bool) (T : tx_T) : Nat → Nat → Nat
  | 0, _ => 0
  | m + 1, p => if f (T.2 p) = true then rn f T m (p + 1) + 1 else 0
/-- how many from p on are such -/
def run (f : Nat → Bool) (T : tx_T) (p : Nat) : Nat := rn f T (T.1 - p) p
theorem run_eq {f : Nat → Bool} {T : tx_T} : ∀ {m p : Nat}, p + m ≤ T.1 → (∀ i, i < m → f (T.2 (p + i)) = true) → (p + m < T.1 → f (T.2 (p + m)) = false) → run f T p = m
  | 0, p, h1, h2, h3 => by
    unfold run
    rcases Nat.lt_or_ge p T.1 with h | h
    · obtain ⟨k, hk⟩ : ∃ k, T.1 - p = k + 1 := ⟨T.1 - p - 1, by omega⟩
      rw [hk, rn, if_neg]
      rw [show T.2 p = T.2 (p + 0) from rfl, h3 (by omega)]
      decide
    · rw [show T.1 - p = 0 by omega]; rfl
  | m + 1, p, h1, h2, h3 => by
    unfold run
    obtain ⟨k, hk⟩ : ∃ k, T.1 - p = k + 1 := ⟨T.1 - p - 1, by omega⟩
    rw [hk, rn, if_pos (show f (T.2 p) = true from h2 0 (by omega))]
    have := run_eq (f := f) (T := T) (m := m) (p := p + 1) (by omega) (fun i hi => by rw [Nat.add_assoc, Nat.add_comm 1 i]; exact h2 (i + 1) (by omega)) (fun h => by rw [Nat.add_assoc, Nat.add_comm 1 m]; exact h3 (by omega))
    unfold run at this
    rw [show k = T.1 - (p + 1) by omega, this]
theorem run_ok {f : Nat → Bool} {T : tx_T} : ∀ {d p : Nat}, T.1 - p = d → p ≤ T.1 → p + run f T p ≤ T.1 ∧ (∀ i, i < run f T p → f (T.2 (p + i)) = true) ∧ (p + run f T p < T.1 → f (T.2 (p + run f T p)) = false)
  | 0, p, hd, hp => by
    have : run f T p = 0 := by unfold run; rw [hd]; rfl
    rw [this]
    exact ⟨by omega, fun i hi => absurd hi (Nat.not_lt_zero _), fun h => by omega⟩
  | d + 1, p, hd, hp => by
    cases hf : f (T.2 p) with
    | false =>
      have : run f T p = 0 := by unfold run; rw [hd, rn, hf, if_neg (by decide)]
      rw [this]
      exact ⟨by omega, fun i hi => absurd hi (Nat.not_lt_zero _), fun h => hf⟩
    | true =>
      have : run f T p = run f T (p + 1) + 1 := by unfold run; rw [hd, rn, hf, if_pos rfl, show T.1 - (p + 1) = d by omega]
      obtain ⟨a, b, c⟩ := run_ok (f := f) (T := T) (d := d) (p := p + 1) (by omega) (by omega)
      rw [this]
      refine ⟨by omega, fun i hi => ?_, fun h => ?_⟩
      · cases i with
        | zero => exact hf
        | succ i => rw [show p + (i + 1) = p + 1 + i by omega]; exact b i (by omega)
      · rw [show p + (run f T (p + 1) + 1) = p + 1 + run f T (p + 1) by omega]
        exact c (by omega)
/-- the bytes from p on -/
def wrd (T : tx_T) (p m : Nat) : List Nat := (List.range m).map (fun i => T.2 (p + i))
theorem wrd_s {T : tx_T} {p m : Nat} : wrd T p (m + 1) = wrd T p m ++ [T.2 (p + m)] := by
  unfold wrd
  rw [List.range_succ, List.map_append]
  rfl
theorem wrd_len {T : tx_T} {p m : Nat} : (wrd T p m).length = m := by simp [wrd]
/-- the number that digits write -/
def vl (T : tx_T) (p : Nat) : Nat → Nat
  | 0 => 0
  | m + 1 => vl T p m * 10 + (T.2 (p + m) - 48)
def wix (l : List Nat) : Nat := if l ∈ wdsL then 100 + wdsL.idxOf l else 2
theorem wix_at : ∀ i, i < 20 → wix (wdsL.getD i []) = 100 + i := by decide +kernel
theorem wix_no {l : List Nat} (h : ∀ i, i < 20 → wdsL.getD i [] ≠ l) : wix l = 2 := by
  unfold wix
  rw [if_neg]
  intro hm
  obtain ⟨i, hi⟩ := List.getElem?_of_mem hm
  have hl := (List.getElem?_eq_some_iff.mp hi).1
  refine h i hl ?_
  rw [List.getD_eq_getElem?_getD, hi]
  rfl
/-- a token: its kind, place, number, letters, the place behind it. Kinds: 0 the end, 1 none, 2 a name, 3 a number, a sign as it is, 100 + i word i -/
abbrev tx_t : Type := Nat × Nat × Nat × List Nat × Nat
def tkq (T : tx_T) (q : Nat) : tx_t :=
  if T.1 ≤ q then (0, q, 0, [], q) else
  if isLt (T.2 q) = true then (if 8 < run isLt T q then 1 else wix (wrd T q (run isLt T q)), q, 0, wrd T q (run isLt T q), q + run isLt T q) else
  if isDg (T.2 q) = true then (if 4 < run isDg T q ∨ (q + run isDg T q < T.1 ∧ isLt (T.2 (q + run isDg T q)) = true) then 1 else 3, q, vl T q (run isDg T q), [], q + run isDg T q) else
  (if isSg (T.2 q) = true then T.2 q else 1, q, 0, [], q + 1)
def tk (T : tx_T) (p : Nat) : tx_t := tkq T (p + run isBl T p)
-- the class's words, five bits a letter
theorem cd5_s {l : List Nat} {c : Nat} : cd5 (l ++ [c]) = cd5 l * 32 + (c - 96) := by
  unfold cd5
  rw [List.foldl_append]
  rfl
def LtL (l : List Nat) : Prop := ∀ c, c ∈ l → 97 ≤ c ∧ c ≤ 122
theorem LtL_i {l : List Nat} {c : Nat} (h : LtL (l ++ [c])) : LtL l ∧ 97 ≤ c ∧ c ≤ 122 :=
  ⟨fun x hx => h x (by simp [hx]), h c (by simp)⟩
theorem snoc_ind {P : List Nat → Prop} (h0 : P []) (h1 : ∀ l c, P l → P (l ++ [c])) (l : List Nat) : P l := by
  have : ∀ l : List Nat, P l.reverse := by
    intro l
    induction l with
    | nil => exact h0
    | cons c l ih => rw [List.reverse_cons]; exact h1 _ _ ih
  have h := this l.reverse
  rwa [List.reverse_reverse] at h
theorem cd5_lt (l : List Nat) : LtL l → cd5 l < 32 ^ l.length := by
  refine snoc_ind (P := fun l => LtL l → cd5 l < 32 ^ l.length) (fun _ => by decide) (fun l c ih h => ?_) l
  obtain ⟨h1, h2⟩ := LtL_i h
  have := ih h1
  rw [cd5_s, List.length_append, List.length_singleton, Nat.pow_succ]
  omega
theorem cd5_inj (l : List Nat) : ∀ l', LtL l → LtL l' → cd5 l = cd5 l' → l = l' := by
  refine snoc_ind (P := fun l => ∀ l', LtL l → LtL l' → cd5 l = cd5 l' → l = l') (fun l' h h' e => ?_) (fun l c ih l' h h' e => ?_) l
  · revert h' e
    refine snoc_ind (P := fun l' => LtL l' → cd5 [] = cd5 l' → [] = l') (fun _ _ => rfl) (fun l c _ h e => ?_) l'
    obtain ⟨h1, h2⟩ := LtL_i h
    rw [cd5_s, show cd5 [] = 0 from rfl] at e
    omega
  · revert h' e
    refine snoc_ind (P := fun l' => LtL l' → cd5 (l ++ [c]) = cd5 l' → l ++ [c] = l') (fun _ e => ?_) (fun l2 c2 _ h2 e => ?_) l'
    · obtain ⟨h1, h3⟩ := LtL_i h
      rw [cd5_s, show cd5 [] = 0 from rfl] at e
      omega
    · obtain ⟨h1, h3⟩ := LtL_i h
      obtain ⟨h4, h5⟩ := LtL_i h2
      rw [cd5_s, cd5_s] at e
      have e1 : c = c2 := by omega
      have e2 : cd5 l = cd5 l2 := by omega
      rw [e1, ih l2 h1 h4 e2]
theorem n64_inj {a b : Nat} (ha : a < 2 ^ 64) (hb : b < 2 ^ 64) : Int64.ofNat a = Int64.ofNat b ↔ a = b := by
  constructor
  · intro e
    have e2 : ∀ n, (Int64.ofNat n).toBitVec.toNat = n % 2 ^ 64 := fun n => rfl
    have this : (Int64.ofNat a).toBitVec.toNat = (Int64.ofNat b).toBitVec.toNat := by rw [e]
    rw [e2, e2, Nat.mod_eq_of_lt ha, Nat.mod_eq_of_lt hb] at this
    exact this
  · rintro rfl; rfl
theorem p32_8 {n : Nat} (h : n ≤ 8) : 32 ^ n ≤ 2 ^ 40 := by
  have := Nat.pow_le_pow_right (show 0 < 32 by decide) h
  exact Nat.le_trans this (by decide)
theorem w5_eq {l l' : List Nat} (h : LtL l) (h' : LtL l') (h8 : l.length ≤ 8) (h8' : l'.length ≤ 8) : Int64.ofNat (cd5 l) = Int64.ofNat (cd5 l') ↔ l = l' := by
  have a1 := Nat.lt_of_lt_of_le (cd5_lt l h) (p32_8 h8)
  have a2 := Nat.lt_of_lt_of_le (cd5_lt l' h') (p32_8 h8')
  rw [n64_inj (by omega) (by omega)]
  exact ⟨cd5_inj l l' h h', fun e => by rw [e]⟩
theorem wds_ok : ∀ i, i < 20 → LtL (wdsL.getD i []) ∧ (wdsL.getD i []).length ≤ 8 := by
  unfold LtL
  decide +kernel
theorem lgc {x y : Int64} : lg_cmp x y = 0 ↔ x = y := by
  unfold lg_cmp
  by_cases h : x > y
  · rw [if_pos h]
    refine ⟨fun e => absurd e (by decide), fun e => ?_⟩
    rw [e] at h
    exact absurd h Int64.lt_irrefl
  · rw [if_neg h]
    by_cases e : x = y
    · rw [if_pos e]; exact ⟨fun _ => e, fun _ => rfl⟩
    · rw [if_neg e]; exact ⟨fun z => absurd z (by decide), fun z => absurd z e⟩
-- bytes with a sign
def sb (v : Nat) : Int32 := (nI v).toInt8.toInt32
theorem sb_ok : ∀ v, v < 256 → (v < 128 ∧ sb v = nI v) ∨ (128 ≤ v ∧ sb v < 0) := by decide +kernel
theorem sb_eq {v c : Nat} (hv : v < 256) (hc : c < 128) : sb v = nI c ↔ v = c := by
  rcases sb_ok v hv with ⟨h1, h2⟩ | ⟨h1, h2⟩
  · rw [h2]; exact nI_eq (by omega) (by omega)
  · constructor
    · intro e
      rw [e] at h2
      exact absurd h2 (nI_pos (by omega))
    · intro e; omega
theorem cs_isLetter {v : Nat} {h : ob_H} {Q : Int32 → Prop} (hv : v < 256) (hq : Q (tru (isLt v))) : MX10_isLetter (sb v) h Q := by
  have key : ∀ v, v < 256 → (sb v < 97 ∧ isLt v = false) ∨ (¬ sb v < 97 ∧ 122 < sb v ∧ isLt v = false) ∨ (¬ sb v < 97 ∧ ¬ 122 < sb v ∧ isLt v = true) := by decide +kernel
  unfold MX10_isLetter
  rcases key v hv with ⟨a, b⟩ | ⟨a, b, c⟩ | ⟨a, b, c⟩
  · rw [b] at hq; exact br_t a hq
  · rw [c] at hq; exact br_f a (br_t b hq)
  · rw [c] at hq; exact br_f a (br_f b hq)
theorem cs_isDigit {v : Nat} {h : ob_H} {Q : Int32 → Prop} (hv : v < 256) (hq : Q (tru (isDg v))) : MX10_isDigit (sb v) h Q := by
  have key : ∀ v, v < 256 → (sb v < 48 ∧ isDg v = false) ∨ (¬ sb v < 48 ∧ 57 < sb v ∧ isDg v = false) ∨ (¬ sb v < 48 ∧ ¬ 57 < sb v ∧ isDg v = true) := by decide +kernel
  unfold MX10_isDigit
  rcases key v hv with ⟨a, b⟩ | ⟨a, b, c⟩ | ⟨a, b, c⟩
  · rw [b] at hq; exact br_t a hq
  · rw [c] at hq; exact br_f a (br_t b hq)
  · rw [c] at hq; exact br_f a (br_f b hq)
theorem cs_isSign {v : Nat} {h : ob_H} {Q : Int32 → Prop} (hv : v < 256) (hq : Q (tru (isSg v))) : MX10_isSign (sb v) h Q := by
  have e : ∀ c, c < 128 → (sb v = nI c) = (v = c) := fun c hc => propext (sb_eq hv hc)
  have yes : isSg v = true → Q 1 := fun z => by rw [z] at hq; exact hq
  have no : isSg v = false → Q 0 := fun z => by rw [z] at hq; exact hq
  unfold MX10_isSign
  rw [show (37 : Int32) = nI 37 from rfl, show (40 : Int32) = nI 40 from rfl, show (41 : Int32) = nI 41 from rfl, show (42 : Int32) = nI 42 from rfl, show (43 : Int32) = nI 43 from rfl, show (45 : Int32) = nI 45 from rfl, show (47 : Int32) = nI 47 from rfl, show (59 : Int32) = nI 59 from rfl, show (60 : Int32) = nI 60 from rfl, show (61 : Int32) = nI 61 from rfl, show (62 : Int32) = nI 62 from rfl,
    e 37 (by omega), e 40 (by omega), e 41 (by omega), e 42 (by omega), e 43 (by omega), e 45 (by omega), e 47 (by omega), e 59 (by omega), e 60 (by omega), e 61 (by omega), e 62 (by omega)]
  unfold isSg at yes no
  refine br_c (fun c => yes (by simp [c])) (fun c1 => br_c (fun c => yes (by simp [c])) (fun c2 => br_c (fun c => yes (by simp [c])) (fun c3 => br_c (fun c => yes (by simp [c])) (fun c4 => br_c (fun c => yes (by simp [c])) (fun c5 => br_c (fun c => yes (by simp [c])) (fun c6 => br_c (fun c => yes (by simp [c])) (fun c7 => br_c (fun c => yes (by simp [c])) (fun c8 => br_c (fun c => yes (by simp [c])) (fun c9 => br_c (fun c => yes (by simp [c])) (fun c10 => br_c (fun c => yes (by simp [c])) (fun c11 => no ?_)))))))))))
  simp [c1, c2, c3, c4, c5, c6, c7, c8, c9, c10, c11]
-- ===== the class's tokens =====
/-- the text lies on the tape -/
def TT (h : ob_H) (T : tx_T) : Prop := T.1 ≤ 1600 ∧ h.1 1 1 = nI T.1 ∧ ∀ k, k < T.1 → T.2 k < 256 ∧ h.1 2 k = sb (T.2 k)
/-- the token that is read -/
def CT (h : ob_H) (t : tx_t) : Prop := h.1 1 2 = nI t.1 ∧ h.1 1 3 = nI t.2.1 ∧ (t.1 = 3 → h.1 1 4 = nI t.2.2.1) ∧ (t.1 = 2 → h.2.1 1 5 = Int64.ofNat (cd5 t.2.2.2.1)) ∧ (t.1 ≠ 1 → h.1 1 6 = nI t.2.2.2.2)
def TkC (q k : Nat) : Prop := q = 1 ∧ 2 ≤ k ∧ k ≤ 6
theorem Fr.sl {P : Nat → Nat → Prop} {h h1 : ob_H} {o k : Nat} {v : Int64} (a : Fr P h h1) (p : P o k) : Fr P h (h_l h1 o k v) := by
  refine ⟨fun q j n => ⟨(a.1 q j n).1, ?_⟩, a.2⟩
  rw [h_l_2, if_neg]
  · exact a.l n
  · rintro ⟨rfl, rfl⟩
    exact n p
theorem TT.fr {h h' : ob_H} {T : tx_T} (a : TT h T) (e : ∀ q k, (q = 1 ∧ k = 1) ∨ q = 2 → h'.1 q k = h.1 q k) : TT h' T :=
  ⟨a.1, by rw [e _ _ (by omega)]; exact a.2.1, fun k hk => by rw [e _ _ (by omega)]; exact a.2.2 k hk⟩
theorem letter64 {a : Nat} {v : Nat} (hv : v < 256) (hl : isLt v = true) : ((((Int64.ofNat a) * (32)) + (sb v).toInt64) - (97)) + 1 = Int64.ofNat (a * 32 + (v - 96)) := by
  have key : ∀ v, v < 256 → isLt v = true → (sb v).toInt64 = Int64.ofNat v ∧ 97 ≤ v := by decide +kernel
  obtain ⟨e, h97⟩ := key v hv hl
  rw [e, show v = (v - 96) + 96 by omega, Nat.add_sub_cancel, Int64.ofNat_add, Int64.ofNat_add, Int64.ofNat_mul]
  generalize Int64.ofNat a * Int64.ofNat 32 = x
  generalize Int64.ofNat (v - 96) = y
  show x + (y + 96) - 97 + 1 = x + y
  rw [← Int64.add_assoc, Int64.sub_eq_add_neg, Int64.add_assoc, Int64.add_assoc]
  have : (96 : Int64) + (-97 + 1) = 0 := by decide
  rw [this, Int64.add_zero]
theorem cs_words {h : ob_H} {l : List Nat} {Q : ob_H → Prop} (hwd : WdsR h) (hl : LtL l) (h8 : l.length ≤ 8) (h2 : h.1 1 2 = 2) (hq : ∀ h', Fr (fun q k => q = 1 ∧ k = 2) h h' → h'.1 1 2 = nI (wix l) → Q h') : lo2 (FX10_readWord_83 (Int64.ofNat (cd5 l)) Q) (0) h := by
  refine lo2c1 20 (by omega) (fun j h1 => Fr (fun q k => q = 1 ∧ k = 2) h h1 ∧ ((h1.1 1 2 = 2 ∧ ∀ i, i < j → wdsL.getD i [] ≠ l) ∨ (h1.1 1 2 = nI (wix l) ∧ wix l ≠ 2 ∧ wix l < 120))) ?_ ?_ 0 (Nat.zero_le _) _ ⟨Fr.rf, Or.inl ⟨h2, fun i hi => absurd hi (Nat.not_lt_zero _)⟩⟩
  · intro k j h1 hj hI hk
    obtain ⟨i1, i2⟩ := hI
    unfold FX10_readWord_83
    refine br_f (nI_ge (b := 20) hj (by decide)) ?_
    rcases i2 with ⟨i2, i3⟩ | ⟨i2, i3, i4⟩
    · rw [show ix (nI j) = j from nI_clamp (by omega), i1.l (by omega), hwd j hj]
      refine br_t i2 ⟨vp_in_nI (by omega) (by omega), br_c (fun c => Lt_i fun y z => Lt_eq (nI_1 _) (hk _ ⟨?_, Or.inr ?_⟩)) (fun c => Lt_eq (nI_1 _) (hk _ ⟨i1, Or.inl ⟨i2, fun i hi => ?_⟩⟩))⟩
      · rw [z]; exact i1.st ⟨rfl, rfl⟩
      · have e := (w5_eq (wds_ok j hj).1 hl (wds_ok j hj).2 h8).mp (lgc.mp c)
        have ew : wix l = 100 + j := by rw [← e]; exact wix_at j hj
        rw [ew]
        refine ⟨?_, by omega, by omega⟩
        rw [z, h_i_1, if_pos ⟨rfl, rfl⟩]
        exact nI_add 100 j
      · by_cases e : i = j
        · subst e
          intro z
          exact c (lgc.mpr ((w5_eq (wds_ok i hj).1 hl (wds_ok i hj).2 h8).mpr z))
        · exact i3 i (by omega)
    · refine br_f ?_ (hq h1 i1 i2)
      rw [i2]
      intro z
      exact i3 ((nI_eq (b := 2) (by omega) (by omega)).mp z)
  · intro k h1 hI
    obtain ⟨i1, i2⟩ := hI
    unfold FX10_readWord_83
    refine br_t (nI_le (a := 20) (Nat.le_refl _) (by decide)) (hq h1 i1 ?_)
    rcases i2 with ⟨i2, i3⟩ | ⟨i2, _⟩
    · rw [i2, wix_no i3]; rfl
    · exact i2
