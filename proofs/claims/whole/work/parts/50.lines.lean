-- ===== lines: pure =====
abbrev tx_E : Type := Nat × Nat
/-- what is told so far: the wedding, names, what is told once (0 order 1 answer 2 bar 3 draw), how many settle, bring, are joined, units -/
abbrev tx_D : Type := ob_W × List (List Nat) × (Nat → Bool) × Nat × Nat × Nat × Nat
def bnd {α β : Type} (x : Sum tx_E α) (g : α → Sum tx_E β) : Sum tx_E β := match x with
  | .inl e => .inl e
  | .inr a => g a
def pTake (k : Nat) (S : tx_S) : Sum tx_E tx_S := if kdT S = k then .inr S.tail else badT S 2
def pNum (lo hi : Nat) (S : tx_S) : Sum tx_E (Nat × tx_S) := if kdT S = 3 then (if (hdT S).2.2.1 < lo ∨ hi < (hdT S).2.2.1 then badT S 4 else .inr ((hdT S).2.2.1, S.tail)) else badT S 2
def pOpt (k hi d : Nat) (S : tx_S) : Sum tx_E (Nat × tx_S) := if kdT S = k then pNum 0 hi S.tail else .inr (d, S)
def nmF : List (List Nat) → List Nat → Option Nat
  | [], _ => none
  | a :: t, l => if a = l then some 0 else (nmF t l).map (· + 1)
def wdT (S : tx_S) : List Nat := (hdT S).2.2.2.1
def fdN (D : tx_D) (S : tx_S) : Option Nat := if kdT S = 2 then nmF D.2.1 (wdT S) else none
def addO (D : tx_D) (l : List Nat) (g m s p : Nat) (late : Bool) : tx_D :=
  ((D.1.1 + 1, (fun c k => if c < 4 ∧ k = D.1.1 then nI (if c = 0 then g else if c = 1 then m else if c = 2 then s else p) else if c = 7 ∧ k = 0 ∧ late = true then wv D.1 7 0 ||| ((1 : Int32) <<< (nI D.1.1 &&& 31)) else wv D.1 c k), D.1.2.2), D.2.1 ++ [l], D.2.2)
def pObj (D : tx_D) (S : tx_S) : Sum tx_E (tx_D × tx_S) :=
  if 7 ≤ D.1.1 then badT S 2 else
  if kdT S.tail ≠ 2 then badT S.tail 2 else if (nmF D.2.1 (wdT S.tail)).isSome = true then badT S.tail 3 else
  bnd (pTake 100 S.tail.tail) fun S2 => bnd (pNum 0 99 S2) fun g => bnd (pTake 101 g.2) fun S3 => bnd (pNum 1 60 S3) fun m => bnd (pOpt 107 999 999 m.2) fun s => bnd (pOpt 108 99 0 s.2) fun p =>
  bnd (pTake 59 (if kdT p.2 = 109 then p.2.tail else p.2)) fun S6 => .inr (addO D (wdT S.tail) g.1 m.1 s.1 p.1 (decide (kdT p.2 = 109)), S6)
def pTwo (D : tx_D) (S : tx_S) : Sum tx_E (Nat × Nat × tx_S) :=
  if kdT S.tail ≠ 2 then badT S.tail 2 else match nmF D.2.1 (wdT S.tail) with
  | none => badT S.tail 5
  | some a => if kdT S.tail.tail ≠ 2 then badT S.tail.tail 2 else match nmF D.2.1 (wdT S.tail.tail) with
    | none => badT S.tail.tail 5
    | some b => if a = b then badT S.tail.tail 3 else .inr (a, b, S.tail.tail)
def setW (D : tx_D) (c a b : Nat) : tx_D :=
  ((D.1.1, (fun c' k => if c' = c ∧ k = a then wv D.1 c a ||| ((1 : Int32) <<< (nI b &&& 31)) else wv D.1 c' k), D.1.2.2), D.2.1, D.2.2.1, (if c = 4 then D.2.2.2.1 + 1 else D.2.2.2.1), (if c = 4 then D.2.2.2.2.1 else D.2.2.2.2.1 + 1), D.2.2.2.2.2)
def pWhom (c most : Nat) (D : tx_D) (S : tx_S) : Sum tx_E (tx_D × tx_S) :=
  if most ≤ (if c = 4 then D.2.2.2.1 else D.2.2.2.2.1) then badT S 2 else
  bnd (pTwo D S) fun x => if bitI (wv D.1 c x.1) x.2.1 = true then badT x.2.2 3 else bnd (pTake 59 x.2.2.tail) fun S3 => .inr (setW D c x.1 x.2.1, S3)
def setJ (D : tx_D) (a b x : Nat) : tx_D :=
  ((D.1.1, (fun c k => if c = 6 ∧ (k = 7 * a + b ∨ k = 7 * b + a) then nI x else wv D.1 c k), D.1.2.2), D.2.1, D.2.2.1, D.2.2.2.1, D.2.2.2.2.1, D.2.2.2.2.2.1 + 1, D.2.2.2.2.2.2)
def pJoin (D : tx_D) (S : tx_S) : Sum tx_E (tx_D × tx_S) :=
  if 6 ≤ D.2.2.2.2.2.1 then badT S 2 else
  bnd (pTwo D S) fun x => if wv D.1 6 (7 * x.1 + x.2.1) ≠ 0 then badT x.2.2 3 else bnd (pNum 1 99 x.2.2.tail) fun y => bnd (pTake 59 y.2) fun S3 => .inr (setJ D x.1 x.2.1 y.1, S3)
def setF (D : tx_D) (i : Nat) (L : List ob_S) (all : Nat) : tx_D :=
  ((D.1.1, (fun c k => if c = 7 ∧ k = 3 then nI all else wv D.1 c k), (fun j => if j = i then L else D.1.2.2 j)), D.2.1, (fun j => if j = i then true else D.2.2.1 j), D.2.2.2.1, D.2.2.2.2.1, D.2.2.2.2.2.1, all)
def pForm (i : Nat) (D : tx_D) (S : tx_S) : Sum tx_E (tx_D × tx_S) :=
  if D.2.2.1 i = true then badT S 2 else
  match pE 120 0 0 (S.tail, 0, D.2.2.2.2.2.2) with
  | .inl e => .inl e
  | .inr x => bnd (pTake 59 x.2.1) fun S3 => .inr (setF D i x.1 x.2.2.2, S3)
def setB (D : tx_D) (i x : Nat) : tx_D :=
  ((D.1.1, (fun c k => if c = 7 ∧ k = i - 1 then nI x else wv D.1 c k), D.1.2.2), D.2.1, (fun j => if j = i then true else D.2.2.1 j), D.2.2.2)
def pBar (i lo : Nat) (D : tx_D) (S : tx_S) : Sum tx_E (tx_D × tx_S) :=
  if D.2.2.1 i = true then badT S 2 else
  bnd (pNum lo 999 S.tail) fun y => bnd (pTake 59 y.2) fun S3 => .inr (setB D i y.1, S3)
def pLine (D : tx_D) (S : tx_S) : Sum tx_E (tx_D × tx_S) :=
  if kdT S = 106 then pObj D S else if kdT S = 110 then pWhom 4 12 D S else if kdT S = 111 then pWhom 5 6 D S else if kdT S = 112 then pJoin D S else
  if kdT S = 113 then pForm 0 D S else if kdT S = 114 then pForm 1 D S else if kdT S = 115 then pBar 2 1 D S else if kdT S = 116 then pBar 3 0 D S else badT S 2
def pRead : Nat → tx_D → tx_S → Sum tx_E tx_D
  | 0, D, _ => .inr D
  | n + 1, D, S => if kdT S = 0 then .inr D else match pLine D S with
    | .inl e => .inl e
    | .inr x => pRead n x.1 x.2
-- ===== what holds of what is told so far =====
def pcI (x : Int32) : Nat := ctb x.toNatClampNeg
def DI (D : tx_D) : Prop := D.1.1 ≤ 7 ∧ D.2.1.length = D.1.1 ∧ (∀ l, l ∈ D.2.1 → LtL l ∧ l.length ≤ 8) ∧ (∀ (i j : Nat) (l : List Nat), D.2.1[i]? = some l → D.2.1[j]? = some l → i = j) ∧
  (∀ k, k < D.1.1 → (∃ x, x ≤ 99 ∧ wv D.1 0 k = nI x) ∧ (∃ x, 1 ≤ x ∧ x ≤ 60 ∧ wv D.1 1 k = nI x) ∧ (∃ x, x ≤ 999 ∧ wv D.1 2 k = nI x) ∧ (∃ x, x ≤ 99 ∧ wv D.1 3 k = nI x)) ∧
  (∀ c, c = 4 ∨ c = 5 → ∀ k, k < 7 → ∃ m, m < 2 ^ D.1.1 ∧ wv D.1 c k = nI m ∧ (D.1.1 ≤ k → m = 0)) ∧
  (∀ a b, a < 7 → b < 7 → wv D.1 6 (7 * a + b) = wv D.1 6 (7 * b + a) ∧ (∃ x, x ≤ 99 ∧ wv D.1 6 (7 * a + b) = nI x ∧ (D.1.1 ≤ a ∨ D.1.1 ≤ b → x = 0))) ∧
  (∃ m, m < 2 ^ D.1.1 ∧ wv D.1 7 0 = nI m) ∧ D.2.2.2.2.2.2 ≤ 60 ∧ wv D.1 7 3 = nI D.2.2.2.2.2.2 ∧ WFf (D.1.2.2 0) ∧ WFf (D.1.2.2 1) ∧ 0 < (D.1.2.2 0).length ∧ 0 < (D.1.2.2 1).length ∧
  (D.2.2.1 0 = false → D.1.2.2 0 = [(1, 0)]) ∧ (D.2.2.1 1 = false → D.1.2.2 1 = [(0, 100)]) ∧
  D.2.2.2.1 = suN (fun k => pcI (wv D.1 4 k)) D.1.1 ∧ D.2.2.2.2.1 = suN (fun k => pcI (wv D.1 5 k)) D.1.1 ∧ D.2.2.2.2.2.1 ≤ 6
theorem nmF_some : ∀ {N : List (List Nat)} {l : List Nat} {i : Nat}, N[i]? = some l → (∀ j, j < i → N[j]? ≠ some l) → nmF N l = some i
  | [], l, i, h, _ => by simp at h
  | a :: t, l, i, h, h2 => by
    rw [nmF]
    cases i with
    | zero =>
      simp only [List.getElem?_cons_zero, Option.some.injEq] at h
      rw [if_pos h]
    | succ i =>
      have h0 := h2 0 (by omega)
      simp only [List.getElem?_cons_zero, ne_eq, Option.some.injEq] at h0
      rw [if_neg h0, nmF_some (N := t) (l := l) (i := i) (by simpa using h) (fun j hj => by have := h2 (j + 1) (by omega); simpa using this)]
      rfl
theorem nmF_lt : ∀ {N : List (List Nat)} {l : List Nat} {i : Nat}, nmF N l = some i → N[i]? = some l ∧ i < N.length
  | [], l, i, h => by simp [nmF] at h
  | a :: t, l, i, h => by
    rw [nmF] at h
    by_cases e : a = l
    · rw [if_pos e] at h
      cases h
      exact ⟨by simp [e], by simp⟩
    · rw [if_neg e] at h
      cases hn : nmF t l with
      | none => rw [hn] at h; cases h
      | some j =>
        rw [hn] at h
        simp only [Option.map_some, Option.some.injEq] at h
        obtain ⟨a1, a2⟩ := nmF_lt hn
        rw [← h]
        exact ⟨by simpa using a1, by simp; omega⟩
theorem nmF_none {N : List (List Nat)} {l : List Nat} (h : ∀ j, j < N.length → N[j]? ≠ some l) : nmF N l = none := by
  cases hn : nmF N l with
  | none => rfl
  | some i =>
    obtain ⟨a, b⟩ := nmF_lt hn
    exact absurd a (h i b)
-- ===== the class's draft =====
def CD (h : ob_H) (D : tx_D) : Prop := h.1 5 0 = nI D.1.1 ∧ (∀ c, c < 4 → ∀ k, k < D.1.1 → h.1 (6 + c) k = wv D.1 c k) ∧ (∀ c, c = 4 ∨ c = 5 → ∀ k, k < 7 → h.1 (6 + c) k = wv D.1 c k) ∧ (∀ a b, a < 7 → b < 7 → h.1 12 (7 * a + b) = wv D.1 6 (7 * a + b)) ∧
  h.1 5 8 = wv D.1 7 0 ∧ h.1 5 9 = wv D.1 7 1 ∧ h.1 5 10 = wv D.1 7 2 ∧ h.1 5 11 = nI D.2.2.2.2.2.2 ∧ CF h 13 (D.1.2.2 0) ∧ CF h 16 (D.1.2.2 1) ∧ (∀ k l, D.2.1[k]? = some l → h.2.1 19 k = Int64.ofNat (cd5 l)) ∧ h.1 4 5 = nI (mk D.2.2.1 4) ∧ h.1 4 6 = nI D.2.2.2.2.2.1
/-- .. its cells -/
def DX (q k : Nat) : Prop := (q = 5 ∧ (k = 0 ∨ (8 ≤ k ∧ k ≤ 11))) ∨ (6 ≤ q ∧ q ≤ 12) ∨ ((q = 13 ∨ q = 16) ∧ k = 1) ∨ q = 14 ∨ q = 17 ∨ q = 19 ∨ (q = 4 ∧ (k = 5 ∨ k = 6))
theorem CD.fr {h h' : ob_H} {D : tx_D} (a : CD h D) (e : ∀ q k, DX q k → h'.1 q k = h.1 q k) (e2 : ∀ k, h'.2.1 19 k = h.2.1 19 k) : CD h' D := by
  obtain ⟨a1, a2, a3, a4, a5, a6, a7, a8, a9, a10, a11, a12, a13⟩ := a
  refine ⟨by rw [e _ _ (by unfold DX; omega)]; exact a1, fun c hc k hk => by rw [e _ _ (by unfold DX; omega)]; exact a2 c hc k hk, fun c hc k hk => by rw [e _ _ (by unfold DX; omega)]; exact a3 c hc k hk, fun x y hx hy => by rw [e _ _ (by unfold DX; omega)]; exact a4 x y hx hy, by rw [e _ _ (by unfold DX; omega)]; exact a5, by rw [e _ _ (by unfold DX; omega)]; exact a6, by rw [e _ _ (by unfold DX; omega)]; exact a7, by rw [e _ _ (by unfold DX; omega)]; exact a8,
    a9.fr2 fun q k z => e q k (by unfold DX; omega), a10.fr2 fun q k z => e q k (by unfold DX; omega), fun k l hl => by rw [e2]; exact a11 k l hl, by rw [e _ _ (by unfold DX; omega)]; exact a12, by rw [e _ _ (by unfold DX; omega)]; exact a13⟩
def PCc (q k : Nat) : Prop := (q = 1 ∧ 2 ≤ k ∧ k ≤ 6) ∨ (q = 4 ∧ 1 ≤ k) ∨ (5 ≤ q ∧ q ≤ 19)
/-- nothing else has changed; who is read into may have -/
def Fp (P : Nat → Nat → Prop) (h h' : ob_H) : Prop := ∀ q k, ¬ P q k → h'.1 q k = h.1 q k ∧ h'.2.1 q k = h.2.1 q k
theorem Fp.rf {P : Nat → Nat → Prop} {h : ob_H} : Fp P h h := fun _ _ _ => ⟨rfl, rfl⟩
theorem Fp.tr {P : Nat → Nat → Prop} {h h1 h2 : ob_H} (a : Fp P h h1) (b : Fp P h1 h2) : Fp P h h2 := fun q k n => ⟨((b q k n).1).trans (a q k n).1, ((b q k n).2).trans (a q k n).2⟩
theorem Fr.fp {P P' : Nat → Nat → Prop} {h h1 : ob_H} (a : Fr P h h1) (hp : ∀ q k, P q k → P' q k) : Fp P' h h1 := fun q k n => a.1 q k (fun z => n (hp q k z))
/-- the reader stands at a token -/
def CL (h : ob_H) (T : tx_T) (S : tx_S) (D : tx_D) : Prop := CS h T S ∧ CD h D ∧ DI D
theorem TkC_P : ∀ q k, TkC q k → PCc q k := fun q k p => Or.inl p
theorem F4_P : ∀ q k, (q = 4 ∧ (k = 1 ∨ k = 2)) → PCc q k := fun q k p => by unfold PCc; omega
theorem CD.tk {h h' : ob_H} {D : tx_D} (a : CD h D) (f : Fr TkC h h') : CD h' D := a.fr (fun q k z => f.i (by unfold TkC; unfold DX at z; omega)) (fun k => f.l (by unfold TkC; omega))
def K4 (h h' : ob_H) : Prop := ∀ q k, 4 ≤ q → h'.1 q k = h.1 q k ∧ h'.2.1 q k = h.2.1 q k
def K47 (h h' : ob_H) : Prop := ∀ q k, 4 ≤ q → ¬ (q = 4 ∧ k = 7) → h'.1 q k = h.1 q k ∧ h'.2.1 q k = h.2.1 q k
/-- goes on to the next token -/
theorem cl_next {h : ob_H} {T : tx_T} {S : tx_S} {D : tx_D} {Q : ob_H → Prop} (c : CL h T S D) (hk : 1 < kdT S) (hq : ∀ h', Fp PCc h h' → K4 h h' → CL h' T S.tail D → Q h') : MX10_step h Q :=
  cs_next c.1 hk fun h' f' c' => hq h' (f'.fp TkC_P) (fun q k hq => ⟨f'.i (by unfold TkC; omega), f'.l (by unfold TkC; omega)⟩) ⟨c', c.2.1.tk f', c.2.2⟩
theorem cl_bad {h : ob_H} {T : tx_T} {S : tx_S} {α : Type} {Q : Int32 → ob_H → Prop} (c : CS h T S) (hq : ∀ e h', badT (α := α) S 2 = .inl e → Fp PCc h h' → RsC h' e → Q 0 h') : MX5_misplaced h Q :=
  cs_misplaced (α := α) c fun e h' he f' r' => hq e h' he (f'.fp F4_P) r'
theorem cl_refuse {h : ob_H} {T : tx_T} {S : tx_S} {c : Nat} {α : Type} {Q : Int32 → ob_H → Prop} (hc : CS h T S) (hk : kdT S ≠ 1) (hq : ∀ e h', badT (α := α) S c = .inl e → Fp PCc h h' → RsC h' e → Q 0 h') : MX5_refuse (nI c) h Q :=
  cs_refuse hc fun h' f' r' => hq (c, (hdT S).2.1) h' (by unfold badT; rw [if_neg hk]) (f'.fp F4_P) r'
theorem cl_take {h : ob_H} {T : tx_T} {S : tx_S} {D : tx_D} {k : Nat} {Q : Int32 → ob_H → Prop} (c : CL h T S D) (hk : 1 < k) (hk2 : k < 1000) (q0 : ∀ e h', pTake k S = .inl e → Fp PCc h h' → RsC h' e → Q 0 h') (q1 : ∀ S' h', pTake k S = .inr S' → Fp PCc h h' → K4 h h' → CL h' T S' D → Q 1 h') : MX5_take (nI k) h Q := by
  unfold MX5_take
  rw [c.1.is k hk2]
  unfold pTake at q0 q1
  refine br_c (fun cc => ?_) (fun cc => ?_)
  · rw [if_pos cc] at q1
    exact cl_next c (by omega) fun h' f' e' c' => q1 _ h' rfl f' e' c'
  · rw [if_neg cc] at q0
    exact cl_bad (α := tx_S) c.1 q0
theorem cl_amount {h : ob_H} {T : tx_T} {S : tx_S} {D : tx_D} {lo hi : Nat} {Q : Int32 → ob_H → Prop} (c : CL h T S D) (hlo : lo < 1000) (hhi : hi < 1000) (q0 : ∀ e h', pNum lo hi S = .inl e → Fp PCc h h' → RsC h' e → Q 0 h') (q1 : ∀ x h', pNum lo hi S = .inr x → lo ≤ x.1 ∧ x.1 ≤ hi → Fp PCc h h' → h'.1 4 7 = nI x.1 → CL h' T x.2 D → K47 h h' → Q 1 h') : MX5_readAmount (nI lo) (nI hi) h Q := by
  unfold MX5_readAmount
  rw [show (3 : Int32) = nI 3 from rfl, c.1.is 3 (by omega)]
  unfold pNum at q0 q1
  refine br_c (fun cc => ?_) (fun cc => ?_)
  · rw [if_pos cc] at q0 q1
    have en : h.1 1 4 = nI (hdT S).2.2.1 := c.1.2.2.2.2.2.1 cc
    have hn := c.1.2.2.1.hd.1 cc
    rw [en, nI_lt2 (by omega) (by omega), nI_le2 (by omega) (by omega)]
    have out : ((hdT S).2.2.1 < lo ∨ hi < (hdT S).2.2.1) → KX5_readAmount_38 h Q := by
      intro z
      rw [if_pos z] at q0
      unfold KX5_readAmount_38
      exact cl_refuse (c := 4) (α := Nat × tx_S) c.1 (by omega) q0
    refine br_c (fun c1 => out (Or.inl c1)) (fun c1 => br_c (fun c2 => Lt_i fun y z => ?_) (fun c2 => out (Or.inr (by omega))))
    rw [if_neg (by omega)] at q1
    have fy : Fr (fun q k => q = 4 ∧ k = 7) h y := by rw [z]; exact Fr.rf.st (by omega)
    have cy : CL y T S D := ⟨c.1.fr fy fun q k p => by omega, c.2.1.fr (fun q k z => fy.i (by unfold DX at z; omega)) (fun k => fy.l (by omega)), c.2.2⟩
    refine cl_next cy (by omega) fun h' f' e' c' => q1 _ h' rfl ⟨by simp only; omega, by simp only; omega⟩ ((fy.fp fun q k p => by unfold PCc; omega).tr f') ?_ c' fun q k hq hne => ⟨?_, ?_⟩
    · rw [(e' 4 7 (by omega)).1, z, h_i_1, if_pos ⟨rfl, rfl⟩]
    · rw [(e' q k hq).1, fy.i (by omega)]
    · rw [(e' q k hq).2, fy.l (by omega)]
  · rw [if_neg cc] at q0
    exact cl_bad (α := Nat × tx_S) c.1 q0
theorem cl_find {h : ob_H} {T : tx_T} {S : tx_S} {D : tx_D} {Q : Int32 → Prop} (c : CL h T S D) (hq : Q (tI (fdN D S))) : MX5_find h Q := by
  obtain ⟨c1, c2, c3⟩ := c
  obtain ⟨d1, d2, d3, d4, _⟩ := c3
  have hn := c2.1
  unfold MX5_find
  unfold fdN at hq
  by_cases hk : kdT S = 2
  · rw [if_pos hk] at hq
    have hw := c1.2.2.1.hd.2.1 hk
    have e5 : h.2.1 1 5 = Int64.ofNat (cd5 (wdT S)) := c1.2.2.2.2.2.2.1 hk
    refine lo1c1 D.1.1 (by omega) (fun j => ∀ i, i < j → D.2.1[i]? ≠ some (wdT S)) ?_ ?_ 0 (Nat.zero_le _) (fun i hi => absurd hi (Nat.not_lt_zero _))
    · intro k j hj hI hk1
      have hj' : j < D.2.1.length := by omega
      have hg := List.getElem?_eq_getElem hj'
      have hl := d3 _ (List.getElem_mem hj')
      unfold FX5_find_2
      rw [hn, show (2 : Int32) = nI 2 from rfl, c1.is 2 (by omega), show ix (nI j) = j from nI_clamp (by omega), c2.2.2.2.2.2.2.2.2.2.2.1 j _ hg, e5]
      refine br_f (nI_ge hj (by omega)) (br_t hk ⟨vp_in_nI (by omega) (by omega), br_c (fun cc => ?_) (fun cc => Lt_eq (nI_1 _) (hk1 fun i hi => ?_))⟩)
      · have e : D.2.1[j] = wdT S := (w5_eq hl.1 hw.1 hl.2 hw.2.1).mp (lgc.mp cc)
        rw [e] at hg
        rw [nmF_some hg hI] at hq
        exact hq
      · by_cases z : i = j
        · subst z
          rw [hg]
          intro z2
          simp only [Option.some.injEq] at z2
          exact cc (lgc.mpr ((w5_eq hl.1 hw.1 hl.2 hw.2.1).mpr z2))
        · exact hI i (by omega)
    · intro k hI
      unfold FX5_find_2
      rw [hn]
      rw [nmF_none (by rw [d2]; exact hI)] at hq
      exact br_t (nI_le (Nat.le_refl _) (by omega)) hq
  · rw [if_neg hk] at hq
    refine lo1c1 D.1.1 (by omega) (fun j => True) ?_ ?_ 0 (Nat.zero_le _) trivial
    · intro k j hj hI hk1
      unfold FX5_find_2
      rw [hn, show (2 : Int32) = nI 2 from rfl, c1.is 2 (by omega)]
      exact br_f (nI_ge hj (by omega)) (br_f hk (Lt_eq (nI_1 _) (hk1 trivial)))
    · intro k hI
      unfold FX5_find_2
      rw [hn]
      exact br_t (nI_le (Nat.le_refl _) (by omega)) hq
