-- ===== the pure state and what comes of it =====
/-- a step of a formula: (0, v) a number, (1, i) a fact, (2, _) not, (3, sign) -/
abbrev ob_S : Type := Int32 × Int32
/-- a wedding as told: how many; rows 0 grave 1 minutes 2 stays 3 price 4 settles 5 brings 6 joined (7 a + b) 7: 0 late 1 bar 2 draw 3 units; its two formulas -/
abbrev ob_W : Type := Nat × (Nat → Nat → Int32) × (Nat → List ob_S)
abbrev wv (w : ob_W) (c k : Nat) : Int32 := w.2.1 c k
/-- a room: 0..6 what each is, 7..13 when he came, 14..20 his number, 21 minute 22 spent 23 seed -/
abbrev ob_P : Type := Nat → Int32
def pu (r : ob_P) (k : Nat) (v : Int32) : ob_P := fun j => if j = k then v else r j
def hrd (r : ob_P) (o : Nat) : Bool := decide (r o = 1 ∨ r o = 2)
def isS (r : ob_P) (s : Int32) (o : Nat) : Bool := decide (r o = s)
def fct (w : ob_W) (r : ob_P) (o : Nat) (g : Int32) : Nat → Int32 := fun j => match j with
  | 0 => g
  | 1 => wv w 1 o
  | 2 => r 21 - r (7 + o)
  | 3 => r (14 + o)
  | 4 => nI (cnt (hrd r) w.1)
  | _ => r 21
def tru (b : Bool) : Int32 := if b then 1 else 0
def doS (s x y : Int32) : Int32 :=
  if s = 37 then (if y = 0 then 0 else irm x y) else
  if s = 38 then tru (decide (x ≠ 0) && decide (y ≠ 0)) else
  if s = 42 then x * y else
  if s = 43 then x + y else
  if s = 45 then x - y else
  if s = 47 then (if y = 0 then 0 else x / y) else
  if s = 60 then tru (decide (x < y)) else
  if s = 61 then tru (decide (x = y)) else
  if s = 62 then tru (decide (y < x)) else
  tru (decide (x ≠ 0) || decide (y ≠ 0))
def stS (f : Nat → Int32) (k : List Int32) (s : ob_S) : List Int32 :=
  if s.1 = 0 then s.2 :: k else
  if s.1 = 1 then f s.2.toNatClampNeg :: k else
  if s.1 = 2 then (match k with | x :: t => tru (decide (x = 0)) :: t | [] => []) else
  match k with | y :: x :: t => doS s.2 x y :: t | t => t
def evL (f : Nat → Int32) (L : List ob_S) (k : List Int32) : List Int32 := L.foldl (stS f) k
def evF (f : Nat → Int32) (L : List ob_S) : Int32 := (evL f L []).headD 0
/-- how high the stack is behind a formula; none: it can't be taken -/
def hgt : List ob_S → Nat → Option Nat
  | [], d => some d
  | s :: L, d =>
    if s.1 = 0 then (if d < 30 ∧ ¬ s.2 < 0 then hgt L (d + 1) else none) else
    if s.1 = 1 then (if d < 30 ∧ ¬ s.2 < 0 ∧ s.2.toNatClampNeg < 6 then hgt L (d + 1) else none) else
    if s.1 = 2 then (if 0 < d then hgt L d else none) else
    if s.1 = 3 then (if 1 < d ∧ (s.2 = 37 ∨ s.2 = 38 ∨ s.2 = 42 ∨ s.2 = 43 ∨ s.2 = 45 ∨ s.2 = 47 ∨ s.2 = 60 ∨ s.2 = 61 ∨ s.2 = 62 ∨ s.2 = 124) then hgt L (d - 1) else none) else none
def WFf (L : List ob_S) : Prop := hgt L 0 = some 1 ∧ L.length ≤ 300
def ordV (w : ob_W) (r : ob_P) (o : Nat) (g : Int32) : Int32 := evF (fct w r o g) (w.2.2 0)
def ansV (w : ob_W) (r : ob_P) (o : Nat) : Int32 := evF (fct w r o (wv w 0 o)) (w.2.2 1)
def rnk (w : ob_W) (r : ob_P) (o : Nat) : Int32 := ordV w r o (wv w 0 o)
def ahd (r : ob_P) (a : Nat) (ra : Int32) (b : Nat) (rb : Int32) : Bool := decide (rb < ra) || (decide (ra = rb) && decide (r (14 + a) < r (14 + b)))
/-- whose turn it is, of those below j for whom p holds -/
def best (w : ob_W) (r : ob_P) (p : Nat → Bool) : Nat → Option Nat
  | 0 => none
  | j + 1 => match best w r p j with
    | none => if p j then some j else none
    | some b => if p j && ahd r j (rnk w r j) b (rnk w r b) then some j else some b
def tI (o : Option Nat) : Int32 := match o with
  | none => -1
  | some o => nI o
def trn (w : ob_W) (r : ob_P) : Option Nat := best w r (isS r 0) w.1
def lvs (w : ob_W) (r : ob_P) (o : Nat) : Bool := isS r 0 o && decide (wv w 2 o < r 21 - r (7 + o))
/-- who waited too long leaves -/
def lev (w : ob_W) (r : ob_P) : ob_P := fun k => if k < w.1 ∧ lvs w r k = true then 4 else r k
def bitI (x : Int32) (o : Nat) : Bool := decide ((x >>> (nI o &&& 31)) &&& 1 = 1)
/-- one is heard, and is s then -/
def her1 (w : ob_W) (r : ob_P) (o : Nat) (s : Int32) : ob_P := pu (pu r 21 (r 21 + wv w 1 o)) o s
def her2 (w : ob_W) (r : ob_P) (o : Nat) : ob_P := fun k => if k < w.1 ∧ bitI (wv w 4 o) k = true ∧ r k = 0 then 3 else r k
def brg (w : ob_W) (r : ob_P) (o p : Nat) : Bool := bitI (wv w 5 o) p && isS r 6 p
def her3 (w : ob_W) (r : ob_P) (o : Nat) : ob_P := fun k => if k < w.1 ∧ brg w r o k = true then 0 else if 7 ≤ k ∧ k < 7 + w.1 ∧ brg w r o (k - 7) = true then r 21 else r k
def her (w : ob_W) (r : ob_P) (o : Nat) (s : Int32) : ob_P := lev w (her3 w (her2 w (her1 w r o s) o) o)
/-- all by turns: who, begun when; the room then -/
def gon (w : ob_W) : Nat → ob_P → List (Nat × Int32) × ob_P
  | 0, r => ([], r)
  | f + 1, r => match trn w r with
    | none => ([], r)
    | some o => ((o, r 21) :: (gon w f (her w r o 1)).1, (gon w f (her w r o 1)).2)
def gn (w : ob_W) (r : ob_P) : List (Nat × Int32) × ob_P := gon w 7 r
def dsk (w : ob_W) (r : ob_P) : Int32 := (gn w r).2 21
/-- how many may be heard yet -/
def lft (w : ob_W) (r : ob_P) : Nat := cnt (fun o => decide (r o = 0 ∨ r o = 6)) w.1
-- ===== what holds of a wedding, of a room =====
def WFW (w : ob_W) : Prop := w.1 ≤ 7 ∧ WFf (w.2.2 0) ∧ WFf (w.2.2 1) ∧
  (∀ o, o < w.1 → 0 ≤ wv w 0 o ∧ wv w 0 o ≤ 99 ∧ 1 ≤ wv w 1 o ∧ wv w 1 o ≤ 60 ∧ 0 ≤ wv w 2 o ∧ 0 ≤ wv w 3 o ∧ wv w 3 o ≤ 99 ∧ (∃ m, m < 2 ^ w.1 ∧ wv w 4 o = nI m) ∧ (∃ m, m < 2 ^ w.1 ∧ wv w 5 o = nI m)) ∧
  (∀ a b, a < w.1 → b < w.1 → wv w 6 (7 * a + b) = wv w 6 (7 * b + a)) ∧ (∃ m, m < 2 ^ w.1 ∧ wv w 7 0 = nI m)
def WFP (w : ob_W) (r : ob_P) (B : Nat) : Prop := (∀ o, o < w.1 → ∃ s, s < 7 ∧ r o = nI s) ∧ (∃ m, m ≤ B ∧ r 21 = nI m) ∧ ∀ o, o < w.1 → lvs w r o = false
-- ===== the reference's cells =====
def Air (h : ob_H) (r : ob_P) : Prop := ∀ k, k < 24 → h.1 136 k = r k
def Nw (h : ob_H) (r : ob_P) : Prop := ∀ k, k < 24 → h.1 135 k = r k
/-- formula f of the reference is L; where none is told, the value that its caller gives is L's -/
def RFm (h : ob_H) (f : Nat) (L : List ob_S) : Prop := (h.1 116 f = nI L.length ∧ 0 < L.length ∧ ∀ k, k < L.length → L[k]? = some (h.1 114 (320 * f + k), h.1 115 (320 * f + k))) ∨ (h.1 116 f = 0 ∧ L = if f = 0 then [(1, 0)] else [(0, 100)])
def RW (h : ob_H) (w : ob_W) : Prop := h.1 108 48 = nI w.1 ∧ (∀ c, c < 6 → ∀ k, k < w.1 → h.1 (128 + c) k = wv w c k) ∧ (∀ a b, a < w.1 → b < w.1 → h.1 134 (7 * a + b) = wv w 6 (7 * a + b)) ∧ h.1 108 49 = wv w 7 0 ∧ h.1 108 50 = wv w 7 1 ∧ h.1 108 23 = wv w 7 3 ∧ RFm h 0 (w.2.2 0) ∧ RFm h 1 (w.2.2 1)
/-- what the reference writes on the way -/
def SR (q k : Nat) : Prop := q = 118 ∨ q = 120 ∨ q = 136 ∨ q = 137 ∨ q = 138 ∨ (q = 108 ∧ k = 57) ∨ q = 141 ∨ q = 142 ∨ q = 148 ∨ q = 149
/-- .. of which not the air -/
def SE (q k : Nat) : Prop := q = 118 ∨ q = 120
theorem SE_SR (q k : Nat) (p : SE q k) : SR q k := by unfold SE at p; unfold SR; omega
theorem RW.fr {h h' : ob_H} {w : ob_W} (a : RW h w) (hw : w.1 ≤ 7) {P : Nat → Nat → Prop} (hf : Fr P h h') (hP : ∀ q k, P q k → ¬ (q = 108 ∧ (k = 48 ∨ k = 49 ∨ k = 50 ∨ k = 23)) ∧ ¬ (128 ≤ q ∧ q ≤ 134) ∧ ¬ (114 ≤ q ∧ q ≤ 116)) : RW h' w := by
  obtain ⟨a1, a2, a3, a4, a5, a6, a7, a8⟩ := a
  have e1 : ∀ k, (k = 48 ∨ k = 49 ∨ k = 50 ∨ k = 23) → h'.1 108 k = h.1 108 k := fun k hk => hf.i (fun p => (hP _ _ p).1 ⟨rfl, hk⟩)
  have e2 : ∀ q k, 128 ≤ q → q ≤ 134 → h'.1 q k = h.1 q k := fun q k q1 q2 => hf.i (fun p => (hP _ _ p).2.1 ⟨q1, q2⟩)
  have e3 : ∀ q k, 114 ≤ q → q ≤ 116 → h'.1 q k = h.1 q k := fun q k q1 q2 => hf.i (fun p => (hP _ _ p).2.2 ⟨q1, q2⟩)
  have eF : ∀ f L, RFm h f L → RFm h' f L := by
    intro f L b
    unfold RFm at b ⊢
    rw [e3 116 f (by omega) (by omega)]
    rcases b with ⟨b1, b2, b3⟩ | b
    · refine Or.inl ⟨b1, b2, fun k hk => ?_⟩
      rw [e3 114 _ (by omega) (by omega), e3 115 _ (by omega) (by omega)]
      exact b3 k hk
    · exact Or.inr b
  refine ⟨by rw [e1 48 (by omega)]; exact a1, fun c hc k hk => by rw [e2 _ _ (by omega) (by omega)]; exact a2 c hc k hk, fun x y hx hy => by rw [e2 _ _ (by omega) (by omega)]; exact a3 x y hx hy, by rw [e1 49 (by omega)]; exact a4, by rw [e1 50 (by omega)]; exact a5, by rw [e1 23 (by omega)]; exact a6, eF _ _ a7, eF _ _ a8⟩
theorem RW.sr {h h' : ob_H} {w : ob_W} (a : RW h w) (hw : w.1 ≤ 7) (hf : Fr SR h h') : RW h' w := a.fr hw hf (fun q k p => by unfold SR at p; omega)
theorem Air.se {h h' : ob_H} {r : ob_P} (a : Air h r) (hf : Fr SE h h') : Air h' r := fun k hk => by rw [hf.i (by unfold SE; omega)]; exact a k hk
theorem Nw.sr {h h' : ob_H} {r : ob_P} (a : Nw h r) (hf : Fr SR h h') : Nw h' r := fun k hk => by rw [hf.i (by unfold SR; omega)]; exact a k hk
