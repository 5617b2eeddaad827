
-- ===== words of the models =====
def Lt {α : Type} (v : α) (f : α → Prop) : Prop := f v
theorem Lt_at {α : Type} {v : α} {f : α → Prop} (h : Lt v f) : ∀ x, x = v → f x := fun x e => by subst e; exact h
theorem Lt_i {α : Type} {v : α} {f : α → Prop} (h : ∀ x, x = v → f x) : Lt v f := h v rfl
abbrev ix (i : Int32) : Nat := i.toNatClampNeg
abbrev irm (x y : Int32) : Int32 := x - x / y * y
abbrev ush (x y : Int32) : Int32 := (x.toUInt32 >>> (y.toUInt32 &&& Int32.toUInt32 31)).toInt32
abbrev imx (x y : Int32) : Int32 := if x < y then y else x
abbrev imn (x y : Int32) : Int32 := if y < x then y else x
def isB (v : Int32) : Prop := narrow .boolean (.int v) = .int v
def it0 (F : (Prop) → Prop) : Nat → Prop
  | 0 => False
  | n + 1 => F (it0 F n)
def lo0 (F : (Prop) → Prop)  : Prop := ∃ n, it0 F n 
def it1 {A : Type} (F : (A → Prop) → A → Prop) : Nat → A → Prop
  | 0 => fun _ => False
  | n + 1 => F (it1 F n)
def lo1 {A : Type} (F : (A → Prop) → A → Prop) (a1 : A) : Prop := ∃ n, it1 F n a1
theorem lo1_i {A : Type} {F : (A → Prop) → A → Prop} (I : A → Prop) (μ : A → Nat) (hs : ∀ (k : A → Prop) (a1 : A), I a1 → (∀ a2, I a2 → μ a2 < μ a1 → k a2) → F k a1) {a1 : A} (h0 : I a1) : lo1 F a1 := by
  have key : ∀ m a2, μ a2 < m → I a2 → it1 F m a2 := by
    intro m
    induction m with
    | zero => intro a2 h; exact absurd h (Nat.not_lt_zero _)
    | succ m ih =>
      intro a2 h hI
      exact hs _ a2 hI (fun a3 hI2 hlt => ih a3 (Nat.lt_of_lt_of_le hlt (Nat.le_of_lt_succ h)) hI2)
  exact ⟨_, key _ a1 (Nat.lt_succ_self _) h0⟩
def it2 {A B : Type} (F : (A → B → Prop) → A → B → Prop) : Nat → A → B → Prop
  | 0 => fun _ _ => False
  | n + 1 => F (it2 F n)
def lo2 {A B : Type} (F : (A → B → Prop) → A → B → Prop) (a1 : A) (b1 : B) : Prop := ∃ n, it2 F n a1 b1
theorem lo2_i {A B : Type} {F : (A → B → Prop) → A → B → Prop} (I : A → B → Prop) (μ : A → B → Nat) (hs : ∀ (k : A → B → Prop) (a1 : A) (b1 : B), I a1 b1 → (∀ a2 b2, I a2 b2 → μ a2 b2 < μ a1 b1 → k a2 b2) → F k a1 b1) {a1 : A} {b1 : B} (h0 : I a1 b1) : lo2 F a1 b1 := by
  have key : ∀ m a2 b2, μ a2 b2 < m → I a2 b2 → it2 F m a2 b2 := by
    intro m
    induction m with
    | zero => intro a2 b2 h; exact absurd h (Nat.not_lt_zero _)
    | succ m ih =>
      intro a2 b2 h hI
      exact hs _ a2 b2 hI (fun a3 b3 hI2 hlt => ih a3 b3 (Nat.lt_of_lt_of_le hlt (Nat.le_of_lt_succ h)) hI2)
  exact ⟨_, key _ a1 b1 (Nat.lt_succ_self _) h0⟩
def it3 {A B C : Type} (F : (A → B → C → Prop) → A → B → C → Prop) : Nat → A → B → C → Prop
  | 0 => fun _ _ _ => False
  | n + 1 => F (it3 F n)
def lo3 {A B C : Type} (F : (A → B → C → Prop) → A → B → C → Prop) (a1 : A) (b1 : B) (c1 : C) : Prop := ∃ n, it3 F n a1 b1 c1
theorem lo3_i {A B C : Type} {F : (A → B → C → Prop) → A → B → C → Prop} (I : A → B → C → Prop) (μ : A → B → C → Nat) (hs : ∀ (k : A → B → C → Prop) (a1 : A) (b1 : B) (c1 : C), I a1 b1 c1 → (∀ a2 b2 c2, I a2 b2 c2 → μ a2 b2 c2 < μ a1 b1 c1 → k a2 b2 c2) → F k a1 b1 c1) {a1 : A} {b1 : B} {c1 : C} (h0 : I a1 b1 c1) : lo3 F a1 b1 c1 := by
  have key : ∀ m a2 b2 c2, μ a2 b2 c2 < m → I a2 b2 c2 → it3 F m a2 b2 c2 := by
    intro m
    induction m with
    | zero => intro a2 b2 c2 h; exact absurd h (Nat.not_lt_zero _)
    | succ m ih =>
      intro a2 b2 c2 h hI
      exact hs _ a2 b2 c2 hI (fun a3 b3 c3 hI2 hlt => ih a3 b3 c3 (Nat.lt_of_lt_of_le hlt (Nat.le_of_lt_succ h)) hI2)
  exact ⟨_, key _ a1 b1 c1 (Nat.lt_succ_self _) h0⟩
def it4 {A B C D : Type} (F : (A → B → C → D → Prop) → A → B → C → D → Prop) : Nat → A → B → C → D → Prop
  | 0 => fun _ _ _ _ => False
  | n + 1 => F (it4 F n)
def lo4 {A B C D : Type} (F : (A → B → C → D → Prop) → A → B → C → D → Prop) (a1 : A) (b1 : B) (c1 : C) (d1 : D) : Prop := ∃ n, it4 F n a1 b1 c1 d1
theorem lo4_i {A B C D : Type} {F : (A → B → C → D → Prop) → A → B → C → D → Prop} (I : A → B → C → D → Prop) (μ : A → B → C → D → Nat) (hs : ∀ (k : A → B → C → D → Prop) (a1 : A) (b1 : B) (c1 : C) (d1 : D), I a1 b1 c1 d1 → (∀ a2 b2 c2 d2, I a2 b2 c2 d2 → μ a2 b2 c2 d2 < μ a1 b1 c1 d1 → k a2 b2 c2 d2) → F k a1 b1 c1 d1) {a1 : A} {b1 : B} {c1 : C} {d1 : D} (h0 : I a1 b1 c1 d1) : lo4 F a1 b1 c1 d1 := by
  have key : ∀ m a2 b2 c2 d2, μ a2 b2 c2 d2 < m → I a2 b2 c2 d2 → it4 F m a2 b2 c2 d2 := by
    intro m
    induction m with
    | zero => intro a2 b2 c2 d2 h; exact absurd h (Nat.not_lt_zero _)
    | succ m ih =>
      intro a2 b2 c2 d2 h hI
      exact hs _ a2 b2 c2 d2 hI (fun a3 b3 c3 d3 hI2 hlt => ih a3 b3 c3 d3 (Nat.lt_of_lt_of_le hlt (Nat.le_of_lt_succ h)) hI2)
  exact ⟨_, key _ a1 b1 c1 d1 (Nat.lt_succ_self _) h0⟩
def it5 {A B C D E : Type} (F : (A → B → C → D → E → Prop) → A → B → C → D → E → Prop) : Nat → A → B → C → D → E → Prop
  | 0 => fun _ _ _ _ _ => False
  | n + 1 => F (it5 F n)
def lo5 {A B C D E : Type} (F : (A → B → C → D → E → Prop) → A → B → C → D → E → Prop) (a1 : A) (b1 : B) (c1 : C) (d1 : D) (e1 : E) : Prop := ∃ n, it5 F n a1 b1 c1 d1 e1
theorem lo5_i {A B C D E : Type} {F : (A → B → C → D → E → Prop) → A → B → C → D → E → Prop} (I : A → B → C → D → E → Prop) (μ : A → B → C → D → E → Nat) (hs : ∀ (k : A → B → C → D → E → Prop) (a1 : A) (b1 : B) (c1 : C) (d1 : D) (e1 : E), I a1 b1 c1 d1 e1 → (∀ a2 b2 c2 d2 e2, I a2 b2 c2 d2 e2 → μ a2 b2 c2 d2 e2 < μ a1 b1 c1 d1 e1 → k a2 b2 c2 d2 e2) → F k a1 b1 c1 d1 e1) {a1 : A} {b1 : B} {c1 : C} {d1 : D} {e1 : E} (h0 : I a1 b1 c1 d1 e1) : lo5 F a1 b1 c1 d1 e1 := by
  have key : ∀ m a2 b2 c2 d2 e2, μ a2 b2 c2 d2 e2 < m → I a2 b2 c2 d2 e2 → it5 F m a2 b2 c2 d2 e2 := by
    intro m
    induction m with
    | zero => intro a2 b2 c2 d2 e2 h; exact absurd h (Nat.not_lt_zero _)
    | succ m ih =>
      intro a2 b2 c2 d2 e2 h hI
      exact hs _ a2 b2 c2 d2 e2 hI (fun a3 b3 c3 d3 e3 hI2 hlt => ih a3 b3 c3 d3 e3 (Nat.lt_of_lt_of_le hlt (Nat.le_of_lt_succ h)) hI2)
  exact ⟨_, key _ a1 b1 c1 d1 e1 (Nat.lt_succ_self _) h0⟩
def it6 {A B C D E G : Type} (F : (A → B → C → D → E → G → Prop) → A → B → C → D → E → G → Prop) : Nat → A → B → C → D → E → G → Prop
  | 0 => fun _ _ _ _ _ _ => False
  | n + 1 => F (it6 F n)
def lo6 {A B C D E G : Type} (F : (A → B → C → D → E → G → Prop) → A → B → C → D → E → G → Prop) (a1 : A) (b1 : B) (c1 : C) (d1 : D) (e1 : E) (g1 : G) : Prop := ∃ n, it6 F n a1 b1 c1 d1 e1 g1
theorem lo6_i {A B C D E G : Type} {F : (A → B → C → D → E → G → Prop) → A → B → C → D → E → G → Prop} (I : A → B → C → D → E → G → Prop) (μ : A → B → C → D → E → G → Nat) (hs : ∀ (k : A → B → C → D → E → G → Prop) (a1 : A) (b1 : B) (c1 : C) (d1 : D) (e1 : E) (g1 : G), I a1 b1 c1 d1 e1 g1 → (∀ a2 b2 c2 d2 e2 g2, I a2 b2 c2 d2 e2 g2 → μ a2 b2 c2 d2 e2 g2 < μ a1 b1 c1 d1 e1 g1 → k a2 b2 c2 d2 e2 g2) → F k a1 b1 c1 d1 e1 g1) {a1 : A} {b1 : B} {c1 : C} {d1 : D} {e1 : E} {g1 : G} (h0 : I a1 b1 c1 d1 e1 g1) : lo6 F a1 b1 c1 d1 e1 g1 := by
  have key : ∀ m a2 b2 c2 d2 e2 g2, μ a2 b2 c2 d2 e2 g2 < m → I a2 b2 c2 d2 e2 g2 → it6 F m a2 b2 c2 d2 e2 g2 := by
    intro m
    induction m with
    | zero => intro a2 b2 c2 d2 e2 g2 h; exact absurd h (Nat.not_lt_zero _)
    | succ m ih =>
      intro a2 b2 c2 d2 e2 g2 h hI
      exact hs _ a2 b2 c2 d2 e2 g2 hI (fun a3 b3 c3 d3 e3 g3 hI2 hlt => ih a3 b3 c3 d3 e3 g3 (Nat.lt_of_lt_of_le hlt (Nat.le_of_lt_succ h)) hI2)
  exact ⟨_, key _ a1 b1 c1 d1 e1 g1 (Nat.lt_succ_self _) h0⟩
def it7 {A B C D E G H : Type} (F : (A → B → C → D → E → G → H → Prop) → A → B → C → D → E → G → H → Prop) : Nat → A → B → C → D → E → G → H → Prop
  | 0 => fun _ _ _ _ _ _ _ => False
  | n + 1 => F (it7 F n)
def lo7 {A B C D E G H : Type} (F : (A → B → C → D → E → G → H → Prop) → A → B → C → D → E → G → H → Prop) (a1 : A) (b1 : B) (c1 : C) (d1 : D) (e1 : E) (g1 : G) (h1 : H) : Prop := ∃ n, it7 F n a1 b1 c1 d1 e1 g1 h1
theorem lo7_i {A B C D E G H : Type} {F : (A → B → C → D → E → G → H → Prop) → A → B → C → D → E → G → H → Prop} (I : A → B → C → D → E → G → H → Prop) (μ : A → B → C → D → E → G → H → Nat) (hs : ∀ (k : A → B → C → D → E → G → H → Prop) (a1 : A) (b1 : B) (c1 : C) (d1 : D) (e1 : E) (g1 : G) (h1 : H), I a1 b1 c1 d1 e1 g1 h1 → (∀ a2 b2 c2 d2 e2 g2 h2, I a2 b2 c2 d2 e2 g2 h2 → μ a2 b2 c2 d2 e2 g2 h2 < μ a1 b1 c1 d1 e1 g1 h1 → k a2 b2 c2 d2 e2 g2 h2) → F k a1 b1 c1 d1 e1 g1 h1) {a1 : A} {b1 : B} {c1 : C} {d1 : D} {e1 : E} {g1 : G} {h1 : H} (h0 : I a1 b1 c1 d1 e1 g1 h1) : lo7 F a1 b1 c1 d1 e1 g1 h1 := by
  have key : ∀ m a2 b2 c2 d2 e2 g2 h2, μ a2 b2 c2 d2 e2 g2 h2 < m → I a2 b2 c2 d2 e2 g2 h2 → it7 F m a2 b2 c2 d2 e2 g2 h2 := by
    intro m
    induction m with
    | zero => intro a2 b2 c2 d2 e2 g2 h2 h; exact absurd h (Nat.not_lt_zero _)
    | succ m ih =>
      intro a2 b2 c2 d2 e2 g2 h2 h hI
      exact hs _ a2 b2 c2 d2 e2 g2 h2 hI (fun a3 b3 c3 d3 e3 g3 h3 hI2 hlt => ih a3 b3 c3 d3 e3 g3 h3 (Nat.lt_of_lt_of_le hlt (Nat.le_of_lt_succ h)) hI2)
  exact ⟨_, key _ a1 b1 c1 d1 e1 g1 h1 (Nat.lt_succ_self _) h0⟩
def it8 {A B C D E G H K : Type} (F : (A → B → C → D → E → G → H → K → Prop) → A → B → C → D → E → G → H → K → Prop) : Nat → A → B → C → D → E → G → H → K → Prop
  | 0 => fun _ _ _ _ _ _ _ _ => False
  | n + 1 => F (it8 F n)
def lo8 {A B C D E G H K : Type} (F : (A → B → C → D → E → G → H → K → Prop) → A → B → C → D → E → G → H → K → Prop) (a1 : A) (b1 : B) (c1 : C) (d1 : D) (e1 : E) (g1 : G) (h1 : H) (k1 : K) : Prop := ∃ n, it8 F n a1 b1 c1 d1 e1 g1 h1 k1
theorem lo8_i {A B C D E G H K : Type} {F : (A → B → C → D → E → G → H → K → Prop) → A → B → C → D → E → G → H → K → Prop} (I : A → B → C → D → E → G → H → K → Prop) (μ : A → B → C → D → E → G → H → K → Nat) (hs : ∀ (k : A → B → C → D → E → G → H → K → Prop) (a1 : A) (b1 : B) (c1 : C) (d1 : D) (e1 : E) (g1 : G) (h1 : H) (k1 : K), I a1 b1 c1 d1 e1 g1 h1 k1 → (∀ a2 b2 c2 d2 e2 g2 h2 k2, I a2 b2 c2 d2 e2 g2 h2 k2 → μ a2 b2 c2 d2 e2 g2 h2 k2 < μ a1 b1 c1 d1 e1 g1 h1 k1 → k a2 b2 c2 d2 e2 g2 h2 k2) → F k a1 b1 c1 d1 e1 g1 h1 k1) {a1 : A} {b1 : B} {c1 : C} {d1 : D} {e1 : E} {g1 : G} {h1 : H} {k1 : K} (h0 : I a1 b1 c1 d1 e1 g1 h1 k1) : lo8 F a1 b1 c1 d1 e1 g1 h1 k1 := by
  have key : ∀ m a2 b2 c2 d2 e2 g2 h2 k2, μ a2 b2 c2 d2 e2 g2 h2 k2 < m → I a2 b2 c2 d2 e2 g2 h2 k2 → it8 F m a2 b2 c2 d2 e2 g2 h2 k2 := by
    intro m
    induction m with
    | zero => intro a2 b2 c2 d2 e2 g2 h2 k2 h; exact absurd h (Nat.not_lt_zero _)
    | succ m ih =>
      intro a2 b2 c2 d2 e2 g2 h2 k2 h hI
      exact hs _ a2 b2 c2 d2 e2 g2 h2 k2 hI (fun a3 b3 c3 d3 e3 g3 h3 k3 hI2 hlt => ih a3 b3 c3 d3 e3 g3 h3 k3 (Nat.lt_of_lt_of_le hlt (Nat.le_of_lt_succ h)) hI2)
  exact ⟨_, key _ a1 b1 c1 d1 e1 g1 h1 k1 (Nat.lt_succ_self _) h0⟩
theorem iinc_e {x v c : Int32} {z : Int} (hc : Int32.ofInt z = c) (e : v = x + c) : x + Int32.ofInt z = v := by rw [hc, e]
def ob_rm (d : Nat) : Room := { frames := d, cells := 0, slots := 0, locals := 40 * d }
def KSl : List ob_K := [(16, [5, 8, 24, 38, 43, 51, 96, 97, 99, 102, 111, 0]), (15, [6, 0, 0, 0, 0, 1, 0, 7]), (2, [1600]), (1, [20]), (10, [9, 0, 0, 5, 23, 0, 0, 0, 0, 0, 2, 0]), (7, [0, 10, 11, 12, 13, 14, 15, 16, 0, 0, 0, 0, 17, 20]), (0, [7]), (0, [7]), (0, [7]), (0, [7]), (0, [7]), (0, [7]), (0, [49]), (9, [18, 0, 19]), (0, [300]), (0, [32]), (9, [21, 0, 22]), (0, [300]), (0, [32]), (1, [7]), (7, [0, 25, 26, 27, 28, 29, 30, 31, 0, 0, 0, 0, 32, 35]), (0, [7]), (0, [7]), (0, [7]), (0, [7]), (0, [7]), (0, [7]), (0, [49]), (9, [33, 0, 34]), (0, [300]), (0, [32]), (9, [36, 0, 37]), (0, [300]), (0, [32]), (11, [39, 40, 41, 0, 0, 0, 24, 42]), (0, [7]), (0, [7]), (0, [7]), (0, [6]), (8, [46, 44, 45, 0]), (0, [7]), (0, [7]), (11, [47, 48, 49, 0, 0, 0, 24, 50]), (0, [7]), (0, [7]), (0, [7]), (0, [6]), (13, [52, 0, 0, 24, 53, 54, 55]), (0, [7]), (4, [56, 61, 66, 71, 76, 81, 86, 91]), (0, [7]), (0, [1024]), (11, [57, 58, 59, 0, 0, 0, 24, 60]), (0, [7]), (0, [7]), (0, [7]), (0, [6]), (11, [62, 63, 64, 0, 0, 0, 24, 65]), (0, [7]), (0, [7]), (0, [7]), (0, [6]), (11, [67, 68, 69, 0, 0, 0, 24, 70]), (0, [7]), (0, [7]), (0, [7]), (0, [6]), (11, [72, 73, 74, 0, 0, 0, 24, 75]), (0, [7]), (0, [7]), (0, [7]), (0, [6]), (11, [77, 78, 79, 0, 0, 0, 24, 80]), (0, [7]), (0, [7]), (0, [7]), (0, [6]), (11, [82, 83, 84, 0, 0, 0, 24, 85]), (0, [7]), (0, [7]), (0, [7]), (0, [6]), (11, [87, 88, 89, 0, 0, 0, 24, 90]), (0, [7]), (0, [7]), (0, [7]), (0, [6]), (11, [92, 93, 94, 0, 0, 0, 24, 95]), (0, [7]), (0, [7]), (0, [7]), (0, [6]), (5, [0, 0, 0, 0, 0, 24, 38, 43]), (12, [0, 24, 38, 98]), (0, [7]), (6, [0, 0, 38, 100, 0, 101, 0]), (0, [984]), (0, [72]), (14, [0, 0, 0, 0, 24, 43, 103, 104, 105, 106, 107, 108, 0, 109, 110]), (0, [30]), (0, [30]), (3, [30]), (0, [30]), (0, [30]), (0, [700]), (3, [100]), (0, [8]), (0, [7]), (17, [113, 0, 0, 0, 0, 0, 0, 0, 0, 1, 114, 115, 116, 117, 118, 119, 120, 121, 122, 123, 0, 0, 0, 0, 0, 0, 124, 125, 126, 127, 128, 129, 130, 131, 132, 133, 134, 135, 136, 137, 138, 0, 0, 0, 0, 0, 0, 0, 0, 0, 0, 0, 0, 139, 140, 141, 142, 0, 143, 0, 0, 144, 0, 145, 146, 147, 148, 149, 150, 151, 0, 0, 152, 153, 154, 155]), (0, [1600]), (1, [7]), (0, [640]), (0, [640]), (0, [2]), (0, [640]), (0, [640]), (0, [2]), (0, [160]), (0, [64]), (3, [2]), (0, [6]), (0, [7]), (0, [7]), (0, [7]), (0, [7]), (0, [7]), (0, [7]), (0, [49]), (0, [7]), (0, [7]), (0, [7]), (0, [7]), (0, [7]), (0, [7]), (0, [49]), (0, [24]), (0, [24]), (0, [7]), (0, [7]), (0, [960]), (0, [7]), (0, [8]), (0, [192]), (0, [30]), (0, [30]), (0, [30]), (0, [30]), (3, [30]), (0, [700]), (3, [100]), (3, [3]), (0, [72])]
def KS : Nat → ob_K := fun o => KSl.getD o (0, [])
abbrev NN : Nat := 152
theorem k_0 : ob_is KS NN 0 (16, [5, 8, 24, 38, 43, 51, 96, 97, 99, 102, 111, 0]) := ⟨by decide, by decide, rfl⟩
theorem k_1 : ob_is KS NN 1 (15, [6, 0, 0, 0, 0, 1, 0, 7]) := ⟨by decide, by decide, rfl⟩
theorem k_2 : ob_is KS NN 2 (2, [1600]) := ⟨by decide, by decide, rfl⟩
theorem k_3 : ob_is KS NN 3 (1, [20]) := ⟨by decide, by decide, rfl⟩
theorem k_4 : ob_is KS NN 4 (10, [9, 0, 0, 5, 23, 0, 0, 0, 0, 0, 2, 0]) := ⟨by decide, by decide, rfl⟩
theorem k_5 : ob_is KS NN 5 (7, [0, 10, 11, 12, 13, 14, 15, 16, 0, 0, 0, 0, 17, 20]) := ⟨by decide, by decide, rfl⟩
theorem k_6 : ob_is KS NN 6 (0, [7]) := ⟨by decide, by decide, rfl⟩
theorem k_7 : ob_is KS NN 7 (0, [7]) := ⟨by decide, by decide, rfl⟩
theorem k_8 : ob_is KS NN 8 (0, [7]) := ⟨by decide, by decide, rfl⟩
theorem k_9 : ob_is KS NN 9 (0, [7]) := ⟨by decide, by decide, rfl⟩
theorem k_10 : ob_is KS NN 10 (0, [7]) := ⟨by decide, by decide, rfl⟩
theorem k_11 : ob_is KS NN 11 (0, [7]) := ⟨by decide, by decide, rfl⟩
theorem k_12 : ob_is KS NN 12 (0, [49]) := ⟨by decide, by decide, rfl⟩
theorem k_13 : ob_is KS NN 13 (9, [18, 0, 19]) := ⟨by decide, by decide, rfl⟩
theorem k_14 : ob_is KS NN 14 (0, [300]) := ⟨by decide, by decide, rfl⟩
theorem k_15 : ob_is KS NN 15 (0, [32]) := ⟨by decide, by decide, rfl⟩
theorem k_16 : ob_is KS NN 16 (9, [21, 0, 22]) := ⟨by decide, by decide, rfl⟩
theorem k_17 : ob_is KS NN 17 (0, [300]) := ⟨by decide, by decide, rfl⟩
theorem k_18 : ob_is KS NN 18 (0, [32]) := ⟨by decide, by decide, rfl⟩
theorem k_19 : ob_is KS NN 19 (1, [7]) := ⟨by decide, by decide, rfl⟩
theorem k_20 : ob_is KS NN 20 (7, [0, 25, 26, 27, 28, 29, 30, 31, 0, 0, 0, 0, 32, 35]) := ⟨by decide, by decide, rfl⟩
theorem k_21 : ob_is KS NN 21 (0, [7]) := ⟨by decide, by decide, rfl⟩
theorem k_22 : ob_is KS NN 22 (0, [7]) := ⟨by decide, by decide, rfl⟩
theorem k_23 : ob_is KS NN 23 (0, [7]) := ⟨by decide, by decide, rfl⟩
theorem k_24 : ob_is KS NN 24 (0, [7]) := ⟨by decide, by decide, rfl⟩
theorem k_25 : ob_is KS NN 25 (0, [7]) := ⟨by decide, by decide, rfl⟩
theorem k_26 : ob_is KS NN 26 (0, [7]) := ⟨by decide, by decide, rfl⟩
theorem k_27 : ob_is KS NN 27 (0, [49]) := ⟨by decide, by decide, rfl⟩
theorem k_28 : ob_is KS NN 28 (9, [33, 0, 34]) := ⟨by decide, by decide, rfl⟩
theorem k_29 : ob_is KS NN 29 (0, [300]) := ⟨by decide, by decide, rfl⟩
theorem k_30 : ob_is KS NN 30 (0, [32]) := ⟨by decide, by decide, rfl⟩
theorem k_31 : ob_is KS NN 31 (9, [36, 0, 37]) := ⟨by decide, by decide, rfl⟩
theorem k_32 : ob_is KS NN 32 (0, [300]) := ⟨by decide, by decide, rfl⟩
theorem k_33 : ob_is KS NN 33 (0, [32]) := ⟨by decide, by decide, rfl⟩
theorem k_34 : ob_is KS NN 34 (11, [39, 40, 41, 0, 0, 0, 24, 42]) := ⟨by decide, by decide, rfl⟩
theorem k_35 : ob_is KS NN 35 (0, [7]) := ⟨by decide, by decide, rfl⟩
theorem k_36 : ob_is KS NN 36 (0, [7]) := ⟨by decide, by decide, rfl⟩
theorem k_37 : ob_is KS NN 37 (0, [7]) := ⟨by decide, by decide, rfl⟩
theorem k_38 : ob_is KS NN 38 (0, [6]) := ⟨by decide, by decide, rfl⟩
theorem k_39 : ob_is KS NN 39 (8, [46, 44, 45, 0]) := ⟨by decide, by decide, rfl⟩
theorem k_40 : ob_is KS NN 40 (0, [7]) := ⟨by decide, by decide, rfl⟩
theorem k_41 : ob_is KS NN 41 (0, [7]) := ⟨by decide, by decide, rfl⟩
theorem k_42 : ob_is KS NN 42 (11, [47, 48, 49, 0, 0, 0, 24, 50]) := ⟨by decide, by decide, rfl⟩
theorem k_43 : ob_is KS NN 43 (0, [7]) := ⟨by decide, by decide, rfl⟩
theorem k_44 : ob_is KS NN 44 (0, [7]) := ⟨by decide, by decide, rfl⟩
theorem k_45 : ob_is KS NN 45 (0, [7]) := ⟨by decide, by decide, rfl⟩
theorem k_46 : ob_is KS NN 46 (0, [6]) := ⟨by decide, by decide, rfl⟩
theorem k_47 : ob_is KS NN 47 (13, [52, 0, 0, 24, 53, 54, 55]) := ⟨by decide, by decide, rfl⟩
theorem k_48 : ob_is KS NN 48 (0, [7]) := ⟨by decide, by decide, rfl⟩
theorem k_49 : ob_is KS NN 49 (4, [56, 61, 66, 71, 76, 81, 86, 91]) := ⟨by decide, by decide, rfl⟩
theorem k_50 : ob_is KS NN 50 (0, [7]) := ⟨by decide, by decide, rfl⟩
theorem k_51 : ob_is KS NN 51 (0, [1024]) := ⟨by decide, by decide, rfl⟩
theorem k_52 : ob_is KS NN 52 (11, [57, 58, 59, 0, 0, 0, 24, 60]) := ⟨by decide, by decide, rfl⟩
theorem k_53 : ob_is KS NN 53 (0, [7]) := ⟨by decide, by decide, rfl⟩
theorem k_54 : ob_is KS NN 54 (0, [7]) := ⟨by decide, by decide, rfl⟩
theorem k_55 : ob_is KS NN 55 (0, [7]) := ⟨by decide, by decide, rfl⟩
theorem k_56 : ob_is KS NN 56 (0, [6]) := ⟨by decide, by decide, rfl⟩
theorem k_57 : ob_is KS NN 57 (11, [62, 63, 64, 0, 0, 0, 24, 65]) := ⟨by decide, by decide, rfl⟩
theorem k_58 : ob_is KS NN 58 (0, [7]) := ⟨by decide, by decide, rfl⟩
theorem k_59 : ob_is KS NN 59 (0, [7]) := ⟨by decide, by decide, rfl⟩
theorem k_60 : ob_is KS NN 60 (0, [7]) := ⟨by decide, by decide, rfl⟩
theorem k_61 : ob_is KS NN 61 (0, [6]) := ⟨by decide, by decide, rfl⟩
theorem k_62 : ob_is KS NN 62 (11, [67, 68, 69, 0, 0, 0, 24, 70]) := ⟨by decide, by decide, rfl⟩
theorem k_63 : ob_is KS NN 63 (0, [7]) := ⟨by decide, by decide, rfl⟩
theorem k_64 : ob_is KS NN 64 (0, [7]) := ⟨by decide, by decide, rfl⟩
theorem k_65 : ob_is KS NN 65 (0, [7]) := ⟨by decide, by decide, rfl⟩
theorem k_66 : ob_is KS NN 66 (0, [6]) := ⟨by decide, by decide, rfl⟩
theorem k_67 : ob_is KS NN 67 (11, [72, 73, 74, 0, 0, 0, 24, 75]) := ⟨by decide, by decide, rfl⟩
theorem k_68 : ob_is KS NN 68 (0, [7]) := ⟨by decide, by decide, rfl⟩
theorem k_69 : ob_is KS NN 69 (0, [7]) := ⟨by decide, by decide, rfl⟩
theorem k_70 : ob_is KS NN 70 (0, [7]) := ⟨by decide, by decide, rfl⟩
theorem k_71 : ob_is KS NN 71 (0, [6]) := ⟨by decide, by decide, rfl⟩
theorem k_72 : ob_is KS NN 72 (11, [77, 78, 79, 0, 0, 0, 24, 80]) := ⟨by decide, by decide, rfl⟩
theorem k_73 : ob_is KS NN 73 (0, [7]) := ⟨by decide, by decide, rfl⟩
theorem k_74 : ob_is KS NN 74 (0, [7]) := ⟨by decide, by decide, rfl⟩
theorem k_75 : ob_is KS NN 75 (0, [7]) := ⟨by decide, by decide, rfl⟩
theorem k_76 : ob_is KS NN 76 (0, [6]) := ⟨by decide, by decide, rfl⟩
theorem k_77 : ob_is KS NN 77 (11, [82, 83, 84, 0, 0, 0, 24, 85]) := ⟨by decide, by decide, rfl⟩
theorem k_78 : ob_is KS NN 78 (0, [7]) := ⟨by decide, by decide, rfl⟩
theorem k_79 : ob_is KS NN 79 (0, [7]) := ⟨by decide, by decide, rfl⟩
theorem k_80 : ob_is KS NN 80 (0, [7]) := ⟨by decide, by decide, rfl⟩
theorem k_81 : ob_is KS NN 81 (0, [6]) := ⟨by decide, by decide, rfl⟩
theorem k_82 : ob_is KS NN 82 (11, [87, 88, 89, 0, 0, 0, 24, 90]) := ⟨by decide, by decide, rfl⟩
theorem k_83 : ob_is KS NN 83 (0, [7]) := ⟨by decide, by decide, rfl⟩
theorem k_84 : ob_is KS NN 84 (0, [7]) := ⟨by decide, by decide, rfl⟩
theorem k_85 : ob_is KS NN 85 (0, [7]) := ⟨by decide, by decide, rfl⟩
theorem k_86 : ob_is KS NN 86 (0, [6]) := ⟨by decide, by decide, rfl⟩
theorem k_87 : ob_is KS NN 87 (11, [92, 93, 94, 0, 0, 0, 24, 95]) := ⟨by decide, by decide, rfl⟩
theorem k_88 : ob_is KS NN 88 (0, [7]) := ⟨by decide, by decide, rfl⟩
theorem k_89 : ob_is KS NN 89 (0, [7]) := ⟨by decide, by decide, rfl⟩
theorem k_90 : ob_is KS NN 90 (0, [7]) := ⟨by decide, by decide, rfl⟩
theorem k_91 : ob_is KS NN 91 (0, [6]) := ⟨by decide, by decide, rfl⟩
theorem k_92 : ob_is KS NN 92 (5, [0, 0, 0, 0, 0, 24, 38, 43]) := ⟨by decide, by decide, rfl⟩
theorem k_93 : ob_is KS NN 93 (12, [0, 24, 38, 98]) := ⟨by decide, by decide, rfl⟩
theorem k_94 : ob_is KS NN 94 (0, [7]) := ⟨by decide, by decide, rfl⟩
theorem k_95 : ob_is KS NN 95 (6, [0, 0, 38, 100, 0, 101, 0]) := ⟨by decide, by decide, rfl⟩
theorem k_96 : ob_is KS NN 96 (0, [984]) := ⟨by decide, by decide, rfl⟩
theorem k_97 : ob_is KS NN 97 (0, [72]) := ⟨by decide, by decide, rfl⟩
theorem k_98 : ob_is KS NN 98 (14, [0, 0, 0, 0, 24, 43, 103, 104, 105, 106, 107, 108, 0, 109, 110]) := ⟨by decide, by decide, rfl⟩
theorem k_99 : ob_is KS NN 99 (0, [30]) := ⟨by decide, by decide, rfl⟩
theorem k_100 : ob_is KS NN 100 (0, [30]) := ⟨by decide, by decide, rfl⟩
theorem k_101 : ob_is KS NN 101 (3, [30]) := ⟨by decide, by decide, rfl⟩
theorem k_102 : ob_is KS NN 102 (0, [30]) := ⟨by decide, by decide, rfl⟩
theorem k_103 : ob_is KS NN 103 (0, [30]) := ⟨by decide, by decide, rfl⟩
theorem k_104 : ob_is KS NN 104 (0, [700]) := ⟨by decide, by decide, rfl⟩
theorem k_105 : ob_is KS NN 105 (3, [100]) := ⟨by decide, by decide, rfl⟩
theorem k_106 : ob_is KS NN 106 (0, [8]) := ⟨by decide, by decide, rfl⟩
theorem k_107 : ob_is KS NN 107 (0, [7]) := ⟨by decide, by decide, rfl⟩
theorem k_108 : ob_is KS NN 108 (17, [113, 0, 0, 0, 0, 0, 0, 0, 0, 1, 114, 115, 116, 117, 118, 119, 120, 121, 122, 123, 0, 0, 0, 0, 0, 0, 124, 125, 126, 127, 128, 129, 130, 131, 132, 133, 134, 135, 136, 137, 138, 0, 0, 0, 0, 0, 0, 0, 0, 0, 0, 0, 0, 139, 140, 141, 142, 0, 143, 0, 0, 144, 0, 145, 146, 147, 148, 149, 150, 151, 0, 0, 152, 153, 154, 155]) := ⟨by decide, by decide, rfl⟩
theorem k_109 : ob_is KS NN 109 (0, [1600]) := ⟨by decide, by decide, rfl⟩
theorem k_110 : ob_is KS NN 110 (1, [7]) := ⟨by decide, by decide, rfl⟩
theorem k_111 : ob_is KS NN 111 (0, [640]) := ⟨by decide, by decide, rfl⟩
theorem k_112 : ob_is KS NN 112 (0, [640]) := ⟨by decide, by decide, rfl⟩
theorem k_113 : ob_is KS NN 113 (0, [2]) := ⟨by decide, by decide, rfl⟩
theorem k_114 : ob_is KS NN 114 (0, [640]) := ⟨by decide, by decide, rfl⟩
theorem k_115 : ob_is KS NN 115 (0, [640]) := ⟨by decide, by decide, rfl⟩
theorem k_116 : ob_is KS NN 116 (0, [2]) := ⟨by decide, by decide, rfl⟩
theorem k_117 : ob_is KS NN 117 (0, [160]) := ⟨by decide, by decide, rfl⟩
theorem k_118 : ob_is KS NN 118 (0, [64]) := ⟨by decide, by decide, rfl⟩
theorem k_119 : ob_is KS NN 119 (3, [2]) := ⟨by decide, by decide, rfl⟩
theorem k_120 : ob_is KS NN 120 (0, [6]) := ⟨by decide, by decide, rfl⟩
theorem k_121 : ob_is KS NN 121 (0, [7]) := ⟨by decide, by decide, rfl⟩
theorem k_122 : ob_is KS NN 122 (0, [7]) := ⟨by decide, by decide, rfl⟩
theorem k_123 : ob_is KS NN 123 (0, [7]) := ⟨by decide, by decide, rfl⟩
theorem k_124 : ob_is KS NN 124 (0, [7]) := ⟨by decide, by decide, rfl⟩
theorem k_125 : ob_is KS NN 125 (0, [7]) := ⟨by decide, by decide, rfl⟩
theorem k_126 : ob_is KS NN 126 (0, [7]) := ⟨by decide, by decide, rfl⟩
theorem k_127 : ob_is KS NN 127 (0, [49]) := ⟨by decide, by decide, rfl⟩
theorem k_128 : ob_is KS NN 128 (0, [7]) := ⟨by decide, by decide, rfl⟩
theorem k_129 : ob_is KS NN 129 (0, [7]) := ⟨by decide, by decide, rfl⟩
theorem k_130 : ob_is KS NN 130 (0, [7]) := ⟨by decide, by decide, rfl⟩
theorem k_131 : ob_is KS NN 131 (0, [7]) := ⟨by decide, by decide, rfl⟩
theorem k_132 : ob_is KS NN 132 (0, [7]) := ⟨by decide, by decide, rfl⟩
theorem k_133 : ob_is KS NN 133 (0, [7]) := ⟨by decide, by decide, rfl⟩
theorem k_134 : ob_is KS NN 134 (0, [49]) := ⟨by decide, by decide, rfl⟩
theorem k_135 : ob_is KS NN 135 (0, [24]) := ⟨by decide, by decide, rfl⟩
theorem k_136 : ob_is KS NN 136 (0, [24]) := ⟨by decide, by decide, rfl⟩
theorem k_137 : ob_is KS NN 137 (0, [7]) := ⟨by decide, by decide, rfl⟩
theorem k_138 : ob_is KS NN 138 (0, [7]) := ⟨by decide, by decide, rfl⟩
theorem k_139 : ob_is KS NN 139 (0, [960]) := ⟨by decide, by decide, rfl⟩
theorem k_140 : ob_is KS NN 140 (0, [7]) := ⟨by decide, by decide, rfl⟩
theorem k_141 : ob_is KS NN 141 (0, [8]) := ⟨by decide, by decide, rfl⟩
theorem k_142 : ob_is KS NN 142 (0, [192]) := ⟨by decide, by decide, rfl⟩
theorem k_143 : ob_is KS NN 143 (0, [30]) := ⟨by decide, by decide, rfl⟩
theorem k_144 : ob_is KS NN 144 (0, [30]) := ⟨by decide, by decide, rfl⟩
theorem k_145 : ob_is KS NN 145 (0, [30]) := ⟨by decide, by decide, rfl⟩
theorem k_146 : ob_is KS NN 146 (0, [30]) := ⟨by decide, by decide, rfl⟩
theorem k_147 : ob_is KS NN 147 (3, [30]) := ⟨by decide, by decide, rfl⟩
theorem k_148 : ob_is KS NN 148 (0, [700]) := ⟨by decide, by decide, rfl⟩
theorem k_149 : ob_is KS NN 149 (3, [100]) := ⟨by decide, by decide, rfl⟩
theorem k_150 : ob_is KS NN 150 (3, [3]) := ⟨by decide, by decide, rfl⟩
theorem k_151 : ob_is KS NN 151 (0, [72]) := ⟨by decide, by decide, rfl⟩
def ob_g (ret : Option FieldType) (Q : ob_Q) : ob_Q := fun r ks n h => ob_fits ret r ∧ Q r ks n h
def ob_qi (Q : Int32 → ob_H → Prop) : ob_Q := fun r ks n h => ks = KS ∧ n = NN ∧ ∃ v, r = some (.int v) ∧ Q v h
def ob_ql (Q : Int64 → ob_H → Prop) : ob_Q := fun r ks n h => ks = KS ∧ n = NN ∧ ∃ v, r = some (.long v) ∧ Q v h
def ob_qv (Q : ob_H → Prop) : ob_Q := fun r ks n h => ks = KS ∧ n = NN ∧ r = none ∧ Q h
def ob_pi (h0 : ob_H) (Q : Int32 → Prop) : ob_Q := fun r ks n h => ks = KS ∧ n = NN ∧ h = h0 ∧ ∃ v, r = some (.int v) ∧ Q v
def ob_pl (h0 : ob_H) (Q : Int64 → Prop) : ob_Q := fun r ks n h => ks = KS ∧ n = NN ∧ h = h0 ∧ ∃ v, r = some (.long v) ∧ Q v
def ob_pv (h0 : ob_H) (Q : Prop) : ob_Q := fun r ks n h => ks = KS ∧ n = NN ∧ h = h0 ∧ r = none ∧ Q
theorem ob_T_gi {y : MethodName} {cc : ByteArray} {nL : Nat} {ret : Option FieldType} {R : Room} {ini : Bool} {ks : Nat → ob_K} {n : Nat} {h : ob_H} {av : List Value} {Q : ob_Q} (hy : plainName y.cls = true) (hini : ini = true → y.name = "<init>") (hlen : (lg_sl av).length ≤ nL)
    (hJ : ob_J y.cls cc nL R ini none 0 0 ks n h 0 (lv_args 0 av) [] (ob_g ret Q)) : ob_T y cc nL ret R ks n h av (ob_g ret Q) :=
  ob_T_of hy hini hlen (oj_imp hJ (fun _ _ _ _ q => ⟨q.1, q⟩))
theorem ob_T_gf {y : MethodName} {cc : ByteArray} {nL : Nat} {ret : Option FieldType} {R : Room} {ks : Nat → ob_K} {n : Nat} {h : ob_H} {av : List Value} {Q : ob_Q} (hy : plainName y.cls = true) (hlen : (lg_sl av).length ≤ nL)
    (hJ : ob_J y.cls cc nL R false none 0 0 ks n h 0 (lv_args 0 av) [] (ob_g ret Q)) : ob_T y cc nL ret R ks n h av (ob_g ret Q) :=
  ob_T_gi hy (fun z => Bool.noConfusion z) hlen hJ
section OC
variable {own : String} {cc : ByteArray} {nL : Nat} {R : Room} {ini : Bool} {sc : ob_Sc} {ce sl : Nat} {ks : Nat → ob_K} {n : Nat} {h : ob_H} {pc : Nat} {lv lv' : List (Nat × Value)} {st : List Value} {Q : ob_Q}
theorem oj_topi {x : Int32} (k : ∀ y : Int32, y = x → ob_J own cc nL R ini sc ce sl ks n h pc lv (.int y :: st) Q) : ob_J own cc nL R ini sc ce sl ks n h pc lv (.int x :: st) Q := k x rfl
theorem oj_topl {x : Int64} (k : ∀ y : Int64, y = x → ob_J own cc nL R ini sc ce sl ks n h pc lv (.long y :: st) Q) : ob_J own cc nL R ini sc ce sl ks n h pc lv (.long x :: st) Q := k x rfl
theorem oj_toph (k : ∀ h' : ob_H, h' = h → ob_J own cc nL R ini sc ce sl ks n h' pc lv st Q) : ob_J own cc nL R ini sc ce sl ks n h pc lv st Q := k h rfl
theorem oc_Vi {index maxL ci o N dq : Nat} {T : u_T} {codes : List Nat} {y : MethodName} {bytes : ByteArray} {ty : FieldType} {st0 : List Value} {Q1 : Int32 → ob_H → Prop} (As : List Value) (hM : ob_mi own index y bytes maxL (some ty) As.length) (w1 : Cond.instanceMethod y ∈ obWS) (w2 : Cond.selects y.cls y y ∈ obWS) (hcl : obCl[ci]? = some (y.cls, T, N)) (hk : ob_is KS NN o (ci + 5, codes)) (hT : ob_T y bytes maxL (some ty) (ob_rm dq) KS NN h (.ref o :: As) (ob_g (some ty) (ob_qi Q1))) (hR1 : (ob_rm dq).frames + 1 ≤ R.frames ∧ 8 + (maxL + 11) + (ob_rm dq).locals ≤ R.locals) (hcs : ce ≤ R.cells ∧ sl ≤ R.slots) (hst0 : st0 = As.reverse ++ .ref o :: st) (hst : (st.map fun v => v.category).sum ≤ 8) (hdg : decode cc pc = .ok (.invokevirtual index, 3))
    (kk : ∀ (v : Int32) (_ : ob_fits (some ty) (some (.int v))) (h' : ob_H), Q1 v h' → ob_J own cc nL R ini sc ce sl KS NN h' (pc + 3) lv (.int v :: st) Q) : ob_J own cc nL R ini sc ce sl KS NN h pc lv st0 Q := by
  refine oj_callV As hM w1 w2 hcl hk hT hR1 hcs hst0 hst hdg (fun r ks' n' h' hq => ?_)
  obtain ⟨f, rfl, rfl, v, rfl, q⟩ := hq
  exact kk v f _ q
theorem oc_Vl {index maxL ci o N dq : Nat} {T : u_T} {codes : List Nat} {y : MethodName} {bytes : ByteArray} {ty : FieldType} {st0 : List Value} {Q1 : Int64 → ob_H → Prop} (As : List Value) (hM : ob_mi own index y bytes maxL (some ty) As.length) (w1 : Cond.instanceMethod y ∈ obWS) (w2 : Cond.selects y.cls y y ∈ obWS) (hcl : obCl[ci]? = some (y.cls, T, N)) (hk : ob_is KS NN o (ci + 5, codes)) (hT : ob_T y bytes maxL (some ty) (ob_rm dq) KS NN h (.ref o :: As) (ob_g (some ty) (ob_ql Q1))) (hR1 : (ob_rm dq).frames + 1 ≤ R.frames ∧ 8 + (maxL + 11) + (ob_rm dq).locals ≤ R.locals) (hcs : ce ≤ R.cells ∧ sl ≤ R.slots) (hst0 : st0 = As.reverse ++ .ref o :: st) (hst : (st.map fun v => v.category).sum ≤ 8) (hdg : decode cc pc = .ok (.invokevirtual index, 3))
    (kk : ∀ (v : Int64) (_ : ob_fits (some ty) (some (.long v))) (h' : ob_H), Q1 v h' → ob_J own cc nL R ini sc ce sl KS NN h' (pc + 3) lv (.long v :: st) Q) : ob_J own cc nL R ini sc ce sl KS NN h pc lv st0 Q := by
  refine oj_callV As hM w1 w2 hcl hk hT hR1 hcs hst0 hst hdg (fun r ks' n' h' hq => ?_)
  obtain ⟨f, rfl, rfl, v, rfl, q⟩ := hq
  exact kk v f _ q
theorem oc_Vv {index maxL ci o N dq : Nat} {T : u_T} {codes : List Nat} {y : MethodName} {bytes : ByteArray} {st0 : List Value} {Q1 : ob_H → Prop} (As : List Value) (hM : ob_mi own index y bytes maxL none As.length) (w1 : Cond.instanceMethod y ∈ obWS) (w2 : Cond.selects y.cls y y ∈ obWS) (hcl : obCl[ci]? = some (y.cls, T, N)) (hk : ob_is KS NN o (ci + 5, codes)) (hT : ob_T y bytes maxL none (ob_rm dq) KS NN h (.ref o :: As) (ob_g none (ob_qv Q1))) (hR1 : (ob_rm dq).frames + 1 ≤ R.frames ∧ 8 + (maxL + 11) + (ob_rm dq).locals ≤ R.locals) (hcs : ce ≤ R.cells ∧ sl ≤ R.slots) (hst0 : st0 = As.reverse ++ .ref o :: st) (hst : (st.map fun v => v.category).sum ≤ 8) (hdg : decode cc pc = .ok (.invokevirtual index, 3))
    (kk : ∀ (h' : ob_H), Q1 h' → ob_J own cc nL R ini sc ce sl KS NN h' (pc + 3) lv (st) Q) : ob_J own cc nL R ini sc ce sl KS NN h pc lv st0 Q := by
  refine oj_callV As hM w1 w2 hcl hk hT hR1 hcs hst0 hst hdg (fun r ks' n' h' hq => ?_)
  obtain ⟨f, rfl, rfl, rfl, q⟩ := hq
  exact kk _ q
theorem oc_Vpi {index maxL ci o N dq : Nat} {T : u_T} {codes : List Nat} {y : MethodName} {bytes : ByteArray} {ty : FieldType} {st0 : List Value} {Q1 : Int32 → Prop} (As : List Value) (hM : ob_mi own index y bytes maxL (some ty) As.length) (w1 : Cond.instanceMethod y ∈ obWS) (w2 : Cond.selects y.cls y y ∈ obWS) (hcl : obCl[ci]? = some (y.cls, T, N)) (hk : ob_is KS NN o (ci + 5, codes)) (hT : ob_T y bytes maxL (some ty) (ob_rm dq) KS NN h (.ref o :: As) (ob_g (some ty) (ob_pi h Q1))) (hR1 : (ob_rm dq).frames + 1 ≤ R.frames ∧ 8 + (maxL + 11) + (ob_rm dq).locals ≤ R.locals) (hcs : ce ≤ R.cells ∧ sl ≤ R.slots) (hst0 : st0 = As.reverse ++ .ref o :: st) (hst : (st.map fun v => v.category).sum ≤ 8) (hdg : decode cc pc = .ok (.invokevirtual index, 3))
    (kk : ∀ (v : Int32) (_ : ob_fits (some ty) (some (.int v))), Q1 v → ob_J own cc nL R ini sc ce sl KS NN h (pc + 3) lv (.int v :: st) Q) : ob_J own cc nL R ini sc ce sl KS NN h pc lv st0 Q := by
  refine oj_callV As hM w1 w2 hcl hk hT hR1 hcs hst0 hst hdg (fun r ks' n' h' hq => ?_)
  obtain ⟨f, rfl, rfl, rfl, v, rfl, q⟩ := hq
  exact kk v f q
theorem oc_Vpl {index maxL ci o N dq : Nat} {T : u_T} {codes : List Nat} {y : MethodName} {bytes : ByteArray} {ty : FieldType} {st0 : List Value} {Q1 : Int64 → Prop} (As : List Value) (hM : ob_mi own index y bytes maxL (some ty) As.length) (w1 : Cond.instanceMethod y ∈ obWS) (w2 : Cond.selects y.cls y y ∈ obWS) (hcl : obCl[ci]? = some (y.cls, T, N)) (hk : ob_is KS NN o (ci + 5, codes)) (hT : ob_T y bytes maxL (some ty) (ob_rm dq) KS NN h (.ref o :: As) (ob_g (some ty) (ob_pl h Q1))) (hR1 : (ob_rm dq).frames + 1 ≤ R.frames ∧ 8 + (maxL + 11) + (ob_rm dq).locals ≤ R.locals) (hcs : ce ≤ R.cells ∧ sl ≤ R.slots) (hst0 : st0 = As.reverse ++ .ref o :: st) (hst : (st.map fun v => v.category).sum ≤ 8) (hdg : decode cc pc = .ok (.invokevirtual index, 3))
    (kk : ∀ (v : Int64) (_ : ob_fits (some ty) (some (.long v))), Q1 v → ob_J own cc nL R ini sc ce sl KS NN h (pc + 3) lv (.long v :: st) Q) : ob_J own cc nL R ini sc ce sl KS NN h pc lv st0 Q := by
  refine oj_callV As hM w1 w2 hcl hk hT hR1 hcs hst0 hst hdg (fun r ks' n' h' hq => ?_)
  obtain ⟨f, rfl, rfl, rfl, v, rfl, q⟩ := hq
  exact kk v f q
theorem oc_Vpv {index maxL ci o N dq : Nat} {T : u_T} {codes : List Nat} {y : MethodName} {bytes : ByteArray} {st0 : List Value} {Q1 : Prop} (As : List Value) (hM : ob_mi own index y bytes maxL none As.length) (w1 : Cond.instanceMethod y ∈ obWS) (w2 : Cond.selects y.cls y y ∈ obWS) (hcl : obCl[ci]? = some (y.cls, T, N)) (hk : ob_is KS NN o (ci + 5, codes)) (hT : ob_T y bytes maxL none (ob_rm dq) KS NN h (.ref o :: As) (ob_g none (ob_pv h Q1))) (hR1 : (ob_rm dq).frames + 1 ≤ R.frames ∧ 8 + (maxL + 11) + (ob_rm dq).locals ≤ R.locals) (hcs : ce ≤ R.cells ∧ sl ≤ R.slots) (hst0 : st0 = As.reverse ++ .ref o :: st) (hst : (st.map fun v => v.category).sum ≤ 8) (hdg : decode cc pc = .ok (.invokevirtual index, 3))
    (kk : Q1 → ob_J own cc nL R ini sc ce sl KS NN h (pc + 3) lv (st) Q) : ob_J own cc nL R ini sc ce sl KS NN h pc lv st0 Q := by
  refine oj_callV As hM w1 w2 hcl hk hT hR1 hcs hst0 hst hdg (fun r ks' n' h' hq => ?_)
  obtain ⟨f, rfl, rfl, rfl, rfl, q⟩ := hq
  exact kk q
theorem oc_Si {index maxL dq : Nat} {y : MethodName} {bytes : ByteArray} {ty : FieldType} {st0 : List Value} {Q1 : Int32 → ob_H → Prop} (As : List Value) (hM : ob_mi own index y bytes maxL (some ty) As.length) (w1 : Cond.static y ∈ obWS) (hT : ob_T y bytes maxL (some ty) (ob_rm dq) KS NN h As (ob_g (some ty) (ob_qi Q1))) (hR1 : (ob_rm dq).frames + 1 ≤ R.frames ∧ 8 + (maxL + 11) + (ob_rm dq).locals ≤ R.locals) (hcs : ce ≤ R.cells ∧ sl ≤ R.slots) (hst0 : st0 = As.reverse ++ st) (hst : (st.map fun v => v.category).sum ≤ 8) (hdg : decode cc pc = .ok (.invokestatic index, 3))
    (kk : ∀ (v : Int32) (_ : ob_fits (some ty) (some (.int v))) (h' : ob_H), Q1 v h' → ob_J own cc nL R ini sc ce sl KS NN h' (pc + 3) lv (.int v :: st) Q) : ob_J own cc nL R ini sc ce sl KS NN h pc lv st0 Q := by
  refine oj_callS As hM w1 hT hR1 hcs hst0 hst hdg (fun r ks' n' h' hq => ?_)
  obtain ⟨f, rfl, rfl, v, rfl, q⟩ := hq
  exact kk v f _ q
theorem oc_Sl {index maxL dq : Nat} {y : MethodName} {bytes : ByteArray} {ty : FieldType} {st0 : List Value} {Q1 : Int64 → ob_H → Prop} (As : List Value) (hM : ob_mi own index y bytes maxL (some ty) As.length) (w1 : Cond.static y ∈ obWS) (hT : ob_T y bytes maxL (some ty) (ob_rm dq) KS NN h As (ob_g (some ty) (ob_ql Q1))) (hR1 : (ob_rm dq).frames + 1 ≤ R.frames ∧ 8 + (maxL + 11) + (ob_rm dq).locals ≤ R.locals) (hcs : ce ≤ R.cells ∧ sl ≤ R.slots) (hst0 : st0 = As.reverse ++ st) (hst : (st.map fun v => v.category).sum ≤ 8) (hdg : decode cc pc = .ok (.invokestatic index, 3))
    (kk : ∀ (v : Int64) (_ : ob_fits (some ty) (some (.long v))) (h' : ob_H), Q1 v h' → ob_J own cc nL R ini sc ce sl KS NN h' (pc + 3) lv (.long v :: st) Q) : ob_J own cc nL R ini sc ce sl KS NN h pc lv st0 Q := by
  refine oj_callS As hM w1 hT hR1 hcs hst0 hst hdg (fun r ks' n' h' hq => ?_)
  obtain ⟨f, rfl, rfl, v, rfl, q⟩ := hq
  exact kk v f _ q
theorem oc_Sv {index maxL dq : Nat} {y : MethodName} {bytes : ByteArray} {st0 : List Value} {Q1 : ob_H → Prop} (As : List Value) (hM : ob_mi own index y bytes maxL none As.length) (w1 : Cond.static y ∈ obWS) (hT : ob_T y bytes maxL none (ob_rm dq) KS NN h As (ob_g none (ob_qv Q1))) (hR1 : (ob_rm dq).frames + 1 ≤ R.frames ∧ 8 + (maxL + 11) + (ob_rm dq).locals ≤ R.locals) (hcs : ce ≤ R.cells ∧ sl ≤ R.slots) (hst0 : st0 = As.reverse ++ st) (hst : (st.map fun v => v.category).sum ≤ 8) (hdg : decode cc pc = .ok (.invokestatic index, 3))
    (kk : ∀ (h' : ob_H), Q1 h' → ob_J own cc nL R ini sc ce sl KS NN h' (pc + 3) lv (st) Q) : ob_J own cc nL R ini sc ce sl KS NN h pc lv st0 Q := by
  refine oj_callS As hM w1 hT hR1 hcs hst0 hst hdg (fun r ks' n' h' hq => ?_)
  obtain ⟨f, rfl, rfl, rfl, q⟩ := hq
  exact kk _ q
theorem oc_Spi {index maxL dq : Nat} {y : MethodName} {bytes : ByteArray} {ty : FieldType} {st0 : List Value} {Q1 : Int32 → Prop} (As : List Value) (hM : ob_mi own index y bytes maxL (some ty) As.length) (w1 : Cond.static y ∈ obWS) (hT : ob_T y bytes maxL (some ty) (ob_rm dq) KS NN h As (ob_g (some ty) (ob_pi h Q1))) (hR1 : (ob_rm dq).frames + 1 ≤ R.frames ∧ 8 + (maxL + 11) + (ob_rm dq).locals ≤ R.locals) (hcs : ce ≤ R.cells ∧ sl ≤ R.slots) (hst0 : st0 = As.reverse ++ st) (hst : (st.map fun v => v.category).sum ≤ 8) (hdg : decode cc pc = .ok (.invokestatic index, 3))
    (kk : ∀ (v : Int32) (_ : ob_fits (some ty) (some (.int v))), Q1 v → ob_J own cc nL R ini sc ce sl KS NN h (pc + 3) lv (.int v :: st) Q) : ob_J own cc nL R ini sc ce sl KS NN h pc lv st0 Q := by
  refine oj_callS As hM w1 hT hR1 hcs hst0 hst hdg (fun r ks' n' h' hq => ?_)
  obtain ⟨f, rfl, rfl, rfl, v, rfl, q⟩ := hq
  exact kk v f q
theorem oc_Spl {index maxL dq : Nat} {y : MethodName} {bytes : ByteArray} {ty : FieldType} {st0 : List Value} {Q1 : Int64 → Prop} (As : List Value) (hM : ob_mi own index y bytes maxL (some ty) As.length) (w1 : Cond.static y ∈ obWS) (hT : ob_T y bytes maxL (some ty) (ob_rm dq) KS NN h As (ob_g (some ty) (ob_pl h Q1))) (hR1 : (ob_rm dq).frames + 1 ≤ R.frames ∧ 8 + (maxL + 11) + (ob_rm dq).locals ≤ R.locals) (hcs : ce ≤ R.cells ∧ sl ≤ R.slots) (hst0 : st0 = As.reverse ++ st) (hst : (st.map fun v => v.category).sum ≤ 8) (hdg : decode cc pc = .ok (.invokestatic index, 3))
    (kk : ∀ (v : Int64) (_ : ob_fits (some ty) (some (.long v))), Q1 v → ob_J own cc nL R ini sc ce sl KS NN h (pc + 3) lv (.long v :: st) Q) : ob_J own cc nL R ini sc ce sl KS NN h pc lv st0 Q := by
  refine oj_callS As hM w1 hT hR1 hcs hst0 hst hdg (fun r ks' n' h' hq => ?_)
  obtain ⟨f, rfl, rfl, rfl, v, rfl, q⟩ := hq
  exact kk v f q
theorem oc_Spv {index maxL dq : Nat} {y : MethodName} {bytes : ByteArray} {st0 : List Value} {Q1 : Prop} (As : List Value) (hM : ob_mi own index y bytes maxL none As.length) (w1 : Cond.static y ∈ obWS) (hT : ob_T y bytes maxL none (ob_rm dq) KS NN h As (ob_g none (ob_pv h Q1))) (hR1 : (ob_rm dq).frames + 1 ≤ R.frames ∧ 8 + (maxL + 11) + (ob_rm dq).locals ≤ R.locals) (hcs : ce ≤ R.cells ∧ sl ≤ R.slots) (hst0 : st0 = As.reverse ++ st) (hst : (st.map fun v => v.category).sum ≤ 8) (hdg : decode cc pc = .ok (.invokestatic index, 3))
    (kk : Q1 → ob_J own cc nL R ini sc ce sl KS NN h (pc + 3) lv (st) Q) : ob_J own cc nL R ini sc ce sl KS NN h pc lv st0 Q := by
  refine oj_callS As hM w1 hT hR1 hcs hst0 hst hdg (fun r ks' n' h' hq => ?_)
  obtain ⟨f, rfl, rfl, rfl, rfl, q⟩ := hq
  exact kk q
end OC
theorem ob_inU {ws : List Cond} (h : ws.all (fun w => decide (w ∈ tables_1) && goodWord w) = true) : ∀ w ∈ ws, w ∈ obWS := by
  intro w hw
  have h1 := List.all_eq_true.mp h w hw
  simp only [Bool.and_eq_true, decide_eq_true_eq] at h1
  exact List.mem_filter.mpr ⟨List.mem_append_right _ h1.1, h1.2⟩
theorem inX0 : ∀ w ∈ u_ws RX0 TX0 8, w ∈ obWS := ob_inU (by decide +kernel)
theorem inX1 : ∀ w ∈ u_ws RX1 TX1 7, w ∈ obWS := ob_inU (by decide +kernel)
theorem inX2 : ∀ w ∈ u_ws RX2 TX2 14, w ∈ obWS := ob_inU (by decide +kernel)
theorem inX3 : ∀ w ∈ u_ws RX3 TX3 4, w ∈ obWS := ob_inU (by decide +kernel)
theorem inX4 : ∀ w ∈ u_ws RX4 TX4 3, w ∈ obWS := ob_inU (by decide +kernel)
theorem inX5 : ∀ w ∈ u_ws RX5 TX5 12, w ∈ obWS := ob_inU (by decide +kernel)
theorem inX6 : ∀ w ∈ u_ws RX6 TX6 8, w ∈ obWS := ob_inU (by decide +kernel)
theorem inX7 : ∀ w ∈ u_ws RX7 TX7 4, w ∈ obWS := ob_inU (by decide +kernel)
theorem inX8 : ∀ w ∈ u_ws RX8 TX8 7, w ∈ obWS := ob_inU (by decide +kernel)
theorem inX9 : ∀ w ∈ u_ws RX9 TX9 15, w ∈ obWS := ob_inU (by decide +kernel)
theorem inX10 : ∀ w ∈ u_ws RX10 TX10 8, w ∈ obWS := ob_inU (by decide +kernel)
theorem inX11 : ∀ w ∈ u_ws RX11 TX11 12, w ∈ obWS := ob_inU (by decide +kernel)
theorem inX12 : ∀ w ∈ u_ws RX12 TX12 76, w ∈ obWS := ob_inU (by decide +kernel)
def rmI (i : Int32) : Nat := 52 + 5 * i.toNatClampNeg
def A4 (o : Nat) : Prop := ob_is KS NN o (9, [o + 5, 0, o + 6]) ∧ ob_is KS NN (o + 1) (0, [300]) ∧ ob_is KS NN (o + 2) (0, [32])
theorem A4_0 {o : Nat} (h : A4 o) : ob_is KS NN o (9, [o + 5, 0, o + 6]) := h.1
theorem A4_1 {o : Nat} (h : A4 o) : ob_is KS NN (o + 1) (0, [300]) := h.2.1
theorem A4_2 {o : Nat} (h : A4 o) : ob_is KS NN (o + 2) (0, [32]) := h.2.2
theorem AA4_13 : A4 13 := ⟨k_13, k_14, k_15⟩
theorem AA4_16 : A4 16 := ⟨k_16, k_17, k_18⟩
theorem AA4_28 : A4 28 := ⟨k_28, k_29, k_30⟩
theorem AA4_31 : A4 31 := ⟨k_31, k_32, k_33⟩
def A2 (o : Nat) : Prop := ob_is KS NN o (7, [0, o + 5, o + 6, o + 7, o + 8, o + 9, o + 10, o + 11, 0, 0, 0, 0, o + 12, o + 15]) ∧ ob_is KS NN (o + 1) (0, [7]) ∧ ob_is KS NN (o + 2) (0, [7]) ∧ ob_is KS NN (o + 3) (0, [7]) ∧ ob_is KS NN (o + 4) (0, [7]) ∧ ob_is KS NN (o + 5) (0, [7]) ∧ ob_is KS NN (o + 6) (0, [7]) ∧ ob_is KS NN (o + 7) (0, [49]) ∧ ob_is KS NN (o + 8) (9, [o + 13, 0, o + 14]) ∧ ob_is KS NN (o + 9) (0, [300]) ∧ ob_is KS NN (o + 10) (0, [32]) ∧ ob_is KS NN (o + 11) (9, [o + 16, 0, o + 17]) ∧ ob_is KS NN (o + 12) (0, [300]) ∧ ob_is KS NN (o + 13) (0, [32])
theorem A2_0 {o : Nat} (h : A2 o) : ob_is KS NN o (7, [0, o + 5, o + 6, o + 7, o + 8, o + 9, o + 10, o + 11, 0, 0, 0, 0, o + 12, o + 15]) := h.1
theorem A2_1 {o : Nat} (h : A2 o) : ob_is KS NN (o + 1) (0, [7]) := h.2.1
theorem A2_2 {o : Nat} (h : A2 o) : ob_is KS NN (o + 2) (0, [7]) := h.2.2.1
theorem A2_3 {o : Nat} (h : A2 o) : ob_is KS NN (o + 3) (0, [7]) := h.2.2.2.1
theorem A2_4 {o : Nat} (h : A2 o) : ob_is KS NN (o + 4) (0, [7]) := h.2.2.2.2.1
theorem A2_5 {o : Nat} (h : A2 o) : ob_is KS NN (o + 5) (0, [7]) := h.2.2.2.2.2.1
theorem A2_6 {o : Nat} (h : A2 o) : ob_is KS NN (o + 6) (0, [7]) := h.2.2.2.2.2.2.1
theorem A2_7 {o : Nat} (h : A2 o) : ob_is KS NN (o + 7) (0, [49]) := h.2.2.2.2.2.2.2.1
theorem A2_8 {o : Nat} (h : A2 o) : ob_is KS NN (o + 8) (9, [o + 13, 0, o + 14]) := h.2.2.2.2.2.2.2.2.1
theorem A2_9 {o : Nat} (h : A2 o) : ob_is KS NN (o + 9) (0, [300]) := h.2.2.2.2.2.2.2.2.2.1
theorem A2_10 {o : Nat} (h : A2 o) : ob_is KS NN (o + 10) (0, [32]) := h.2.2.2.2.2.2.2.2.2.2.1
theorem A2_11 {o : Nat} (h : A2 o) : ob_is KS NN (o + 11) (9, [o + 16, 0, o + 17]) := h.2.2.2.2.2.2.2.2.2.2.2.1
theorem A2_12 {o : Nat} (h : A2 o) : ob_is KS NN (o + 12) (0, [300]) := h.2.2.2.2.2.2.2.2.2.2.2.2.1
theorem A2_13 {o : Nat} (h : A2 o) : ob_is KS NN (o + 13) (0, [32]) := h.2.2.2.2.2.2.2.2.2.2.2.2.2
theorem AS2_8 {o : Nat} (h : A2 o) : A4 (o + 8) := ⟨A2_8 h, A2_9 h, A2_10 h⟩
theorem AS2_11 {o : Nat} (h : A2 o) : A4 (o + 11) := ⟨A2_11 h, A2_12 h, A2_13 h⟩
theorem AA2_5 : A2 5 := ⟨k_5, k_6, k_7, k_8, k_9, k_10, k_11, k_12, k_13, k_14, k_15, k_16, k_17, k_18⟩
theorem AA2_20 : A2 20 := ⟨k_20, k_21, k_22, k_23, k_24, k_25, k_26, k_27, k_28, k_29, k_30, k_31, k_32, k_33⟩
def A6 (o : Nat) : Prop := ob_is KS NN o (11, [o + 5, o + 6, o + 7, 0, 0, 0, 24, o + 8]) ∧ ob_is KS NN (o + 1) (0, [7]) ∧ ob_is KS NN (o + 2) (0, [7]) ∧ ob_is KS NN (o + 3) (0, [7]) ∧ ob_is KS NN (o + 4) (0, [6])
theorem A6_0 {o : Nat} (h : A6 o) : ob_is KS NN o (11, [o + 5, o + 6, o + 7, 0, 0, 0, 24, o + 8]) := h.1
theorem A6_1 {o : Nat} (h : A6 o) : ob_is KS NN (o + 1) (0, [7]) := h.2.1
theorem A6_2 {o : Nat} (h : A6 o) : ob_is KS NN (o + 2) (0, [7]) := h.2.2.1
theorem A6_3 {o : Nat} (h : A6 o) : ob_is KS NN (o + 3) (0, [7]) := h.2.2.2.1
theorem A6_4 {o : Nat} (h : A6 o) : ob_is KS NN (o + 4) (0, [6]) := h.2.2.2.2
theorem AA6_34 : A6 34 := ⟨k_34, k_35, k_36, k_37, k_38⟩
theorem AA6_42 : A6 42 := ⟨k_42, k_43, k_44, k_45, k_46⟩
theorem AA6_52 : A6 52 := ⟨k_52, k_53, k_54, k_55, k_56⟩
theorem AA6_57 : A6 57 := ⟨k_57, k_58, k_59, k_60, k_61⟩
theorem AA6_62 : A6 62 := ⟨k_62, k_63, k_64, k_65, k_66⟩
theorem AA6_67 : A6 67 := ⟨k_67, k_68, k_69, k_70, k_71⟩
theorem AA6_72 : A6 72 := ⟨k_72, k_73, k_74, k_75, k_76⟩
theorem AA6_77 : A6 77 := ⟨k_77, k_78, k_79, k_80, k_81⟩
theorem AA6_82 : A6 82 := ⟨k_82, k_83, k_84, k_85, k_86⟩
theorem AA6_87 : A6 87 := ⟨k_87, k_88, k_89, k_90, k_91⟩
theorem vp_nat {i : Int32} {N : Nat} (h : vp_in i N) : i.toNatClampNeg < N := Nat.not_le.mp fun q => h (Or.inr q)
theorem AA_rmI {i : Int32} (h : vp_in i 8) : A6 (rmI i) := by
  have h1 := vp_nat h
  unfold rmI
  generalize i.toNatClampNeg = j at h1 ⊢
  match j, h1 with
  | 0, _ => exact AA6_52
  | 1, _ => exact AA6_57
  | 2, _ => exact AA6_62
  | 3, _ => exact AA6_67
  | 4, _ => exact AA6_72
  | 5, _ => exact AA6_77
  | 6, _ => exact AA6_82
  | 7, _ => exact AA6_87
theorem rmI_c {i : Int32} (h : vp_in i 8) : ([56, 61, 66, 71, 76, 81, 86, 91] : List Nat)[i.toNatClampNeg]? = some (rmI i + 4) := by
  have h1 := vp_nat h
  unfold rmI
  generalize i.toNatClampNeg = j at h1 ⊢
  match j, h1 with
  | 0, _ => rfl
  | 1, _ => rfl
  | 2, _ => rfl
  | 3, _ => rfl
  | 4, _ => rfl
  | 5, _ => rfl
  | 6, _ => rfl
  | 7, _ => rfl
theorem ks_a : ∀ o, o < 152 → (KS o).1 = 10 → o = 4 := by decide +kernel
theorem ks_b : ∀ k, k < 12 → (KS 4).2[k]? = some 2 → k = 10 := by decide +kernel
theorem ks_c : ∀ o, o < 152 → o ≠ 4 → (KS o).1 < 5 ∨ 2 ∉ (KS o).2 := by decide +kernel
theorem ks_one : ∀ (o' k' : Nat) (codes' : List Nat), KS o' = (5 + 5, codes') → codes'[k']? = some 2 → o' < NN → o' = 4 ∧ k' = 10 := by
  intro o' k' codes' h1 h2 h3
  have e1 : o' = 4 := ks_a o' h3 (by rw [h1])
  subst e1
  have e2 : codes' = (KS 4).2 := by rw [h1]
  subst e2
  have hl : k' < 12 := (List.getElem?_eq_some_iff.mp h2).1
  exact ⟨rfl, ks_b k' hl h2⟩
theorem ks_one2 : ∀ o', o' < NN → o' ≠ 4 → (KS o').1 < 5 ∨ ∀ k' : Nat, (KS o').2[k']? ≠ some 2 := by
  intro o' h1 h2
  rcases ks_c o' h1 h2 with h | h
  · exact Or.inl h
  · exact Or.inr fun k' z => h (List.mem_of_getElem? z)
theorem cb_24 : (Int8.ofInt (24)).toInt32 = (24 : Int32) := by decide
theorem fl_RX10_13 : ob_fl RX10 13 10 1 false .int := ⟨RX10, TX10, 8, tyX10, rfl, inX10, by decide, ow_93, rfl, tyX10_ok, rfl, nmX10, rfl⟩
theorem cs_1600 : (Int16.ofInt (1600)).toInt32 = (1600 : Int32) := by decide
theorem fl_RX10_9 : ob_fl RX10 9 10 0 true (tyX10 0) := ⟨RX10, TX10, 8, tyX10, rfl, inX10, by decide, ow_92, rfl, tyX10_ok, rfl, nmX10, rfl⟩
theorem ci_1 : Int32.ofInt (1) = (1 : Int32) := by decide
theorem ci_m8 : Int32.ofInt (-8) = (-8 : Int32) := by decide
theorem fl_RX11_10 : ob_fl RX11 10 11 0 true (tyX11 0) := ⟨RX11, TX11, 12, tyX11, rfl, inX11, by decide, ow_546, rfl, tyX11_ok, rfl, nmX11, rfl⟩
theorem fl_RX11_102 : ob_fl RX11 102 10 1 false .int := ⟨RX10, TX10, 8, tyX10, rfl, inX10, by decide, ow_94, rfl, tyX10_ok, rfl, nmX10, rfl⟩
theorem cb_20 : (Int8.ofInt (20)).toInt32 = (20 : Int32) := by decide
theorem mi_RX11_105 : ob_mi RX11 105 yX10_put cX10_put 3 none 1 := ⟨ow_587, ow_2, ow_590, by decide +kernel⟩
theorem ci_m1 : Int32.ofInt (-1) = (-1 : Int32) := by decide
theorem ci_0 : Int32.ofInt (0) = (0 : Int32) := by decide
theorem fl_RX4_13 : ob_fl RX4 13 4 1 false .int := ⟨RX4, TX4, 3, tyX4, rfl, inX4, by decide, ow_143, rfl, tyX4_ok, rfl, nmX4, rfl⟩
theorem cs_300 : (Int16.ofInt (300)).toInt32 = (300 : Int32) := by decide
theorem fl_RX4_9 : ob_fl RX4 9 4 0 true (tyX4 0) := ⟨RX4, TX4, 3, tyX4, rfl, inX4, by decide, ow_142, rfl, tyX4_ok, rfl, nmX4, rfl⟩
theorem fl_RX2_7 : ob_fl RX2 7 2 0 false .int := ⟨RX2, TX2, 14, tyX2, rfl, inX2, by decide, ow_165, rfl, tyX2_ok, rfl, nmX2, rfl⟩
theorem fl_RX2_35 : ob_fl RX2 35 2 8 false .int := ⟨RX2, TX2, 14, tyX2, rfl, inX2, by decide, ow_202, rfl, tyX2_ok, rfl, nmX2, rfl⟩
theorem cb_100 : (Int8.ofInt (100)).toInt32 = (100 : Int32) := by decide
theorem fl_RX2_38 : ob_fl RX2 38 2 9 false .int := ⟨RX2, TX2, 14, tyX2, rfl, inX2, by decide, ow_205, rfl, tyX2_ok, rfl, nmX2, rfl⟩
theorem fl_RX2_41 : ob_fl RX2 41 2 10 false .int := ⟨RX2, TX2, 14, tyX2, rfl, inX2, by decide, ow_209, rfl, tyX2_ok, rfl, nmX2, rfl⟩
theorem fl_RX2_44 : ob_fl RX2 44 2 11 false .int := ⟨RX2, TX2, 14, tyX2, rfl, inX2, by decide, ow_212, rfl, tyX2_ok, rfl, nmX2, rfl⟩
theorem cb_7 : (Int8.ofInt (7)).toInt32 = (7 : Int32) := by decide
theorem cb_49 : (Int8.ofInt (49)).toInt32 = (49 : Int32) := by decide
theorem fl_RX2_50 : ob_fl RX2 50 2 12 true (tyX2 12) := ⟨RX2, TX2, 14, tyX2, rfl, inX2, by decide, ow_216, rfl, tyX2_ok, rfl, nmX2, rfl⟩
theorem mi_RX2_60 : ob_mi RX2 60 yX4_clear cX4_clear 1 none 0 := ⟨ow_157, ow_9, ow_160, by decide +kernel⟩
theorem cb_m100 : (Int8.ofInt (-100)).toInt32 = (-100 : Int32) := by decide
theorem mi_RX2_63 : ob_mi RX2 63 yX4_add cX4_add 2 none 1 := ⟨ow_161, ow_9, ow_164, by decide +kernel⟩
theorem fl_RX2_54 : ob_fl RX2 54 2 13 true (tyX2 13) := ⟨RX2, TX2, 14, tyX2, rfl, inX2, by decide, ow_218, rfl, tyX2_ok, rfl, nmX2, rfl⟩
theorem fl_RX2_32 : ob_fl RX2 32 2 7 true (tyX2 7) := ⟨RX2, TX2, 14, tyX2, rfl, inX2, by decide, ow_199, rfl, tyX2_ok, rfl, nmX2, rfl⟩
theorem fl_RX2_26 : ob_fl RX2 26 2 5 true (tyX2 5) := ⟨RX2, TX2, 14, tyX2, rfl, inX2, by decide, ow_191, rfl, tyX2_ok, rfl, nmX2, rfl⟩
theorem fl_RX2_29 : ob_fl RX2 29 2 6 true (tyX2 6) := ⟨RX2, TX2, 14, tyX2, rfl, inX2, by decide, ow_195, rfl, tyX2_ok, rfl, nmX2, rfl⟩
theorem cb_97 : (Int8.ofInt (97)).toInt32 = (97 : Int32) := by decide
theorem cb_122 : (Int8.ofInt (122)).toInt32 = (122 : Int32) := by decide
theorem lc_1 : Int64.ofNat ((1 : Fin 2) : Nat) = 1 := by decide
theorem lc_0 : Int64.ofNat ((0 : Fin 2) : Nat) = 0 := by decide
theorem fl_RX10_30 : ob_fl RX10 30 10 6 false .int := ⟨RX10, TX10, 8, tyX10, rfl, inX10, by decide, ow_103, rfl, tyX10_ok, rfl, nmX10, rfl⟩
theorem fl_RX10_26 : ob_fl RX10 26 10 5 false .long := ⟨RX10, TX10, 8, tyX10, rfl, inX10, by decide, ow_101, rfl, tyX10_ok, rfl, nmX10, rfl⟩
theorem cb_8 : (Int8.ofInt (8)).toInt32 = (8 : Int32) := by decide
theorem fl_RX10_17 : ob_fl RX10 17 10 2 false .int := ⟨RX10, TX10, 8, tyX10, rfl, inX10, by decide, ow_95, rfl, tyX10_ok, rfl, nmX10, rfl⟩
theorem ci_2 : Int32.ofInt (2) = (2 : Int32) := by decide
theorem fl_RX10_33 : ob_fl RX10 33 10 7 true (tyX10 7) := ⟨RX10, TX10, 8, tyX10, rfl, inX10, by decide, ow_104, rfl, tyX10_ok, rfl, nmX10, rfl⟩
theorem mi_RX10_48 : ob_mi RX10 48 yX10_isLetter cX10_isLetter 1 (some .boolean) 1 := ⟨ow_84, ow_2, ow_86, by decide +kernel⟩
theorem mi_RX10_52 : ob_mi RX10 52 yX10_withLetter cX10_withLetter 3 (some .long) 2 := ⟨ow_87, ow_2, ow_89, by decide +kernel⟩
theorem cb_48 : (Int8.ofInt (48)).toInt32 = (48 : Int32) := by decide
theorem cb_57 : (Int8.ofInt (57)).toInt32 = (57 : Int32) := by decide
theorem fl_RX10_23 : ob_fl RX10 23 10 4 false .int := ⟨RX10, TX10, 8, tyX10, rfl, inX10, by decide, ow_99, rfl, tyX10_ok, rfl, nmX10, rfl⟩
theorem ci_4 : Int32.ofInt (4) = (4 : Int32) := by decide
theorem ci_3 : Int32.ofInt (3) = (3 : Int32) := by decide
theorem mi_RX10_62 : ob_mi RX10 62 yX10_isDigit cX10_isDigit 1 (some .boolean) 1 := ⟨ow_616, ow_2, ow_618, by decide +kernel⟩
theorem cb_10 : (Int8.ofInt (10)).toInt32 = (10 : Int32) := by decide
theorem fl_RX10_20 : ob_fl RX10 20 10 3 false .int := ⟨RX10, TX10, 8, tyX10, rfl, inX10, by decide, ow_97, rfl, tyX10_ok, rfl, nmX10, rfl⟩
theorem mi_RX10_68 : ob_mi RX10 68 yX10_isSign cX10_isSign 1 (some .boolean) 1 := ⟨ow_623, ow_2, ow_625, by decide +kernel⟩
theorem mi_RX10_65 : ob_mi RX10 65 yX10_readNumber cX10_readNumber 3 none 0 := ⟨ow_619, ow_2, ow_622, by decide +kernel⟩
theorem mi_RX10_59 : ob_mi RX10 59 yX10_readWord cX10_readWord 5 none 0 := ⟨ow_612, ow_2, ow_615, by decide +kernel⟩
theorem cb_32 : (Int8.ofInt (32)).toInt32 = (32 : Int32) := by decide
theorem mi_RX10_56 : ob_mi RX10 56 yX10_step cX10_step 2 none 0 := ⟨ow_608, ow_2, ow_611, by decide +kernel⟩
theorem fl_RX5_18 : ob_fl RX5 18 5 1 false .int := ⟨RX5, TX5, 12, tyX5, rfl, inX5, by decide, ow_252, rfl, tyX5_ok, rfl, nmX5, rfl⟩
theorem fl_RX5_54 : ob_fl RX5 54 5 3 true (tyX5 3) := ⟨RX5, TX5, 12, tyX5, rfl, inX5, by decide, ow_256, rfl, tyX5_ok, rfl, nmX5, rfl⟩
theorem fl_RX5_195 : ob_fl RX5 195 10 3 false .int := ⟨RX10, TX10, 8, tyX10, rfl, inX10, by decide, ow_98, rfl, tyX10_ok, rfl, nmX10, rfl⟩
theorem fl_RX5_22 : ob_fl RX5 22 5 2 false .int := ⟨RX5, TX5, 12, tyX5, rfl, inX5, by decide, ow_254, rfl, tyX5_ok, rfl, nmX5, rfl⟩
theorem fl_RX5_66 : ob_fl RX5 66 10 2 false .int := ⟨RX10, TX10, 8, tyX10, rfl, inX10, by decide, ow_96, rfl, tyX10_ok, rfl, nmX10, rfl⟩
theorem mi_RX5_144 : ob_mi RX5 144 yX5_refuse cX5_refuse 2 (some .boolean) 1 := ⟨ow_634, ow_7, ow_637, by decide +kernel⟩
theorem fl_RX5_12 : ob_fl RX5 12 5 0 true (tyX5 0) := ⟨RX5, TX5, 12, tyX5, rfl, inX5, by decide, ow_250, rfl, tyX5_ok, rfl, nmX5, rfl⟩
theorem fl_RX5_103 : ob_fl RX5 103 2 0 false .int := ⟨RX2, TX2, 14, tyX2, rfl, inX2, by decide, ow_168, rfl, tyX2_ok, rfl, nmX2, rfl⟩
theorem fl_RX5_25 : ob_fl RX5 25 5 4 true (tyX5 4) := ⟨RX5, TX5, 12, tyX5, rfl, inX5, by decide, ow_257, rfl, tyX5_ok, rfl, nmX5, rfl⟩
theorem fl_RX5_191 : ob_fl RX5 191 10 5 false .long := ⟨RX10, TX10, 8, tyX10, rfl, inX10, by decide, ow_102, rfl, tyX10_ok, rfl, nmX10, rfl⟩
theorem mi_RX5_187 : ob_mi RX5 187 yX5_find cX5_find 2 (some .int) 0 := ⟨ow_643, ow_7, ow_646, by decide +kernel⟩
theorem mi_RX5_106 : ob_mi RX5 106 yX10_step cX10_step 2 none 0 := ⟨ow_638, ow_2, ow_611, by decide +kernel⟩
theorem mi_RX5_100 : ob_mi RX5 100 yX5_misplaced cX5_misplaced 1 (some .boolean) 0 := ⟨ow_630, ow_7, ow_633, by decide +kernel⟩
theorem fl_RX5_184 : ob_fl RX5 184 10 4 false .int := ⟨RX10, TX10, 8, tyX10, rfl, inX10, by decide, ow_100, rfl, tyX10_ok, rfl, nmX10, rfl⟩
theorem fl_RX5_35 : ob_fl RX5 35 5 7 false .int := ⟨RX5, TX5, 12, tyX5, rfl, inX5, by decide, ow_260, rfl, tyX5_ok, rfl, nmX5, rfl⟩
theorem mi_RX5_109 : ob_mi RX5 109 yX5_readNewName cX5_readNewName 2 (some .boolean) 1 := ⟨ow_639, ow_7, ow_642, by decide +kernel⟩
theorem mi_RX5_113 : ob_mi RX5 113 yX5_take cX5_take 2 (some .boolean) 1 := ⟨ow_647, ow_7, ow_650, by decide +kernel⟩
theorem cb_99 : (Int8.ofInt (99)).toInt32 = (99 : Int32) := by decide
theorem mi_RX5_116 : ob_mi RX5 116 yX5_readAmount cX5_readAmount 3 (some .boolean) 2 := ⟨ow_651, ow_7, ow_654, by decide +kernel⟩
theorem fl_RX5_120 : ob_fl RX5 120 2 1 true (tyX2 1) := ⟨RX2, TX2, 14, tyX2, rfl, inX2, by decide, ow_175, rfl, tyX2_ok, rfl, nmX2, rfl⟩
theorem cb_101 : (Int8.ofInt (101)).toInt32 = (101 : Int32) := by decide
theorem cb_60 : (Int8.ofInt (60)).toInt32 = (60 : Int32) := by decide
theorem fl_RX5_123 : ob_fl RX5 123 2 2 true (tyX2 2) := ⟨RX2, TX2, 14, tyX2, rfl, inX2, by decide, ow_181, rfl, tyX2_ok, rfl, nmX2, rfl⟩
theorem cs_999 : (Int16.ofInt (999)).toInt32 = (999 : Int32) := by decide
theorem cb_107 : (Int8.ofInt (107)).toInt32 = (107 : Int32) := by decide
theorem fl_RX5_126 : ob_fl RX5 126 2 3 true (tyX2 3) := ⟨RX2, TX2, 14, tyX2, rfl, inX2, by decide, ow_185, rfl, tyX2_ok, rfl, nmX2, rfl⟩
theorem cb_108 : (Int8.ofInt (108)).toInt32 = (108 : Int32) := by decide
theorem fl_RX5_129 : ob_fl RX5 129 2 4 true (tyX2 4) := ⟨RX2, TX2, 14, tyX2, rfl, inX2, by decide, ow_188, rfl, tyX2_ok, rfl, nmX2, rfl⟩
theorem cb_109 : (Int8.ofInt (109)).toInt32 = (109 : Int32) := by decide
theorem cb_59 : (Int8.ofInt (59)).toInt32 = (59 : Int32) := by decide
theorem fl_RX5_132 : ob_fl RX5 132 2 8 false .int := ⟨RX2, TX2, 14, tyX2, rfl, inX2, by decide, ow_204, rfl, tyX2_ok, rfl, nmX2, rfl⟩
theorem cb_16 : (Int8.ofInt (16)).toInt32 = (16 : Int32) := by decide
theorem cb_63 : (Int8.ofInt (63)).toInt32 = (63 : Int32) := by decide
theorem fl_RX5_38 : ob_fl RX5 38 5 8 false .int := ⟨RX5, TX5, 12, tyX5, rfl, inX5, by decide, ow_261, rfl, tyX5_ok, rfl, nmX5, rfl⟩
theorem fl_RX5_41 : ob_fl RX5 41 5 9 false .int := ⟨RX5, TX5, 12, tyX5, rfl, inX5, by decide, ow_262, rfl, tyX5_ok, rfl, nmX5, rfl⟩
theorem ci_5 : Int32.ofInt (5) = (5 : Int32) := by decide
theorem mi_RX5_141 : ob_mi RX5 141 yX5_readTwoNames cX5_readTwoNames 1 (some .boolean) 0 := ⟨ow_665, ow_7, ow_668, by decide +kernel⟩
theorem mi_RX5_135 : ob_mi RX5 135 yJ6_bitCount_0f7a4 cJ6_bitCount_0f7a4 1 (some .int) 1 := ⟨ow_659, ow_18, ow_661, by decide +kernel⟩
theorem fl_RX5_32 : ob_fl RX5 32 5 6 false .int := ⟨RX5, TX5, 12, tyX5, rfl, inX5, by decide, ow_259, rfl, tyX5_ok, rfl, nmX5, rfl⟩
theorem cb_6 : (Int8.ofInt (6)).toInt32 = (6 : Int32) := by decide
theorem fl_RX5_147 : ob_fl RX5 147 2 7 true (tyX2 7) := ⟨RX2, TX2, 14, tyX2, rfl, inX2, by decide, ow_201, rfl, tyX2_ok, rfl, nmX2, rfl⟩
theorem cb_113 : (Int8.ofInt (113)).toInt32 = (113 : Int32) := by decide
theorem fl_RX5_29 : ob_fl RX5 29 5 5 false .int := ⟨RX5, TX5, 12, tyX5, rfl, inX5, by decide, ow_258, rfl, tyX5_ok, rfl, nmX5, rfl⟩
theorem cb_105 : (Int8.ofInt (105)).toInt32 = (105 : Int32) := by decide
theorem mi_RX5_156 : ob_mi RX5 156 yX5_readPart cX5_readPart 5 (some .boolean) 2 := ⟨ow_682, ow_7, ow_685, by decide +kernel⟩
theorem fl_RX5_48 : ob_fl RX5 48 5 10 false (tyX5 10) := ⟨RX5, TX5, 12, tyX5, rfl, inX5, by decide, ow_263, rfl, tyX5_ok, rfl, nmX5, rfl⟩
theorem cb_m119 : (Int8.ofInt (-119)).toInt32 = (-119 : Int32) := by decide
theorem mi_RX5_174 : ob_mi RX5 174 yX4_add cX4_add 2 none 1 := ⟨ow_693, ow_9, ow_164, by decide +kernel⟩
theorem cb_40 : (Int8.ofInt (40)).toInt32 = (40 : Int32) := by decide
theorem fl_RX5_51 : ob_fl RX5 51 5 11 false .int := ⟨RX5, TX5, 12, tyX5, rfl, inX5, by decide, ow_264, rfl, tyX5_ok, rfl, nmX5, rfl⟩
theorem cb_30 : (Int8.ofInt (30)).toInt32 = (30 : Int32) := by decide
theorem fl_RX5_181 : ob_fl RX5 181 2 11 false .int := ⟨RX2, TX2, 14, tyX2, rfl, inX2, by decide, ow_213, rfl, tyX2_ok, rfl, nmX2, rfl⟩
theorem cb_41 : (Int8.ofInt (41)).toInt32 = (41 : Int32) := by decide
theorem mi_RX5_178 : ob_mi RX5 178 yX4_isFact cX4_isFact 1 (some .boolean) 1 := ⟨ow_690, ow_9, ow_692, by decide +kernel⟩
theorem mi_RX5_171 : ob_mi RX5 171 yX5_levelOf cX5_levelOf 1 (some .int) 1 := ⟨ow_698, ow_7, ow_700, by decide +kernel⟩
theorem cb_119 : (Int8.ofInt (119)).toInt32 = (119 : Int32) := by decide
theorem mi_RX5_168 : ob_mi RX5 168 yX5_readNot cX5_readNot 2 (some .boolean) 1 := ⟨ow_694, ow_7, ow_697, by decide +kernel⟩
theorem mi_RX5_165 : ob_mi RX5 165 yX5_readUnit cX5_readUnit 5 (some .boolean) 1 := ⟨ow_686, ow_7, ow_689, by decide +kernel⟩
theorem mi_RX5_150 : ob_mi RX5 150 yX5_beginOnce cX5_beginOnce 2 (some .boolean) 0 := ⟨ow_677, ow_7, ow_680, by decide +kernel⟩
theorem mi_RX5_153 : ob_mi RX5 153 yX4_clear cX4_clear 1 none 0 := ⟨ow_681, ow_9, ow_160, by decide +kernel⟩
theorem fl_RX5_159 : ob_fl RX5 159 2 9 false .int := ⟨RX2, TX2, 14, tyX2, rfl, inX2, by decide, ow_207, rfl, tyX2_ok, rfl, nmX2, rfl⟩
theorem fl_RX5_162 : ob_fl RX5 162 2 10 false .int := ⟨RX2, TX2, 14, tyX2, rfl, inX2, by decide, ow_211, rfl, tyX2_ok, rfl, nmX2, rfl⟩
theorem mi_RX5_58 : ob_mi RX5 58 yX2_clear cX2_clear 2 none 0 := ⟨ow_603, ow_8, ow_156, by decide +kernel⟩
theorem mi_RX5_61 : ob_mi RX5 61 yX10_rewind cX10_rewind 1 none 0 := ⟨ow_604, ow_2, ow_607, by decide +kernel⟩
theorem mi_RX5_69 : ob_mi RX5 69 yX5_readObjector cX5_readObjector 2 (some .boolean) 0 := ⟨ow_626, ow_7, ow_629, by decide +kernel⟩
theorem fl_RX5_73 : ob_fl RX5 73 2 5 true (tyX2 5) := ⟨RX2, TX2, 14, tyX2, rfl, inX2, by decide, ow_192, rfl, tyX2_ok, rfl, nmX2, rfl⟩
theorem cb_12 : (Int8.ofInt (12)).toInt32 = (12 : Int32) := by decide
theorem mi_RX5_77 : ob_mi RX5 77 yX5_readWhom cX5_readWhom 5 (some .boolean) 2 := ⟨ow_655, ow_7, ow_658, by decide +kernel⟩
theorem fl_RX5_81 : ob_fl RX5 81 2 6 true (tyX2 6) := ⟨RX2, TX2, 14, tyX2, rfl, inX2, by decide, ow_196, rfl, tyX2_ok, rfl, nmX2, rfl⟩
theorem mi_RX5_84 : ob_mi RX5 84 yX5_readJoined cX5_readJoined 1 (some .boolean) 0 := ⟨ow_669, ow_7, ow_672, by decide +kernel⟩
theorem fl_RX5_44 : ob_fl RX5 44 2 12 true (tyX2 12) := ⟨RX2, TX2, 14, tyX2, rfl, inX2, by decide, ow_215, rfl, tyX2_ok, rfl, nmX2, rfl⟩
theorem mi_RX5_87 : ob_mi RX5 87 yX5_readFormula cX5_readFormula 2 (some .boolean) 1 := ⟨ow_673, ow_7, ow_676, by decide +kernel⟩
theorem fl_RX5_91 : ob_fl RX5 91 2 13 true (tyX2 13) := ⟨RX2, TX2, 14, tyX2, rfl, inX2, by decide, ow_219, rfl, tyX2_ok, rfl, nmX2, rfl⟩
theorem mi_RX5_94 : ob_mi RX5 94 yX5_readBar cX5_readBar 1 (some .boolean) 0 := ⟨ow_701, ow_7, ow_704, by decide +kernel⟩
theorem mi_RX5_97 : ob_mi RX5 97 yX5_readDraw cX5_readDraw 1 (some .boolean) 0 := ⟨ow_705, ow_7, ow_708, by decide +kernel⟩
theorem nn_0 : ¬ (0 : Int32) < 0 := by decide
theorem ix_0 : (0 : Int32).toNatClampNeg = 0 := by decide
theorem fl_RX2_13 : ob_fl RX2 13 2 1 true (tyX2 1) := ⟨RX2, TX2, 14, tyX2, rfl, inX2, by decide, ow_173, rfl, tyX2_ok, rfl, nmX2, rfl⟩
theorem nn_7 : ¬ (7 : Int32) < 0 := by decide
theorem ix_7 : (7 : Int32).toNatClampNeg = 7 := by decide
theorem fl_RX2_17 : ob_fl RX2 17 2 2 true (tyX2 2) := ⟨RX2, TX2, 14, tyX2, rfl, inX2, by decide, ow_180, rfl, tyX2_ok, rfl, nmX2, rfl⟩
theorem fl_RX2_20 : ob_fl RX2 20 2 3 true (tyX2 3) := ⟨RX2, TX2, 14, tyX2, rfl, inX2, by decide, ow_184, rfl, tyX2_ok, rfl, nmX2, rfl⟩
theorem fl_RX2_23 : ob_fl RX2 23 2 4 true (tyX2 4) := ⟨RX2, TX2, 14, tyX2, rfl, inX2, by decide, ow_187, rfl, tyX2_ok, rfl, nmX2, rfl⟩
theorem nn_49 : ¬ (49 : Int32) < 0 := by decide
theorem ix_49 : (49 : Int32).toNatClampNeg = 49 := by decide
theorem mi_RX2_73 : ob_mi RX2 73 yX4_copy cX4_copy 2 none 1 := ⟨ow_716, ow_9, ow_719, by decide +kernel⟩
theorem fl_RX6_13 : ob_fl RX6 13 6 0 true (tyX6 0) := ⟨RX6, TX6, 8, tyX6, rfl, inX6, by decide, ow_298, rfl, tyX6_ok, rfl, nmX6, rfl⟩
theorem fl_RX6_38 : ob_fl RX6 38 6 6 true (tyX6 6) := ⟨RX6, TX6, 8, tyX6, rfl, inX6, by decide, ow_317, rfl, tyX6_ok, rfl, nmX6, rfl⟩
theorem fl_RX6_42 : ob_fl RX6 42 2 8 false .int := ⟨RX2, TX2, 14, tyX2, rfl, inX2, by decide, ow_203, rfl, tyX2_ok, rfl, nmX2, rfl⟩
theorem in_6_7 : vp_in 6 7 := by unfold vp_in; decide
theorem ix_6 : (6 : Int32).toNatClampNeg = 6 := by decide
theorem fl_RX6_45 : ob_fl RX6 45 2 0 false .int := ⟨RX2, TX2, 14, tyX2, rfl, inX2, by decide, ow_167, rfl, tyX2_ok, rfl, nmX2, rfl⟩
theorem in_0_7 : vp_in 0 7 := by unfold vp_in; decide
theorem fl_RX6_23 : ob_fl RX6 23 6 3 false .int := ⟨RX6, TX6, 8, tyX6, rfl, inX6, by decide, ow_308, rfl, tyX6_ok, rfl, nmX6, rfl⟩
theorem fl_RX6_27 : ob_fl RX6 27 6 4 false .int := ⟨RX6, TX6, 8, tyX6, rfl, inX6, by decide, ow_313, rfl, tyX6_ok, rfl, nmX6, rfl⟩
theorem fl_RX6_48 : ob_fl RX6 48 2 10 false .int := ⟨RX2, TX2, 14, tyX2, rfl, inX2, by decide, ow_210, rfl, tyX2_ok, rfl, nmX2, rfl⟩
theorem fl_RX6_30 : ob_fl RX6 30 6 5 false .int := ⟨RX6, TX6, 8, tyX6, rfl, inX6, by decide, ow_315, rfl, tyX6_ok, rfl, nmX6, rfl⟩
theorem fl_RX6_17 : ob_fl RX6 17 6 1 true (tyX6 1) := ⟨RX6, TX6, 8, tyX6, rfl, inX6, by decide, ow_303, rfl, tyX6_ok, rfl, nmX6, rfl⟩
theorem fl_RX6_20 : ob_fl RX6 20 6 2 true (tyX6 2) := ⟨RX6, TX6, 8, tyX6, rfl, inX6, by decide, ow_306, rfl, tyX6_ok, rfl, nmX6, rfl⟩
theorem fl_RX1_24 : ob_fl RX1 24 1 4 false .int := ⟨RX1, TX1, 7, tyX1, rfl, inX1, by decide, ow_467, rfl, tyX1_ok, rfl, nmX1, rfl⟩
theorem fl_RX1_11 : ob_fl RX1 11 1 0 false .int := ⟨RX1, TX1, 7, tyX1, rfl, inX1, by decide, ow_461, rfl, tyX1_ok, rfl, nmX1, rfl⟩
theorem fl_RX1_15 : ob_fl RX1 15 1 1 false .int := ⟨RX1, TX1, 7, tyX1, rfl, inX1, by decide, ow_463, rfl, tyX1_ok, rfl, nmX1, rfl⟩
theorem fl_RX1_30 : ob_fl RX1 30 1 6 false .int := ⟨RX1, TX1, 7, tyX1, rfl, inX1, by decide, ow_469, rfl, tyX1_ok, rfl, nmX1, rfl⟩
theorem fl_RX9_11 : ob_fl RX9 11 9 0 false .int := ⟨RX9, TX9, 15, tyX9, rfl, inX9, by decide, ow_491, rfl, tyX9_ok, rfl, nmX9, rfl⟩
theorem fl_RX9_46 : ob_fl RX9 46 9 12 false .boolean := ⟨RX9, TX9, 15, tyX9, rfl, inX9, by decide, ow_507, rfl, tyX9_ok, rfl, nmX9, rfl⟩
theorem fl_RX11_21 : ob_fl RX11 21 11 1 true (tyX11 1) := ⟨RX11, TX11, 12, tyX11, rfl, inX11, by decide, ow_547, rfl, tyX11_ok, rfl, nmX11, rfl⟩
theorem mi_RX11_109 : ob_mi RX11 109 yX5_read cX5_read 3 (some .boolean) 0 := ⟨ow_599, ow_7, ow_602, by decide +kernel⟩
theorem fl_RX11_28 : ob_fl RX11 28 11 2 true (tyX11 2) := ⟨RX11, TX11, 12, tyX11, rfl, inX11, by decide, ow_548, rfl, tyX11_ok, rfl, nmX11, rfl⟩
theorem fl_RX11_113 : ob_fl RX11 113 5 0 true (tyX5 0) := ⟨RX5, TX5, 12, tyX5, rfl, inX5, by decide, ow_251, rfl, tyX5_ok, rfl, nmX5, rfl⟩
theorem mi_RX11_116 : ob_mi RX11 116 yX2_copy cX2_copy 2 none 1 := ⟨ow_709, ow_8, ow_712, by decide +kernel⟩
theorem fl_RX11_37 : ob_fl RX11 37 11 3 true (tyX11 3) := ⟨RX11, TX11, 12, tyX11, rfl, inX11, by decide, ow_549, rfl, tyX11_ok, rfl, nmX11, rfl⟩
theorem mi_RX11_99 : ob_mi RX11 99 yX6_begin cX6_begin 2 none 0 := ⟨ow_542, ow_10, ow_545, by decide +kernel⟩
theorem fl_RX11_78 : ob_fl RX11 78 11 8 true (tyX11 8) := ⟨RX11, TX11, 12, tyX11, rfl, inX11, by decide, ow_554, rfl, tyX11_ok, rfl, nmX11, rfl⟩
theorem mi_RX11_119 : ob_mi RX11 119 yX1_forgetActs cX1_forgetActs 1 none 0 := ⟨ow_721, ow_15, ow_724, by decide +kernel⟩
theorem mi_RX11_122 : ob_mi RX11 122 yX1_emptyBoxes cX1_emptyBoxes 1 none 0 := ⟨ow_725, ow_15, ow_728, by decide +kernel⟩
theorem fl_RX11_87 : ob_fl RX11 87 11 9 true (tyX11 9) := ⟨RX11, TX11, 12, tyX11, rfl, inX11, by decide, ow_555, rfl, tyX11_ok, rfl, nmX11, rfl⟩
theorem mi_RX11_125 : ob_mi RX11 125 yX9_forget cX9_forget 1 none 0 := ⟨ow_729, ow_16, ow_732, by decide +kernel⟩
theorem fl_RX11_95 : ob_fl RX11 95 11 11 false .int := ⟨RX11, TX11, 12, tyX11, rfl, inX11, by decide, ow_557, rfl, tyX11_ok, rfl, nmX11, rfl⟩
theorem fl_RX11_128 : ob_fl RX11 128 2 0 false .int := ⟨RX2, TX2, 14, tyX2, rfl, inX2, by decide, ow_171, rfl, tyX2_ok, rfl, nmX2, rfl⟩
theorem fl_RX11_131 : ob_fl RX11 131 5 1 false .int := ⟨RX5, TX5, 12, tyX5, rfl, inX5, by decide, ow_253, rfl, tyX5_ok, rfl, nmX5, rfl⟩
theorem fl_RX11_134 : ob_fl RX11 134 5 2 false .int := ⟨RX5, TX5, 12, tyX5, rfl, inX5, by decide, ow_255, rfl, tyX5_ok, rfl, nmX5, rfl⟩
theorem cb_m2 : (Int8.ofInt (-2)).toInt32 = (-2 : Int32) := by decide
theorem mi_RX11_137 : ob_mi RX11 137 yX11_isTold cX11_isTold 2 (some .boolean) 1 := ⟨ow_741, ow_1, ow_744, by decide +kernel⟩
theorem mi_RX11_141 : ob_mi RX11 141 yX6_sortOf cX6_sortOf 3 (some .int) 1 := ⟨ow_745, ow_10, ow_748, by decide +kernel⟩
theorem fl_RX11_145 : ob_fl RX11 145 2 1 true (tyX2 1) := ⟨RX2, TX2, 14, tyX2, rfl, inX2, by decide, ow_176, rfl, tyX2_ok, rfl, nmX2, rfl⟩
theorem fl_RX11_148 : ob_fl RX11 148 2 2 true (tyX2 2) := ⟨RX2, TX2, 14, tyX2, rfl, inX2, by decide, ow_182, rfl, tyX2_ok, rfl, nmX2, rfl⟩
theorem fl_RX11_151 : ob_fl RX11 151 6 1 true (tyX6 1) := ⟨RX6, TX6, 8, tyX6, rfl, inX6, by decide, ow_304, rfl, tyX6_ok, rfl, nmX6, rfl⟩
theorem mi_RX11_154 : ob_mi RX11 154 yX6_waits cX6_waits 2 (some .boolean) 1 := ⟨ow_749, ow_10, ow_752, by decide +kernel⟩
theorem mi_RX11_157 : ob_mi RX11 157 yX6_waited cX6_waited 2 (some .int) 1 := ⟨ow_753, ow_10, ow_756, by decide +kernel⟩
theorem fl_RX11_160 : ob_fl RX11 160 2 4 true (tyX2 4) := ⟨RX2, TX2, 14, tyX2, rfl, inX2, by decide, ow_190, rfl, tyX2_ok, rfl, nmX2, rfl⟩
theorem fl_RX11_163 : ob_fl RX11 163 2 5 true (tyX2 5) := ⟨RX2, TX2, 14, tyX2, rfl, inX2, by decide, ow_193, rfl, tyX2_ok, rfl, nmX2, rfl⟩
theorem fl_RX11_166 : ob_fl RX11 166 2 6 true (tyX2 6) := ⟨RX2, TX2, 14, tyX2, rfl, inX2, by decide, ow_197, rfl, tyX2_ok, rfl, nmX2, rfl⟩
theorem fl_RX6_35 : ob_fl RX6 35 6 7 true (tyX6 7) := ⟨RX6, TX6, 8, tyX6, rfl, inX6, by decide, ow_318, rfl, tyX6_ok, rfl, nmX6, rfl⟩
theorem in_0_6 : vp_in 0 6 := by unfold vp_in; decide
theorem fl_RX6_75 : ob_fl RX6 75 2 2 true (tyX2 2) := ⟨RX2, TX2, 14, tyX2, rfl, inX2, by decide, ow_183, rfl, tyX2_ok, rfl, nmX2, rfl⟩
theorem in_1_6 : vp_in 1 6 := by unfold vp_in; decide
theorem ix_1 : (1 : Int32).toNatClampNeg = 1 := by decide
theorem mi_RX6_78 : ob_mi RX6 78 yX6_waited cX6_waited 2 (some .int) 1 := ⟨ow_773, ow_10, ow_756, by decide +kernel⟩
theorem in_2_6 : vp_in 2 6 := by unfold vp_in; decide
theorem ix_2 : (2 : Int32).toNatClampNeg = 2 := by decide
theorem in_3_6 : vp_in 3 6 := by unfold vp_in; decide
theorem ix_3 : (3 : Int32).toNatClampNeg = 3 := by decide
theorem in_1_7 : vp_in 1 7 := by unfold vp_in; decide
theorem in_2_7 : vp_in 2 7 := by unfold vp_in; decide
theorem mi_RX6_82 : ob_mi RX6 82 yJ6_bitCount_0f7a4 cJ6_bitCount_0f7a4 1 (some .int) 1 := ⟨ow_774, ow_18, ow_661, by decide +kernel⟩
theorem in_4_6 : vp_in 4 6 := by unfold vp_in; decide
theorem ix_4 : (4 : Int32).toNatClampNeg = 4 := by decide
theorem in_5_6 : vp_in 5 6 := by unfold vp_in; decide
theorem ix_5 : (5 : Int32).toNatClampNeg = 5 := by decide
theorem fl_RX4_17 : ob_fl RX4 17 4 2 true (tyX4 2) := ⟨RX4, TX4, 3, tyX4, rfl, inX4, by decide, ow_144, rfl, tyX4_ok, rfl, nmX4, rfl⟩
theorem in_0_32 : vp_in 0 32 := by unfold vp_in; decide
theorem mi_RX4_28 : ob_mi RX4 28 yX4_isFact cX4_isFact 1 (some .boolean) 1 := ⟨ow_779, ow_9, ow_692, by decide +kernel⟩
theorem mi_RX4_32 : ob_mi RX4 32 yX4_join cX4_join 3 (some .int) 3 := ⟨ow_780, ow_9, ow_782, by decide +kernel⟩
theorem mi_RX6_57 : ob_mi RX6 57 yX6_gather cX6_gather 3 none 2 := ⟨ow_769, ow_10, ow_772, by decide +kernel⟩
theorem fl_RX6_61 : ob_fl RX6 61 2 12 true (tyX2 12) := ⟨RX2, TX2, 14, tyX2, rfl, inX2, by decide, ow_217, rfl, tyX2_ok, rfl, nmX2, rfl⟩
theorem mi_RX6_65 : ob_mi RX6 65 yX4_value cX4_value 5 (some .int) 1 := ⟨ow_775, ow_9, ow_778, by decide +kernel⟩
theorem mi_RX11_169 : ob_mi RX11 169 yX11_isWaiting cX11_isWaiting 2 (some .boolean) 1 := ⟨ow_761, ow_1, ow_764, by decide +kernel⟩
theorem mi_RX11_172 : ob_mi RX11 172 yX6_orderOf cX6_orderOf 3 (some .int) 2 := ⟨ow_765, ow_10, ow_768, by decide +kernel⟩
theorem mi_RX6_87 : ob_mi RX6 87 yX6_waits cX6_waits 2 (some .boolean) 1 := ⟨ow_792, ow_10, ow_752, by decide +kernel⟩
theorem fl_RX6_69 : ob_fl RX6 69 2 1 true (tyX2 1) := ⟨RX2, TX2, 14, tyX2, rfl, inX2, by decide, ow_179, rfl, tyX2_ok, rfl, nmX2, rfl⟩
theorem nz_41 : ¬ (41 : Int32) = 0 := by decide
theorem fl_RX1_33 : ob_fl RX1 33 1 2 true (tyX1 2) := ⟨RX1, TX1, 7, tyX1, rfl, inX1, by decide, ow_465, rfl, tyX1_ok, rfl, nmX1, rfl⟩
theorem fl_RX1_20 : ob_fl RX1 20 1 3 true (tyX1 3) := ⟨RX1, TX1, 7, tyX1, rfl, inX1, by decide, ow_466, rfl, tyX1_ok, rfl, nmX1, rfl⟩
theorem mi_RX1_37 : ob_mi RX1 37 yX1_rowOf cX1_rowOf 2 (some .int) 1 := ⟨ow_797, ow_15, ow_800, by decide +kernel⟩
theorem mi_RX1_41 : ob_mi RX1 41 yX6_write cX6_write 3 none 2 := ⟨ow_801, ow_10, ow_804, by decide +kernel⟩
theorem fl_RX6_72 : ob_fl RX6 72 2 13 true (tyX2 13) := ⟨RX2, TX2, 14, tyX2, rfl, inX2, by decide, ow_220, rfl, tyX2_ok, rfl, nmX2, rfl⟩
theorem mi_RX6_97 : ob_mi RX6 97 yX6_move cX6_move 4 none 3 := ⟨ow_818, ow_10, ow_821, by decide +kernel⟩
theorem fl_RX6_111 : ob_fl RX6 111 2 3 true (tyX2 3) := ⟨RX2, TX2, 14, tyX2, rfl, inX2, by decide, ow_186, rfl, tyX2_ok, rfl, nmX2, rfl⟩
theorem fl_RX6_101 : ob_fl RX6 101 2 5 true (tyX2 5) := ⟨RX2, TX2, 14, tyX2, rfl, inX2, by decide, ow_194, rfl, tyX2_ok, rfl, nmX2, rfl⟩
theorem fl_RX6_104 : ob_fl RX6 104 2 6 true (tyX2 6) := ⟨RX2, TX2, 14, tyX2, rfl, inX2, by decide, ow_198, rfl, tyX2_ok, rfl, nmX2, rfl⟩
theorem mi_RX6_107 : ob_mi RX6 107 yX6_dismiss cX6_dismiss 3 (some .int) 0 := ⟨ow_822, ow_10, ow_825, by decide +kernel⟩
theorem mi_RX6_91 : ob_mi RX6 91 yX6_answerOf cX6_answerOf 2 (some .int) 1 := ⟨ow_810, ow_10, ow_813, by decide +kernel⟩
theorem cs_137 : (Int16.ofInt (137)).toInt32 = (137 : Int32) := by decide
theorem cb_71 : (Int8.ofInt (71)).toInt32 = (71 : Int32) := by decide
theorem cs_1000 : (Int16.ofInt (1000)).toInt32 = (1000 : Int32) := by decide
theorem nz_1000 : ¬ (1000 : Int32) = 0 := by decide
theorem nz_100 : ¬ (100 : Int32) = 0 := by decide
theorem mi_RX6_94 : ob_mi RX6 94 yX6_hearAs cX6_hearAs 5 none 2 := ⟨ow_814, ow_10, ow_817, by decide +kernel⟩
theorem mi_RX11_177 : ob_mi RX11 177 yX6_turn cX6_turn 5 (some .int) 0 := ⟨ow_788, ow_10, ow_791, by decide +kernel⟩
theorem mi_RX11_181 : ob_mi RX11 181 yX1_keepAct cX1_keepAct 1 none 0 := ⟨ow_793, ow_15, ow_796, by decide +kernel⟩
theorem mi_RX11_184 : ob_mi RX11 184 yX6_hearDrawn cX6_hearDrawn 3 none 1 := ⟨ow_806, ow_10, ow_809, by decide +kernel⟩
theorem fl_RX11_187 : ob_fl RX11 187 6 4 false .int := ⟨RX6, TX6, 8, tyX6, rfl, inX6, by decide, ow_314, rfl, tyX6_ok, rfl, nmX6, rfl⟩
theorem mi_RX11_190 : ob_mi RX11 190 yX6_move cX6_move 4 none 3 := ⟨ow_830, ow_10, ow_821, by decide +kernel⟩
theorem mi_RX11_194 : ob_mi RX11 194 yX6_letPass cX6_letPass 2 (some .int) 1 := ⟨ow_835, ow_10, ow_838, by decide +kernel⟩
theorem mi_RX11_197 : ob_mi RX11 197 yX6_exchange cX6_exchange 4 none 2 := ⟨ow_843, ow_10, ow_846, by decide +kernel⟩
theorem mi_RX1_45 : ob_mi RX1 45 yX6_restore cX6_restore 3 none 2 := ⟨ow_855, ow_10, ow_858, by decide +kernel⟩
theorem mi_RX11_201 : ob_mi RX11 201 yX1_takeBack cX1_takeBack 1 (some .boolean) 0 := ⟨ow_851, ow_15, ow_854, by decide +kernel⟩
theorem mi_RX11_204 : ob_mi RX11 204 yX1_doAgain cX1_doAgain 1 (some .boolean) 0 := ⟨ow_863, ow_15, ow_866, by decide +kernel⟩
theorem fl_RX11_44 : ob_fl RX11 44 11 4 true (tyX11 4) := ⟨RX11, TX11, 12, tyX11, rfl, inX11, by decide, ow_550, rfl, tyX11_ok, rfl, nmX11, rfl⟩
theorem fl_RX11_207 : ob_fl RX11 207 3 0 true (tyX3 0) := ⟨RX3, TX3, 4, tyX3, rfl, inX3, by decide, ow_347, rfl, tyX3_ok, rfl, nmX3, rfl⟩
theorem mi_RX11_210 : ob_mi RX11 210 yX6_copy cX6_copy 2 none 1 := ⟨ow_875, ow_10, ow_878, by decide +kernel⟩
theorem fl_RX11_91 : ob_fl RX11 91 11 10 true (tyX11 10) := ⟨RX11, TX11, 12, tyX11, rfl, inX11, by decide, ow_556, rfl, tyX11_ok, rfl, nmX11, rfl⟩
theorem fl_RX3_18 : ob_fl RX3 18 3 3 false .int := ⟨RX3, TX3, 4, tyX3, rfl, inX3, by decide, ow_353, rfl, tyX3_ok, rfl, nmX3, rfl⟩
theorem fl_RX3_27 : ob_fl RX3 27 3 0 true (tyX3 0) := ⟨RX3, TX3, 4, tyX3, rfl, inX3, by decide, ow_344, rfl, tyX3_ok, rfl, nmX3, rfl⟩
theorem fl_RX3_42 : ob_fl RX3 42 6 3 false .int := ⟨RX6, TX6, 8, tyX6, rfl, inX6, by decide, ow_310, rfl, tyX6_ok, rfl, nmX6, rfl⟩
theorem mi_RX3_39 : ob_mi RX3 39 yX6_turn cX6_turn 5 (some .int) 0 := ⟨ow_892, ow_10, ow_791, by decide +kernel⟩
theorem fl_RX3_9 : ob_fl RX3 9 3 1 true (tyX3 1) := ⟨RX3, TX3, 4, tyX3, rfl, inX3, by decide, ow_348, rfl, tyX3_ok, rfl, nmX3, rfl⟩
theorem fl_RX3_15 : ob_fl RX3 15 3 2 true (tyX3 2) := ⟨RX3, TX3, 4, tyX3, rfl, inX3, by decide, ow_351, rfl, tyX3_ok, rfl, nmX3, rfl⟩
theorem mi_RX3_45 : ob_mi RX3 45 yX6_hearAs cX6_hearAs 5 none 2 := ⟨ow_893, ow_10, ow_817, by decide +kernel⟩
theorem mi_RX3_31 : ob_mi RX3 31 yX6_copy cX6_copy 2 none 1 := ⟨ow_887, ow_10, ow_878, by decide +kernel⟩
theorem mi_RX3_35 : ob_mi RX3 35 yX3_follow cX3_follow 3 (some .int) 0 := ⟨ow_888, ow_11, ow_891, by decide +kernel⟩
theorem mi_RX11_212 : ob_mi RX11 212 yX3_goOn cX3_goOn 2 (some .int) 1 := ⟨ow_883, ow_11, ow_886, by decide +kernel⟩
theorem fl_RX11_216 : ob_fl RX11 216 3 3 false .int := ⟨RX3, TX3, 4, tyX3, rfl, inX3, by decide, ow_355, rfl, tyX3_ok, rfl, nmX3, rfl⟩
theorem fl_RX11_217 : ob_fl RX11 217 3 1 true (tyX3 1) := ⟨RX3, TX3, 4, tyX3, rfl, inX3, by decide, ow_350, rfl, tyX3_ok, rfl, nmX3, rfl⟩
theorem fl_RX11_220 : ob_fl RX11 220 3 2 true (tyX3 2) := ⟨RX3, TX3, 4, tyX3, rfl, inX3, by decide, ow_352, rfl, tyX3_ok, rfl, nmX3, rfl⟩
theorem mi_RX11_223 : ob_mi RX11 223 yX11_lay cX11_lay 3 none 2 := ⟨ow_902, ow_1, ow_905, by decide +kernel⟩
theorem fl_RX11_227 : ob_fl RX11 227 6 0 true (tyX6 0) := ⟨RX6, TX6, 8, tyX6, rfl, inX6, by decide, ow_302, rfl, tyX6_ok, rfl, nmX6, rfl⟩
theorem in_4_7 : vp_in 4 7 := by unfold vp_in; decide
theorem fl_RX8_21 : ob_fl RX8 21 8 2 false .int := ⟨RX8, TX8, 7, tyX8, rfl, inX8, by decide, ow_378, rfl, tyX8_ok, rfl, nmX8, rfl⟩
theorem fl_RX8_17 : ob_fl RX8 17 8 1 false .int := ⟨RX8, TX8, 7, tyX8, rfl, inX8, by decide, ow_376, rfl, tyX8_ok, rfl, nmX8, rfl⟩
theorem fl_RX8_30 : ob_fl RX8 30 8 5 true (tyX8 5) := ⟨RX8, TX8, 7, tyX8, rfl, inX8, by decide, ow_382, rfl, tyX8_ok, rfl, nmX8, rfl⟩
theorem fl_RX8_11 : ob_fl RX8 11 8 0 true (tyX8 0) := ⟨RX8, TX8, 7, tyX8, rfl, inX8, by decide, ow_374, rfl, tyX8_ok, rfl, nmX8, rfl⟩
theorem fl_RX8_55 : ob_fl RX8 55 6 0 true (tyX6 0) := ⟨RX6, TX6, 8, tyX6, rfl, inX6, by decide, ow_299, rfl, tyX6_ok, rfl, nmX6, rfl⟩
theorem cb_127 : (Int8.ofInt (127)).toInt32 = (127 : Int32) := by decide
theorem fl_RX8_33 : ob_fl RX8 33 8 6 true (tyX8 6) := ⟨RX8, TX8, 7, tyX8, rfl, inX8, by decide, ow_383, rfl, tyX8_ok, rfl, nmX8, rfl⟩
theorem fl_RX8_82 : ob_fl RX8 82 6 2 true (tyX6 2) := ⟨RX6, TX6, 8, tyX6, rfl, inX6, by decide, ow_307, rfl, tyX6_ok, rfl, nmX6, rfl⟩
theorem fl_RX8_26 : ob_fl RX8 26 8 4 true (tyX8 4) := ⟨RX8, TX8, 7, tyX8, rfl, inX8, by decide, ow_381, rfl, tyX8_ok, rfl, nmX8, rfl⟩
theorem fl_RX8_52 : ob_fl RX8 52 6 3 false .int := ⟨RX6, TX6, 8, tyX6, rfl, inX6, by decide, ow_309, rfl, tyX6_ok, rfl, nmX6, rfl⟩
theorem mi_RX8_62 : ob_mi RX8 62 yX8_wasHere cX8_wasHere 6 (some .boolean) 1 := ⟨ow_929, ow_12, ow_932, by decide +kernel⟩
theorem fl_RX8_36 : ob_fl RX8 36 8 3 true (tyX8 3) := ⟨RX8, TX8, 7, tyX8, rfl, inX8, by decide, ow_380, rfl, tyX8_ok, rfl, nmX8, rfl⟩
theorem fl_RX8_66 : ob_fl RX8 66 2 0 false .int := ⟨RX2, TX2, 14, tyX2, rfl, inX2, by decide, ow_170, rfl, tyX2_ok, rfl, nmX2, rfl⟩
theorem mi_RX8_69 : ob_mi RX8 69 yX6_waits cX6_waits 2 (some .boolean) 1 := ⟨ow_933, ow_10, ow_752, by decide +kernel⟩
theorem mi_RX8_44 : ob_mi RX8 44 yX6_copy cX6_copy 2 none 1 := ⟨ow_920, ow_10, ow_878, by decide +kernel⟩
theorem mi_RX8_73 : ob_mi RX8 73 yX6_hearAs cX6_hearAs 5 none 2 := ⟨ow_934, ow_10, ow_817, by decide +kernel⟩
theorem mi_RX8_48 : ob_mi RX8 48 yX8_explore cX8_explore 5 none 2 := ⟨ow_921, ow_12, ow_923, by decide +kernel⟩
theorem mi_RX8_58 : ob_mi RX8 58 yX8_keep cX8_keep 3 none 2 := ⟨ow_924, ow_12, ow_927, by decide +kernel⟩
theorem cs_128 : (Int16.ofInt (128)).toInt32 = (128 : Int32) := by decide
theorem in_0_8 : vp_in 0 8 := by unfold vp_in; decide
theorem fl_RX11_51 : ob_fl RX11 51 11 5 true (tyX11 5) := ⟨RX11, TX11, 12, tyX11, rfl, inX11, by decide, ow_551, rfl, tyX11_ok, rfl, nmX11, rfl⟩
theorem mi_RX11_230 : ob_mi RX11 230 yX8_run cX8_run 3 none 1 := ⟨ow_915, ow_12, ow_918, by decide +kernel⟩
theorem fl_RX11_233 : ob_fl RX11 233 8 0 true (tyX8 0) := ⟨RX8, TX8, 7, tyX8, rfl, inX8, by decide, ow_375, rfl, tyX8_ok, rfl, nmX8, rfl⟩
theorem fl_RX11_236 : ob_fl RX11 236 8 1 false .int := ⟨RX8, TX8, 7, tyX8, rfl, inX8, by decide, ow_377, rfl, tyX8_ok, rfl, nmX8, rfl⟩
theorem fl_RX11_239 : ob_fl RX11 239 8 2 false .int := ⟨RX8, TX8, 7, tyX8, rfl, inX8, by decide, ow_379, rfl, tyX8_ok, rfl, nmX8, rfl⟩
theorem fl_RX0_27 : ob_fl RX0 27 0 5 true (tyX0 5) := ⟨RX0, TX0, 8, tyX0, rfl, inX0, by decide, ow_415, rfl, tyX0_ok, rfl, nmX0, rfl⟩
theorem fl_RX0_58 : ob_fl RX0 58 2 0 false .int := ⟨RX2, TX2, 14, tyX2, rfl, inX2, by decide, ow_169, rfl, tyX2_ok, rfl, nmX2, rfl⟩
theorem fl_RX0_31 : ob_fl RX0 31 0 6 true (tyX0 6) := ⟨RX0, TX0, 8, tyX0, rfl, inX0, by decide, ow_416, rfl, tyX0_ok, rfl, nmX0, rfl⟩
theorem mi_RX0_63 : ob_mi RX0 63 yX6_waits cX6_waits 2 (some .boolean) 1 := ⟨ow_943, ow_10, ow_752, by decide +kernel⟩
theorem fl_RX0_35 : ob_fl RX0 35 0 7 true (tyX0 7) := ⟨RX0, TX0, 8, tyX0, rfl, inX0, by decide, ow_417, rfl, tyX0_ok, rfl, nmX0, rfl⟩
theorem fl_RX0_39 : ob_fl RX0 39 3 0 true (tyX3 0) := ⟨RX3, TX3, 4, tyX3, rfl, inX3, by decide, ow_345, rfl, tyX3_ok, rfl, nmX3, rfl⟩
theorem mi_RX0_44 : ob_mi RX0 44 yX6_copy cX6_copy 2 none 1 := ⟨ow_944, ow_10, ow_878, by decide +kernel⟩
theorem mi_RX0_67 : ob_mi RX0 67 yX6_hearAs cX6_hearAs 5 none 2 := ⟨ow_945, ow_10, ow_817, by decide +kernel⟩
theorem mi_RX0_54 : ob_mi RX0 54 yX3_follow cX3_follow 3 (some .int) 0 := ⟨ow_946, ow_11, ow_891, by decide +kernel⟩
theorem fl_RX0_9 : ob_fl RX0 9 0 0 false .int := ⟨RX0, TX0, 8, tyX0, rfl, inX0, by decide, ow_405, rfl, tyX0_ok, rfl, nmX0, rfl⟩
theorem fl_RX0_24 : ob_fl RX0 24 0 4 false .int := ⟨RX0, TX0, 8, tyX0, rfl, inX0, by decide, ow_413, rfl, tyX0_ok, rfl, nmX0, rfl⟩
theorem fl_RX11_60 : ob_fl RX11 60 11 6 true (tyX11 6) := ⟨RX11, TX11, 12, tyX11, rfl, inX11, by decide, ow_552, rfl, tyX11_ok, rfl, nmX11, rfl⟩
theorem mi_RX11_242 : ob_mi RX11 242 yX0_findFirst cX0_findFirst 4 (some .boolean) 0 := ⟨ow_939, ow_13, ow_942, by decide +kernel⟩
theorem fl_RX11_247 : ob_fl RX11 247 0 4 false .int := ⟨RX0, TX0, 8, tyX0, rfl, inX0, by decide, ow_414, rfl, tyX0_ok, rfl, nmX0, rfl⟩
theorem fl_RX11_245 : ob_fl RX11 245 0 0 false .int := ⟨RX0, TX0, 8, tyX0, rfl, inX0, by decide, ow_406, rfl, tyX0_ok, rfl, nmX0, rfl⟩
theorem fl_RX0_91 : ob_fl RX0 91 2 4 true (tyX2 4) := ⟨RX2, TX2, 14, tyX2, rfl, inX2, by decide, ow_189, rfl, tyX2_ok, rfl, nmX2, rfl⟩
theorem mi_RX0_76 : ob_mi RX0 76 yX0_priceOf cX0_priceOf 4 (some .int) 1 := ⟨ow_955, ow_13, ow_958, by decide +kernel⟩
theorem fl_RX0_18 : ob_fl RX0 18 0 2 false .int := ⟨RX0, TX0, 8, tyX0, rfl, inX0, by decide, ow_409, rfl, tyX0_ok, rfl, nmX0, rfl⟩
theorem mi_RX0_86 : ob_mi RX0 86 yJ6_bitCount_0f7a4 cJ6_bitCount_0f7a4 1 (some .int) 1 := ⟨ow_963, ow_18, ow_661, by decide +kernel⟩
theorem mi_RX0_50 : ob_mi RX0 50 yX6_move cX6_move 4 none 3 := ⟨ow_968, ow_10, ow_821, by decide +kernel⟩
theorem fl_RX0_71 : ob_fl RX0 71 6 3 false .int := ⟨RX6, TX6, 8, tyX6, rfl, inX6, by decide, ow_311, rfl, tyX6_ok, rfl, nmX6, rfl⟩
theorem fl_RX0_72 : ob_fl RX0 72 6 0 true (tyX6 0) := ⟨RX6, TX6, 8, tyX6, rfl, inX6, by decide, ow_301, rfl, tyX6_ok, rfl, nmX6, rfl⟩
theorem mi_RX0_80 : ob_mi RX0 80 yX0_isCheaper cX0_isCheaper 3 (some .boolean) 1 := ⟨ow_959, ow_13, ow_962, by decide +kernel⟩
theorem mi_RX0_83 : ob_mi RX0 83 yX0_duskWithout cX0_duskWithout 2 (some .int) 1 := ⟨ow_964, ow_13, ow_967, by decide +kernel⟩
theorem mi_RX11_250 : ob_mi RX11 250 yX0_findPurchase cX0_findPurchase 4 (some .boolean) 1 := ⟨ow_951, ow_13, ow_954, by decide +kernel⟩
theorem fl_RX11_253 : ob_fl RX11 253 0 2 false .int := ⟨RX0, TX0, 8, tyX0, rfl, inX0, by decide, ow_410, rfl, tyX0_ok, rfl, nmX0, rfl⟩
theorem cs_9999 : (Int16.ofInt (9999)).toInt32 = (9999 : Int32) := by decide
theorem mi_RX0_93 : ob_mi RX0 93 yX6_turn cX6_turn 5 (some .int) 0 := ⟨ow_977, ow_10, ow_791, by decide +kernel⟩
theorem fl_RX0_96 : ob_fl RX0 96 2 1 true (tyX2 1) := ⟨RX2, TX2, 14, tyX2, rfl, inX2, by decide, ow_178, rfl, tyX2_ok, rfl, nmX2, rfl⟩
theorem mi_RX0_99 : ob_mi RX0 99 yX6_orderOf cX6_orderOf 3 (some .int) 2 := ⟨ow_978, ow_10, ow_768, by decide +kernel⟩
theorem fl_RX0_103 : ob_fl RX0 103 6 1 true (tyX6 1) := ⟨RX6, TX6, 8, tyX6, rfl, inX6, by decide, ow_305, rfl, tyX6_ok, rfl, nmX6, rfl⟩
theorem mi_RX11_255 : ob_mi RX11 255 yX0_leastGrave cX0_leastGrave 7 (some .int) 1 := ⟨ow_973, ow_13, ow_976, by decide +kernel⟩
theorem fl_RX7_19 : ob_fl RX7 19 7 1 true (tyX7 1) := ⟨RX7, TX7, 4, tyX7, rfl, inX7, by decide, ow_443, rfl, tyX7_ok, rfl, nmX7, rfl⟩
theorem fl_RX7_27 : ob_fl RX7 27 2 0 false .int := ⟨RX2, TX2, 14, tyX2, rfl, inX2, by decide, ow_166, rfl, tyX2_ok, rfl, nmX2, rfl⟩
theorem fl_RX7_30 : ob_fl RX7 30 2 1 true (tyX2 1) := ⟨RX2, TX2, 14, tyX2, rfl, inX2, by decide, ow_174, rfl, tyX2_ok, rfl, nmX2, rfl⟩
theorem fl_RX7_33 : ob_fl RX7 33 2 7 true (tyX2 7) := ⟨RX2, TX2, 14, tyX2, rfl, inX2, by decide, ow_200, rfl, tyX2_ok, rfl, nmX2, rfl⟩
theorem fl_RX11_69 : ob_fl RX11 69 11 7 true (tyX11 7) := ⟨RX11, TX11, 12, tyX11, rfl, inX11, by decide, ow_553, rfl, tyX11_ok, rfl, nmX11, rfl⟩
theorem mi_RX11_258 : ob_mi RX11 258 yX7_weigh cX7_weigh 5 (some .int) 1 := ⟨ow_983, ow_14, ow_986, by decide +kernel⟩
theorem mi_RX7_36 : ob_mi RX7 36 yX7_weigh cX7_weigh 5 (some .int) 1 := ⟨ow_1004, ow_14, ow_986, by decide +kernel⟩
theorem fl_RX7_40 : ob_fl RX7 40 2 9 false .int := ⟨RX2, TX2, 14, tyX2, rfl, inX2, by decide, ow_206, rfl, tyX2_ok, rfl, nmX2, rfl⟩
theorem fl_RX7_23 : ob_fl RX7 23 7 2 true (tyX7 2) := ⟨RX7, TX7, 4, tyX7, rfl, inX7, by decide, ow_444, rfl, tyX7_ok, rfl, nmX7, rfl⟩
theorem fl_RX7_43 : ob_fl RX7 43 6 0 true (tyX6 0) := ⟨RX6, TX6, 8, tyX6, rfl, inX6, by decide, ow_300, rfl, tyX6_ok, rfl, nmX6, rfl⟩
theorem mi_RX7_48 : ob_mi RX7 48 yX7_isBarredBy cX7_isBarredBy 2 (some .boolean) 1 := ⟨ow_1000, ow_14, ow_1003, by decide +kernel⟩
theorem mi_RX7_57 : ob_mi RX7 57 yX7_threatens cX7_threatens 2 (some .boolean) 1 := ⟨ow_996, ow_14, ow_999, by decide +kernel⟩
theorem fl_RX7_9 : ob_fl RX7 9 7 0 false .int := ⟨RX7, TX7, 4, tyX7, rfl, inX7, by decide, ow_441, rfl, tyX7_ok, rfl, nmX7, rfl⟩
theorem mi_RX7_52 : ob_mi RX7 52 yJ6_bitCount_0f7a4 cJ6_bitCount_0f7a4 1 (some .int) 1 := ⟨ow_995, ow_18, ow_661, by decide +kernel⟩
theorem mi_RX11_261 : ob_mi RX11 261 yX7_findThreat cX7_findThreat 4 (some .boolean) 0 := ⟨ow_991, ow_14, ow_994, by decide +kernel⟩
theorem fl_RX11_264 : ob_fl RX11 264 7 0 false .int := ⟨RX7, TX7, 4, tyX7, rfl, inX7, by decide, ow_442, rfl, tyX7_ok, rfl, nmX7, rfl⟩
theorem mi_RX11_267 : ob_mi RX11 267 yJ6_bitCount_0f7a4 cJ6_bitCount_0f7a4 1 (some .int) 1 := ⟨ow_1005, ow_18, ow_661, by decide +kernel⟩
theorem mi_RX11_272 : ob_mi RX11 272 yX7_countThreats cX7_countThreats 3 (some .int) 0 := ⟨ow_1010, ow_14, ow_1013, by decide +kernel⟩
theorem mi_RX11_275 : ob_mi RX11 275 yX0_duskWithout cX0_duskWithout 2 (some .int) 1 := ⟨ow_1018, ow_13, ow_967, by decide +kernel⟩
theorem mi_RX11_278 : ob_mi RX11 278 yX2_crowdOf cX2_crowdOf 5 (some .int) 1 := ⟨ow_1023, ow_8, ow_1026, by decide +kernel⟩
theorem fl_RX7_15 : ob_fl RX7 15 7 3 true (tyX7 3) := ⟨RX7, TX7, 4, tyX7, rfl, inX7, by decide, ow_445, rfl, tyX7_ok, rfl, nmX7, rfl⟩
theorem mi_RX7_74 : ob_mi RX7 74 yX6_answerOf cX6_answerOf 2 (some .int) 1 := ⟨ow_1043, ow_10, ow_813, by decide +kernel⟩
theorem mi_RX7_60 : ob_mi RX7 60 yX7_takeChances cX7_takeChances 2 none 0 := ⟨ow_1039, ow_14, ow_1042, by decide +kernel⟩
theorem mi_RX7_63 : ob_mi RX7 63 yX7_ways cX7_ways 5 (some .int) 2 := ⟨ow_1050, ow_14, ow_1053, by decide +kernel⟩
theorem mi_RX7_67 : ob_mi RX7 67 yX7_whole cX7_whole 3 (some .int) 1 := ⟨ow_1054, ow_14, ow_1056, by decide +kernel⟩
theorem mi_RX7_70 : ob_mi RX7 70 yX7_lowest cX7_lowest 7 (some .int) 3 := ⟨ow_1057, ow_14, ow_1059, by decide +kernel⟩
theorem mi_RX11_281 : ob_mi RX11 281 yX11_canBeDrawn cX11_canBeDrawn 4 (some .boolean) 2 := ⟨ow_1031, ow_1, ow_1034, by decide +kernel⟩
theorem mi_RX11_285 : ob_mi RX11 285 yX7_oddsOf cX7_oddsOf 3 (some .int) 2 := ⟨ow_1035, ow_14, ow_1038, by decide +kernel⟩
theorem mi_RX11_288 : ob_mi RX11 288 yX7_perilOf cX7_perilOf 5 (some .int) 2 := ⟨ow_1065, ow_14, ow_1068, by decide +kernel⟩
theorem mi_RX0_106 : ob_mi RX0 106 yX6_letPass cX6_letPass 2 (some .int) 1 := ⟨ow_1077, ow_10, ow_838, by decide +kernel⟩
theorem fl_RX0_21 : ob_fl RX0 21 0 3 false .int := ⟨RX0, TX0, 8, tyX0, rfl, inX0, by decide, ow_411, rfl, tyX0_ok, rfl, nmX0, rfl⟩
theorem mi_RX11_291 : ob_mi RX11 291 yX0_findTarry cX0_findTarry 4 none 1 := ⟨ow_1073, ow_13, ow_1076, by decide +kernel⟩
theorem fl_RX11_294 : ob_fl RX11 294 0 3 false .int := ⟨RX0, TX0, 8, tyX0, rfl, inX0, by decide, ow_412, rfl, tyX0_ok, rfl, nmX0, rfl⟩
theorem mi_RX0_112 : ob_mi RX0 112 yX6_exchange cX6_exchange 4 none 2 := ⟨ow_1090, ow_10, ow_846, by decide +kernel⟩
theorem fl_RX0_15 : ob_fl RX0 15 0 1 false .int := ⟨RX0, TX0, 8, tyX0, rfl, inX0, by decide, ow_407, rfl, tyX0_ok, rfl, nmX0, rfl⟩
theorem mi_RX0_109 : ob_mi RX0 109 yX0_duskExchanged cX0_duskExchanged 3 (some .int) 2 := ⟨ow_1086, ow_13, ow_1089, by decide +kernel⟩
theorem mi_RX11_296 : ob_mi RX11 296 yX0_findSwap cX0_findSwap 5 (some .boolean) 0 := ⟨ow_1082, ow_13, ow_1085, by decide +kernel⟩
theorem fl_RX11_299 : ob_fl RX11 299 0 1 false .int := ⟨RX0, TX0, 8, tyX0, rfl, inX0, by decide, ow_408, rfl, tyX0_ok, rfl, nmX0, rfl⟩
theorem fl_RX9_26 : ob_fl RX9 26 9 6 true (tyX9 6) := ⟨RX9, TX9, 15, tyX9, rfl, inX9, by decide, ow_501, rfl, tyX9_ok, rfl, nmX9, rfl⟩
theorem fl_RX9_30 : ob_fl RX9 30 9 7 true (tyX9 7) := ⟨RX9, TX9, 15, tyX9, rfl, inX9, by decide, ow_502, rfl, tyX9_ok, rfl, nmX9, rfl⟩
theorem fl_RX9_33 : ob_fl RX9 33 9 8 true (tyX9 8) := ⟨RX9, TX9, 15, tyX9, rfl, inX9, by decide, ow_503, rfl, tyX9_ok, rfl, nmX9, rfl⟩
theorem fl_RX9_37 : ob_fl RX9 37 9 9 true (tyX9 9) := ⟨RX9, TX9, 15, tyX9, rfl, inX9, by decide, ow_504, rfl, tyX9_ok, rfl, nmX9, rfl⟩
theorem fl_RX9_17 : ob_fl RX9 17 9 1 false .int := ⟨RX9, TX9, 15, tyX9, rfl, inX9, by decide, ow_493, rfl, tyX9_ok, rfl, nmX9, rfl⟩
theorem fl_RX9_40 : ob_fl RX9 40 9 10 true (tyX9 10) := ⟨RX9, TX9, 15, tyX9, rfl, inX9, by decide, ow_505, rfl, tyX9_ok, rfl, nmX9, rfl⟩
theorem mi_RX11_302 : ob_mi RX11 302 yX9_tell cX9_tell 4 (some .int) 3 := ⟨ow_1107, ow_16, ow_1110, by decide +kernel⟩
theorem mi_RX11_306 : ob_mi RX11 306 yX9_takeBack cX9_takeBack 2 (some .boolean) 1 := ⟨ow_1115, ow_16, ow_1118, by decide +kernel⟩
theorem mi_RX11_308 : ob_mi RX11 308 yX9_passTime cX9_passTime 2 (some .int) 1 := ⟨ow_1123, ow_16, ow_1126, by decide +kernel⟩
theorem fl_RX9_56 : ob_fl RX9 56 9 4 true (tyX9 4) := ⟨RX9, TX9, 15, tyX9, rfl, inX9, by decide, ow_499, rfl, tyX9_ok, rfl, nmX9, rfl⟩
theorem fl_RX9_74 : ob_fl RX9 74 2 1 true (tyX2 1) := ⟨RX2, TX2, 14, tyX2, rfl, inX2, by decide, ow_177, rfl, tyX2_ok, rfl, nmX2, rfl⟩
theorem fl_RX9_60 : ob_fl RX9 60 9 5 true (tyX9 5) := ⟨RX9, TX9, 15, tyX9, rfl, inX9, by decide, ow_500, rfl, tyX9_ok, rfl, nmX9, rfl⟩
theorem fl_RX9_77 : ob_fl RX9 77 3 0 true (tyX3 0) := ⟨RX3, TX3, 4, tyX3, rfl, inX3, by decide, ow_346, rfl, tyX3_ok, rfl, nmX3, rfl⟩
theorem mi_RX9_83 : ob_mi RX9 83 yX6_begin cX6_begin 2 none 0 := ⟨ow_1140, ow_10, ow_545, by decide +kernel⟩
theorem mi_RX9_88 : ob_mi RX9 88 yX3_follow cX3_follow 3 (some .int) 0 := ⟨ow_1141, ow_11, ow_891, by decide +kernel⟩
theorem fl_RX9_43 : ob_fl RX9 43 9 11 true (tyX9 11) := ⟨RX9, TX9, 15, tyX9, rfl, inX9, by decide, ow_506, rfl, tyX9_ok, rfl, nmX9, rfl⟩
theorem fl_RX9_92 : ob_fl RX9 92 3 3 false .int := ⟨RX3, TX3, 4, tyX3, rfl, inX3, by decide, ow_354, rfl, tyX3_ok, rfl, nmX3, rfl⟩
theorem fl_RX9_93 : ob_fl RX9 93 3 1 true (tyX3 1) := ⟨RX3, TX3, 4, tyX3, rfl, inX3, by decide, ow_349, rfl, tyX3_ok, rfl, nmX3, rfl⟩
theorem fl_RX9_65 : ob_fl RX9 65 2 0 false .int := ⟨RX2, TX2, 14, tyX2, rfl, inX2, by decide, ow_172, rfl, tyX2_ok, rfl, nmX2, rfl⟩
theorem mi_RX9_66 : ob_mi RX9 66 yX9_findHeard cX9_findHeard 5 none 1 := ⟨ow_1136, ow_16, ow_1139, by decide +kernel⟩
theorem fl_RX9_50 : ob_fl RX9 50 9 13 true (tyX9 13) := ⟨RX9, TX9, 15, tyX9, rfl, inX9, by decide, ow_508, rfl, tyX9_ok, rfl, nmX9, rfl⟩
theorem mi_RX9_70 : ob_mi RX9 70 yX9_isSo cX9_isSo 6 (some .boolean) 2 := ⟨ow_1142, ow_16, ow_1145, by decide +kernel⟩
theorem mi_RX11_311 : ob_mi RX11 311 yX9_mark cX9_mark 4 (some .int) 1 := ⟨ow_1132, ow_16, ow_1135, by decide +kernel⟩
theorem mi_RX11_317 : ob_mi RX11 317 yX9_greatestFitting cX9_greatestFitting 2 (some .int) 0 := ⟨ow_1154, ow_16, ow_1157, by decide +kernel⟩
theorem mi_RX11_314 : ob_mi RX11 314 yX9_leastFitting cX9_leastFitting 2 (some .int) 0 := ⟨ow_1150, ow_16, ow_1153, by decide +kernel⟩
theorem fl_RX9_53 : ob_fl RX9 53 9 14 true (tyX9 14) := ⟨RX9, TX9, 15, tyX9, rfl, inX9, by decide, ow_509, rfl, tyX9_ok, rfl, nmX9, rfl⟩
theorem al_8 : Int32.ofNat 8 = 8 := by decide
theorem mi_RX9_94 : ob_mi RX9 94 yX9_mostLeft cX9_mostLeft 5 (some .int) 1 := ⟨ow_1166, ow_16, ow_1169, by decide +kernel⟩
theorem fl_RX9_20 : ob_fl RX9 20 9 2 false .int := ⟨RX9, TX9, 15, tyX9, rfl, inX9, by decide, ow_495, rfl, tyX9_ok, rfl, nmX9, rfl⟩
theorem fl_RX9_23 : ob_fl RX9 23 9 3 false .int := ⟨RX9, TX9, 15, tyX9, rfl, inX9, by decide, ow_497, rfl, tyX9_ok, rfl, nmX9, rfl⟩
theorem mi_RX11_320 : ob_mi RX11 320 yX9_findPlace cX9_findPlace 3 none 0 := ⟨ow_1162, ow_16, ow_1165, by decide +kernel⟩
theorem fl_RX11_326 : ob_fl RX11 326 9 3 false .int := ⟨RX9, TX9, 15, tyX9, rfl, inX9, by decide, ow_498, rfl, tyX9_ok, rfl, nmX9, rfl⟩
theorem fl_RX11_323 : ob_fl RX11 323 9 2 false .int := ⟨RX9, TX9, 15, tyX9, rfl, inX9, by decide, ow_496, rfl, tyX9_ok, rfl, nmX9, rfl⟩
theorem fl_RX1_27 : ob_fl RX1 27 1 5 true (tyX1 5) := ⟨RX1, TX1, 7, tyX1, rfl, inX1, by decide, ow_468, rfl, tyX1_ok, rfl, nmX1, rfl⟩
theorem mi_RX11_329 : ob_mi RX11 329 yX1_keepImage cX1_keepImage 2 none 1 := ⟨ow_1175, ow_15, ow_1178, by decide +kernel⟩
theorem fl_RX11_332 : ob_fl RX11 332 6 3 false .int := ⟨RX6, TX6, 8, tyX6, rfl, inX6, by decide, ow_312, rfl, tyX6_ok, rfl, nmX6, rfl⟩
theorem mi_RX1_48 : ob_mi RX1 48 yX1_forgetActs cX1_forgetActs 1 none 0 := ⟨ow_1187, ow_15, ow_724, by decide +kernel⟩
theorem mi_RX11_333 : ob_mi RX11 333 yX1_goBack cX1_goBack 2 (some .boolean) 1 := ⟨ow_1183, ow_15, ow_1186, by decide +kernel⟩
theorem fl_RX11_336 : ob_fl RX11 336 6 5 false .int := ⟨RX6, TX6, 8, tyX6, rfl, inX6, by decide, ow_316, rfl, tyX6_ok, rfl, nmX6, rfl⟩
theorem fl_RX11_339 : ob_fl RX11 339 2 9 false .int := ⟨RX2, TX2, 14, tyX2, rfl, inX2, by decide, ow_208, rfl, tyX2_ok, rfl, nmX2, rfl⟩
theorem mi_RX11_342 : ob_mi RX11 342 yX7_isBarredBy cX7_isBarredBy 2 (some .boolean) 1 := ⟨ow_1192, ow_14, ow_1003, by decide +kernel⟩
theorem fl_RX11_345 : ob_fl RX11 345 1 0 false .int := ⟨RX1, TX1, 7, tyX1, rfl, inX1, by decide, ow_462, rfl, tyX1_ok, rfl, nmX1, rfl⟩
theorem fl_RX11_348 : ob_fl RX11 348 1 1 false .int := ⟨RX1, TX1, 7, tyX1, rfl, inX1, by decide, ow_464, rfl, tyX1_ok, rfl, nmX1, rfl⟩
theorem fl_RX11_351 : ob_fl RX11 351 9 0 false .int := ⟨RX9, TX9, 15, tyX9, rfl, inX9, by decide, ow_492, rfl, tyX9_ok, rfl, nmX9, rfl⟩
theorem fl_RX11_352 : ob_fl RX11 352 9 1 false .int := ⟨RX9, TX9, 15, tyX9, rfl, inX9, by decide, ow_494, rfl, tyX9_ok, rfl, nmX9, rfl⟩
theorem fl_RX11_355 : ob_fl RX11 355 2 11 false .int := ⟨RX2, TX2, 14, tyX2, rfl, inX2, by decide, ow_214, rfl, tyX2_ok, rfl, nmX2, rfl⟩
theorem fl_RX12_7 : ob_fl RX12 7 12 0 true (tyX12 0) := ⟨RX12, TX12, 76, tyX12, rfl, inX12, by decide, ow_1199, rfl, tyX12_ok, rfl, nmX12, rfl⟩
theorem fl_RX12_148 : ob_fl RX12 148 12 1 false .int := ⟨RX12, TX12, 76, tyX12, rfl, inX12, by decide, ow_1200, rfl, tyX12_ok, rfl, nmX12, rfl⟩
theorem cs_255 : (Int16.ofInt (255)).toInt32 = (255 : Int32) := by decide
theorem mi_RX12_151 : ob_mi RX12 151 yX12_four cX12_four 3 none 1 := ⟨ow_1432, ow_17, ow_1435, by decide +kernel⟩
theorem fl_RX12_155 : ob_fl RX12 155 12 4 false .int := ⟨RX12, TX12, 76, tyX12, rfl, inX12, by decide, ow_1203, rfl, tyX12_ok, rfl, nmX12, rfl⟩
theorem fl_RX12_158 : ob_fl RX12 158 12 5 false .int := ⟨RX12, TX12, 76, tyX12, rfl, inX12, by decide, ow_1204, rfl, tyX12_ok, rfl, nmX12, rfl⟩
theorem cb_62 : (Int8.ofInt (62)).toInt32 = (62 : Int32) := by decide
theorem cb_61 : (Int8.ofInt (61)).toInt32 = (61 : Int32) := by decide
theorem cb_43 : (Int8.ofInt (43)).toInt32 = (43 : Int32) := by decide
theorem cb_45 : (Int8.ofInt (45)).toInt32 = (45 : Int32) := by decide
theorem cb_42 : (Int8.ofInt (42)).toInt32 = (42 : Int32) := by decide
theorem cb_47 : (Int8.ofInt (47)).toInt32 = (47 : Int32) := by decide
theorem cb_37 : (Int8.ofInt (37)).toInt32 = (37 : Int32) := by decide
theorem mi_RX12_161 : ob_mi RX12 161 yX12_here cX12_here 2 (some .int) 1 := ⟨ow_1452, ow_17, ow_1455, by decide +kernel⟩
theorem fl_RX12_165 : ob_fl RX12 165 12 7 false .int := ⟨RX12, TX12, 76, tyX12, rfl, inX12, by decide, ow_1206, rfl, tyX12_ok, rfl, nmX12, rfl⟩
theorem fl_RX12_168 : ob_fl RX12 168 12 9 false .long := ⟨RX12, TX12, 76, tyX12, rfl, inX12, by decide, ow_1208, rfl, tyX12_ok, rfl, nmX12, rfl⟩
theorem fl_RX12_172 : ob_fl RX12 172 12 8 false .int := ⟨RX12, TX12, 76, tyX12, rfl, inX12, by decide, ow_1207, rfl, tyX12_ok, rfl, nmX12, rfl⟩
theorem mi_RX12_178 : ob_mi RX12 178 yX12_isLetter cX12_isLetter 1 (some .boolean) 1 := ⟨ow_1456, ow_17, ow_1458, by decide +kernel⟩
theorem mi_RX12_182 : ob_mi RX12 182 yX12_isDigit cX12_isDigit 1 (some .boolean) 1 := ⟨ow_1459, ow_17, ow_1461, by decide +kernel⟩
theorem mi_RX12_185 : ob_mi RX12 185 yX12_isSign cX12_isSign 1 (some .boolean) 1 := ⟨ow_1462, ow_17, ow_1464, by decide +kernel⟩
theorem fl_RX12_175 : ob_fl RX12 175 12 6 false .int := ⟨RX12, TX12, 76, tyX12, rfl, inX12, by decide, ow_1205, rfl, tyX12_ok, rfl, nmX12, rfl⟩
theorem fl_RX12_188 : ob_fl RX12 188 12 2 false .int := ⟨RX12, TX12, 76, tyX12, rfl, inX12, by decide, ow_1201, rfl, tyX12_ok, rfl, nmX12, rfl⟩
theorem fl_RX12_13 : ob_fl RX12 13 12 3 false .int := ⟨RX12, TX12, 76, tyX12, rfl, inX12, by decide, ow_1202, rfl, tyX12_ok, rfl, nmX12, rfl⟩
theorem mi_RX12_231 : ob_mi RX12 231 yX12_isOwn cX12_isOwn 1 (some .boolean) 0 := ⟨ow_1482, ow_17, ow_1485, by decide +kernel⟩
theorem mi_RX12_235 : ob_mi RX12 235 yX12_isWord cX12_isWord 3 (some .boolean) 1 := ⟨ow_1470, ow_17, ow_1473, by decide +kernel⟩
theorem mi_RX12_242 : ob_mi RX12 242 yX12_token cX12_token 3 none 0 := ⟨ow_1448, ow_17, ow_1451, by decide +kernel⟩
theorem mi_RX12_239 : ob_mi RX12 239 yX12_wrong cX12_wrong 2 none 1 := ⟨ow_1505, ow_17, ow_1508, by decide +kernel⟩
theorem mi_RX12_245 : ob_mi RX12 245 yX12_want cX12_want 3 none 1 := ⟨ow_1517, ow_17, ow_1520, by decide +kernel⟩
theorem mi_RX12_249 : ob_mi RX12 249 yX12_toldNumber cX12_toldNumber 4 (some .int) 2 := ⟨ow_1521, ow_17, ow_1524, by decide +kernel⟩
theorem mi_RX12_253 : ob_mi RX12 253 yX12_told cX12_told 5 (some .int) 3 := ⟨ow_1513, ow_17, ow_1516, by decide +kernel⟩
theorem fl_RX12_257 : ob_fl RX12 257 12 41 false .int := ⟨RX12, TX12, 76, tyX12, rfl, inX12, by decide, ow_1240, rfl, tyX12_ok, rfl, nmX12, rfl⟩
theorem fl_RX12_17 : ob_fl RX12 17 12 10 true (tyX12 10) := ⟨RX12, TX12, 76, tyX12, rfl, inX12, by decide, ow_1209, rfl, tyX12_ok, rfl, nmX12, rfl⟩
theorem mi_RX12_260 : ob_mi RX12 260 yX12_isName cX12_isName 1 (some .boolean) 0 := ⟨ow_1478, ow_17, ow_1481, by decide +kernel⟩
theorem mi_RX12_263 : ob_mi RX12 263 yX12_find cX12_find 3 (some .int) 0 := ⟨ow_1509, ow_17, ow_1512, by decide +kernel⟩
theorem fl_RX12_21 : ob_fl RX12 21 12 11 true (tyX12 11) := ⟨RX12, TX12, 76, tyX12, rfl, inX12, by decide, ow_1210, rfl, tyX12_ok, rfl, nmX12, rfl⟩
theorem cs_320 : (Int16.ofInt (320)).toInt32 = (320 : Int32) := by decide
theorem fl_RX12_267 : ob_fl RX12 267 12 20 false .int := ⟨RX12, TX12, 76, tyX12, rfl, inX12, by decide, ow_1219, rfl, tyX12_ok, rfl, nmX12, rfl⟩
theorem fl_RX12_27 : ob_fl RX12 27 12 13 true (tyX12 13) := ⟨RX12, TX12, 76, tyX12, rfl, inX12, by decide, ow_1212, rfl, tyX12_ok, rfl, nmX12, rfl⟩
theorem fl_RX12_24 : ob_fl RX12 24 12 12 true (tyX12 12) := ⟨RX12, TX12, 76, tyX12, rfl, inX12, by decide, ow_1211, rfl, tyX12_ok, rfl, nmX12, rfl⟩
theorem fl_RX12_270 : ob_fl RX12 270 12 21 false .int := ⟨RX12, TX12, 76, tyX12, rfl, inX12, by decide, ow_1220, rfl, tyX12_ok, rfl, nmX12, rfl⟩
theorem fl_RX12_39 : ob_fl RX12 39 12 17 true (tyX12 17) := ⟨RX12, TX12, 76, tyX12, rfl, inX12, by decide, ow_1216, rfl, tyX12_ok, rfl, nmX12, rfl⟩
theorem mi_RX12_273 : ob_mi RX12 273 yX12_tight cX12_tight 1 (some .int) 1 := ⟨ow_1572, ow_17, ow_1574, by decide +kernel⟩
theorem cb_21 : (Int8.ofInt (21)).toInt32 = (21 : Int32) := by decide
theorem mi_RX12_276 : ob_mi RX12 276 yX12_add cX12_add 3 none 2 := ⟨ow_1591, ow_17, ow_1594, by decide +kernel⟩
theorem fl_RX12_280 : ob_fl RX12 280 12 25 false .int := ⟨RX12, TX12, 76, tyX12, rfl, inX12, by decide, ow_1224, rfl, tyX12_ok, rfl, nmX12, rfl⟩
theorem fl_RX12_283 : ob_fl RX12 283 12 22 false .int := ⟨RX12, TX12, 76, tyX12, rfl, inX12, by decide, ow_1221, rfl, tyX12_ok, rfl, nmX12, rfl⟩
theorem fl_RX12_286 : ob_fl RX12 286 12 24 false .int := ⟨RX12, TX12, 76, tyX12, rfl, inX12, by decide, ow_1223, rfl, tyX12_ok, rfl, nmX12, rfl⟩
theorem mi_RX12_301 : ob_mi RX12 301 yX12_asked cX12_asked 1 (some .int) 0 := ⟨ow_1587, ow_17, ow_1590, by decide +kernel⟩
theorem mi_RX12_295 : ob_mi RX12 295 yX12_isFull cX12_isFull 1 (some .boolean) 0 := ⟨ow_1579, ow_17, ow_1582, by decide +kernel⟩
theorem mi_RX12_298 : ob_mi RX12 298 yX12_countUnit cX12_countUnit 1 none 0 := ⟨ow_1583, ow_17, ow_1586, by decide +kernel⟩
theorem mi_RX12_292 : ob_mi RX12 292 yX12_openUp cX12_openUp 2 none 1 := ⟨ow_1575, ow_17, ow_1578, by decide +kernel⟩
theorem mi_RX12_289 : ob_mi RX12 289 yX12_mayNot cX12_mayNot 1 (some .boolean) 0 := ⟨ow_1568, ow_17, ow_1571, by decide +kernel⟩
theorem cb_124 : (Int8.ofInt (124)).toInt32 = (124 : Int32) := by decide
theorem cb_38 : (Int8.ofInt (38)).toInt32 = (38 : Int32) := by decide
theorem fl_RX12_45 : ob_fl RX12 45 12 19 true (tyX12 19) := ⟨RX12, TX12, 76, tyX12, rfl, inX12, by decide, ow_1218, rfl, tyX12_ok, rfl, nmX12, rfl⟩
theorem mi_RX12_304 : ob_mi RX12 304 yX12_unit cX12_unit 3 none 0 := ⟨ow_1564, ow_17, ow_1567, by decide +kernel⟩
theorem mi_RX12_313 : ob_mi RX12 313 yX12_close cX12_close 2 none 1 := ⟨ow_1603, ow_17, ow_1606, by decide +kernel⟩
theorem mi_RX12_310 : ob_mi RX12 310 yX12_hasBracket cX12_hasBracket 3 (some .boolean) 0 := ⟨ow_1599, ow_17, ow_1602, by decide +kernel⟩
theorem mi_RX12_307 : ob_mi RX12 307 yX12_sign cX12_sign 1 (some .int) 0 := ⟨ow_1595, ow_17, ow_1598, by decide +kernel⟩
theorem mi_RX12_316 : ob_mi RX12 316 yX12_hasRelation cX12_hasRelation 2 (some .boolean) 0 := ⟨ow_1607, ow_17, ow_1610, by decide +kernel⟩
theorem mi_RX12_319 : ob_mi RX12 319 yX12_truth cX12_truth 1 (some .int) 1 := ⟨ow_1533, ow_17, ow_1535, by decide +kernel⟩
theorem fl_RX12_323 : ob_fl RX12 323 12 48 false .int := ⟨RX12, TX12, 76, tyX12, rfl, inX12, by decide, ow_1247, rfl, tyX12_ok, rfl, nmX12, rfl⟩
theorem fl_RX12_100 : ob_fl RX12 100 12 54 true (tyX12 54) := ⟨RX12, TX12, 76, tyX12, rfl, inX12, by decide, ow_1253, rfl, tyX12_ok, rfl, nmX12, rfl⟩
theorem fl_RX12_49 : ob_fl RX12 49 12 26 true (tyX12 26) := ⟨RX12, TX12, 76, tyX12, rfl, inX12, by decide, ow_1225, rfl, tyX12_ok, rfl, nmX12, rfl⟩
theorem fl_RX12_76 : ob_fl RX12 76 12 35 true (tyX12 35) := ⟨RX12, TX12, 76, tyX12, rfl, inX12, by decide, ow_1234, rfl, tyX12_ok, rfl, nmX12, rfl⟩
theorem in_21_24 : vp_in 21 24 := by unfold vp_in; decide
theorem ix_21 : (21 : Int32).toNatClampNeg = 21 := by decide
theorem cb_14 : (Int8.ofInt (14)).toInt32 = (14 : Int32) := by decide
theorem mi_RX12_326 : ob_mi RX12 326 yX12_heardOnes cX12_heardOnes 3 (some .int) 0 := ⟨ow_1654, ow_17, ow_1657, by decide +kernel⟩
theorem fl_RX12_42 : ob_fl RX12 42 12 18 true (tyX12 18) := ⟨RX12, TX12, 76, tyX12, rfl, inX12, by decide, ow_1217, rfl, tyX12_ok, rfl, nmX12, rfl⟩
theorem in_0_64 : vp_in 0 64 := by unfold vp_in; decide
theorem fl_RX12_36 : ob_fl RX12 36 12 16 true (tyX12 16) := ⟨RX12, TX12, 76, tyX12, rfl, inX12, by decide, ow_1215, rfl, tyX12_ok, rfl, nmX12, rfl⟩
theorem fl_RX12_30 : ob_fl RX12 30 12 14 true (tyX12 14) := ⟨RX12, TX12, 76, tyX12, rfl, inX12, by decide, ow_1213, rfl, tyX12_ok, rfl, nmX12, rfl⟩
theorem fl_RX12_33 : ob_fl RX12 33 12 15 true (tyX12 15) := ⟨RX12, TX12, 76, tyX12, rfl, inX12, by decide, ow_1214, rfl, tyX12_ok, rfl, nmX12, rfl⟩
theorem mi_RX12_329 : ob_mi RX12 329 yX12_done cX12_done 3 (some .int) 3 := ⟨ow_1658, ow_17, ow_1660, by decide +kernel⟩
theorem fl_RX12_52 : ob_fl RX12 52 12 27 true (tyX12 27) := ⟨RX12, TX12, 76, tyX12, rfl, inX12, by decide, ow_1226, rfl, tyX12_ok, rfl, nmX12, rfl⟩
theorem fl_RX12_55 : ob_fl RX12 55 12 28 true (tyX12 28) := ⟨RX12, TX12, 76, tyX12, rfl, inX12, by decide, ow_1227, rfl, tyX12_ok, rfl, nmX12, rfl⟩
theorem fl_RX12_58 : ob_fl RX12 58 12 29 true (tyX12 29) := ⟨RX12, TX12, 76, tyX12, rfl, inX12, by decide, ow_1228, rfl, tyX12_ok, rfl, nmX12, rfl⟩
theorem mi_RX12_333 : ob_mi RX12 333 yX12_option cX12_option 5 (some .int) 3 := ⟨ow_1525, ow_17, ow_1528, by decide +kernel⟩
theorem fl_RX12_61 : ob_fl RX12 61 12 30 true (tyX12 30) := ⟨RX12, TX12, 76, tyX12, rfl, inX12, by decide, ow_1229, rfl, tyX12_ok, rfl, nmX12, rfl⟩
theorem fl_RX12_336 : ob_fl RX12 336 12 47 false .int := ⟨RX12, TX12, 76, tyX12, rfl, inX12, by decide, ow_1246, rfl, tyX12_ok, rfl, nmX12, rfl⟩
theorem mi_RX12_339 : ob_mi RX12 339 yX12_takes cX12_takes 4 (some .boolean) 1 := ⟨ow_1529, ow_17, ow_1532, by decide +kernel⟩
theorem fl_RX12_64 : ob_fl RX12 64 12 31 true (tyX12 31) := ⟨RX12, TX12, 76, tyX12, rfl, inX12, by decide, ow_1230, rfl, tyX12_ok, rfl, nmX12, rfl⟩
theorem fl_RX12_67 : ob_fl RX12 67 12 32 true (tyX12 32) := ⟨RX12, TX12, 76, tyX12, rfl, inX12, by decide, ow_1231, rfl, tyX12_ok, rfl, nmX12, rfl⟩
theorem fl_RX12_70 : ob_fl RX12 70 12 33 true (tyX12 33) := ⟨RX12, TX12, 76, tyX12, rfl, inX12, by decide, ow_1232, rfl, tyX12_ok, rfl, nmX12, rfl⟩
theorem mi_RX12_342 : ob_mi RX12 342 yX12_oldOne cX12_oldOne 1 (some .int) 0 := ⟨ow_1544, ow_17, ow_1547, by decide +kernel⟩
theorem mi_RX12_345 : ob_mi RX12 345 yX12_readFirst cX12_readFirst 2 (some .int) 0 := ⟨ow_1540, ow_17, ow_1543, by decide +kernel⟩
theorem mi_RX12_348 : ob_mi RX12 348 yX12_readSecond cX12_readSecond 4 (some .int) 2 := ⟨ow_1548, ow_17, ow_1551, by decide +kernel⟩
theorem fl_RX12_351 : ob_fl RX12 351 12 42 false .int := ⟨RX12, TX12, 76, tyX12, rfl, inX12, by decide, ow_1241, rfl, tyX12_ok, rfl, nmX12, rfl⟩
theorem fl_RX12_354 : ob_fl RX12 354 12 43 false .int := ⟨RX12, TX12, 76, tyX12, rfl, inX12, by decide, ow_1242, rfl, tyX12_ok, rfl, nmX12, rfl⟩
theorem fl_RX12_357 : ob_fl RX12 357 12 44 false .int := ⟨RX12, TX12, 76, tyX12, rfl, inX12, by decide, ow_1243, rfl, tyX12_ok, rfl, nmX12, rfl⟩
theorem fl_RX12_382 : ob_fl RX12 382 12 52 false .boolean := ⟨RX12, TX12, 76, tyX12, rfl, inX12, by decide, ow_1251, rfl, tyX12_ok, rfl, nmX12, rfl⟩
theorem fl_RX12_385 : ob_fl RX12 385 12 46 false .int := ⟨RX12, TX12, 76, tyX12, rfl, inX12, by decide, ow_1245, rfl, tyX12_ok, rfl, nmX12, rfl⟩
theorem fl_RX12_375 : ob_fl RX12 375 12 51 false .boolean := ⟨RX12, TX12, 76, tyX12, rfl, inX12, by decide, ow_1250, rfl, tyX12_ok, rfl, nmX12, rfl⟩
theorem fl_RX12_379 : ob_fl RX12 379 12 45 false .int := ⟨RX12, TX12, 76, tyX12, rfl, inX12, by decide, ow_1244, rfl, tyX12_ok, rfl, nmX12, rfl⟩
theorem in_1_2 : vp_in 1 2 := by unfold vp_in; decide
theorem mi_RX12_372 : ob_mi RX12 372 yX12_formula cX12_formula 4 none 1 := ⟨ow_1560, ow_17, ow_1563, by decide +kernel⟩
theorem in_0_2 : vp_in 0 2 := by unfold vp_in; decide
theorem mi_RX12_369 : ob_mi RX12 369 yX12_readJoined cX12_readJoined 5 none 0 := ⟨ow_1556, ow_17, ow_1559, by decide +kernel⟩
theorem mi_RX12_366 : ob_mi RX12 366 yX12_readBrings cX12_readBrings 3 none 0 := ⟨ow_1552, ow_17, ow_1555, by decide +kernel⟩
theorem mi_RX12_363 : ob_mi RX12 363 yX12_readSettles cX12_readSettles 3 none 0 := ⟨ow_1536, ow_17, ow_1539, by decide +kernel⟩
theorem mi_RX12_360 : ob_mi RX12 360 yX12_readObjector cX12_readObjector 3 none 0 := ⟨ow_1474, ow_17, ow_1477, by decide +kernel⟩
theorem mi_RX12_388 : ob_mi RX12 388 yX12_readLine cX12_readLine 1 none 0 := ⟨ow_1465, ow_17, ow_1468, by decide +kernel⟩
theorem fl_RX12_394 : ob_fl RX12 394 12 49 false .int := ⟨RX12, TX12, 76, tyX12, rfl, inX12, by decide, ow_1248, rfl, tyX12_ok, rfl, nmX12, rfl⟩
theorem fl_RX12_97 : ob_fl RX12 97 12 53 true (tyX12 53) := ⟨RX12, TX12, 76, tyX12, rfl, inX12, by decide, ow_1252, rfl, tyX12_ok, rfl, nmX12, rfl⟩
theorem mi_RX12_391 : ob_mi RX12 391 yX12_readAll cX12_readAll 1 none 0 := ⟨ow_1444, ow_17, ow_1447, by decide +kernel⟩
theorem fl_RX12_94 : ob_fl RX12 94 12 50 false .int := ⟨RX12, TX12, 76, tyX12, rfl, inX12, by decide, ow_1249, rfl, tyX12_ok, rfl, nmX12, rfl⟩
theorem fl_RX12_397 : ob_fl RX12 397 12 23 false .int := ⟨RX12, TX12, 76, tyX12, rfl, inX12, by decide, ow_1222, rfl, tyX12_ok, rfl, nmX12, rfl⟩
theorem mi_RX12_400 : ob_mi RX12 400 yX12_begin cX12_begin 2 none 0 := ⟨ow_1611, ow_17, ow_1614, by decide +kernel⟩
theorem cb_23 : (Int8.ofInt (23)).toInt32 = (23 : Int32) := by decide
theorem in_23_24 : vp_in 23 24 := by unfold vp_in; decide
theorem ix_23 : (23 : Int32).toNatClampNeg = 23 := by decide
theorem mi_RX12_403 : ob_mi RX12 403 yX12_keepAir cX12_keepAir 2 none 0 := ⟨ow_1615, ow_17, ow_1618, by decide +kernel⟩
theorem fl_RX12_406 : ob_fl RX12 406 12 59 false .int := ⟨RX12, TX12, 76, tyX12, rfl, inX12, by decide, ow_1258, rfl, tyX12_ok, rfl, nmX12, rfl⟩
theorem fl_RX12_409 : ob_fl RX12 409 12 60 false .int := ⟨RX12, TX12, 76, tyX12, rfl, inX12, by decide, ow_1259, rfl, tyX12_ok, rfl, nmX12, rfl⟩
theorem fl_RX12_412 : ob_fl RX12 412 12 70 false .int := ⟨RX12, TX12, 76, tyX12, rfl, inX12, by decide, ow_1269, rfl, tyX12_ok, rfl, nmX12, rfl⟩
theorem fl_RX12_415 : ob_fl RX12 415 12 62 false .int := ⟨RX12, TX12, 76, tyX12, rfl, inX12, by decide, ow_1261, rfl, tyX12_ok, rfl, nmX12, rfl⟩
theorem fl_RX12_142 : ob_fl RX12 142 12 74 true (tyX12 74) := ⟨RX12, TX12, 76, tyX12, rfl, inX12, by decide, ow_1273, rfl, tyX12_ok, rfl, nmX12, rfl⟩
theorem fl_RX12_91 : ob_fl RX12 91 12 40 true (tyX12 40) := ⟨RX12, TX12, 76, tyX12, rfl, inX12, by decide, ow_1239, rfl, tyX12_ok, rfl, nmX12, rfl⟩
theorem fl_RX12_73 : ob_fl RX12 73 12 34 true (tyX12 34) := ⟨RX12, TX12, 76, tyX12, rfl, inX12, by decide, ow_1233, rfl, tyX12_ok, rfl, nmX12, rfl⟩
theorem fl_RX12_79 : ob_fl RX12 79 12 36 true (tyX12 36) := ⟨RX12, TX12, 76, tyX12, rfl, inX12, by decide, ow_1235, rfl, tyX12_ok, rfl, nmX12, rfl⟩
theorem fl_RX12_82 : ob_fl RX12 82 12 37 true (tyX12 37) := ⟨RX12, TX12, 76, tyX12, rfl, inX12, by decide, ow_1236, rfl, tyX12_ok, rfl, nmX12, rfl⟩
theorem fl_RX12_85 : ob_fl RX12 85 12 38 true (tyX12 38) := ⟨RX12, TX12, 76, tyX12, rfl, inX12, by decide, ow_1237, rfl, tyX12_ok, rfl, nmX12, rfl⟩
theorem fl_RX12_88 : ob_fl RX12 88 12 39 true (tyX12 39) := ⟨RX12, TX12, 76, tyX12, rfl, inX12, by decide, ow_1238, rfl, tyX12_ok, rfl, nmX12, rfl⟩
theorem mi_RX12_418 : ob_mi RX12 418 yX12_isIn cX12_isIn 3 (some .boolean) 3 := ⟨ow_1631, ow_17, ow_1633, by decide +kernel⟩
theorem mi_RX12_422 : ob_mi RX12 422 yX12_worked cX12_worked 7 (some .int) 4 := ⟨ow_1650, ow_17, ow_1653, by decide +kernel⟩
theorem mi_RX12_426 : ob_mi RX12 426 yX12_rankOf cX12_rankOf 2 (some .int) 1 := ⟨ow_1646, ow_17, ow_1649, by decide +kernel⟩
theorem mi_RX12_429 : ob_mi RX12 429 yX12_isAhead cX12_isAhead 5 (some .boolean) 4 := ⟨ow_1670, ow_17, ow_1673, by decide +kernel⟩
theorem mi_RX12_433 : ob_mi RX12 433 yX12_leave cX12_leave 3 (some .int) 0 := ⟨ow_1686, ow_17, ow_1689, by decide +kernel⟩
theorem fl_RX12_436 : ob_fl RX12 436 12 57 false .int := ⟨RX12, TX12, 76, tyX12, rfl, inX12, by decide, ow_1256, rfl, tyX12_ok, rfl, nmX12, rfl⟩
theorem mi_RX12_439 : ob_mi RX12 439 yX12_turnOf cX12_turnOf 3 (some .int) 0 := ⟨ow_1666, ow_17, ow_1669, by decide +kernel⟩
theorem fl_RX12_103 : ob_fl RX12 103 12 55 true (tyX12 55) := ⟨RX12, TX12, 76, tyX12, rfl, inX12, by decide, ow_1254, rfl, tyX12_ok, rfl, nmX12, rfl⟩
theorem fl_RX12_106 : ob_fl RX12 106 12 56 true (tyX12 56) := ⟨RX12, TX12, 76, tyX12, rfl, inX12, by decide, ow_1255, rfl, tyX12_ok, rfl, nmX12, rfl⟩
theorem mi_RX12_442 : ob_mi RX12 442 yX12_goHear cX12_goHear 4 none 2 := ⟨ow_1682, ow_17, ow_1685, by decide +kernel⟩
theorem mi_RX12_445 : ob_mi RX12 445 yX12_load cX12_load 2 none 0 := ⟨ow_1638, ow_17, ow_1641, by decide +kernel⟩
theorem mi_RX12_448 : ob_mi RX12 448 yX12_goOn cX12_goOn 2 (some .int) 0 := ⟨ow_1738, ow_17, ow_1741, by decide +kernel⟩
theorem mi_RX12_451 : ob_mi RX12 451 yX12_isOne cX12_isOne 2 (some .boolean) 1 := ⟨ow_1627, ow_17, ow_1630, by decide +kernel⟩
theorem mi_RX12_454 : ob_mi RX12 454 yX12_isWaiting cX12_isWaiting 2 (some .boolean) 1 := ⟨ow_1642, ow_17, ow_1645, by decide +kernel⟩
theorem fl_RX12_109 : ob_fl RX12 109 12 58 true (tyX12 58) := ⟨RX12, TX12, 76, tyX12, rfl, inX12, by decide, ow_1257, rfl, tyX12_ok, rfl, nmX12, rfl⟩
theorem cs_936 : (Int16.ofInt (936)).toInt32 = (936 : Int32) := by decide
theorem mi_RX12_458 : ob_mi RX12 458 yX12_act cX12_act 2 none 0 := ⟨ow_1674, ow_17, ow_1677, by decide +kernel⟩
theorem mi_RX12_461 : ob_mi RX12 461 yX12_answerOf cX12_answerOf 2 (some .int) 1 := ⟨ow_1678, ow_17, ow_1681, by decide +kernel⟩
theorem cb_22 : (Int8.ofInt (22)).toInt32 = (22 : Int32) := by decide
theorem in_22_24 : vp_in 22 24 := by unfold vp_in; decide
theorem ix_22 : (22 : Int32).toNatClampNeg = 22 := by decide
theorem mi_RX12_464 : ob_mi RX12 464 yX12_changeNumbers cX12_changeNumbers 4 none 2 := ⟨ow_1702, ow_17, ow_1705, by decide +kernel⟩
theorem mi_RX12_467 : ob_mi RX12 467 yX12_exchange cX12_exchange 4 none 1 := ⟨ow_1710, ow_17, ow_1713, by decide +kernel⟩
theorem mi_RX12_470 : ob_mi RX12 470 yX12_thatAre cX12_thatAre 4 (some .int) 1 := ⟨ow_1726, ow_17, ow_1729, by decide +kernel⟩
theorem fl_RX12_112 : ob_fl RX12 112 12 61 true (tyX12 61) := ⟨RX12, TX12, 76, tyX12, rfl, inX12, by decide, ow_1260, rfl, tyX12_ok, rfl, nmX12, rfl⟩
theorem mi_RX12_473 : ob_mi RX12 473 yX12_duskNow cX12_duskNow 1 (some .int) 0 := ⟨ow_1734, ow_17, ow_1737, by decide +kernel⟩
theorem fl_RX12_118 : ob_fl RX12 118 12 64 true (tyX12 64) := ⟨RX12, TX12, 76, tyX12, rfl, inX12, by decide, ow_1263, rfl, tyX12_ok, rfl, nmX12, rfl⟩
theorem mi_RX12_477 : ob_mi RX12 477 yX12_putAhead cX12_putAhead 3 none 1 := ⟨ow_1759, ow_17, ow_1762, by decide +kernel⟩
theorem fl_RX12_115 : ob_fl RX12 115 12 63 true (tyX12 63) := ⟨RX12, TX12, 76, tyX12, rfl, inX12, by decide, ow_1262, rfl, tyX12_ok, rfl, nmX12, rfl⟩
theorem mi_RX12_480 : ob_mi RX12 480 yX12_takeAhead cX12_takeAhead 3 none 1 := ⟨ow_1763, ow_17, ow_1766, by decide +kernel⟩
theorem mi_RX12_483 : ob_mi RX12 483 yX12_waitingNow cX12_waitingNow 1 (some .int) 0 := ⟨ow_1775, ow_17, ow_1778, by decide +kernel⟩
theorem mi_RX12_486 : ob_mi RX12 486 yX12_priceOf cX12_priceOf 4 (some .int) 1 := ⟨ow_1779, ow_17, ow_1782, by decide +kernel⟩
theorem mi_RX12_492 : ob_mi RX12 492 yX12_duskWithout cX12_duskWithout 3 (some .int) 1 := ⟨ow_1786, ow_17, ow_1789, by decide +kernel⟩
theorem mi_RX12_489 : ob_mi RX12 489 yX12_members cX12_members 3 (some .int) 1 := ⟨ow_1783, ow_17, ow_1785, by decide +kernel⟩
theorem mi_RX12_495 : ob_mi RX12 495 yX12_weightOf cX12_weightOf 5 (some .int) 1 := ⟨ow_1802, ow_17, ow_1805, by decide +kernel⟩
theorem mi_RX12_498 : ob_mi RX12 498 yX12_standing cX12_standing 1 (some .int) 0 := ⟨ow_1798, ow_17, ow_1801, by decide +kernel⟩
theorem mi_RX12_501 : ob_mi RX12 501 yX12_isBarred cX12_isBarred 2 (some .boolean) 1 := ⟨ow_1810, ow_17, ow_1813, by decide +kernel⟩
theorem mi_RX12_504 : ob_mi RX12 504 yX12_hundredths cX12_hundredths 3 (some .int) 1 := ⟨ow_1842, ow_17, ow_1845, by decide +kernel⟩
theorem mi_RX12_507 : ob_mi RX12 507 yX12_all cX12_all 1 (some .int) 0 := ⟨ow_1834, ow_17, ow_1837, by decide +kernel⟩
theorem mi_RX12_510 : ob_mi RX12 510 yX12_divisor cX12_divisor 5 (some .int) 2 := ⟨ow_1852, ow_17, ow_1854, by decide +kernel⟩
theorem mi_RX12_513 : ob_mi RX12 513 yX12_canAsk cX12_canAsk 3 (some .boolean) 2 := ⟨ow_1830, ow_17, ow_1833, by decide +kernel⟩
theorem mi_RX12_517 : ob_mi RX12 517 yX12_shareOf cX12_shareOf 5 (some .int) 2 := ⟨ow_1838, ow_17, ow_1841, by decide +kernel⟩
theorem mi_RX12_520 : ob_mi RX12 520 yX12_power cX12_power 4 (some .int) 2 := ⟨ow_1846, ow_17, ow_1848, by decide +kernel⟩
theorem mi_RX12_523 : ob_mi RX12 523 yX12_partOf cX12_partOf 4 (some .int) 3 := ⟨ow_1849, ow_17, ow_1851, by decide +kernel⟩
theorem nz_7 : ¬ (7 : Int32) = 0 := by decide
theorem fl_RX12_121 : ob_fl RX12 121 12 65 true (tyX12 65) := ⟨RX12, TX12, 76, tyX12, rfl, inX12, by decide, ow_1264, rfl, tyX12_ok, rfl, nmX12, rfl⟩
theorem fl_RX12_124 : ob_fl RX12 124 12 66 true (tyX12 66) := ⟨RX12, TX12, 76, tyX12, rfl, inX12, by decide, ow_1265, rfl, tyX12_ok, rfl, nmX12, rfl⟩
theorem fl_RX12_133 : ob_fl RX12 133 12 69 true (tyX12 69) := ⟨RX12, TX12, 76, tyX12, rfl, inX12, by decide, ow_1268, rfl, tyX12_ok, rfl, nmX12, rfl⟩
theorem fl_RX12_127 : ob_fl RX12 127 12 67 true (tyX12 67) := ⟨RX12, TX12, 76, tyX12, rfl, inX12, by decide, ow_1266, rfl, tyX12_ok, rfl, nmX12, rfl⟩
theorem fl_RX12_526 : ob_fl RX12 526 12 71 false .int := ⟨RX12, TX12, 76, tyX12, rfl, inX12, by decide, ow_1270, rfl, tyX12_ok, rfl, nmX12, rfl⟩
theorem fl_RX12_130 : ob_fl RX12 130 12 68 true (tyX12 68) := ⟨RX12, TX12, 76, tyX12, rfl, inX12, by decide, ow_1267, rfl, tyX12_ok, rfl, nmX12, rfl⟩
theorem fl_RX12_136 : ob_fl RX12 136 12 72 true (tyX12 72) := ⟨RX12, TX12, 76, tyX12, rfl, inX12, by decide, ow_1271, rfl, tyX12_ok, rfl, nmX12, rfl⟩
theorem fl_RX12_139 : ob_fl RX12 139 12 73 true (tyX12 73) := ⟨RX12, TX12, 76, tyX12, rfl, inX12, by decide, ow_1272, rfl, tyX12_ok, rfl, nmX12, rfl⟩
theorem mi_RX12_530 : ob_mi RX12 530 yX12_fitsGrave cX12_fitsGrave 5 (some .boolean) 2 := ⟨ow_1900, ow_17, ow_1903, by decide +kernel⟩
theorem mi_RX12_533 : ob_mi RX12 533 yX12_layFits cX12_layFits 7 (some .int) 1 := ⟨ow_1896, ow_17, ow_1899, by decide +kernel⟩
theorem mi_RX12_536 : ob_mi RX12 536 yX12_leftBy cX12_leftBy 6 (some .int) 1 := ⟨ow_1912, ow_17, ow_1915, by decide +kernel⟩
theorem mi_RX12_539 : ob_mi RX12 539 yX12_isBox cX12_isBox 1 (some .boolean) 1 := ⟨ow_1920, ow_17, ow_1922, by decide +kernel⟩
theorem fl_RX12_145 : ob_fl RX12 145 12 75 true (tyX12 75) := ⟨RX12, TX12, 76, tyX12, rfl, inX12, by decide, ow_1274, rfl, tyX12_ok, rfl, nmX12, rfl⟩
theorem mi_RL_13 : ob_mi RL 13 yX11_feed cX11_feed 6 (some .int) 5 := ⟨ow_583, ow_1, ow_586, by decide +kernel⟩
theorem mi_RL_17 : ob_mi RL 17 yX12_feed cX12_feed 6 (some .int) 5 := ⟨ow_1428, ow_17, ow_1431, by decide +kernel⟩
theorem ci_6 : Int32.ofInt (6) = (6 : Int32) := by decide
theorem mi_RL_18 : ob_mi RL 18 yX11_end cX11_end 2 (some .int) 1 := ⟨ow_591, ow_1, ow_594, by decide +kernel⟩
theorem mi_RL_22 : ob_mi RL 22 yX12_end cX12_end 2 (some .int) 1 := ⟨ow_1436, ow_17, ow_1439, by decide +kernel⟩
theorem mi_RL_23 : ob_mi RL 23 yX11_wedding cX11_wedding 2 (some .int) 0 := ⟨ow_595, ow_1, ow_598, by decide +kernel⟩
theorem mi_RL_27 : ob_mi RL 27 yX12_wedding cX12_wedding 3 (some .int) 0 := ⟨ow_1440, ow_17, ow_1443, by decide +kernel⟩
theorem mi_RL_28 : ob_mi RL 28 yX11_fault cX11_fault 2 (some .int) 1 := ⟨ow_733, ow_1, ow_736, by decide +kernel⟩
theorem mi_RL_31 : ob_mi RL 31 yX12_fault cX12_fault 2 (some .int) 1 := ⟨ow_1619, ow_17, ow_1622, by decide +kernel⟩
theorem mi_RL_32 : ob_mi RL 32 yX11_objector cX11_objector 3 (some .int) 2 := ⟨ow_737, ow_1, ow_740, by decide +kernel⟩
theorem mi_RL_36 : ob_mi RL 36 yX12_objector cX12_objector 3 (some .int) 2 := ⟨ow_1623, ow_17, ow_1626, by decide +kernel⟩
theorem mi_RL_37 : ob_mi RL 37 yX11_ranks cX11_ranks 2 (some .int) 1 := ⟨ow_757, ow_1, ow_760, by decide +kernel⟩
theorem mi_RL_40 : ob_mi RL 40 yX12_ranks cX12_ranks 2 (some .int) 1 := ⟨ow_1634, ow_17, ow_1637, by decide +kernel⟩
theorem mi_RL_41 : ob_mi RL 41 yX11_hear cX11_hear 2 (some .int) 0 := ⟨ow_784, ow_1, ow_787, by decide +kernel⟩
theorem mi_RL_44 : ob_mi RL 44 yX12_hear cX12_hear 3 (some .int) 0 := ⟨ow_1662, ow_17, ow_1665, by decide +kernel⟩
theorem mi_RL_45 : ob_mi RL 45 yX11_buy cX11_buy 2 (some .int) 1 := ⟨ow_826, ow_1, ow_829, by decide +kernel⟩
theorem mi_RL_48 : ob_mi RL 48 yX12_buy cX12_buy 2 (some .int) 1 := ⟨ow_1690, ow_17, ow_1693, by decide +kernel⟩
theorem mi_RL_49 : ob_mi RL 49 yX11_pause cX11_pause 2 (some .int) 1 := ⟨ow_831, ow_1, ow_834, by decide +kernel⟩
theorem mi_RL_52 : ob_mi RL 52 yX12_pause cX12_pause 3 (some .int) 1 := ⟨ow_1694, ow_17, ow_1697, by decide +kernel⟩
theorem mi_RL_53 : ob_mi RL 53 yX11_trade cX11_trade 3 (some .int) 2 := ⟨ow_839, ow_1, ow_842, by decide +kernel⟩
theorem mi_RL_56 : ob_mi RL 56 yX12_trade cX12_trade 3 (some .int) 2 := ⟨ow_1698, ow_17, ow_1701, by decide +kernel⟩
theorem mi_RL_57 : ob_mi RL 57 yX11_undo cX11_undo 1 (some .boolean) 0 := ⟨ow_847, ow_1, ow_850, by decide +kernel⟩
theorem mi_RL_61 : ob_mi RL 61 yX12_undo cX12_undo 1 (some .boolean) 0 := ⟨ow_1706, ow_17, ow_1709, by decide +kernel⟩
theorem mi_RL_62 : ob_mi RL 62 yX11_redo cX11_redo 1 (some .boolean) 0 := ⟨ow_859, ow_1, ow_862, by decide +kernel⟩
theorem mi_RL_65 : ob_mi RL 65 yX12_redo cX12_redo 1 (some .boolean) 0 := ⟨ow_1714, ow_17, ow_1717, by decide +kernel⟩
theorem mi_RL_66 : ob_mi RL 66 yX11_next cX11_next 1 (some .int) 0 := ⟨ow_867, ow_1, ow_870, by decide +kernel⟩
theorem mi_RL_69 : ob_mi RL 69 yX12_next cX12_next 1 (some .int) 0 := ⟨ow_1718, ow_17, ow_1721, by decide +kernel⟩
theorem mi_RL_70 : ob_mi RL 70 yX11_queue cX11_queue 4 (some .int) 0 := ⟨ow_871, ow_1, ow_874, by decide +kernel⟩
theorem mi_RL_73 : ob_mi RL 73 yX12_queue cX12_queue 4 (some .int) 0 := ⟨ow_1722, ow_17, ow_1725, by decide +kernel⟩
theorem mi_RL_74 : ob_mi RL 74 yX11_dusk cX11_dusk 1 (some .int) 0 := ⟨ow_879, ow_1, ow_882, by decide +kernel⟩
theorem mi_RL_77 : ob_mi RL 77 yX12_dusk cX12_dusk 1 (some .int) 0 := ⟨ow_1730, ow_17, ow_1733, by decide +kernel⟩
theorem mi_RL_78 : ob_mi RL 78 yX11_when cX11_when 3 (some .int) 1 := ⟨ow_894, ow_1, ow_897, by decide +kernel⟩
theorem mi_RL_81 : ob_mi RL 81 yX12_when cX12_when 3 (some .int) 1 := ⟨ow_1742, ow_17, ow_1745, by decide +kernel⟩
theorem mi_RL_82 : ob_mi RL 82 yX11_course cX11_course 1 (some .int) 0 := ⟨ow_898, ow_1, ow_901, by decide +kernel⟩
theorem mi_RL_85 : ob_mi RL 85 yX12_course cX12_course 2 (some .int) 0 := ⟨ow_1746, ow_17, ow_1749, by decide +kernel⟩
theorem mi_RL_86 : ob_mi RL 86 yX11_leavers cX11_leavers 1 (some .int) 0 := ⟨ow_907, ow_1, ow_910, by decide +kernel⟩
theorem mi_RL_89 : ob_mi RL 89 yX12_leavers cX12_leavers 2 (some .int) 0 := ⟨ow_1750, ow_17, ow_1753, by decide +kernel⟩
theorem mi_RL_90 : ob_mi RL 90 yX11_soonest cX11_soonest 1 (some .int) 0 := ⟨ow_911, ow_1, ow_914, by decide +kernel⟩
theorem mi_RL_93 : ob_mi RL 93 yX12_soonest cX12_soonest 5 (some .int) 0 := ⟨ow_1754, ow_17, ow_1757, by decide +kernel⟩
theorem mi_RL_94 : ob_mi RL 94 yX11_first cX11_first 2 (some .int) 1 := ⟨ow_935, ow_1, ow_938, by decide +kernel⟩
theorem mi_RL_97 : ob_mi RL 97 yX12_first cX12_first 6 (some .int) 1 := ⟨ow_1767, ow_17, ow_1770, by decide +kernel⟩
theorem mi_RL_98 : ob_mi RL 98 yX11_purchase cX11_purchase 4 (some .int) 2 := ⟨ow_947, ow_1, ow_950, by decide +kernel⟩
theorem mi_RL_101 : ob_mi RL 101 yX12_purchase cX12_purchase 7 (some .int) 2 := ⟨ow_1771, ow_17, ow_1774, by decide +kernel⟩
theorem mi_RL_102 : ob_mi RL 102 yX11_boast cX11_boast 2 (some .int) 1 := ⟨ow_969, ow_1, ow_972, by decide +kernel⟩
theorem mi_RL_105 : ob_mi RL 105 yX12_boast cX12_boast 6 (some .int) 1 := ⟨ow_1790, ow_17, ow_1793, by decide +kernel⟩
theorem mi_RL_106 : ob_mi RL 106 yX11_weight cX11_weight 1 (some .int) 0 := ⟨ow_979, ow_1, ow_982, by decide +kernel⟩
theorem mi_RL_109 : ob_mi RL 109 yX12_weight cX12_weight 1 (some .int) 0 := ⟨ow_1794, ow_17, ow_1797, by decide +kernel⟩
theorem mi_RL_110 : ob_mi RL 110 yX11_threat cX11_threat 2 (some .int) 1 := ⟨ow_987, ow_1, ow_990, by decide +kernel⟩
theorem mi_RL_113 : ob_mi RL 113 yX12_threat cX12_threat 6 (some .int) 1 := ⟨ow_1806, ow_17, ow_1809, by decide +kernel⟩
theorem mi_RL_114 : ob_mi RL 114 yX11_bars cX11_bars 1 (some .int) 0 := ⟨ow_1006, ow_1, ow_1009, by decide +kernel⟩
theorem mi_RL_117 : ob_mi RL 117 yX12_bars cX12_bars 5 (some .int) 0 := ⟨ow_1814, ow_17, ow_1817, by decide +kernel⟩
theorem mi_RL_118 : ob_mi RL 118 yX11_gain cX11_gain 2 (some .int) 1 := ⟨ow_1014, ow_1, ow_1017, by decide +kernel⟩
theorem mi_RL_121 : ob_mi RL 121 yX12_gain cX12_gain 2 (some .int) 1 := ⟨ow_1818, ow_17, ow_1821, by decide +kernel⟩
theorem mi_RL_122 : ob_mi RL 122 yX11_crowd cX11_crowd 2 (some .int) 1 := ⟨ow_1019, ow_1, ow_1022, by decide +kernel⟩
theorem mi_RL_125 : ob_mi RL 125 yX12_crowd cX12_crowd 5 (some .int) 1 := ⟨ow_1822, ow_17, ow_1825, by decide +kernel⟩
theorem mi_RL_126 : ob_mi RL 126 yX11_odds cX11_odds 3 (some .int) 2 := ⟨ow_1027, ow_1, ow_1030, by decide +kernel⟩
theorem mi_RL_129 : ob_mi RL 129 yX12_odds cX12_odds 3 (some .int) 2 := ⟨ow_1826, ow_17, ow_1829, by decide +kernel⟩
theorem mi_RL_130 : ob_mi RL 130 yX11_peril cX11_peril 3 (some .int) 2 := ⟨ow_1061, ow_1, ow_1064, by decide +kernel⟩
theorem mi_RL_133 : ob_mi RL 133 yX12_peril cX12_peril 6 (some .int) 2 := ⟨ow_1855, ow_17, ow_1858, by decide +kernel⟩
theorem mi_RL_134 : ob_mi RL 134 yX11_tarry cX11_tarry 2 (some .int) 1 := ⟨ow_1069, ow_1, ow_1072, by decide +kernel⟩
theorem mi_RL_137 : ob_mi RL 137 yX12_tarry cX12_tarry 6 (some .int) 1 := ⟨ow_1859, ow_17, ow_1862, by decide +kernel⟩
theorem mi_RL_138 : ob_mi RL 138 yX11_swap cX11_swap 2 (some .int) 1 := ⟨ow_1078, ow_1, ow_1081, by decide +kernel⟩
theorem mi_RL_141 : ob_mi RL 141 yX12_swap cX12_swap 7 (some .int) 1 := ⟨ow_1863, ow_17, ow_1866, by decide +kernel⟩
theorem mi_RL_142 : ob_mi RL 142 yX11_by cX11_by 4 (some .int) 1 := ⟨ow_1091, ow_1, ow_1094, by decide +kernel⟩
theorem mi_RL_145 : ob_mi RL 145 yX12_by cX12_by 4 (some .int) 1 := ⟨ow_1867, ow_17, ow_1870, by decide +kernel⟩
theorem mi_RL_146 : ob_mi RL 146 yX11_upset cX11_upset 3 (some .int) 0 := ⟨ow_1095, ow_1, ow_1098, by decide +kernel⟩
theorem mi_RL_149 : ob_mi RL 149 yX12_upset cX12_upset 3 (some .int) 0 := ⟨ow_1871, ow_17, ow_1874, by decide +kernel⟩
theorem mi_RL_150 : ob_mi RL 150 yX11_lies cX11_lies 2 (some .int) 1 := ⟨ow_1099, ow_1, ow_1102, by decide +kernel⟩
theorem mi_RL_153 : ob_mi RL 153 yX12_lies cX12_lies 2 (some .int) 1 := ⟨ow_1875, ow_17, ow_1878, by decide +kernel⟩
theorem mi_RL_154 : ob_mi RL 154 yX11_seen cX11_seen 5 (some .int) 3 := ⟨ow_1103, ow_1, ow_1106, by decide +kernel⟩
theorem mi_RL_158 : ob_mi RL 158 yX12_seen cX12_seen 4 (some .int) 3 := ⟨ow_1879, ow_17, ow_1882, by decide +kernel⟩
theorem mi_RL_159 : ob_mi RL 159 yX11_untell cX11_untell 2 (some .boolean) 1 := ⟨ow_1111, ow_1, ow_1114, by decide +kernel⟩
theorem mi_RL_163 : ob_mi RL 163 yX12_untell cX12_untell 2 (some .boolean) 1 := ⟨ow_1883, ow_17, ow_1886, by decide +kernel⟩
theorem mi_RL_164 : ob_mi RL 164 yX11_later cX11_later 2 (some .int) 1 := ⟨ow_1119, ow_1, ow_1122, by decide +kernel⟩
theorem mi_RL_167 : ob_mi RL 167 yX12_later cX12_later 2 (some .int) 1 := ⟨ow_1887, ow_17, ow_1890, by decide +kernel⟩
theorem mi_RL_168 : ob_mi RL 168 yX11_fits cX11_fits 2 (some .int) 1 := ⟨ow_1128, ow_1, ow_1131, by decide +kernel⟩
theorem mi_RL_171 : ob_mi RL 171 yX12_fits cX12_fits 2 (some .int) 1 := ⟨ow_1892, ow_17, ow_1895, by decide +kernel⟩
theorem mi_RL_172 : ob_mi RL 172 yX11_sure cX11_sure 3 (some .int) 2 := ⟨ow_1146, ow_1, ow_1149, by decide +kernel⟩
theorem mi_RL_175 : ob_mi RL 175 yX12_sure cX12_sure 5 (some .int) 2 := ⟨ow_1904, ow_17, ow_1907, by decide +kernel⟩
theorem mi_RL_176 : ob_mi RL 176 yX11_ask cX11_ask 3 (some .int) 2 := ⟨ow_1158, ow_1, ow_1161, by decide +kernel⟩
theorem mi_RL_179 : ob_mi RL 179 yX12_ask cX12_ask 5 (some .int) 2 := ⟨ow_1908, ow_17, ow_1911, by decide +kernel⟩
theorem mi_RL_180 : ob_mi RL 180 yX11_image cX11_image 2 (some .int) 1 := ⟨ow_1171, ow_1, ow_1174, by decide +kernel⟩
theorem mi_RL_183 : ob_mi RL 183 yX12_image cX12_image 3 (some .int) 1 := ⟨ow_1916, ow_17, ow_1919, by decide +kernel⟩
theorem mi_RL_184 : ob_mi RL 184 yX11_back cX11_back 2 (some .int) 1 := ⟨ow_1179, ow_1, ow_1182, by decide +kernel⟩
theorem mi_RL_187 : ob_mi RL 187 yX12_back cX12_back 3 (some .int) 1 := ⟨ow_1923, ow_17, ow_1926, by decide +kernel⟩
theorem mi_RL_188 : ob_mi RL 188 yX11_about cX11_about 2 (some .int) 1 := ⟨ow_1188, ow_1, ow_1191, by decide +kernel⟩
theorem mi_RL_191 : ob_mi RL 191 yX12_about cX12_about 2 (some .int) 1 := ⟨ow_1927, ow_17, ow_1930, by decide +kernel⟩
