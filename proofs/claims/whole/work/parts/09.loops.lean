theorem nI_le2 {a b : Nat} (ha : a < 2 ^ 31) (hb : b < 2 ^ 31) : (nI a ≤ nI b) = (a ≤ b) := propext (nI_leI ha hb)
theorem nI_lt2 {a b : Nat} (ha : a < 2 ^ 31) (hb : b < 2 ^ 31) : (nI a < nI b) = (a < b) := propext (nI_ltI ha hb)
theorem Lt_eq {α : Type} {v w : α} {f : α → Prop} (e : v = w) (h : f w) : Lt v f := by subst e; exact h
theorem lo1c1 {F : (Int32 → Prop) → Int32 → Prop} (e : Nat) (he : e < 2 ^ 31) (I : Nat → Prop)
    (hs : ∀ (k : Int32 → Prop) (j : Nat) , j < e → I j  → (I (j + 1)  → k (nI (j + 1))) → F k (nI j))
    (hx : ∀ (k : Int32 → Prop) , I e  → F k (nI e))
    (s : Nat) (hse : s ≤ e)  (h0 : I s ) : lo1 F (nI s) := by
  refine lo1_i (fun a1 => ∃ j, j ≤ e ∧ a1 = nI j ∧ I j ) (fun a1 => e - a1.toNatClampNeg) ?_ ⟨s, hse, rfl, h0⟩
  intro k a1 hI hk
  obtain ⟨j, hj, rfl, hI⟩ := hI
  rcases Nat.lt_or_ge j e with hlt | hge
  · refine hs k j  hlt hI (fun hI2 => hk _ ⟨j + 1, hlt, rfl, hI2⟩ ?_)
    show e - (nI (j + 1)).toNatClampNeg < e - (nI j).toNatClampNeg
    rw [nI_clamp (by omega), nI_clamp (by omega)]
    omega
  · have : j = e := by omega
    subst this
    exact hx k  hI
theorem lo2c1 {B : Type} {F : (Int32 → B → Prop) → Int32 → B → Prop} (e : Nat) (he : e < 2 ^ 31) (I : Nat → B → Prop)
    (hs : ∀ (k : Int32 → B → Prop) (j : Nat) (b1 : B), j < e → I j b1 → (∀ (b2 : B), I (j + 1) b2 → k (nI (j + 1)) b2) → F k (nI j) b1)
    (hx : ∀ (k : Int32 → B → Prop) (b1 : B), I e b1 → F k (nI e) b1)
    (s : Nat) (hse : s ≤ e) (b1 : B) (h0 : I s b1) : lo2 F (nI s) b1 := by
  refine lo2_i (fun a1 b1 => ∃ j, j ≤ e ∧ a1 = nI j ∧ I j b1) (fun a1 b1 => e - a1.toNatClampNeg) ?_ ⟨s, hse, rfl, h0⟩
  intro k a1 b1 hI hk
  obtain ⟨j, hj, rfl, hI⟩ := hI
  rcases Nat.lt_or_ge j e with hlt | hge
  · refine hs k j b1 hlt hI (fun b2 hI2 => hk _ b2 ⟨j + 1, hlt, rfl, hI2⟩ ?_)
    show e - (nI (j + 1)).toNatClampNeg < e - (nI j).toNatClampNeg
    rw [nI_clamp (by omega), nI_clamp (by omega)]
    omega
  · have : j = e := by omega
    subst this
    exact hx k b1 hI
theorem lo2c2 {A : Type} {F : (A → Int32 → Prop) → A → Int32 → Prop} (e : Nat) (he : e < 2 ^ 31) (I : Nat → A → Prop)
    (hs : ∀ (k : A → Int32 → Prop) (j : Nat) (a1 : A), j < e → I j a1 → (∀ (a2 : A), I (j + 1) a2 → k a2 (nI (j + 1))) → F k a1 (nI j))
    (hx : ∀ (k : A → Int32 → Prop) (a1 : A), I e a1 → F k a1 (nI e))
    (s : Nat) (hse : s ≤ e) (a1 : A) (h0 : I s a1) : lo2 F a1 (nI s) := by
  refine lo2_i (fun a1 b1 => ∃ j, j ≤ e ∧ b1 = nI j ∧ I j a1) (fun a1 b1 => e - b1.toNatClampNeg) ?_ ⟨s, hse, rfl, h0⟩
  intro k a1 b1 hI hk
  obtain ⟨j, hj, rfl, hI⟩ := hI
  rcases Nat.lt_or_ge j e with hlt | hge
  · refine hs k j a1 hlt hI (fun a2 hI2 => hk a2 _ ⟨j + 1, hlt, rfl, hI2⟩ ?_)
    show e - (nI (j + 1)).toNatClampNeg < e - (nI j).toNatClampNeg
    rw [nI_clamp (by omega), nI_clamp (by omega)]
    omega
  · have : j = e := by omega
    subst this
    exact hx k a1 hI
theorem lo3c1 {B C : Type} {F : (Int32 → B → C → Prop) → Int32 → B → C → Prop} (e : Nat) (he : e < 2 ^ 31) (I : Nat → B → C → Prop)
    (hs : ∀ (k : Int32 → B → C → Prop) (j : Nat) (b1 : B) (c1 : C), j < e → I j b1 c1 → (∀ (b2 : B) (c2 : C), I (j + 1) b2 c2 → k (nI (j + 1)) b2 c2) → F k (nI j) b1 c1)
    (hx : ∀ (k : Int32 → B → C → Prop) (b1 : B) (c1 : C), I e b1 c1 → F k (nI e) b1 c1)
    (s : Nat) (hse : s ≤ e) (b1 : B) (c1 : C) (h0 : I s b1 c1) : lo3 F (nI s) b1 c1 := by
  refine lo3_i (fun a1 b1 c1 => ∃ j, j ≤ e ∧ a1 = nI j ∧ I j b1 c1) (fun a1 b1 c1 => e - a1.toNatClampNeg) ?_ ⟨s, hse, rfl, h0⟩
  intro k a1 b1 c1 hI hk
  obtain ⟨j, hj, rfl, hI⟩ := hI
  rcases Nat.lt_or_ge j e with hlt | hge
  · refine hs k j b1 c1 hlt hI (fun b2 c2 hI2 => hk _ b2 c2 ⟨j + 1, hlt, rfl, hI2⟩ ?_)
    show e - (nI (j + 1)).toNatClampNeg < e - (nI j).toNatClampNeg
    rw [nI_clamp (by omega), nI_clamp (by omega)]
    omega
  · have : j = e := by omega
    subst this
    exact hx k b1 c1 hI
theorem lo3c2 {A C : Type} {F : (A → Int32 → C → Prop) → A → Int32 → C → Prop} (e : Nat) (he : e < 2 ^ 31) (I : Nat → A → C → Prop)
    (hs : ∀ (k : A → Int32 → C → Prop) (j : Nat) (a1 : A) (c1 : C), j < e → I j a1 c1 → (∀ (a2 : A) (c2 : C), I (j + 1) a2 c2 → k a2 (nI (j + 1)) c2) → F k a1 (nI j) c1)
    (hx : ∀ (k : A → Int32 → C → Prop) (a1 : A) (c1 : C), I e a1 c1 → F k a1 (nI e) c1)
    (s : Nat) (hse : s ≤ e) (a1 : A) (c1 : C) (h0 : I s a1 c1) : lo3 F a1 (nI s) c1 := by
  refine lo3_i (fun a1 b1 c1 => ∃ j, j ≤ e ∧ b1 = nI j ∧ I j a1 c1) (fun a1 b1 c1 => e - b1.toNatClampNeg) ?_ ⟨s, hse, rfl, h0⟩
  intro k a1 b1 c1 hI hk
  obtain ⟨j, hj, rfl, hI⟩ := hI
  rcases Nat.lt_or_ge j e with hlt | hge
  · refine hs k j a1 c1 hlt hI (fun a2 c2 hI2 => hk a2 _ c2 ⟨j + 1, hlt, rfl, hI2⟩ ?_)
    show e - (nI (j + 1)).toNatClampNeg < e - (nI j).toNatClampNeg
    rw [nI_clamp (by omega), nI_clamp (by omega)]
    omega
  · have : j = e := by omega
    subst this
    exact hx k a1 c1 hI
theorem lo3c3 {A B : Type} {F : (A → B → Int32 → Prop) → A → B → Int32 → Prop} (e : Nat) (he : e < 2 ^ 31) (I : Nat → A → B → Prop)
    (hs : ∀ (k : A → B → Int32 → Prop) (j : Nat) (a1 : A) (b1 : B), j < e → I j a1 b1 → (∀ (a2 : A) (b2 : B), I (j + 1) a2 b2 → k a2 b2 (nI (j + 1))) → F k a1 b1 (nI j))
    (hx : ∀ (k : A → B → Int32 → Prop) (a1 : A) (b1 : B), I e a1 b1 → F k a1 b1 (nI e))
    (s : Nat) (hse : s ≤ e) (a1 : A) (b1 : B) (h0 : I s a1 b1) : lo3 F a1 b1 (nI s) := by
  refine lo3_i (fun a1 b1 c1 => ∃ j, j ≤ e ∧ c1 = nI j ∧ I j a1 b1) (fun a1 b1 c1 => e - c1.toNatClampNeg) ?_ ⟨s, hse, rfl, h0⟩
  intro k a1 b1 c1 hI hk
  obtain ⟨j, hj, rfl, hI⟩ := hI
  rcases Nat.lt_or_ge j e with hlt | hge
  · refine hs k j a1 b1 hlt hI (fun a2 b2 hI2 => hk a2 b2 _ ⟨j + 1, hlt, rfl, hI2⟩ ?_)
    show e - (nI (j + 1)).toNatClampNeg < e - (nI j).toNatClampNeg
    rw [nI_clamp (by omega), nI_clamp (by omega)]
    omega
  · have : j = e := by omega
    subst this
    exact hx k a1 b1 hI
theorem lo4c1 {B C D : Type} {F : (Int32 → B → C → D → Prop) → Int32 → B → C → D → Prop} (e : Nat) (he : e < 2 ^ 31) (I : Nat → B → C → D → Prop)
    (hs : ∀ (k : Int32 → B → C → D → Prop) (j : Nat) (b1 : B) (c1 : C) (d1 : D), j < e → I j b1 c1 d1 → (∀ (b2 : B) (c2 : C) (d2 : D), I (j + 1) b2 c2 d2 → k (nI (j + 1)) b2 c2 d2) → F k (nI j) b1 c1 d1)
    (hx : ∀ (k : Int32 → B → C → D → Prop) (b1 : B) (c1 : C) (d1 : D), I e b1 c1 d1 → F k (nI e) b1 c1 d1)
    (s : Nat) (hse : s ≤ e) (b1 : B) (c1 : C) (d1 : D) (h0 : I s b1 c1 d1) : lo4 F (nI s) b1 c1 d1 := by
  refine lo4_i (fun a1 b1 c1 d1 => ∃ j, j ≤ e ∧ a1 = nI j ∧ I j b1 c1 d1) (fun a1 b1 c1 d1 => e - a1.toNatClampNeg) ?_ ⟨s, hse, rfl, h0⟩
  intro k a1 b1 c1 d1 hI hk
  obtain ⟨j, hj, rfl, hI⟩ := hI
  rcases Nat.lt_or_ge j e with hlt | hge
  · refine hs k j b1 c1 d1 hlt hI (fun b2 c2 d2 hI2 => hk _ b2 c2 d2 ⟨j + 1, hlt, rfl, hI2⟩ ?_)
    show e - (nI (j + 1)).toNatClampNeg < e - (nI j).toNatClampNeg
    rw [nI_clamp (by omega), nI_clamp (by omega)]
    omega
  · have : j = e := by omega
    subst this
    exact hx k b1 c1 d1 hI
theorem lo4c2 {A C D : Type} {F : (A → Int32 → C → D → Prop) → A → Int32 → C → D → Prop} (e : Nat) (he : e < 2 ^ 31) (I : Nat → A → C → D → Prop)
    (hs : ∀ (k : A → Int32 → C → D → Prop) (j : Nat) (a1 : A) (c1 : C) (d1 : D), j < e → I j a1 c1 d1 → (∀ (a2 : A) (c2 : C) (d2 : D), I (j + 1) a2 c2 d2 → k a2 (nI (j + 1)) c2 d2) → F k a1 (nI j) c1 d1)
    (hx : ∀ (k : A → Int32 → C → D → Prop) (a1 : A) (c1 : C) (d1 : D), I e a1 c1 d1 → F k a1 (nI e) c1 d1)
    (s : Nat) (hse : s ≤ e) (a1 : A) (c1 : C) (d1 : D) (h0 : I s a1 c1 d1) : lo4 F a1 (nI s) c1 d1 := by
  refine lo4_i (fun a1 b1 c1 d1 => ∃ j, j ≤ e ∧ b1 = nI j ∧ I j a1 c1 d1) (fun a1 b1 c1 d1 => e - b1.toNatClampNeg) ?_ ⟨s, hse, rfl, h0⟩
  intro k a1 b1 c1 d1 hI hk
  obtain ⟨j, hj, rfl, hI⟩ := hI
  rcases Nat.lt_or_ge j e with hlt | hge
  · refine hs k j a1 c1 d1 hlt hI (fun a2 c2 d2 hI2 => hk a2 _ c2 d2 ⟨j + 1, hlt, rfl, hI2⟩ ?_)
    show e - (nI (j + 1)).toNatClampNeg < e - (nI j).toNatClampNeg
    rw [nI_clamp (by omega), nI_clamp (by omega)]
    omega
  · have : j = e := by omega
    subst this
    exact hx k a1 c1 d1 hI
theorem lo4c3 {A B D : Type} {F : (A → B → Int32 → D → Prop) → A → B → Int32 → D → Prop} (e : Nat) (he : e < 2 ^ 31) (I : Nat → A → B → D → Prop)
    (hs : ∀ (k : A → B → Int32 → D → Prop) (j : Nat) (a1 : A) (b1 : B) (d1 : D), j < e → I j a1 b1 d1 → (∀ (a2 : A) (b2 : B) (d2 : D), I (j + 1) a2 b2 d2 → k a2 b2 (nI (j + 1)) d2) → F k a1 b1 (nI j) d1)
    (hx : ∀ (k : A → B → Int32 → D → Prop) (a1 : A) (b1 : B) (d1 : D), I e a1 b1 d1 → F k a1 b1 (nI e) d1)
    (s : Nat) (hse : s ≤ e) (a1 : A) (b1 : B) (d1 : D) (h0 : I s a1 b1 d1) : lo4 F a1 b1 (nI s) d1 := by
  refine lo4_i (fun a1 b1 c1 d1 => ∃ j, j ≤ e ∧ c1 = nI j ∧ I j a1 b1 d1) (fun a1 b1 c1 d1 => e - c1.toNatClampNeg) ?_ ⟨s, hse, rfl, h0⟩
  intro k a1 b1 c1 d1 hI hk
  obtain ⟨j, hj, rfl, hI⟩ := hI
  rcases Nat.lt_or_ge j e with hlt | hge
  · refine hs k j a1 b1 d1 hlt hI (fun a2 b2 d2 hI2 => hk a2 b2 _ d2 ⟨j + 1, hlt, rfl, hI2⟩ ?_)
    show e - (nI (j + 1)).toNatClampNeg < e - (nI j).toNatClampNeg
    rw [nI_clamp (by omega), nI_clamp (by omega)]
    omega
  · have : j = e := by omega
    subst this
    exact hx k a1 b1 d1 hI
theorem lo4c4 {A B C : Type} {F : (A → B → C → Int32 → Prop) → A → B → C → Int32 → Prop} (e : Nat) (he : e < 2 ^ 31) (I : Nat → A → B → C → Prop)
    (hs : ∀ (k : A → B → C → Int32 → Prop) (j : Nat) (a1 : A) (b1 : B) (c1 : C), j < e → I j a1 b1 c1 → (∀ (a2 : A) (b2 : B) (c2 : C), I (j + 1) a2 b2 c2 → k a2 b2 c2 (nI (j + 1))) → F k a1 b1 c1 (nI j))
    (hx : ∀ (k : A → B → C → Int32 → Prop) (a1 : A) (b1 : B) (c1 : C), I e a1 b1 c1 → F k a1 b1 c1 (nI e))
    (s : Nat) (hse : s ≤ e) (a1 : A) (b1 : B) (c1 : C) (h0 : I s a1 b1 c1) : lo4 F a1 b1 c1 (nI s) := by
  refine lo4_i (fun a1 b1 c1 d1 => ∃ j, j ≤ e ∧ d1 = nI j ∧ I j a1 b1 c1) (fun a1 b1 c1 d1 => e - d1.toNatClampNeg) ?_ ⟨s, hse, rfl, h0⟩
  intro k a1 b1 c1 d1 hI hk
  obtain ⟨j, hj, rfl, hI⟩ := hI
  rcases Nat.lt_or_ge j e with hlt | hge
  · refine hs k j a1 b1 c1 hlt hI (fun a2 b2 c2 hI2 => hk a2 b2 c2 _ ⟨j + 1, hlt, rfl, hI2⟩ ?_)
    show e - (nI (j + 1)).toNatClampNeg < e - (nI j).toNatClampNeg
    rw [nI_clamp (by omega), nI_clamp (by omega)]
    omega
  · have : j = e := by omega
    subst this
    exact hx k a1 b1 c1 hI
theorem lo5c1 {B C D E : Type} {F : (Int32 → B → C → D → E → Prop) → Int32 → B → C → D → E → Prop} (e : Nat) (he : e < 2 ^ 31) (I : Nat → B → C → D → E → Prop)
    (hs : ∀ (k : Int32 → B → C → D → E → Prop) (j : Nat) (b1 : B) (c1 : C) (d1 : D) (e1 : E), j < e → I j b1 c1 d1 e1 → (∀ (b2 : B) (c2 : C) (d2 : D) (e2 : E), I (j + 1) b2 c2 d2 e2 → k (nI (j + 1)) b2 c2 d2 e2) → F k (nI j) b1 c1 d1 e1)
    (hx : ∀ (k : Int32 → B → C → D → E → Prop) (b1 : B) (c1 : C) (d1 : D) (e1 : E), I e b1 c1 d1 e1 → F k (nI e) b1 c1 d1 e1)
    (s : Nat) (hse : s ≤ e) (b1 : B) (c1 : C) (d1 : D) (e1 : E) (h0 : I s b1 c1 d1 e1) : lo5 F (nI s) b1 c1 d1 e1 := by
  refine lo5_i (fun a1 b1 c1 d1 e1 => ∃ j, j ≤ e ∧ a1 = nI j ∧ I j b1 c1 d1 e1) (fun a1 b1 c1 d1 e1 => e - a1.toNatClampNeg) ?_ ⟨s, hse, rfl, h0⟩
  intro k a1 b1 c1 d1 e1 hI hk
  obtain ⟨j, hj, rfl, hI⟩ := hI
  rcases Nat.lt_or_ge j e with hlt | hge
  · refine hs k j b1 c1 d1 e1 hlt hI (fun b2 c2 d2 e2 hI2 => hk _ b2 c2 d2 e2 ⟨j + 1, hlt, rfl, hI2⟩ ?_)
    show e - (nI (j + 1)).toNatClampNeg < e - (nI j).toNatClampNeg
    rw [nI_clamp (by omega), nI_clamp (by omega)]
    omega
  · have : j = e := by omega
    subst this
    exact hx k b1 c1 d1 e1 hI
theorem lo5c2 {A C D E : Type} {F : (A → Int32 → C → D → E → Prop) → A → Int32 → C → D → E → Prop} (e : Nat) (he : e < 2 ^ 31) (I : Nat → A → C → D → E → Prop)
    (hs : ∀ (k : A → Int32 → C → D → E → Prop) (j : Nat) (a1 : A) (c1 : C) (d1 : D) (e1 : E), j < e → I j a1 c1 d1 e1 → (∀ (a2 : A) (c2 : C) (d2 : D) (e2 : E), I (j + 1) a2 c2 d2 e2 → k a2 (nI (j + 1)) c2 d2 e2) → F k a1 (nI j) c1 d1 e1)
    (hx : ∀ (k : A → Int32 → C → D → E → Prop) (a1 : A) (c1 : C) (d1 : D) (e1 : E), I e a1 c1 d1 e1 → F k a1 (nI e) c1 d1 e1)
    (s : Nat) (hse : s ≤ e) (a1 : A) (c1 : C) (d1 : D) (e1 : E) (h0 : I s a1 c1 d1 e1) : lo5 F a1 (nI s) c1 d1 e1 := by
  refine lo5_i (fun a1 b1 c1 d1 e1 => ∃ j, j ≤ e ∧ b1 = nI j ∧ I j a1 c1 d1 e1) (fun a1 b1 c1 d1 e1 => e - b1.toNatClampNeg) ?_ ⟨s, hse, rfl, h0⟩
  intro k a1 b1 c1 d1 e1 hI hk
  obtain ⟨j, hj, rfl, hI⟩ := hI
  rcases Nat.lt_or_ge j e with hlt | hge
  · refine hs k j a1 c1 d1 e1 hlt hI (fun a2 c2 d2 e2 hI2 => hk a2 _ c2 d2 e2 ⟨j + 1, hlt, rfl, hI2⟩ ?_)
    show e - (nI (j + 1)).toNatClampNeg < e - (nI j).toNatClampNeg
    rw [nI_clamp (by omega), nI_clamp (by omega)]
    omega
  · have : j = e := by omega
    subst this
    exact hx k a1 c1 d1 e1 hI
theorem lo5c3 {A B D E : Type} {F : (A → B → Int32 → D → E → Prop) → A → B → Int32 → D → E → Prop} (e : Nat) (he : e < 2 ^ 31) (I : Nat → A → B → D → E → Prop)
    (hs : ∀ (k : A → B → Int32 → D → E → Prop) (j : Nat) (a1 : A) (b1 : B) (d1 : D) (e1 : E), j < e → I j a1 b1 d1 e1 → (∀ (a2 : A) (b2 : B) (d2 : D) (e2 : E), I (j + 1) a2 b2 d2 e2 → k a2 b2 (nI (j + 1)) d2 e2) → F k a1 b1 (nI j) d1 e1)
    (hx : ∀ (k : A → B → Int32 → D → E → Prop) (a1 : A) (b1 : B) (d1 : D) (e1 : E), I e a1 b1 d1 e1 → F k a1 b1 (nI e) d1 e1)
    (s : Nat) (hse : s ≤ e) (a1 : A) (b1 : B) (d1 : D) (e1 : E) (h0 : I s a1 b1 d1 e1) : lo5 F a1 b1 (nI s) d1 e1 := by
  refine lo5_i (fun a1 b1 c1 d1 e1 => ∃ j, j ≤ e ∧ c1 = nI j ∧ I j a1 b1 d1 e1) (fun a1 b1 c1 d1 e1 => e - c1.toNatClampNeg) ?_ ⟨s, hse, rfl, h0⟩
  intro k a1 b1 c1 d1 e1 hI hk
  obtain ⟨j, hj, rfl, hI⟩ := hI
  rcases Nat.lt_or_ge j e with hlt | hge
  · refine hs k j a1 b1 d1 e1 hlt hI (fun a2 b2 d2 e2 hI2 => hk a2 b2 _ d2 e2 ⟨j + 1, hlt, rfl, hI2⟩ ?_)
    show e - (nI (j + 1)).toNatClampNeg < e - (nI j).toNatClampNeg
    rw [nI_clamp (by omega), nI_clamp (by omega)]
    omega
  · have : j = e := by omega
    subst this
    exact hx k a1 b1 d1 e1 hI
theorem lo5c4 {A B C E : Type} {F : (A → B → C → Int32 → E → Prop) → A → B → C → Int32 → E → Prop} (e : Nat) (he : e < 2 ^ 31) (I : Nat → A → B → C → E → Prop)
    (hs : ∀ (k : A → B → C → Int32 → E → Prop) (j : Nat) (a1 : A) (b1 : B) (c1 : C) (e1 : E), j < e → I j a1 b1 c1 e1 → (∀ (a2 : A) (b2 : B) (c2 : C) (e2 : E), I (j + 1) a2 b2 c2 e2 → k a2 b2 c2 (nI (j + 1)) e2) → F k a1 b1 c1 (nI j) e1)
    (hx : ∀ (k : A → B → C → Int32 → E → Prop) (a1 : A) (b1 : B) (c1 : C) (e1 : E), I e a1 b1 c1 e1 → F k a1 b1 c1 (nI e) e1)
    (s : Nat) (hse : s ≤ e) (a1 : A) (b1 : B) (c1 : C) (e1 : E) (h0 : I s a1 b1 c1 e1) : lo5 F a1 b1 c1 (nI s) e1 := by
  refine lo5_i (fun a1 b1 c1 d1 e1 => ∃ j, j ≤ e ∧ d1 = nI j ∧ I j a1 b1 c1 e1) (fun a1 b1 c1 d1 e1 => e - d1.toNatClampNeg) ?_ ⟨s, hse, rfl, h0⟩
  intro k a1 b1 c1 d1 e1 hI hk
  obtain ⟨j, hj, rfl, hI⟩ := hI
  rcases Nat.lt_or_ge j e with hlt | hge
  · refine hs k j a1 b1 c1 e1 hlt hI (fun a2 b2 c2 e2 hI2 => hk a2 b2 c2 _ e2 ⟨j + 1, hlt, rfl, hI2⟩ ?_)
    show e - (nI (j + 1)).toNatClampNeg < e - (nI j).toNatClampNeg
    rw [nI_clamp (by omega), nI_clamp (by omega)]
    omega
  · have : j = e := by omega
    subst this
    exact hx k a1 b1 c1 e1 hI
theorem lo5c5 {A B C D : Type} {F : (A → B → C → D → Int32 → Prop) → A → B → C → D → Int32 → Prop} (e : Nat) (he : e < 2 ^ 31) (I : Nat → A → B → C → D → Prop)
    (hs : ∀ (k : A → B → C → D → Int32 → Prop) (j : Nat) (a1 : A) (b1 : B) (c1 : C) (d1 : D), j < e → I j a1 b1 c1 d1 → (∀ (a2 : A) (b2 : B) (c2 : C) (d2 : D), I (j + 1) a2 b2 c2 d2 → k a2 b2 c2 d2 (nI (j + 1))) → F k a1 b1 c1 d1 (nI j))
    (hx : ∀ (k : A → B → C → D → Int32 → Prop) (a1 : A) (b1 : B) (c1 : C) (d1 : D), I e a1 b1 c1 d1 → F k a1 b1 c1 d1 (nI e))
    (s : Nat) (hse : s ≤ e) (a1 : A) (b1 : B) (c1 : C) (d1 : D) (h0 : I s a1 b1 c1 d1) : lo5 F a1 b1 c1 d1 (nI s) := by
  refine lo5_i (fun a1 b1 c1 d1 e1 => ∃ j, j ≤ e ∧ e1 = nI j ∧ I j a1 b1 c1 d1) (fun a1 b1 c1 d1 e1 => e - e1.toNatClampNeg) ?_ ⟨s, hse, rfl, h0⟩
  intro k a1 b1 c1 d1 e1 hI hk
  obtain ⟨j, hj, rfl, hI⟩ := hI
  rcases Nat.lt_or_ge j e with hlt | hge
  · refine hs k j a1 b1 c1 d1 hlt hI (fun a2 b2 c2 d2 hI2 => hk a2 b2 c2 d2 _ ⟨j + 1, hlt, rfl, hI2⟩ ?_)
    show e - (nI (j + 1)).toNatClampNeg < e - (nI j).toNatClampNeg
    rw [nI_clamp (by omega), nI_clamp (by omega)]
    omega
  · have : j = e := by omega
    subst this
    exact hx k a1 b1 c1 d1 hI
theorem lo6c1 {B C D E G : Type} {F : (Int32 → B → C → D → E → G → Prop) → Int32 → B → C → D → E → G → Prop} (e : Nat) (he : e < 2 ^ 31) (I : Nat → B → C → D → E → G → Prop)
    (hs : ∀ (k : Int32 → B → C → D → E → G → Prop) (j : Nat) (b1 : B) (c1 : C) (d1 : D) (e1 : E) (g1 : G), j < e → I j b1 c1 d1 e1 g1 → (∀ (b2 : B) (c2 : C) (d2 : D) (e2 : E) (g2 : G), I (j + 1) b2 c2 d2 e2 g2 → k (nI (j + 1)) b2 c2 d2 e2 g2) → F k (nI j) b1 c1 d1 e1 g1)
    (hx : ∀ (k : Int32 → B → C → D → E → G → Prop) (b1 : B) (c1 : C) (d1 : D) (e1 : E) (g1 : G), I e b1 c1 d1 e1 g1 → F k (nI e) b1 c1 d1 e1 g1)
    (s : Nat) (hse : s ≤ e) (b1 : B) (c1 : C) (d1 : D) (e1 : E) (g1 : G) (h0 : I s b1 c1 d1 e1 g1) : lo6 F (nI s) b1 c1 d1 e1 g1 := by
  refine lo6_i (fun a1 b1 c1 d1 e1 g1 => ∃ j, j ≤ e ∧ a1 = nI j ∧ I j b1 c1 d1 e1 g1) (fun a1 b1 c1 d1 e1 g1 => e - a1.toNatClampNeg) ?_ ⟨s, hse, rfl, h0⟩
  intro k a1 b1 c1 d1 e1 g1 hI hk
  obtain ⟨j, hj, rfl, hI⟩ := hI
  rcases Nat.lt_or_ge j e with hlt | hge
  · refine hs k j b1 c1 d1 e1 g1 hlt hI (fun b2 c2 d2 e2 g2 hI2 => hk _ b2 c2 d2 e2 g2 ⟨j + 1, hlt, rfl, hI2⟩ ?_)
    show e - (nI (j + 1)).toNatClampNeg < e - (nI j).toNatClampNeg
    rw [nI_clamp (by omega), nI_clamp (by omega)]
    omega
  · have : j = e := by omega
    subst this
    exact hx k b1 c1 d1 e1 g1 hI
theorem lo6c2 {A C D E G : Type} {F : (A → Int32 → C → D → E → G → Prop) → A → Int32 → C → D → E → G → Prop} (e : Nat) (he : e < 2 ^ 31) (I : Nat → A → C → D → E → G → Prop)
    (hs : ∀ (k : A → Int32 → C → D → E → G → Prop) (j : Nat) (a1 : A) (c1 : C) (d1 : D) (e1 : E) (g1 : G), j < e → I j a1 c1 d1 e1 g1 → (∀ (a2 : A) (c2 : C) (d2 : D) (e2 : E) (g2 : G), I (j + 1) a2 c2 d2 e2 g2 → k a2 (nI (j + 1)) c2 d2 e2 g2) → F k a1 (nI j) c1 d1 e1 g1)
    (hx : ∀ (k : A → Int32 → C → D → E → G → Prop) (a1 : A) (c1 : C) (d1 : D) (e1 : E) (g1 : G), I e a1 c1 d1 e1 g1 → F k a1 (nI e) c1 d1 e1 g1)
    (s : Nat) (hse : s ≤ e) (a1 : A) (c1 : C) (d1 : D) (e1 : E) (g1 : G) (h0 : I s a1 c1 d1 e1 g1) : lo6 F a1 (nI s) c1 d1 e1 g1 := by
  refine lo6_i (fun a1 b1 c1 d1 e1 g1 => ∃ j, j ≤ e ∧ b1 = nI j ∧ I j a1 c1 d1 e1 g1) (fun a1 b1 c1 d1 e1 g1 => e - b1.toNatClampNeg) ?_ ⟨s, hse, rfl, h0⟩
  intro k a1 b1 c1 d1 e1 g1 hI hk
  obtain ⟨j, hj, rfl, hI⟩ := hI
  rcases Nat.lt_or_ge j e with hlt | hge
  · refine hs k j a1 c1 d1 e1 g1 hlt hI (fun a2 c2 d2 e2 g2 hI2 => hk a2 _ c2 d2 e2 g2 ⟨j + 1, hlt, rfl, hI2⟩ ?_)
    show e - (nI (j + 1)).toNatClampNeg < e - (nI j).toNatClampNeg
    rw [nI_clamp (by omega), nI_clamp (by omega)]
    omega
  · have : j = e := by omega
    subst this
    exact hx k a1 c1 d1 e1 g1 hI
theorem lo6c3 {A B D E G : Type} {F : (A → B → Int32 → D → E → G → Prop) → A → B → Int32 → D → E → G → Prop} (e : Nat) (he : e < 2 ^ 31) (I : Nat → A → B → D → E → G → Prop)
    (hs : ∀ (k : A → B → Int32 → D → E → G → Prop) (j : Nat) (a1 : A) (b1 : B) (d1 : D) (e1 : E) (g1 : G), j < e → I j a1 b1 d1 e1 g1 → (∀ (a2 : A) (b2 : B) (d2 : D) (e2 : E) (g2 : G), I (j + 1) a2 b2 d2 e2 g2 → k a2 b2 (nI (j + 1)) d2 e2 g2) → F k a1 b1 (nI j) d1 e1 g1)
    (hx : ∀ (k : A → B → Int32 → D → E → G → Prop) (a1 : A) (b1 : B) (d1 : D) (e1 : E) (g1 : G), I e a1 b1 d1 e1 g1 → F k a1 b1 (nI e) d1 e1 g1)
    (s : Nat) (hse : s ≤ e) (a1 : A) (b1 : B) (d1 : D) (e1 : E) (g1 : G) (h0 : I s a1 b1 d1 e1 g1) : lo6 F a1 b1 (nI s) d1 e1 g1 := by
  refine lo6_i (fun a1 b1 c1 d1 e1 g1 => ∃ j, j ≤ e ∧ c1 = nI j ∧ I j a1 b1 d1 e1 g1) (fun a1 b1 c1 d1 e1 g1 => e - c1.toNatClampNeg) ?_ ⟨s, hse, rfl, h0⟩
  intro k a1 b1 c1 d1 e1 g1 hI hk
  obtain ⟨j, hj, rfl, hI⟩ := hI
  rcases Nat.lt_or_ge j e with hlt | hge
  · refine hs k j a1 b1 d1 e1 g1 hlt hI (fun a2 b2 d2 e2 g2 hI2 => hk a2 b2 _ d2 e2 g2 ⟨j + 1, hlt, rfl, hI2⟩ ?_)
    show e - (nI (j + 1)).toNatClampNeg < e - (nI j).toNatClampNeg
    rw [nI_clamp (by omega), nI_clamp (by omega)]
    omega
  · have : j = e := by omega
    subst this
    exact hx k a1 b1 d1 e1 g1 hI
theorem lo6c4 {A B C E G : Type} {F : (A → B → C → Int32 → E → G → Prop) → A → B → C → Int32 → E → G → Prop} (e : Nat) (he : e < 2 ^ 31) (I : Nat → A → B → C → E → G → Prop)
    (hs : ∀ (k : A → B → C → Int32 → E → G → Prop) (j : Nat) (a1 : A) (b1 : B) (c1 : C) (e1 : E) (g1 : G), j < e → I j a1 b1 c1 e1 g1 → (∀ (a2 : A) (b2 : B) (c2 : C) (e2 : E) (g2 : G), I (j + 1) a2 b2 c2 e2 g2 → k a2 b2 c2 (nI (j + 1)) e2 g2) → F k a1 b1 c1 (nI j) e1 g1)
    (hx : ∀ (k : A → B → C → Int32 → E → G → Prop) (a1 : A) (b1 : B) (c1 : C) (e1 : E) (g1 : G), I e a1 b1 c1 e1 g1 → F k a1 b1 c1 (nI e) e1 g1)
    (s : Nat) (hse : s ≤ e) (a1 : A) (b1 : B) (c1 : C) (e1 : E) (g1 : G) (h0 : I s a1 b1 c1 e1 g1) : lo6 F a1 b1 c1 (nI s) e1 g1 := by
  refine lo6_i (fun a1 b1 c1 d1 e1 g1 => ∃ j, j ≤ e ∧ d1 = nI j ∧ I j a1 b1 c1 e1 g1) (fun a1 b1 c1 d1 e1 g1 => e - d1.toNatClampNeg) ?_ ⟨s, hse, rfl, h0⟩
  intro k a1 b1 c1 d1 e1 g1 hI hk
  obtain ⟨j, hj, rfl, hI⟩ := hI
  rcases Nat.lt_or_ge j e with hlt | hge
  · refine hs k j a1 b1 c1 e1 g1 hlt hI (fun a2 b2 c2 e2 g2 hI2 => hk a2 b2 c2 _ e2 g2 ⟨j + 1, hlt, rfl, hI2⟩ ?_)
    show e - (nI (j + 1)).toNatClampNeg < e - (nI j).toNatClampNeg
    rw [nI_clamp (by omega), nI_clamp (by omega)]
    omega
  · have : j = e := by omega
    subst this
    exact hx k a1 b1 c1 e1 g1 hI
theorem lo6c5 {A B C D G : Type} {F : (A → B → C → D → Int32 → G → Prop) → A → B → C → D → Int32 → G → Prop} (e : Nat) (he : e < 2 ^ 31) (I : Nat → A → B → C → D → G → Prop)
    (hs : ∀ (k : A → B → C → D → Int32 → G → Prop) (j : Nat) (a1 : A) (b1 : B) (c1 : C) (d1 : D) (g1 : G), j < e → I j a1 b1 c1 d1 g1 → (∀ (a2 : A) (b2 : B) (c2 : C) (d2 : D) (g2 : G), I (j + 1) a2 b2 c2 d2 g2 → k a2 b2 c2 d2 (nI (j + 1)) g2) → F k a1 b1 c1 d1 (nI j) g1)
    (hx : ∀ (k : A → B → C → D → Int32 → G → Prop) (a1 : A) (b1 : B) (c1 : C) (d1 : D) (g1 : G), I e a1 b1 c1 d1 g1 → F k a1 b1 c1 d1 (nI e) g1)
    (s : Nat) (hse : s ≤ e) (a1 : A) (b1 : B) (c1 : C) (d1 : D) (g1 : G) (h0 : I s a1 b1 c1 d1 g1) : lo6 F a1 b1 c1 d1 (nI s) g1 := by
  refine lo6_i (fun a1 b1 c1 d1 e1 g1 => ∃ j, j ≤ e ∧ e1 = nI j ∧ I j a1 b1 c1 d1 g1) (fun a1 b1 c1 d1 e1 g1 => e - e1.toNatClampNeg) ?_ ⟨s, hse, rfl, h0⟩
  intro k a1 b1 c1 d1 e1 g1 hI hk
  obtain ⟨j, hj, rfl, hI⟩ := hI
  rcases Nat.lt_or_ge j e with hlt | hge
  · refine hs k j a1 b1 c1 d1 g1 hlt hI (fun a2 b2 c2 d2 g2 hI2 => hk a2 b2 c2 d2 _ g2 ⟨j + 1, hlt, rfl, hI2⟩ ?_)
    show e - (nI (j + 1)).toNatClampNeg < e - (nI j).toNatClampNeg
    rw [nI_clamp (by omega), nI_clamp (by omega)]
    omega
  · have : j = e := by omega
    subst this
    exact hx k a1 b1 c1 d1 g1 hI
theorem lo6c6 {A B C D E : Type} {F : (A → B → C → D → E → Int32 → Prop) → A → B → C → D → E → Int32 → Prop} (e : Nat) (he : e < 2 ^ 31) (I : Nat → A → B → C → D → E → Prop)
    (hs : ∀ (k : A → B → C → D → E → Int32 → Prop) (j : Nat) (a1 : A) (b1 : B) (c1 : C) (d1 : D) (e1 : E), j < e → I j a1 b1 c1 d1 e1 → (∀ (a2 : A) (b2 : B) (c2 : C) (d2 : D) (e2 : E), I (j + 1) a2 b2 c2 d2 e2 → k a2 b2 c2 d2 e2 (nI (j + 1))) → F k a1 b1 c1 d1 e1 (nI j))
    (hx : ∀ (k : A → B → C → D → E → Int32 → Prop) (a1 : A) (b1 : B) (c1 : C) (d1 : D) (e1 : E), I e a1 b1 c1 d1 e1 → F k a1 b1 c1 d1 e1 (nI e))
    (s : Nat) (hse : s ≤ e) (a1 : A) (b1 : B) (c1 : C) (d1 : D) (e1 : E) (h0 : I s a1 b1 c1 d1 e1) : lo6 F a1 b1 c1 d1 e1 (nI s) := by
  refine lo6_i (fun a1 b1 c1 d1 e1 g1 => ∃ j, j ≤ e ∧ g1 = nI j ∧ I j a1 b1 c1 d1 e1) (fun a1 b1 c1 d1 e1 g1 => e - g1.toNatClampNeg) ?_ ⟨s, hse, rfl, h0⟩
  intro k a1 b1 c1 d1 e1 g1 hI hk
  obtain ⟨j, hj, rfl, hI⟩ := hI
  rcases Nat.lt_or_ge j e with hlt | hge
  · refine hs k j a1 b1 c1 d1 e1 hlt hI (fun a2 b2 c2 d2 e2 hI2 => hk a2 b2 c2 d2 e2 _ ⟨j + 1, hlt, rfl, hI2⟩ ?_)
    show e - (nI (j + 1)).toNatClampNeg < e - (nI j).toNatClampNeg
    rw [nI_clamp (by omega), nI_clamp (by omega)]
    omega
  · have : j = e := by omega
    subst this
    exact hx k a1 b1 c1 d1 e1 hI
