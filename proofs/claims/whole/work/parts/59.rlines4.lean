-- ===== the reference's lines: OBJECTOR =====
def WS (h : ob_H) (T : tx_T) (D : tx_D) (X : Sum tx_E tx_S) : Prop := match X with
  | .inl e => RsR h e
  | .inr S => SRd h T S D
theorem WS.hi {h y : ob_H} {T : tx_T} {D : tx_D} {X : Sum tx_E tx_S} {P : Nat → Nat → Prop} (w : WS h T D X) (f : Fr P h y) (hP : ∀ q k, P q k → 121 ≤ q ∧ q ≤ 126 ∧ k = D.1.1) : WS y T D X := by
  have hi : ∀ q k, ¬ (121 ≤ q ∧ q ≤ 126 ∧ k = D.1.1) → y.1 q k = h.1 q k := fun q k n => f.i fun p => n (hP q k p)
  cases X with
  | inl e => exact RsR.fr w fun k hk => hi _ _ (by omega)
  | inr S => exact ⟨w.1.fr f fun q k p => by have := hP q k p; omega, by rw [hi _ _ (by omega)]; exact w.2.1, RD.hi w.2.2.2.2.1 w.2.2.1 (fun q k hx h7 hlt => hi q k (by omega)) (fun a b ha hb => hi _ _ (by omega)) (fun k hk => f.l fun p => by have := hP _ _ p; omega), w.2.2.2⟩
theorem sr_toldM {h : ob_H} {T : tx_T} {D : tx_D} {X : Sum tx_E tx_S} {i lo hi : Nat} {x : Int64} {Q : Int32 → ob_H → Prop} (w : WS h T D X) (hi20 : i < 20) (hx : x = Int64.ofNat (cd8 (wdsL.getD i []))) (hlo : lo < 1000) (hhi : hi < 1000)
    (hq : ∀ v h' (Y : Sum tx_E (Nat × tx_S)), Y = bnd X (fun S => bnd (pTake (100 + i) S) (pNum lo hi)) → Fr TkW h h' → WS h' T D (bnd Y fun y => .inr y.2) → (∀ y, Y = .inr y → v = nI y.1 ∧ lo ≤ y.1 ∧ y.1 ≤ hi) → Q v h') : MX12_told x (nI lo) (nI hi) h Q := by
  cases X with
  | inl e => exact sr_toldF w (hq 0 h _ rfl Fr.rf w fun y hy => by cases hy)
  | inr S =>
    refine sr_told (S := S) (D := D) w hi20 hx hlo hhi (fun e v h' he f' r' => hq v h' (.inl e) he.symm f' r' fun y hy => by cases hy) (fun S' y h' hs hy rg f' c' => hq _ h' (.inr y) ?_ f' c' fun y2 hy2 => ?_)
    · show _ = bnd (pTake (100 + i) S) (pNum lo hi)
      rw [bnd_r hs, hy]
    · cases hy2
      exact ⟨rfl, rg.1, rg.2⟩
theorem sr_optionM {h : ob_H} {T : tx_T} {D : tx_D} {X : Sum tx_E tx_S} {i hi d : Nat} {x : Int64} {Q : Int32 → ob_H → Prop} (w : WS h T D X) (hi20 : i < 20) (hx : x = Int64.ofNat (cd8 (wdsL.getD i []))) (hhi : hi < 1000) (hd : d ≤ hi)
    (hq : ∀ v h' (Y : Sum tx_E (Nat × tx_S)), Y = bnd X (fun S => pOpt (100 + i) hi d S) → Fr TkW h h' → WS h' T D (bnd Y fun y => .inr y.2) → (∀ y, Y = .inr y → v = nI y.1 ∧ y.1 ≤ hi) → Q v h') : MX12_option x (nI hi) (nI d) h Q := by
  cases X with
  | inl e => exact sr_optionF w (hq _ h _ rfl Fr.rf w fun y hy => by cases hy)
  | inr S =>
    refine sr_option (S := S) (D := D) w hi20 hx hhi hd (fun e v h' he f' r' => hq v h' (.inl e) he.symm f' r' fun y hy => by cases hy) (fun y h' hy rg f' c' => hq _ h' (.inr y) hy.symm f' c' fun y2 hy2 => ?_)
    cases hy2
    exact ⟨rfl, rg⟩
theorem sr_takesM {h : ob_H} {T : tx_T} {D : tx_D} {X : Sum tx_E tx_S} {i : Nat} {x : Int64} {Q : Int32 → ob_H → Prop} (w : WS h T D X) (hi20 : i < 20) (hx : x = Int64.ofNat (cd8 (wdsL.getD i [])))
    (hq : ∀ t h' (Y : Sum tx_E (Bool × tx_S)), Y = bnd X (fun S => .inr (decide (kdT S = 100 + i), if kdT S = 100 + i then S.tail else S)) → Fr TkW h h' → WS h' T D (bnd Y fun y => .inr y.2) → (∀ y, Y = .inr y → t = tru y.1) → Q t h') : MX12_takes x h Q := by
  cases X with
  | inl e => exact sr_takesF w (hq _ h _ rfl Fr.rf w fun y hy => by cases hy)
  | inr S =>
    refine sr_takes (S := S) (D := D) w hi20 hx fun h' f' c' => hq _ h' (.inr (decide (kdT S = 100 + i), if kdT S = 100 + i then S.tail else S)) rfl f' c' fun y2 hy2 => ?_
    cases hy2
    rfl
theorem sr_obLoop {h : ob_H} {n : Nat} {Q : ob_H → Prop} (hn : n < 7) (hq : ∀ h', Fr (fun q _ => q = 127) h h' → (∀ i, i < 7 → h'.1 127 (7 * n + i) = 0 ∧ h'.1 127 (7 * i + n) = 0) → (∀ a b, a < n → b < n → h'.1 127 (7 * a + b) = h.1 127 (7 * a + b)) → ((h'.1 108 2 = 0 → Lt (h_i h' 108 41 ((h'.1 108 41) + (1))) fun h76 => Q h76) ∧ (¬ h'.1 108 2 = 0 → Q h'))) : lo2 (FX12_readObjector_162 (nI n) Q) 0 h := by
  refine lo2c1 7 (by omega) (fun j h1 => Fr (fun q _ => q = 127) h h1 ∧ (∀ i, i < j → h1.1 127 (7 * n + i) = 0 ∧ h1.1 127 (7 * i + n) = 0) ∧ (∀ a b, a < n → b < n → h1.1 127 (7 * a + b) = h.1 127 (7 * a + b))) ?_ ?_ 0 (Nat.zero_le _) _ ⟨Fr.rf, fun i hi => absurd hi (Nat.not_lt_zero _), fun _ _ _ _ => rfl⟩
  · intro k j h1 hj hI hk
    obtain ⟨i1, i2, i3⟩ := hI
    have e1 : (7 : Int32) * nI n + nI j = nI (7 * n + j) := by rw [show (7 : Int32) = nI 7 from rfl, nI_mul, nI_add]
    have e2 : (7 : Int32) * nI j + nI n = nI (7 * j + n) := by rw [show (7 : Int32) = nI 7 from rfl, nI_mul, nI_add]
    unfold FX12_readObjector_162
    rw [e1, e2, show ix (nI (7 * n + j)) = 7 * n + j from nI_clamp (by omega), show ix (nI (7 * j + n)) = 7 * j + n from nI_clamp (by omega)]
    refine br_f (nI_ge (b := 7) hj (by decide)) ⟨vp_in_nI (by omega) (by omega), Lt_i fun y z => ⟨vp_in_nI (by omega) (by omega), Lt_i fun y2 z2 => Lt_eq (nI_1 _) (hk y2 ⟨?_, fun i hi => ?_, fun a b ha hb => ?_⟩)⟩⟩
    · rw [z2, z]; exact (Fr.st (P := fun q _ => q = 127) (Fr.st (P := fun q _ => q = 127) i1 rfl) rfl)
    · have ev : ∀ c, y2.1 127 c = if c = 7 * j + n then 0 else if c = 7 * n + j then 0 else h1.1 127 c := fun c => by
        rw [z2, h_i_1, z, h_i_1]
        by_cases w1 : c = 7 * j + n
        · rw [if_pos ⟨rfl, w1⟩, if_pos w1]
        · rw [if_neg (by omega), if_neg w1]
          by_cases w2 : c = 7 * n + j
          · rw [if_pos ⟨rfl, w2⟩, if_pos w2]
          · rw [if_neg (by omega), if_neg w2]
      rw [ev, ev]
      by_cases e : i = j
      · subst e
        constructor
        · by_cases w : 7 * n + i = 7 * i + n
          · rw [if_pos w]
          · rw [if_neg w, if_pos rfl]
        · rw [if_pos rfl]
      · have := i2 i (by omega)
        constructor
        · by_cases w : 7 * n + i = 7 * j + n
          · rw [if_pos w]
          · rw [if_neg w, if_neg (by omega)]; exact this.1
        · by_cases w : 7 * i + n = 7 * n + j
          · rw [if_neg (by omega), if_pos w]
          · rw [if_neg (by omega), if_neg w]; exact this.2
    · rw [z2, h_i_1, if_neg (by omega), z, h_i_1, if_neg (by omega)]
      exact i3 a b ha hb
  · intro k h1 hI
    unfold FX12_readObjector_162
    exact br_t (nI_le (a := 7) (Nat.le_refl _) (by decide)) (hq h1 hI.1 hI.2.1 hI.2.2)
theorem bnd_as {α β γ : Type} {x : Sum tx_E α} {f : α → Sum tx_E β} {g : β → Sum tx_E γ} : bnd (bnd x f) g = bnd x fun a => bnd (f a) g := by cases x <;> rfl
theorem pObj_e {D : tx_D} {S : tx_S} (h7 : D.1.1 < 7) (hk : kdT S.tail = 2) (hn : nmF D.2.1 (wdT S.tail) = none) : pObj D S = bnd (bnd (pTake 100 S.tail.tail) (pNum 0 99)) fun g => bnd (bnd (pTake 101 g.2) (pNum 1 60)) fun m => bnd (pOpt 107 999 999 m.2) fun s => bnd (pOpt 108 99 0 s.2) fun p =>
    bnd (pTake 59 (if kdT p.2 = 109 then p.2.tail else p.2)) fun S6 => .inr (addO D (wdT S.tail) g.1 m.1 s.1 p.1 (decide (kdT p.2 = 109)), S6) := by
  unfold pObj
  rw [if_neg (by omega), if_neg (fun z => z hk), hn, if_neg (by decide)]
  simp only [bnd_as]
def PE (n j q k : Nat) : Prop := TkW q k ∨ q = 127 ∨ (q = 108 ∧ (k = 41 ∨ k = 47)) ∨ (j ≤ q ∧ q ≤ 126 ∧ k = n)
theorem PE_t {n j : Nat} : ∀ q k, TkW q k → PE n j q k := fun _ _ p => Or.inl p
theorem PE_m {n j i : Nat} (h : i ≤ j) : ∀ q k, PE n j q k → PE n i q k := fun q k p => by unfold PE TkW at p ⊢; omega
theorem PE_Q {n j : Nat} (h : 121 ≤ j) : ∀ q k, PE n j q k → RQ q k := fun q k p => by unfold PE TkW at p; unfold RQ; omega
