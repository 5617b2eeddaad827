-- ===== the past: what is kept of it =====
theorem nI_sub {a b : Nat} (h : b ≤ a) : nI a - nI b = nI (a - b) := by
  obtain ⟨c, rfl⟩ : ∃ c, a = c + b := ⟨a - b, by omega⟩
  rw [← nI_add, Int32.add_sub_cancel, Nat.add_sub_cancel]
theorem cs_write {h : ob_H} {n o q N f : Nat} {r : ob_P} {Q : ob_H → Prop} (hn : n ≤ 7) (hr : CR h n o r) (hf : f + 24 ≤ N) (hN : N < 10000) (ho : q < o ∨ o + 3 < q)
    (hq : ∀ h', Fr (fun q' k => q' = q ∧ f ≤ k ∧ k < f + 24) h h' → CRw h' q f n r → Q h') : MX6_write o q N (nI f) h Q := by
  unfold MX6_write
  rw [show Int32.ofNat N - 24 = nI (N - 24) from nI_sub (b := 24) (by omega), show nI f + 7 = nI (f + 7) from nI_add f 7, show nI (f + 7) + 7 = nI (f + 14) from nI_add (f + 7) 7, show nI f + 24 = nI (f + 24) from nI_add f 24,
    show nI (f + 24) - 3 = nI (f + 21) from nI_sub (b := 3) (by omega), show nI (f + 24) - 2 = nI (f + 22) from nI_sub (b := 2) (by omega), show nI (f + 24) - 1 = nI (f + 23) from nI_sub (b := 1) (by omega),
    show ix (nI f) = f from nI_clamp (by omega), show ix (nI (f + 7)) = f + 7 from nI_clamp (by omega), show ix (nI (f + 14)) = f + 14 from nI_clamp (by omega), show ix (nI (f + 21)) = f + 21 from nI_clamp (by omega), show ix (nI (f + 22)) = f + 22 from nI_clamp (by omega), show ix (nI (f + 23)) = f + 23 from nI_clamp (by omega)]
  refine br_f (nI_pos (by omega)) (br_t (nI_le (by omega) (by omega)) ⟨nI_pos (by omega), by omega, Lt_i fun y1 z1 => ⟨nI_pos (by omega), by omega, Lt_i fun y2 z2 => ⟨nI_pos (by omega), by omega, Lt_i fun y3 z3 => ⟨vp_in_nI (by omega) (by omega), Lt_i fun y4 z4 => ⟨vp_in_nI (by omega) (by omega), Lt_i fun y5 z5 => ⟨vp_in_nI (by omega) (by omega), Lt_i fun y6 z6 => ?_⟩⟩⟩⟩⟩⟩)
  obtain ⟨c1, c2, c3, c4, c5, c6⟩ := hr
  refine hq y6 ?_ ⟨fun s hs => ?_, fun k hk => ?_, fun k hk => ?_, ?_, ?_, ?_⟩
  · rw [z6, z5, z4, z3, z2, z1]
    refine Fr.st (Fr.st (Fr.st (Fr.cp (Fr.cp (Fr.cp Fr.rf ?_) ?_) ?_) ?_) ?_) ?_ <;> first | (intro k h1 h2; omega) | omega
  · rw [z6, h_i_1, if_neg (by omega), z5, h_i_1, if_neg (by omega), z4, h_i_1, if_neg (by omega), z3, h_c_1, if_pos rfl, if_neg (by omega), z2, h_c_1, if_pos rfl, if_neg (by omega), z1, h_c_1, if_pos rfl, if_pos (by omega), Nat.add_sub_cancel_left, Nat.zero_add]
    exact c1 s hs
  · rw [z6, h_i_1, if_neg (by omega), z5, h_i_1, if_neg (by omega), z4, h_i_1, if_neg (by omega), z3, h_c_1, if_pos rfl, if_neg (by omega), z2, h_c_1, if_pos rfl, if_pos (by omega), Nat.add_sub_cancel_left, Nat.zero_add, z1, h_c_1, if_neg (by omega)]
    exact c2 k hk
  · rw [z6, h_i_1, if_neg (by omega), z5, h_i_1, if_neg (by omega), z4, h_i_1, if_neg (by omega), z3, h_c_1, if_pos rfl, if_pos (by omega), Nat.add_sub_cancel_left, Nat.zero_add, z2, h_c_1, if_neg (by omega), z1, h_c_1, if_neg (by omega)]
    exact c3 k hk
  · rw [z6, h_i_1, if_neg (by omega), z5, h_i_1, if_neg (by omega), z4, h_i_1, if_pos ⟨rfl, rfl⟩, z3, h_c_1, if_neg (by omega), z2, h_c_1, if_neg (by omega), z1, h_c_1, if_neg (by omega)]
    exact c4
  · rw [z6, h_i_1, if_neg (by omega), z5, h_i_1, if_pos ⟨rfl, rfl⟩, z4, h_i_1, if_neg (by omega), z3, h_c_1, if_neg (by omega), z2, h_c_1, if_neg (by omega), z1, h_c_1, if_neg (by omega)]
    exact c5
  · rw [z6, h_i_1, if_pos ⟨rfl, rfl⟩, z5, h_i_1, if_neg (by omega), z4, h_i_1, if_neg (by omega), z3, h_c_1, if_neg (by omega), z2, h_c_1, if_neg (by omega), z1, h_c_1, if_neg (by omega)]
    exact c6
theorem cs_restore {h : ob_H} {n o q N f : Nat} {r : ob_P} {Q : ob_H → Prop} (hn : n ≤ 7) (hr : CRw h q f n r) (hf : f + 24 ≤ N) (hN : N < 10000) (ho : q < o ∨ o + 3 < q)
    (hq : ∀ h', Fr (fun q' _ => o ≤ q' ∧ q' ≤ o + 3) h h' → CR h' n o r → Q h') : MX6_restore o q N (nI f) h Q := by
  unfold MX6_restore
  rw [show Int32.ofNat N - 24 = nI (N - 24) from nI_sub (b := 24) (by omega), show nI f + 7 = nI (f + 7) from nI_add f 7, show nI (f + 7) + 7 = nI (f + 14) from nI_add (f + 7) 7, show nI f + 24 = nI (f + 24) from nI_add f 24,
    show nI (f + 24) - 3 = nI (f + 21) from nI_sub (b := 3) (by omega), show nI (f + 24) - 2 = nI (f + 22) from nI_sub (b := 2) (by omega), show nI (f + 24) - 1 = nI (f + 23) from nI_sub (b := 1) (by omega),
    show ix (nI f) = f from nI_clamp (by omega), show ix (nI (f + 7)) = f + 7 from nI_clamp (by omega), show ix (nI (f + 14)) = f + 14 from nI_clamp (by omega), show ix (nI (f + 21)) = f + 21 from nI_clamp (by omega), show ix (nI (f + 22)) = f + 22 from nI_clamp (by omega), show ix (nI (f + 23)) = f + 23 from nI_clamp (by omega)]
  refine br_f (nI_pos (by omega)) (br_t (nI_le (by omega) (by omega)) ⟨nI_pos (by omega), by omega, Lt_i fun y1 z1 => ⟨nI_pos (by omega), by omega, Lt_i fun y2 z2 => ⟨nI_pos (by omega), by omega, Lt_i fun y3 z3 => ⟨vp_in_nI (by omega) (by omega), Lt_i fun y4 z4 => ⟨vp_in_nI (by omega) (by omega), Lt_i fun y5 z5 => ⟨vp_in_nI (by omega) (by omega), Lt_i fun y6 z6 => ?_⟩⟩⟩⟩⟩⟩)
  obtain ⟨c1, c2, c3, c4, c5, c6⟩ := hr
  refine hq y6 ?_ ⟨fun s hs => ?_, fun k hk => ?_, fun k hk => ?_, ?_, ?_, ?_⟩
  · rw [z6, z5, z4, z3, z2, z1]
    refine Fr.st (Fr.st (Fr.st (Fr.cp (Fr.cp (Fr.cp Fr.rf ?_) ?_) ?_) ?_) ?_) ?_ <;> first | (intro k h1 h2; omega) | omega
  · rw [z6, h_i_1, if_neg (by omega), z5, h_i_1, if_neg (by omega), z4, h_i_1, if_neg (by omega), z3, h_c_1, if_neg (by omega), z2, h_c_1, if_neg (by omega), z1, h_c_1, if_pos rfl, if_pos (by omega), Nat.sub_zero]
    exact c1 s hs
  · rw [z6, h_i_1, if_neg (by omega), z5, h_i_1, if_neg (by omega), z4, h_i_1, if_neg (by omega), z3, h_c_1, if_neg (by omega), z2, h_c_1, if_pos rfl, if_pos (by omega), Nat.sub_zero, z1, h_c_1, if_neg (by omega)]
    exact c2 k hk
  · rw [z6, h_i_1, if_neg (by omega), z5, h_i_1, if_neg (by omega), z4, h_i_1, if_neg (by omega), z3, h_c_1, if_pos rfl, if_pos (by omega), Nat.sub_zero, z2, h_c_1, if_neg (by omega), z1, h_c_1, if_neg (by omega)]
    exact c3 k hk
  · rw [z6, h_i_1, if_neg (by omega), z5, h_i_1, if_neg (by omega), z4, h_i_1, if_pos ⟨rfl, rfl⟩, z3, h_c_1, if_neg (by omega), z2, h_c_1, if_neg (by omega), z1, h_c_1, if_neg (by omega)]
    exact c4
  · rw [z6, h_i_1, if_neg (by omega), z5, h_i_1, if_pos ⟨rfl, rfl⟩, z4, h_i_1, if_neg (by omega), z3, h_c_1, if_neg (by omega), z2, h_c_1, if_neg (by omega), z1, h_c_1, if_neg (by omega)]
    exact c5
  · rw [z6, h_i_1, if_pos ⟨rfl, rfl⟩, z5, h_i_1, if_neg (by omega), z4, h_i_1, if_neg (by omega), z3, h_c_1, if_neg (by omega), z2, h_c_1, if_neg (by omega), z1, h_c_1, if_neg (by omega)]
    exact c6
/-- the ACTS in the class, in the reference -/
def AC (h : ob_H) (n : Nat) (U R : List ob_P) (od : Nat) : Prop := od < 41 ∧ h.1 95 0 = nI U.length ∧ h.1 95 1 = nI R.length ∧ h.1 95 4 = nI od ∧ (∀ i r, U[i]? = some r → CRw h 96 (rowC od i) n r) ∧ (∀ i r, R[i]? = some r → CRw h 96 (rowC od (U.length + 1 + i)) n r)
def AR (h : ob_H) (U R : List ob_P) : Prop := h.1 108 59 = nI U.length ∧ h.1 108 60 = nI R.length ∧ (∀ i r, U[i]? = some r → RRw h 139 (24 * i) r) ∧ (∀ i r, R[i]? = some r → RRw h 139 (24 * (U.length + i)) r)
def actU (U : List ob_P) (r : ob_P) : List ob_P := (if U.length = 40 then U.drop 1 else U) ++ [r]
theorem AC.fr {h h' : ob_H} {n : Nat} {U R : List ob_P} {od : Nat} (a : AC h n U R od) (e : ∀ q k, (q = 95 ∧ (k = 0 ∨ k = 1 ∨ k = 4)) ∨ q = 96 → h'.1 q k = h.1 q k) : AC h' n U R od := by
  obtain ⟨a1, a2, a3, a4, a5, a6⟩ := a
  exact ⟨a1, by rw [e _ _ (by omega)]; exact a2, by rw [e _ _ (by omega)]; exact a3, by rw [e _ _ (by omega)]; exact a4, fun i r hi => (a5 i r hi).fr (fun k => e _ _ (by omega)), fun i r hi => (a6 i r hi).fr (fun k => e _ _ (by omega))⟩
theorem AR.fr {h h' : ob_H} {U R : List ob_P} (a : AR h U R) (e : ∀ q k, (q = 108 ∧ (k = 59 ∨ k = 60)) ∨ q = 139 → h'.1 q k = h.1 q k) : AR h' U R := by
  obtain ⟨a1, a2, a3, a4⟩ := a
  exact ⟨by rw [e _ _ (by omega)]; exact a1, by rw [e _ _ (by omega)]; exact a2, fun i r hi => (a3 i r hi).fr (fun k => e _ _ (by omega)), fun i r hi => (a4 i r hi).fr (fun k => e _ _ (by omega))⟩
theorem rowC_lt (od a : Nat) : rowC od a + 24 ≤ 984 := by
  unfold rowC
  have := Nat.mod_lt (od + a) (show 0 < 41 by decide)
  omega
/-- rows apart -/
theorem rowC_ne {od a b : Nat} (h : a ≠ b) (ha : a < 41) (hb : b < 41) : rowC od a + 24 ≤ rowC od b ∨ rowC od b + 24 ≤ rowC od a := by
  unfold rowC
  have h1 := Nat.div_add_mod (od + a) 41
  have h2 := Nat.div_add_mod (od + b) 41
  have h3 := Nat.mod_lt (od + a) (show 0 < 41 by decide)
  have h4 := Nat.mod_lt (od + b) (show 0 < 41 by decide)
  omega
theorem CRw.off {h h' : ob_H} {q f n : Nat} {r : ob_P} (hn : n ≤ 7) (a : CRw h q f n r) (e : ∀ k, f ≤ k → k < f + 24 → h'.1 q k = h.1 q k) : CRw h' q f n r := by
  obtain ⟨a1, a2, a3, a4, a5, a6⟩ := a
  exact ⟨fun s hs => by rw [e _ (by omega) (by omega)]; exact a1 s hs, fun k hk => by rw [e _ (by omega) (by omega)]; exact a2 k hk, fun k hk => by rw [e _ (by omega) (by omega)]; exact a3 k hk, by rw [e _ (by omega) (by omega)]; exact a4, by rw [e _ (by omega) (by omega)]; exact a5, by rw [e _ (by omega) (by omega)]; exact a6⟩
theorem cs_rowOf {h : ob_H} {od a : Nat} {Q : Int32 → Prop} (h1 : h.1 95 4 = nI od) (h2 : od + a < 1000) (hq : Q (nI (rowC od a))) : MX1_rowOf (nI a) h Q := by
  unfold MX1_rowOf
  rw [h1, nI_add, show (41 : Int32) = nI 41 from rfl, irm_nI (by omega) (by omega), show (24 : Int32) = nI 24 from rfl, nI_mul]
  exact hq
def AKc (q k : Nat) : Prop := (q = 95 ∧ (k = 0 ∨ k = 1 ∨ k = 4)) ∨ q = 96
theorem cs_keepAct {h : ob_H} {n : Nat} {r : ob_P} {U R : List ob_P} {od : Nat} {Q : ob_H → Prop} (hn : n ≤ 7) (hr : CR h n 34 r) (ha : AC h n U R od) (hU : U.length ≤ 40) (hq : ∀ h' od', Fr AKc h h' → AC h' n (actU U r) [] od' → Q h') : MX1_keepAct h Q := by
  obtain ⟨a1, a2, a3, a4, a5, a6⟩ := ha
  have hrl := rowC_lt od U.length
  unfold MX1_keepAct
  rw [a2]
  refine cs_rowOf a4 (by omega) (cs_write hn hr hrl (by omega) (by omega) fun h1 f1 w1 => Lt_i fun y2 z2 => ?_)
  have e0 : y2.1 95 0 = nI U.length := by rw [z2, h_i_1, if_neg (by omega), f1.i (by omega)]; exact a2
  have e4 : y2.1 95 4 = nI od := by rw [z2, h_i_1, if_neg (by omega), f1.i (by omega)]; exact a4
  rw [e0, e4]
  have f2 : Fr AKc h y2 := by rw [z2]; exact (f1.mono fun q k p => by unfold AKc; omega).st (by unfold AKc; omega)
  have w2 : CRw y2 96 (rowC od U.length) n r := w1.fr fun k => by rw [z2, h_i_1, if_neg (by omega)]
  have old : ∀ i r', U[i]? = some r' → CRw y2 96 (rowC od i) n r' := fun i r' hi => by
    have hl := (List.getElem?_eq_some_iff.mp hi).1
    refine (a5 i r' hi).off hn fun k h1 h2 => ?_
    have := rowC_ne (od := od) (a := i) (b := U.length) (by omega) (by omega) (by omega)
    rw [z2, h_i_1, if_neg (by omega), f1.i (by omega)]
  refine br_c (fun c => Lt_i fun y3 z3 => ?_) (fun c => Lt_i fun y3 z3 => ?_)
  · have h40 : U.length = 40 := by
      have := (nI_leI (a := 40) (b := U.length) (by omega) (by omega)).mp c
      omega
    have hsh : ∀ i, rowC ((od + 1) % 41) i = rowC od (i + 1) := fun i => by
      unfold rowC
      rw [Nat.mod_add_mod]
      congr 2
      omega
    refine hq y3 ((od + 1) % 41) (by rw [z3]; exact f2.st (by unfold AKc; omega)) ⟨Nat.mod_lt _ (by decide), ?_, ?_, ?_, fun i r' hi => ?_, fun i r' hi => by simp at hi⟩
    · rw [z3, h_i_1, if_neg (by omega), e0, actU, if_pos h40]
      simp [h40]
    · rw [z3, h_i_1, if_neg (by omega), z2, h_i_1, if_pos ⟨rfl, rfl⟩]
      rfl
    · rw [z3, h_i_1, if_pos ⟨rfl, rfl⟩, show nI od + 1 = nI (od + 1) from nI_add od 1, show (41 : Int32) = nI 41 from rfl, irm_nI (by omega) (by omega)]
    · rw [actU, if_pos h40] at hi
      rw [hsh]
      refine CRw.fr ?_ (h := y2) fun k => by rw [z3, h_i_1, if_neg (by omega)]
      by_cases e : i < 39
      · rw [List.getElem?_append_left (by simp [h40]; omega), List.getElem?_drop] at hi
        rw [Nat.add_comm i 1]
        exact old _ _ hi
      · have hl := (List.getElem?_eq_some_iff.mp hi).1
        simp [h40] at hl
        have ei : i = 39 := by omega
        subst ei
        rw [List.getElem?_append_right (by simp [h40])] at hi
        simp [h40] at hi
        rw [← hi]
        rw [h40] at w2
        exact w2
  · have h40 : U.length ≠ 40 := fun e => c (by rw [e]; decide)
    refine hq y3 od (by rw [z3]; exact f2.st (by unfold AKc; omega)) ⟨a1, ?_, ?_, ?_, fun i r' hi => ?_, fun i r' hi => by simp at hi⟩
    · rw [z3, h_i_1, if_pos ⟨rfl, rfl⟩, actU, if_neg h40, show nI U.length + 1 = nI (U.length + 1) from nI_add _ 1]
      simp
    · rw [z3, h_i_1, if_neg (by omega), z2, h_i_1, if_pos ⟨rfl, rfl⟩]
      rfl
    · rw [z3, h_i_1, if_neg (by omega)]; exact e4
    · rw [actU, if_neg h40] at hi
      refine CRw.fr ?_ (h := y2) fun k => by rw [z3, h_i_1, if_neg (by omega)]
      by_cases e : i < U.length
      · rw [List.getElem?_append_left e] at hi
        exact old _ _ hi
      · have hl := (List.getElem?_eq_some_iff.mp hi).1
        simp at hl
        have ei : i = U.length := by omega
        subst ei
        simp at hi
        rw [← hi]
        exact w2
def AKr (q k : Nat) : Prop := (q = 108 ∧ (k = 59 ∨ k = 60)) ∨ q = 139 ∨ q = 136
theorem rs_act2 {h : ob_H} {r : ob_P} {U : List ob_P} {Q : ob_H → Prop} (hn : Nw h r) (hU : U.length < 40) (h59 : h.1 108 59 = nI U.length) (hr : ∀ i r', U[i]? = some r' → RRw h 139 (24 * i) r') (hq : ∀ h', Fr AKr h h' → AR h' (U ++ [r]) [] → Air h' r → Q h') : lo2 (FX12_act_51 Q) (0) h := by
  refine lo2c1 24 (by omega) (fun j h1 => Fr (fun q k => q = 139 ∧ 24 * U.length ≤ k) h h1 ∧ ∀ k, k < j → h1.1 139 (24 * U.length + k) = r k) ?_ ?_ 0 (Nat.zero_le _) _ ⟨Fr.rf, fun k hk => absurd hk (Nat.not_lt_zero _)⟩
  · intro k j h1 hj hI hk
    obtain ⟨i1, i2⟩ := hI
    unfold FX12_act_51
    rw [i1.i (q := 108) (k := 59) (by omega), h59, show (24 : Int32) = nI 24 from rfl, nI_mul, nI_add, show ix (nI (24 * U.length + j)) = 24 * U.length + j from nI_clamp (by omega), show ix (nI j) = j from nI_clamp (by omega), i1.i (q := 135) (by omega), hn j hj]
    refine br_f (nI_ge hj (by omega)) ⟨vp_in_nI (by omega) (by omega), vp_in_nI (by omega) (by omega), Lt_i fun y z => Lt_eq (nI_1 _) (hk _ ⟨?_, fun i hi => ?_⟩)⟩
    · rw [z]; exact i1.st (by omega)
    · rw [z, h_i_1]
      by_cases e : i = j
      · subst e; rw [if_pos ⟨rfl, rfl⟩]
      · rw [if_neg (by omega)]; exact i2 i (by omega)
  · intro k h1 hI
    obtain ⟨i1, i2⟩ := hI
    unfold FX12_act_51
    refine br_t (nI_le (a := 24) (Nat.le_refl _) (by decide)) (Lt_i fun y2 z2 => Lt_i fun y3 z3 => ?_)
    have hn3 : Nw y3 r := fun k hk => by rw [z3, h_i_1, if_neg (by omega), z2, h_i_1, if_neg (by omega), i1.i (by omega)]; exact hn k hk
    refine rs_load hn3 fun h4 f4 a4 => hq h4 ?_ ⟨?_, ?_, fun i r' hi => ?_, fun i r' hi => by simp at hi⟩ a4
    · refine Fr.tr (h1 := y3) ?_ (f4.mono fun q k p => by unfold AKr; omega)
      rw [z3, z2]
      exact ((i1.mono fun q k p => by unfold AKr; omega).st (by unfold AKr; omega)).st (by unfold AKr; omega)
    · rw [f4.i (by omega), z3, h_i_1, if_neg (by omega), z2, h_i_1, if_pos ⟨rfl, rfl⟩, i1.i (by omega), h59, show nI U.length + 1 = nI (U.length + 1) from nI_add _ 1]
      simp
    · rw [f4.i (by omega), z3, h_i_1, if_pos ⟨rfl, rfl⟩]
      rfl
    · intro k hk
      rw [f4.i (by omega), z3, h_i_1, if_neg (by omega), z2, h_i_1, if_neg (by omega)]
      by_cases e : i < U.length
      · rw [List.getElem?_append_left e] at hi
        rw [i1.i (by omega)]
        exact hr i r' hi k hk
      · have hl := (List.getElem?_eq_some_iff.mp hi).1
        simp at hl
        have ei : i = U.length := by omega
        subst ei
        simp at hi
        rw [← hi]
        exact i2 k hk
theorem rs_act {h : ob_H} {r : ob_P} {U R : List ob_P} {Q : ob_H → Prop} (hn : Nw h r) (ha : AR h U R) (hU : U.length ≤ 40) (hq : ∀ h', Fr AKr h h' → AR h' (actU U r) [] → Air h' r → Q h') : MX12_act h Q := by
  obtain ⟨a1, a2, a3, a4⟩ := ha
  unfold MX12_act
  rw [a1]
  refine br_c (fun c => ?_) (fun c => ?_)
  · have h40 : U.length = 40 := (nI_eq (b := 40) (by omega) (by omega)).mp c
    rw [actU, if_pos h40] at hq
    refine lo2c1 936 (by omega) (fun j h1 => Fr (fun q k => q = 139 ∧ k < 936) h h1 ∧ (∀ k, k < j → h1.1 139 k = h.1 139 (24 + k)) ∧ ∀ k, j ≤ k → h1.1 139 k = h.1 139 k) ?_ ?_ 0 (Nat.zero_le _) _ ⟨Fr.rf, fun k hk => absurd hk (Nat.not_lt_zero _), fun _ _ => rfl⟩
    · intro k j h1 hj hI hk
      obtain ⟨i1, i2, i3⟩ := hI
      unfold FX12_act_11
      rw [show (24 : Int32) + nI j = nI (24 + j) from nI_add 24 j, show ix (nI (24 + j)) = 24 + j from nI_clamp (by omega), show ix (nI j) = j from nI_clamp (by omega)]
      refine br_f (nI_ge (b := 936) hj (by decide)) ⟨vp_in_nI (by omega) (by omega), vp_in_nI (by omega) (by omega), Lt_i fun y z => Lt_eq (nI_1 _) (hk _ ⟨?_, fun i hi => ?_, fun i hi => ?_⟩)⟩
      · rw [z]; exact i1.st (by omega)
      · rw [z, h_i_1]
        by_cases e : i = j
        · subst e; rw [if_pos ⟨rfl, rfl⟩]; exact i3 _ (by omega)
        · rw [if_neg (by omega)]; exact i2 i (by omega)
      · rw [z, h_i_1, if_neg (by omega)]
        exact i3 i (by omega)
    · intro k h1 hI
      obtain ⟨i1, i2, i3⟩ := hI
      unfold FX12_act_11
      refine br_t (nI_le (a := 936) (Nat.le_refl _) (by decide)) (Lt_i fun y2 z2 => ?_)
      have e139 : ∀ k, y2.1 139 k = h1.1 139 k := fun k => by rw [z2, h_i_1, if_neg (by omega)]
      refine rs_act2 (r := r) (U := U.drop 1) (fun k hk => ?_) (by simp; omega) ?_ (fun i r' hi k hk => ?_) (fun h' f' => hq h' (Fr.tr (h1 := y2) ?_ f'))
      · rw [z2, h_i_1, if_neg (by omega), i1.i (by omega)]; exact hn k hk
      · rw [z2, h_i_1, if_pos ⟨rfl, rfl⟩, i1.i (by omega), a1, show nI U.length - 1 = nI (U.length - 1) from nI_sub (b := 1) (by omega)]
        simp
      · have hl := (List.getElem?_eq_some_iff.mp hi).1
        simp at hl
        rw [List.getElem?_drop] at hi
        rw [e139, i2 _ (by omega), show 24 + (24 * i + k) = 24 * (1 + i) + k by omega]
        exact a3 _ _ hi k hk
      · rw [z2]
        exact (i1.mono fun q k p => by unfold AKr; omega).st (by unfold AKr; omega)
  · have h40 : U.length ≠ 40 := fun e => c (by rw [e]; rfl)
    rw [actU, if_neg h40] at hq
    exact rs_act2 hn (by omega) a1 a3 hq
