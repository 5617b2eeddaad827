-- ===== the class reads a formula =====
/-- the words are there, no fault is told -/
def WdsF (h : ob_H) : Prop := WdsR h ∧ h.1 4 1 = 0 ∧ h.1 4 2 = -1
def CS (h : ob_H) (T : tx_T) (S : tx_S) : Prop := TT h T ∧ WdsF h ∧ Str T S ∧ CT h (hdT S)
/-- a fault has been told -/
def RsC (h : ob_H) (e : Nat × Nat) : Prop := h.1 4 1 = nI e.1 ∧ h.1 4 2 = nI e.2
theorem CS.k {h : ob_H} {T : tx_T} {S : tx_S} (c : CS h T S) : h.1 1 2 = nI (kdT S) := c.2.2.2.1
theorem CS.k120 {h : ob_H} {T : tx_T} {S : tx_S} (c : CS h T S) : kdT S < 120 := by
  have := c.2.2.1.hd.2.2.2.1
  show (hdT S).1 < 120
  omega
theorem CS.is {h : ob_H} {T : tx_T} {S : tx_S} (c : CS h T S) (k : Nat) (hk : k < 1000) : (h.1 1 2 = nI k) = (kdT S = k) := by
  have := c.k120
  rw [c.k]
  exact propext (nI_eq (by omega) (by omega))
theorem CS.fr {h h' : ob_H} {T : tx_T} {S : tx_S} {P : Nat → Nat → Prop} (c : CS h T S) (f : Fr P h h') (hP : ∀ q k, P q k → q ≠ 1 ∧ q ≠ 2 ∧ q ≠ 3 ∧ ¬ (q = 4 ∧ (k = 1 ∨ k = 2))) : CS h' T S := by
  obtain ⟨a1, a2, a3, b1, b2, b3, b4, b5⟩ := c
  have e1 : ∀ k, h'.1 1 k = h.1 1 k := fun k => f.i fun p => (hP _ _ p).1 rfl
  have e2 : ∀ k, h'.1 2 k = h.1 2 k := fun k => f.i fun p => (hP _ _ p).2.1 rfl
  have e3 : ∀ k, h'.2.1 1 k = h.2.1 1 k := fun k => f.l fun p => (hP _ _ p).1 rfl
  refine ⟨a1.fr fun q k z => ?_, ⟨a2.1.fr f fun k p => (hP _ _ p).2.2.1 rfl, by rw [f.i fun p => (hP _ _ p).2.2.2 ⟨rfl, Or.inl rfl⟩]; exact a2.2.1, by rw [f.i fun p => (hP _ _ p).2.2.2 ⟨rfl, Or.inr rfl⟩]; exact a2.2.2⟩, a3, by rw [e1]; exact b1, by rw [e1]; exact b2, fun z => by rw [e1]; exact b3 z, fun z => by rw [e3]; exact b4 z, fun z => by rw [e1]; exact b5 z⟩
  rcases z with ⟨rfl, rfl⟩ | rfl
  · exact e1 1
  · exact e2 k
theorem cs_next {h : ob_H} {T : tx_T} {S : tx_S} {Q : ob_H → Prop} (c : CS h T S) (hk : 1 < kdT S) (hq : ∀ h', Fr TkC h h' → CS h' T S.tail → Q h') : MX10_step h Q := by
  obtain ⟨a1, a2, a3, b1, b2, b3, b4, b5⟩ := c
  obtain ⟨t1, t2, t3⟩ := a3.tl hk
  refine cs_step a1 a2.1 t1 (b5 (by show kdT S ≠ 1; omega)) fun h' f' c' => hq h' f' ⟨a1.fr fun q k z => f'.i (by unfold TkC; omega), ⟨a2.1.fr f' fun k => by unfold TkC; omega, by rw [f'.i (by unfold TkC; omega)]; exact a2.2.1, by rw [f'.i (by unfold TkC; omega)]; exact a2.2.2⟩, t3, by rw [t2]; exact c'⟩
theorem cs_refuse {h : ob_H} {T : tx_T} {S : tx_S} {c : Nat} {Q : Int32 → ob_H → Prop} (hc : CS h T S) (hq : ∀ h', Fr (fun q k => q = 4 ∧ (k = 1 ∨ k = 2)) h h' → RsC h' (c, (hdT S).2.1) → Q 0 h') : MX5_refuse (nI c) h Q := by
  unfold MX5_refuse
  refine Lt_i fun y z => Lt_i fun y2 z2 => hq y2 ?_ ⟨?_, ?_⟩
  · rw [z2, z]; exact (Fr.rf.st (by omega)).st (by omega)
  · rw [z2, h_i_1, if_neg (by omega), z, h_i_1, if_pos ⟨rfl, rfl⟩]
  · rw [z2, h_i_1, if_pos ⟨rfl, rfl⟩, z, h_i_1, if_neg (by omega)]
    exact hc.2.2.2.2.1
theorem cs_misplaced {h : ob_H} {T : tx_T} {S : tx_S} {α : Type} {Q : Int32 → ob_H → Prop} (hc : CS h T S) (hq : ∀ e h', badT (α := α) S 2 = .inl e → Fr (fun q k => q = 4 ∧ (k = 1 ∨ k = 2)) h h' → RsC h' e → Q 0 h') : MX5_misplaced h Q := by
  unfold MX5_misplaced
  rw [show (1 : Int32) = nI 1 from rfl, hc.is 1 (by omega)]
  unfold KX5_misplaced_17
  refine br_c (fun c => cs_refuse hc fun h' f' r' => hq _ h' rfl f' ?_) (fun c => cs_refuse (c := 2) hc fun h' f' r' => hq _ h' rfl f' ?_)
  · rw [if_pos c]; exact r'
  · rw [if_neg c]; exact r'
theorem cs_add {h : ob_H} {f : Nat} {L : List ob_S} {s : ob_S} {v : Int32} {Q : ob_H → Prop} (hf : CF h f L) (hl : L.length < 300) (hv : v = enS s) (hq : ∀ h', Fr (fun q k => (q = f ∧ k = 1) ∨ q = f + 1) h h' → CF h' f (L ++ [s]) → Q h') : MX4_add f v h Q := by
  obtain ⟨f1, f2⟩ := hf
  unfold MX4_add
  rw [f1, show ix (nI L.length) = L.length from nI_clamp (by omega)]
  refine br_f (nI_ge (b := 300) hl (by decide)) ⟨vp_in_nI (by omega) (by omega), Lt_i fun y z => ?_⟩
  have e1 : y.1 f 1 = nI L.length := by rw [z, h_i_1, if_neg (by omega)]; exact f1
  rw [e1, nI_1]
  refine Lt_i fun y2 z2 => hq y2 ?_ ⟨?_, fun k hk => ?_⟩
  · rw [z2, z]; exact (Fr.rf.st (by omega)).st (by omega)
  · rw [z2, h_i_1, if_pos ⟨rfl, rfl⟩]; simp
  · rw [z2, h_i_1, if_neg (by omega), z, h_i_1]
    by_cases e : k = L.length
    · subst e
      exact ⟨s, by simp, by rw [if_pos ⟨rfl, rfl⟩]; exact hv⟩
    · have hk' : k < L.length := by simp at hk; omega
      obtain ⟨s', s1, s2⟩ := f2 k hk'
      exact ⟨s', by rw [List.getElem?_append_left hk']; exact s1, by rw [if_neg (by omega)]; exact s2⟩
theorem CF.fr2 {h h' : ob_H} {f : Nat} {L : List ob_S} (a : CF h f L) (e : ∀ q k, (q = f ∧ k = 1) ∨ q = f + 1 → h'.1 q k = h.1 q k) : CF h' f L :=
  ⟨by rw [e _ _ (by omega)]; exact a.1, fun k hk => by rw [e _ _ (by omega)]; exact a.2 k hk⟩
def FC (f q k : Nat) : Prop := TkC q k ∨ (q = 4 ∧ (k = 1 ∨ k = 2 ∨ k = 11)) ∨ (q = 5 ∧ k = 11) ∨ (q = f ∧ k = 1) ∨ q = f + 1
/-- within a formula -/
def FS (h : ob_H) (T : tx_T) (f : Nat) (u : tx_U) (L : List ob_S) : Prop := CS h T u.1 ∧ h.2.2 = f ∧ h.1 4 11 = nI u.2.1 ∧ h.1 5 11 = nI u.2.2 ∧ CF h f L ∧ L.length ≤ 9 * u.2.1 ∧ u.2.1 ≤ 30 ∧ u.2.2 ≤ 60
theorem cs_levelOf {k : Nat} {h : ob_H} {Q : Int32 → Prop} (hk : k < 1000) (hq : Q (if lvO k = 9 then -1 else nI (lvO k))) : MX5_levelOf (nI k) h Q := by
  have e : ∀ c, c < 128 → (nI k = nI c) = (k = c) := fun c hc => propext (nI_eq (by omega) (by omega))
  unfold MX5_levelOf
  rw [show (37 : Int32) = nI 37 from rfl, show (42 : Int32) = nI 42 from rfl, show (43 : Int32) = nI 43 from rfl, show (45 : Int32) = nI 45 from rfl, show (47 : Int32) = nI 47 from rfl, show (60 : Int32) = nI 60 from rfl, show (61 : Int32) = nI 61 from rfl, show (62 : Int32) = nI 62 from rfl, show (117 : Int32) = nI 117 from rfl, show (118 : Int32) = nI 118 from rfl,
    e 37 (by omega), e 42 (by omega), e 43 (by omega), e 45 (by omega), e 47 (by omega), e 60 (by omega), e 61 (by omega), e 62 (by omega), e 117 (by omega), e 118 (by omega)]
  refine br_c (fun c => ?_) (fun c1 => br_c (fun c => ?_) (fun c2 => br_c (fun c => ?_) (fun c3 => br_c (fun c => ?_) (fun c4 => br_c (fun c => ?_) (fun c5 => br_c (fun c => ?_) (fun c6 => br_c (fun c => ?_) (fun c7 => br_c (fun c => ?_) (fun c8 => br_c (fun c => ?_) (fun c9 => br_c (fun c => ?_) (fun c10 => ?_))))))))))
  · subst c; exact hq
  · subst c; exact hq
  · subst c; exact hq
  · subst c; exact hq
  · subst c; exact hq
  · subst c; exact hq
  · subst c; exact hq
  · subst c; exact hq
  · subst c; exact hq
  · subst c; exact hq
  · have : lvO k = 9 := by
      unfold lvO
      rw [if_neg c9, if_neg c10, if_neg (by omega), if_neg (by omega), if_neg (by omega)]
    rw [this, if_pos rfl] at hq
    exact hq
theorem enS_op {k l : Nat} (h : lvO k = l) (hl : l ≤ 4) : -(nI k) = enS (3, nI (sgn k)) := by
  have hk : k = 117 ∨ k = 118 ∨ k = 60 ∨ k = 61 ∨ k = 62 ∨ k = 43 ∨ k = 45 ∨ k = 37 ∨ k = 42 ∨ k = 47 := by
    unfold lvO at h
    split at h
    · omega
    · split at h
      · omega
      · split at h
        · omega
        · split at h
          · omega
          · split at h
            · omega
            · omega
  rcases hk with rfl | rfl | rfl | rfl | rfl | rfl | rfl | rfl | rfl | rfl <;> decide
set_option maxHeartbeats 1000000 in
theorem cs_part {T : tx_T} {f : Nat} (hf : f = 13 ∨ f = 16) : ∀ (F l w : Nat) (u : tx_U) (L : List ob_S) (h : ob_H) (Q : Int32 → ob_H → Prop), l ≤ 5 → w ≤ 7 → 6 * (7 - w) + (6 - l) ≤ F → FS h T f u L →
    (∀ e h', pE F l w u = .inl e → Fr (FC f) h h' → RsC h' e → Q 0 h') → (∀ x h', pE F l w u = .inr x → Fr (FC f) h h' → FS h' T f x.2 (L ++ x.1) → Q 1 h') → MX5_readPart F (nI l) (nI w) h Q
  | 0, l, w, u, L, h, Q, hl, hw, hF, _, _, _ => by omega
  | F + 1, l, w, u, L, h, Q, hl, hw, hF, hs, q0, q1 => by
    have hA : A4 f := by
      rcases hf with rfl | rfl
      · exact AA4_13
      · exact AA4_16
    obtain ⟨s1, s2, s3, s4, s5, s6, s7, s8⟩ := hs
    have hS := s1.2.2.1
    have hSk := hS.sok
    show GX5_readPart (MX5_readPart F) (nI l) (nI w) h Q
    unfold GX5_readPart
    rw [show (119 : Int32) = nI 119 from rfl, s1.is 119 (by omega)]
    have e5 : (nI l < 5) = (l < 5) := by rw [show (5 : Int32) = nI 5 from rfl, nI_lt2 (by omega) (by omega)]
    have e2 : (nI l = 2) = (l = 2) := by rw [show (2 : Int32) = nI 2 from rfl]; exact propext (nI_eq (by omega) (by omega))
    have e6 : (nI w ≤ 6) = (w ≤ 6) := by rw [show (6 : Int32) = nI 6 from rfl, nI_le2 (by omega) (by omega)]
    rw [e5, e2]
    have bad : badT (α := List ob_S × tx_U) u.1 2 = pE (F + 1) l w u → MX5_misplaced h fun r23 h24 => Q r23 h24 := fun e =>
      cs_misplaced (α := List ob_S × tx_U) s1 fun e' h' he f' r' => q0 e' h' (by rw [← e]; exact he) (f'.mono fun q k p => by unfold FC; omega) r'
    -- a part, and others of its level behind it
    have part : l < 5 → ¬ (l = 2 ∧ kdT u.1 = 119) → KX5_readPart_34 (MX5_readPart F) (nI l) (nI w) h Q := by
      intro hl5 hn
      have eq : pE (F + 1) l w u = (match pE F (l + 1) w u with | .inl e => .inl e | .inr x => pLoop (pE F) l w 1600 x.1 x.2) := by
        rw [pE, if_neg (by omega), if_neg hn]
        cases pE F (l + 1) w u <;> rfl
      unfold KX5_readPart_34
      rw [nI_1]
      refine cs_part hf F (l + 1) w u L h _ (by omega) hw (by omega) ⟨s1, s2, s3, s4, s5, s6, s7, s8⟩ (fun e h' he f' r' => br_t rfl (q0 e h' (by rw [eq, he]) f' r')) (fun x h' hx f' g' => br_f (by decide) ?_)
      have fx := pE_fct F (l + 1) w u x hw hSk hx
      have eq2 : pE (F + 1) l w u = pLoop (pE F) l w 1600 x.1 x.2 := by rw [eq, hx]
      refine lo2c1 1600 (by omega) (fun j h1 => ∃ (L' : List ob_S) (u' : tx_U), pLoop (pE F) l w (1600 - j) L' u' = pE (F + 1) l w u ∧ FS h1 T f u' (L ++ L') ∧ Fr (FC f) h h1 ∧ Fct w u (L', u')) ?_ ?_ 0 (Nat.zero_le _) _ ⟨x.1, x.2, eq2.symm, g', f', fx⟩
      · intro k j h1 hj hI hk
        obtain ⟨L', u', i1, i2, i3, i4⟩ := hI
        obtain ⟨m, hm⟩ : ∃ m, 1600 - j = m + 1 := ⟨1600 - j - 1, by omega⟩
        have hm2 : 1600 - (j + 1) = m := by omega
        rw [hm, pLoop] at i1
        have c1 := i2.1
        have hk120 := c1.k120
        unfold FX5_readPart_49
        rw [c1.k]
        refine br_f (nI_ge (b := 1600) hj (by decide)) (cs_levelOf (by omega) ?_)
        by_cases c : lvO (kdT u'.1) = l
        · rw [if_pos c] at i1
          obtain ⟨t1, t2, t3, t4, t5, t6, t7⟩ := lvO_tg c (by omega)
          rw [if_neg (by omega), c]
          refine br_t rfl (Lt_i fun v zv => cs_next c1 t5 fun h2 f2 c2 => ?_)
          have i2' : FS h2 T f (u'.1.tail, u'.2) (L ++ L') := by
            obtain ⟨a1, a2, a3, a4, a5, a6, a7, a8⟩ := i2
            exact ⟨c2, f2.2.trans a2, by rw [f2.i (by unfold TkC; omega)]; exact a3, by rw [f2.i (by unfold TkC; omega)]; exact a4, a5.fr2 fun q k z => f2.i (by unfold TkC; omega), a6, a7, a8⟩
          have f12 : Fr (FC f) h h2 := i3.tr (f2.mono fun q k p => Or.inl p)
          rw [nI_1]
          refine cs_part hf F (l + 1) w (u'.1.tail, u'.2) (L ++ L') h2 _ (by omega) hw (by omega) i2' (fun e h' he f' r' => br_t rfl (q0 e h' ?_ (f12.tr f') r')) (fun y h' hy f' g' => br_f (by decide) ?_)
          · rw [← i1, he]
          · have fy := pE_fct F (l + 1) w _ y hw c2.2.2.1.sok hy
            obtain ⟨b1, b2, b3, b4, b5, b6, b7⟩ := fy
            obtain ⟨d1, d2, d3, d4, d5, d6, d7⟩ := i4
            obtain ⟨a1, a2, a3, a4, a5, a6, a7, a8⟩ := g'
            simp only at b2 b3 b6 d2 d3 d6
            have hlen : (L ++ L' ++ y.1).length + w + 1 ≤ 9 * y.2.2.1 := by
              have := i2.2.2.2.2.2.1
              simp only [List.length_append] at this ⊢
              omega
            rw [a2]
            refine ⟨hA, cs_add a5 (by omega) (show -v = enS (3, nI (sgn (kdT u'.1))) by rw [zv]; exact enS_op c (by omega)) fun h4 f4 d4 => ?_⟩
            have g4 : FS h4 T f y.2 (L ++ (L' ++ y.1 ++ [(3, nI (sgn (kdT u'.1)))])) := by
              have e : L ++ (L' ++ y.1 ++ [(3, nI (sgn (kdT u'.1)))]) = L ++ L' ++ y.1 ++ [(3, nI (sgn (kdT u'.1)))] := by simp
              rw [e]
              exact ⟨a1.fr f4 (fun q k p => by omega), f4.2.trans a2, by rw [f4.i (by omega)]; exact a3, by rw [f4.i (by omega)]; exact a4, d4, by rw [List.length_append, List.length_singleton]; omega, a7, a8⟩
            have f14 : Fr (FC f) h h4 := (f12.tr f').tr (f4.mono fun q k p => by unfold FC; omega)
            rw [hy] at i1
            simp only at i1
            by_cases cl2 : l = 2
            · rw [if_pos cl2] at i1
              refine br_t (by rw [e2]; exact cl2) (q1 _ h4 i1.symm f14 g4)
            · rw [if_neg cl2] at i1
              refine br_f (by rw [e2]; exact cl2) (Lt_eq (nI_1 _) (hk h4 ⟨_, y.2, by rw [hm2]; exact i1, g4, f14, ?_⟩))
              refine ⟨b1, by simp only; omega, by simp only; omega, b4, b5, by simp only [List.length_append, List.length_singleton]; omega, fun R d hd => ?_⟩
              simp only at hd ⊢
              rw [List.append_assoc, List.append_assoc, d7 _ _ (by simp only; omega), b7 _ _ (by simp only; omega)]
              exact hgt_op t7
        · rw [if_neg c] at i1
          refine br_f ?_ (q1 _ h1 i1.symm i3 i2)
          rcases lvO_9 (kdT u'.1) with z | z
          · rw [if_pos z]
            intro y
            have : decide ((-1 : Int32) < 0) = decide (nI l < 0) := congrArg (fun x : Int32 => decide (x < 0)) y
            rw [decide_eq_false (nI_pos (n := l) (by omega))] at this
            exact absurd this (by decide)
          · rw [if_neg (by omega)]
            intro y
            exact c ((nI_eq (by omega) (by omega)).mp y)
      · intro k h1 hI
        obtain ⟨L', u', i1, i2, i3, i4⟩ := hI
        rw [Nat.sub_self, pLoop] at i1
        unfold FX5_readPart_49
        exact br_t (nI_le (a := 1600) (Nat.le_refl _) (by decide)) (q1 _ h1 i1.symm i3 i2)
    refine br_c (fun hl5 => br_c (fun hl2 => br_c (fun hn => ?_) (fun hn => part hl5 (fun z => hn z.2))) (fun hl2 => part hl5 (fun z => hl2 z.1))) (fun hl5 => ?_)
    · -- not
      subst hl2
      have eq : pE (F + 1) 2 w u = (if 6 < w then badT u.1 2 else match pE F 2 (w + 1) (u.1.tail, u.2) with | .inl e => .inl e | .inr x => .inr (x.1 ++ [(2, 0)], x.2)) := by
        rw [pE, if_neg (by omega), if_pos ⟨rfl, hn⟩]
        by_cases z : 6 < w
        · rw [if_pos z, if_pos z]
        · rw [if_neg z, if_neg z]
          cases pE F 2 (w + 1) (u.1.tail, u.2) <;> rfl
      unfold MX5_readNot
      rw [e6]
      refine br_c (fun h6 => ?_) (fun h6 => bad (by rw [eq, if_pos (by omega)]))
      rw [if_neg (by omega)] at eq
      refine cs_next s1 (by omega) fun h2 f2 c2 => ?_
      have i2' : FS h2 T f (u.1.tail, u.2) L := ⟨c2, f2.2.trans s2, by rw [f2.i (by unfold TkC; omega)]; exact s3, by rw [f2.i (by unfold TkC; omega)]; exact s4, s5.fr2 fun q k z => f2.i (by unfold TkC; omega), s6, s7, s8⟩
      have f12 : Fr (FC f) h h2 := f2.mono fun q k p => Or.inl p
      rw [nI_1]
      refine cs_part hf F 2 (w + 1) (u.1.tail, u.2) L h2 _ (by omega) (by omega) (by omega) i2' (fun e h' he f' r' => br_t rfl (q0 e h' (by rw [eq, he]) (f12.tr f') r')) (fun y h' hy f' g' => br_f (by decide) ?_)
      obtain ⟨b1, b2, b3, b4, b5, b6, b7⟩ := pE_fct F 2 (w + 1) _ y (by omega) c2.2.2.1.sok hy
      obtain ⟨a1, a2, a3, a4, a5, a6, a7, a8⟩ := g'
      simp only at b2 b3 b6
      have hlen : (L ++ y.1).length + (w + 1) + 1 ≤ 9 * y.2.2.1 := by
        rw [List.length_append]
        omega
      rw [a2]
      refine ⟨hA, cs_add (s := (2, 0)) a5 (by omega) (by decide) fun h4 f4 d4 => q1 (y.1 ++ [(2, 0)], y.2) h4 (by rw [eq, hy]) ((f12.tr f').tr (f4.mono fun q k p => by unfold FC; omega)) ?_⟩
      rw [← List.append_assoc]
      exact ⟨a1.fr f4 (fun q k p => by omega), f4.2.trans a2, by rw [f4.i (by omega)]; exact a3, by rw [f4.i (by omega)]; exact a4, d4, by rw [List.length_append, List.length_singleton]; simp only; omega, a7, a8⟩
    · -- a unit
      have e5' : l = 5 := by omega
      subst e5'
      have eq : pE (F + 1) 5 w u = pUnit (pE F) w u := by rw [pE, if_pos (by omega)]
      have hk120 := s1.k120
      unfold pUnit at eq
      have bad' : (¬ (kdT u.1 = 40 ∨ kdT u.1 = 3 ∨ facK (kdT u.1) = true) ∨ 30 ≤ u.2.1 ∨ 60 ≤ u.2.2) → KX5_readUnit_69 (MX5_readPart F) h fun r56 h57 => Q r56 h57 := by
        intro z
        unfold KX5_readUnit_69
        exact bad (by rw [eq, if_pos z])
      have unit48 : ∀ s0 : Int32, (s0 = 0 ∨ s0 = 1) → (s0 = 1 ↔ (kdT u.1 = 3 ∨ facK (kdT u.1) = true)) → (kdT u.1 = 40 ∨ kdT u.1 = 3 ∨ facK (kdT u.1) = true) → KX5_readUnit_48 (MX5_readPart F) (nI w) (nI (kdT u.1)) s0 h fun r56 h57 => Q r56 h57 := by
        intro s0 hs01 hs0 hok
        unfold KX5_readUnit_48
        rw [s3, s4]
        refine br_c (fun c30 => bad' (Or.inr (Or.inl ((nI_leI (a := 30) (by omega) (by omega)).mp c30)))) (fun c30 => br_c (fun c60 => ?_) (fun c60 => bad' (Or.inr (Or.inr ?_))))
        · have h30 : ¬ 30 ≤ u.2.1 := fun z => c30 (nI_le (a := 30) z (by omega))
          have h60 : u.2.2 < 60 := (nI_ltI (b := 60) (by omega) (by omega)).mp c60
          rw [if_neg (by rintro (z | z | z); exact z hok; exact h30 z; omega)] at eq
          refine Lt_i fun y z => ?_
          have ey : y.1 5 11 = nI u.2.2 := by rw [z, h_i_1, if_neg (by omega)]; exact s4
          rw [ey]
          refine Lt_i fun y2 z2 => ?_
          have f2 : Fr (FC f) h y2 := by rw [z2, z]; exact (Fr.rf.st (by unfold FC; omega)).st (by unfold FC; omega)
          have f2' : Fr (fun q k => (q = 4 ∧ k = 11) ∨ (q = 5 ∧ k = 11)) h y2 := by rw [z2, z]; exact (Fr.rf.st (by omega)).st (by omega)
          have cy : CS y2 T u.1 := s1.fr f2' (fun q k p => by omega)
          have gy : CF y2 f L := s5.fr2 fun q k z => f2'.i (by omega)
          have y411 : y2.1 4 11 = nI (u.2.1 + 1) := by rw [z2, h_i_1, if_neg (by omega), z, h_i_1, if_pos ⟨rfl, rfl⟩]; exact nI_1 _
          have y511 : y2.1 5 11 = nI (u.2.2 + 1) := by rw [z2, h_i_1, if_pos ⟨rfl, rfl⟩]; exact nI_1 _
          have y22 : y2.2.2 = f := f2.2.trans s2
          rw [e6]
          refine br_c (fun c0 => ?_) (fun c0 => ?_)
          · have n1 : ¬ (kdT u.1 = 3 ∨ facK (kdT u.1) = true) := fun z => by have := hs0.mpr z; rw [this] at c0; exact absurd c0 (by decide)
            have h40 : kdT u.1 = 40 := by
              rcases hok with z | z
              · exact z
              · exact absurd z n1
            rw [if_pos h40] at eq
            refine br_c (fun h6 => ?_) (fun h6 => ?_)
            · rw [if_neg (by omega)] at eq
              refine cs_next cy (by omega) fun h3 f3 c3 => ?_
              have f13 : Fr (FC f) h h3 := f2.tr (f3.mono fun q k p => Or.inl p)
              have i3' : FS h3 T f (u.1.tail, u.2.1 + 1, u.2.2 + 1) L := ⟨c3, f3.2.trans y22, by rw [f3.i (by unfold TkC; omega)]; exact y411, by rw [f3.i (by unfold TkC; omega)]; exact y511, gy.fr2 fun q k z => f3.i (by unfold TkC; omega), by simp only; omega, by simp only; omega, by simp only; omega⟩
              rw [nI_1]
              refine cs_part hf F 0 (w + 1) (u.1.tail, u.2.1 + 1, u.2.2 + 1) L h3 _ (by omega) (by omega) (by omega) i3' (fun e h' he f' r' => br_t rfl (q0 e h' (by rw [eq, he]) (f13.tr f') r')) (fun x h' hx f' g' => br_f (by decide) ?_)
              have fx := pE_fct F 0 (w + 1) _ x (by omega) c3.2.2.1.sok hx
              obtain ⟨b1, b2, b3, b4, b5, b6, b7⟩ := fx
              obtain ⟨a1, a2, a3, a4, a5, a6, a7, a8⟩ := g'
              simp only at b2 b3 b6
              have f1' : Fr (FC f) h h' := f13.tr f'
              rw [hx] at eq
              simp only at eq
              rw [show (41 : Int32) = nI 41 from rfl, a1.is 41 (by omega)]
              refine br_c (fun c41 => ?_) (fun c41 => ?_)
              · rw [if_pos c41] at eq
                refine cs_next a1 (by omega) fun h4 f4 c4 => q1 _ h4 eq (f1'.tr (f4.mono fun q k p => Or.inl p)) ⟨c4, f4.2.trans a2, by rw [f4.i (by unfold TkC; omega)]; exact a3, by rw [f4.i (by unfold TkC; omega)]; exact a4, a5.fr2 fun q k z => f4.i (by unfold TkC; omega), a6, a7, a8⟩
              · rw [if_neg c41] at eq
                exact cs_misplaced (α := List ob_S × tx_U) a1 fun e' h4 he f4 r4 => q0 e' h4 (by rw [eq]; exact he) (f1'.tr (f4.mono fun q k p => by unfold FC; omega)) r4
            · rw [if_pos (by omega)] at eq
              exact cs_misplaced (α := List ob_S × tx_U) cy fun e' h4 he f4 r4 => q0 e' h4 (by rw [eq]; exact he) (f2.tr (f4.mono fun q k p => by unfold FC; omega)) r4
          · have h1 : kdT u.1 = 3 ∨ facK (kdT u.1) = true := by
              rcases hs01 with z | z
              · exact absurd z c0
              · exact hs0.mp z
            have hfk : facK (kdT u.1) = true → 100 ≤ kdT u.1 ∧ kdT u.1 ≤ 105 := fun z => by unfold facK at z; exact of_decide_eq_true z
            have hkn : 1 < kdT u.1 ∧ kdT u.1 ≠ 40 := by
              rcases h1 with z | z
              · omega
              · have := hfk z; omega
            rw [if_neg hkn.2] at eq
            have put : ∀ v : Int32, v = enS (stpU (hdT u.1)) → KX5_readUnit_123 (MX5_readPart F) f v y2 fun r56 h57 => Q r56 h57 := by
              intro v hv
              unfold KX5_readUnit_123
              refine cs_add gy (by omega) hv fun h3 f3 d3 => cs_next (cy.fr f3 (fun q k p => by omega)) hkn.1 fun h4 f4 c4 => q1 _ h4 eq ((f2.tr (f3.mono fun q k p => by unfold FC; omega)).tr (f4.mono fun q k p => Or.inl p)) ⟨c4, f4.2.trans (f3.2.trans y22), ?_, ?_, d3.fr2 fun q k z => f4.i (by unfold TkC; omega), ?_, ?_, ?_⟩
              · rw [f4.i (by unfold TkC; omega), f3.i (by omega)]; exact y411
              · rw [f4.i (by unfold TkC; omega), f3.i (by omega)]; exact y511
              · rw [List.length_append, List.length_singleton]; simp only; omega
              · simp only; omega
              · simp only; omega
            rw [y22]
            refine ⟨hA, ?_⟩
            rw [show (nI (kdT u.1) = (3 : Int32)) = (kdT u.1 = 3) from propext (nI_eq (b := 3) (by omega) (by omega))]
            refine br_c (fun c3 => put _ ?_) (fun c3 => put _ ?_)
            · unfold stpU
              rw [if_pos c3, cy.2.2.2.2.2.1 c3]
              rfl
            · unfold stpU
              have hr := hfk (by rcases h1 with z | z; exact absurd z c3; exact z)
              rw [if_neg c3]
              show -(nI (kdT u.1)) = -(100 + nI ((hdT u.1).1 - 100))
              congr 1
              rw [show (100 : Int32) = nI 100 from rfl, nI_add]
              congr 1
              show kdT u.1 = 100 + (kdT u.1 - 100)
              omega
        · apply Classical.byContradiction
          intro z
          exact c60 ((nI_ltI (b := 60) (by omega) (by omega)).mpr (by omega))
      unfold MX5_readUnit
      rw [s1.k]
      refine Lt_i fun v zv => ?_
      subst zv
      have e40 : (nI (kdT u.1) = (40 : Int32)) = (kdT u.1 = 40) := propext (nI_eq (b := 40) (by omega) (by omega))
      have e3 : (nI (kdT u.1) = (3 : Int32)) = (kdT u.1 = 3) := propext (nI_eq (b := 3) (by omega) (by omega))
      rw [e40]
      have u19 : ∀ s0 : Int32, (s0 = 0 ∨ s0 = 1) → (s0 = 1 ↔ kdT u.1 = 40) → KX5_readUnit_19 (MX5_readPart F) (nI w) (nI (kdT u.1)) s0 h fun r56 h57 => Q r56 h57 := by
        intro s0 hs01 hs0
        unfold KX5_readUnit_19
        rw [e3]
        have u37 : ∀ s2 : Int32, (s2 = 0 ∨ s2 = 1) → (s2 = 1 ↔ (kdT u.1 = 3 ∨ facK (kdT u.1) = true)) → KX5_readUnit_37 (MX5_readPart F) (nI w) (nI (kdT u.1)) s0 s2 h fun r56 h57 => Q r56 h57 := by
          intro s2 hs21 hs2
          unfold KX5_readUnit_37
          refine br_c (fun c0 => br_c (fun c2 => bad' (Or.inl ?_)) (fun c2 => unit48 s2 hs21 hs2 (Or.inr (hs2.mp (by rcases hs21 with z | z; exact absurd z c2; exact z))))) (fun c0 => unit48 s2 hs21 hs2 (Or.inl (hs0.mp (by rcases hs01 with z | z; exact absurd z c0; exact z))))
          rintro (z | z)
          · have := hs0.mpr z; rw [this] at c0; exact absurd c0 (by decide)
          · have := hs2.mpr z; rw [this] at c2; exact absurd c2 (by decide)
        refine br_c (fun c3 => u37 1 (Or.inr rfl) ⟨fun _ => Or.inl c3, fun _ => rfl⟩) (fun c3 => cs_isFact ?_)
        have ef : tru (decide (100 ≤ nI (kdT u.1)) && decide (nI (kdT u.1) ≤ 105)) = tru (facK (kdT u.1)) := by
          unfold facK
          congr 1
          rw [Bool.eq_iff_iff, Bool.and_eq_true, decide_eq_true_eq, decide_eq_true_eq, decide_eq_true_eq, show (100 : Int32) = nI 100 from rfl, show (105 : Int32) = nI 105 from rfl, nI_le2 (by omega) (by omega), nI_le2 (by omega) (by omega)]
        rw [ef]
        cases hfk : facK (kdT u.1) with
        | true => exact br_f (by decide) (u37 1 (Or.inr rfl) ⟨fun _ => Or.inr hfk, fun _ => rfl⟩)
        | false => exact br_t rfl (u37 0 (Or.inl rfl) ⟨fun z => absurd z (by decide), fun z => by rcases z with z | z; exact absurd z c3; rw [hfk] at z; exact absurd z (by decide)⟩)
      exact br_c (fun c => u19 1 (Or.inr rfl) ⟨fun _ => c, fun _ => rfl⟩) (fun c => u19 0 (Or.inl rfl) ⟨fun z => absurd z (by decide), fun z => absurd z c⟩)
