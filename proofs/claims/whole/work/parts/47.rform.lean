-- ===== the reference reads a formula: its parts =====
/-- .. and no fault is told -/
def RTy (h : ob_H) (T : tx_T) : Prop := RTx h T ∧ h.1 108 3 = -1
def RS (h : ob_H) (T : tx_T) (S : tx_S) : Prop := RTy h T ∧ Str T S ∧ RT h (hdT S)
def RsR (h : ob_H) (e : Nat × Nat) : Prop := (1 ≤ e.1 ∧ e.1 ≤ 5) ∧ h.1 108 2 = nI e.1 ∧ h.1 108 3 = nI e.2
theorem lo1_g {S A : Type} {F : (A → Prop) → A → Prop} (I : S → A → Prop) (μ : S → Nat) (hs : ∀ (k : A → Prop) (s : S) (a1 : A), I s a1 → (∀ s2 a2, I s2 a2 → μ s2 < μ s → k a2) → F k a1) (s : S) {a1 : A} (h0 : I s a1) : lo1 F a1 := by
  have key : ∀ m s a2, μ s < m → I s a2 → it1 F m a2 := by
    intro m
    induction m with
    | zero => intro s a2 h; exact absurd h (Nat.not_lt_zero _)
    | succ m ih =>
      intro s a2 h hI
      exact hs _ s a2 hI (fun s3 a3 hI2 hlt => ih s3 a3 (Nat.lt_of_lt_of_le hlt (Nat.le_of_lt_succ h)) hI2)
  exact ⟨_, key _ s a1 (Nat.lt_succ_self _) h0⟩
theorem lo2_g {S A B : Type} {F : (A → B → Prop) → A → B → Prop} (I : S → A → B → Prop) (μ : S → Nat) (hs : ∀ (k : A → B → Prop) (s : S) (a1 : A) (b1 : B), I s a1 b1 → (∀ s2 a2 b2, I s2 a2 b2 → μ s2 < μ s → k a2 b2) → F k a1 b1) (s : S) {a1 : A} {b1 : B} (h0 : I s a1 b1) : lo2 F a1 b1 := by
  have key : ∀ m s a2 b2, μ s < m → I s a2 b2 → it2 F m a2 b2 := by
    intro m
    induction m with
    | zero => intro s a2 b2 h; exact absurd h (Nat.not_lt_zero _)
    | succ m ih =>
      intro s a2 b2 h hI
      exact hs _ s a2 b2 hI (fun s3 a3 b3 hI2 hlt => ih s3 a3 b3 (Nat.lt_of_lt_of_le hlt (Nat.le_of_lt_succ h)) hI2)
  exact ⟨_, key _ s a1 b1 (Nat.lt_succ_self _) h0⟩
theorem RS.k120 {h : ob_H} {T : tx_T} {S : tx_S} (c : RS h T S) : kdT S ≤ 3 ∨ (37 ≤ kdT S ∧ kdT S ≤ 62) ∨ (100 ≤ kdT S ∧ kdT S < 120) := c.2.1.hd.2.2.2.1
theorem RS.k {h : ob_H} {T : tx_T} {S : tx_S} (c : RS h T S) : h.1 108 6 = srt (kdT S) := c.2.2.1
theorem RS.fr {h h' : ob_H} {T : tx_T} {S : tx_S} {P : Nat → Nat → Prop} (c : RS h T S) (f : Fr P h h') (hP : ∀ q k, P q k → ¬ (q = 108 ∧ (3 ≤ k ∧ k ≤ 9)) ∧ q ≠ 109) : RS h' T S := by
  obtain ⟨a1, a3, b1, b2, b3, b4, b5⟩ := c
  have e1 : ∀ k, 4 ≤ k → k ≤ 9 → h'.1 108 k = h.1 108 k := fun k h1 h2 => f.i fun p => (hP _ _ p).1 ⟨rfl, by omega, h2⟩
  have e2 : ∀ k, h'.1 109 k = h.1 109 k := fun k => f.i fun p => (hP _ _ p).2 rfl
  have e3 : h'.2.1 108 9 = h.2.1 108 9 := f.l fun p => (hP _ _ p).1 ⟨rfl, by omega, by omega⟩
  refine ⟨⟨a1.1.fr fun q k z => ?_, by rw [f.i fun p => (hP _ _ p).1 ⟨rfl, by omega, by omega⟩]; exact a1.2⟩, a3, by rw [e1 6 (by omega) (by omega)]; exact b1, by rw [e1 7 (by omega) (by omega)]; exact b2, fun z => by rw [e1 8 (by omega) (by omega)]; exact b3 z, fun z => by rw [e3]; exact b4 z, fun z => by rw [e1 4 (by omega) (by omega)]; exact b5 z⟩
  rcases z with ⟨rfl, rfl⟩ | rfl
  · exact e1 5 (by omega) (by omega)
  · exact e2 k
theorem rs_next {h : ob_H} {T : tx_T} {S : tx_S} {Q : ob_H → Prop} (c : RS h T S) (hk : 1 < kdT S) (hq : ∀ h', Fr TkR h h' → RS h' T S.tail → Q h') : MX12_token h Q := by
  obtain ⟨a1, a3, b1, b2, b3, b4, b5⟩ := c
  obtain ⟨t1, t2, t3⟩ := a3.tl hk
  exact rs_token a1.1 t1 (b5 (by show kdT S ≠ 1; omega)) fun h' f' c' => hq h' f' ⟨⟨a1.1.fr fun q k z => f'.i (by unfold TkR; omega), by rw [f'.i (by unfold TkR; omega)]; exact a1.2⟩, t3, by rw [t2]; exact c'⟩
theorem srt_is {k c : Nat} (hk : k ≤ 3 ∨ (37 ≤ k ∧ k ≤ 62) ∨ (100 ≤ k ∧ k < 120)) (hc : 4 ≤ c) (hc2 : c < 100) : srt k = nI c ↔ k = c := by
  unfold srt
  by_cases h0 : k = 0
  · rw [if_pos h0]
    constructor
    · intro e
      have := (nI_eq (a := 0) (b := c) (by omega) (by omega)).mp e
      omega
    · intro e; omega
  rw [if_neg h0]
  by_cases h1 : k = 1
  · rw [if_pos h1]
    constructor
    · intro e
      have := (nI_eq (a := 3) (b := c) (by omega) (by omega)).mp e
      omega
    · intro e; omega
  rw [if_neg h1]
  by_cases h2 : k = 2 ∨ 100 ≤ k
  · rw [if_pos h2]
    constructor
    · intro e
      have := (nI_eq (a := 1) (b := c) (by omega) (by omega)).mp e
      omega
    · intro e; omega
  rw [if_neg h2]
  by_cases h3 : k = 3
  · rw [if_pos h3]
    constructor
    · intro e
      have := (nI_eq (a := 2) (b := c) (by omega) (by omega)).mp e
      omega
    · intro e; omega
  rw [if_neg h3]
  exact nI_eq (by omega) (by omega)
theorem srt_1 {k : Nat} (hk : k ≤ 3 ∨ (37 ≤ k ∧ k ≤ 62) ∨ (100 ≤ k ∧ k < 120)) : (srt k = 0 ↔ k = 0) ∧ (srt k = 3 ↔ k = 1) ∧ (srt k = 1 ↔ (k = 2 ∨ 100 ≤ k)) ∧ (srt k = 2 ↔ k = 3) := by
  have key : ∀ k, k < 120 → (k ≤ 3 ∨ (37 ≤ k ∧ k ≤ 62) ∨ (100 ≤ k ∧ k < 120)) → (srt k = 0 ↔ k = 0) ∧ (srt k = 3 ↔ k = 1) ∧ (srt k = 1 ↔ (k = 2 ∨ 100 ≤ k)) ∧ (srt k = 2 ↔ k = 3) := by decide +kernel
  exact key k (by omega) hk
theorem RS.is {h : ob_H} {T : tx_T} {S : tx_S} (c : RS h T S) (k : Nat) (h4 : 4 ≤ k) (hk : k < 100) : (h.1 108 6 = nI k) = (kdT S = k) := by
  rw [c.k]
  exact propext (srt_is c.k120 h4 hk)
theorem rs_wrong {h : ob_H} {T : tx_T} {S : tx_S} {c : Nat} {α : Type} {Q : ob_H → Prop} (hc : RS h T S) (h0 : h.1 108 2 = 0) (hc1 : 1 ≤ c) (hc5 : c ≤ 5) (hq : ∀ e h', badT (α := α) S c = .inl e → Fr (fun q k => q = 108 ∧ (k = 2 ∨ k = 3)) h h' → RsR h' e → Q h') : MX12_wrong (nI c) h Q := by
  have e3 : (h.1 108 6 = 3) = (kdT S = 1) := by rw [hc.k]; exact propext (srt_1 hc.k120).2.1
  have e7 : h.1 108 7 = nI (hdT S).2.1 := hc.2.2.2.1
  unfold MX12_wrong
  rw [h0, e3]
  have put : ∀ v : Nat, 1 ≤ v → v ≤ 5 → (v = if kdT S = 1 then 1 else c) → Lt (h_i h 108 2 (nI v)) fun h11 => Lt (h_i h11 108 3 (h11.1 108 7)) fun h13 => Q h13 := by
    intro v v1 v5 hv
    refine Lt_i fun y z => Lt_i fun y2 z2 => hq (v, (hdT S).2.1) y2 (by rw [hv]; rfl) ?_ ⟨⟨v1, v5⟩, ?_, ?_⟩
    · rw [z2, z]; exact (Fr.rf.st (by omega)).st (by omega)
    · rw [z2, h_i_1, if_neg (by omega), z, h_i_1, if_pos ⟨rfl, rfl⟩]
    · rw [z2, h_i_1, if_pos ⟨rfl, rfl⟩, z, h_i_1, if_neg (by omega)]
      exact e7
  exact br_t (by decide) (br_c (fun cc => put 1 (by omega) (by omega) (by rw [if_pos cc])) (fun cc => put c hc1 hc5 (by rw [if_neg cc])))
theorem rs_isWord {h : ob_H} {T : tx_T} {S : tx_S} {i : Nat} {x : Int64} {Q : Int32 → Prop} (hc : RS h T S) (hi : i < 20) (hx : x = Int64.ofNat (cd8 (wdsL.getD i []))) (hq : Q (tru (decide (kdT S = 100 + i)))) : MX12_isWord x h Q := by
  have e1 : (h.1 108 6 = 1) = (kdT S = 2 ∨ 100 ≤ kdT S) := by rw [hc.k]; exact propext (srt_1 hc.k120).2.2.1
  obtain ⟨w1, w2⟩ := wds_ok i hi
  have hk := hc.2.1.hd
  unfold MX12_isWord
  rw [e1]
  refine br_c (fun c => ?_) (fun c => ?_)
  · rw [hc.2.2.2.2.2.1 c, hx]
    have word : LtL (hdT S).2.2.2.1 ∧ (hdT S).2.2.2.1.length ≤ 8 ∧ ((hdT S).2.2.2.1 = wdsL.getD i [] ↔ kdT S = 100 + i) := by
      rcases c with c | c
      · obtain ⟨a, b, d⟩ := hk.2.1 c
        refine ⟨a, b, fun z => absurd z.symm (d i hi), fun z => ?_⟩
        omega
      · have e := hk.2.2.1 c
        have hlt : (hdT S).1 - 100 < 20 := by
          have := hc.k120
          have h1 : kdT S = (hdT S).1 := rfl
          omega
        have w := wds_ok _ hlt
        rw [e]
        refine ⟨w.1, w.2, fun z => ?_, fun z => ?_⟩
        · have a1 := wix_at _ hlt
          rw [z, wix_at i hi] at a1
          show (hdT S).1 = 100 + i
          have : 100 ≤ (hdT S).1 := c
          omega
        · have z : (hdT S).1 = 100 + i := z
          rw [z, Nat.add_sub_cancel_left]
    obtain ⟨a, b, d⟩ := word
    refine br_c (fun cc => ?_) (fun cc => ?_)
    · have := d.mp ((w8_eq a w1 b w2).mp (lgc.mp cc))
      rw [decide_eq_true this] at hq
      exact hq
    · have : ¬ kdT S = 100 + i := fun z => cc (lgc.mpr ((w8_eq a w1 b w2).mpr (d.mpr z)))
      rw [decide_eq_false this] at hq
      exact hq
  · have : ¬ kdT S = 100 + i := fun z => c (Or.inr (by omega))
    rw [decide_eq_false this] at hq
    exact hq
-- its rows
def GK (h : ob_H) (st : List Nat) : Prop := h.1 108 21 = nI st.length ∧ (∀ i c, st.reverse[i]? = some c → h.1 117 i = nI c) ∧ ∀ c, c ∈ st → c < 200
def GO (h : ob_H) (f : Nat) (out : List ob_S) : Prop := h.1 113 f = nI out.length ∧ ∀ k, k < out.length → out[k]? = some (h.1 111 (320 * f + k), h.1 112 (320 * f + k))
theorem GK.fr {h h' : ob_H} {st : List Nat} (a : GK h st) (e : ∀ q k, (q = 108 ∧ k = 21) ∨ q = 117 → h'.1 q k = h.1 q k) : GK h' st :=
  ⟨by rw [e _ _ (by omega)]; exact a.1, fun i c hc => by rw [e _ _ (by omega)]; exact a.2.1 i c hc, a.2.2⟩
theorem GO.fr {h h' : ob_H} {f : Nat} {out : List ob_S} (a : GO h f out) (e : ∀ q k, (q = 113 ∧ k = f) ∨ ((q = 111 ∨ q = 112) ∧ 320 * f ≤ k ∧ k < 320 * f + out.length) → h'.1 q k = h.1 q k) : GO h' f out :=
  ⟨by rw [e _ _ (by omega)]; exact a.1, fun k hk => by rw [e 111 _ (by omega), e 112 _ (by omega)]; exact a.2 k hk⟩
theorem GK.top {h : ob_H} {c : Nat} {st : List Nat} (a : GK h (c :: st)) : h.1 117 st.length = nI c ∧ c < 200 := by
  refine ⟨a.2.1 _ _ ?_, a.2.2 c List.mem_cons_self⟩
  rw [List.reverse_cons, List.getElem?_append_right (by simp)]
  simp
theorem GK.pop {h h' : ob_H} {c : Nat} {st : List Nat} (a : GK h (c :: st)) (e21 : h'.1 108 21 = nI st.length) (e : ∀ k, h'.1 117 k = h.1 117 k) : GK h' st := by
  refine ⟨e21, fun i x hx => ?_, fun x hx => a.2.2 x (List.mem_cons_of_mem _ hx)⟩
  rw [e]
  refine a.2.1 i x ?_
  have hi := (List.getElem?_eq_some_iff.mp hx).1
  rw [List.reverse_cons, List.getElem?_append_left hi]
  exact hx
theorem GK.push {h h' : ob_H} {c : Nat} {st : List Nat} (a : GK h st) (hc : c < 200) (e21 : h'.1 108 21 = nI (st.length + 1)) (et : h'.1 117 st.length = nI c) (e : ∀ k, k < st.length → h'.1 117 k = h.1 117 k) : GK h' (c :: st) := by
  refine ⟨by rw [e21]; rfl, fun i x hx => ?_, fun x hx => ?_⟩
  · rw [List.reverse_cons] at hx
    have hi := (List.getElem?_eq_some_iff.mp hx).1
    simp at hi
    by_cases z : i = st.length
    · subst z
      rw [List.getElem?_append_right (by simp)] at hx
      simp at hx
      rw [et, hx]
    · rw [List.getElem?_append_left (by simp; omega)] at hx
      rw [e i (by omega)]
      exact a.2.1 i x hx
  · rcases List.mem_cons.mp hx with z | z
    · rw [z]; exact hc
    · exact a.2.2 x z
theorem rs_add {h : ob_H} {f : Nat} {out : List ob_S} {p1 p2 : Int32} {Q : ob_H → Prop} (hf : f < 2) (h20 : h.1 108 20 = nI f) (ho : GO h f out) (hl : out.length < 320) (hq : ∀ h', Fr (fun q k => ((q = 111 ∨ q = 112) ∧ k = 320 * f + out.length) ∨ (q = 113 ∧ k = f)) h h' → GO h' f (out ++ [(p1, p2)]) → Q h') : MX12_add p1 p2 h Q := by
  obtain ⟨o1, o2⟩ := ho
  have bf : vp_in (nI f) 2 := vp_in_nI (by omega) (by omega)
  have ef : ix (nI f) = f := nI_clamp (by omega)
  have en : (320 : Int32) * nI f + nI out.length = nI (320 * f + out.length) := by rw [show (320 : Int32) = nI 320 from rfl, nI_mul, nI_add]
  have ei : ix (nI (320 * f + out.length)) = 320 * f + out.length := nI_clamp (by omega)
  have bi : vp_in (nI (320 * f + out.length)) 640 := vp_in_nI (by omega) (by omega)
  unfold MX12_add
  rw [h20, ef, o1, en, ei]
  refine ⟨bf, bi, Lt_i fun y z => ?_⟩
  have y20 : y.1 108 20 = nI f := by rw [z, h_i_1, if_neg (by omega)]; exact h20
  have y13 : y.1 113 f = nI out.length := by rw [z, h_i_1, if_neg (by omega)]; exact o1
  rw [y20, ef, y13, en, ei]
  refine ⟨bf, bi, Lt_i fun y2 z2 => ?_⟩
  have w20 : y2.1 108 20 = nI f := by rw [z2, h_i_1, if_neg (by omega)]; exact y20
  have w13 : y2.1 113 f = nI out.length := by rw [z2, h_i_1, if_neg (by omega)]; exact y13
  rw [w20, ef, w13, nI_1]
  refine ⟨bf, Lt_i fun y3 z3 => hq y3 ?_ ⟨?_, fun k hk => ?_⟩⟩
  · rw [z3, z2, z]; exact ((Fr.rf.st (by omega)).st (by omega)).st (by omega)
  · rw [z3, h_i_1, if_pos ⟨rfl, rfl⟩]; simp
  · have e1 : y3.1 111 (320 * f + k) = if k = out.length then p1 else h.1 111 (320 * f + k) := by
      rw [z3, h_i_1, if_neg (by omega), z2, h_i_1, if_neg (by omega), z, h_i_1]
      by_cases e : k = out.length
      · rw [if_pos ⟨rfl, by omega⟩, if_pos e]
      · rw [if_neg (by omega), if_neg e]
    have e2 : y3.1 112 (320 * f + k) = if k = out.length then p2 else h.1 112 (320 * f + k) := by
      rw [z3, h_i_1, if_neg (by omega), z2, h_i_1]
      by_cases e : k = out.length
      · rw [if_pos ⟨rfl, by omega⟩, if_pos e]
      · rw [if_neg (by omega), if_neg e, z, h_i_1, if_neg (by omega)]
    rw [e1, e2]
    by_cases e : k = out.length
    · rw [if_pos e, if_pos e, e]; simp
    · rw [if_neg e, if_neg e]
      have hk' : k < out.length := by simp at hk; omega
      rw [List.getElem?_append_left hk']
      exact o2 k hk'
theorem rs_tight {c : Nat} {h : ob_H} {Q : Int32 → Prop} (hc : c < 1000) (hq : Q (nI (tgh c))) : MX12_tight (nI c) h Q := by
  have e : ∀ d, d < 200 → (nI c = nI d) = (c = d) := fun d hd => propext (nI_eq (by omega) (by omega))
  unfold MX12_tight
  rw [show (21 : Int32) = nI 21 from rfl, show (38 : Int32) = nI 38 from rfl, show (43 : Int32) = nI 43 from rfl, show (45 : Int32) = nI 45 from rfl, show (60 : Int32) = nI 60 from rfl, show (61 : Int32) = nI 61 from rfl, show (62 : Int32) = nI 62 from rfl, show (124 : Int32) = nI 124 from rfl,
    e 21 (by omega), e 38 (by omega), e 43 (by omega), e 45 (by omega), e 60 (by omega), e 61 (by omega), e 62 (by omega), e 124 (by omega)]
  unfold tgh at hq
  refine br_c (fun c1 => ?_) (fun c1 => br_c (fun c2 => ?_) (fun c2 => br_c (fun c3 => ?_) (fun c3 => br_c (fun c4 => ?_) (fun c4 => br_c (fun c5 => ?_) (fun c5 => br_c (fun c6 => ?_) (fun c6 => br_c (fun c7 => ?_) (fun c7 => br_c (fun c8 => ?_) (fun c8 => ?_))))))))
  · rw [if_pos c1] at hq; exact hq
  · rw [if_neg c1, if_pos c2] at hq; exact hq
  · rw [if_neg c1, if_neg c2, if_pos (by omega)] at hq; exact hq
  · rw [if_neg c1, if_neg c2, if_pos (by omega)] at hq; exact hq
  · rw [if_neg c1, if_neg c2, if_neg (by omega), if_pos (by omega)] at hq; exact hq
  · rw [if_neg c1, if_neg c2, if_neg (by omega), if_pos (by omega)] at hq; exact hq
  · rw [if_neg c1, if_neg c2, if_neg (by omega), if_pos (by omega)] at hq; exact hq
  · rw [if_neg c1, if_neg c2, if_neg (by omega), if_neg (by omega), if_pos c8] at hq; exact hq
  · rw [if_neg c1, if_neg c2, if_neg (by omega), if_neg (by omega), if_neg c8] at hq; exact hq
theorem tgh_le (c : Nat) : tgh c ≤ 6 := by
  unfold tgh
  repeat' split
  all_goals omega
def ClW (f q k : Nat) : Prop := (q = 108 ∧ (k = 21 ∨ k = 25)) ∨ ((q = 111 ∨ q = 112) ∧ 320 * f ≤ k ∧ k < 320 * f + 320) ∨ (q = 113 ∧ k = f)
theorem rs_close {h : ob_H} {f m : Nat} {st : List Nat} {out : List ob_S} {Q : ob_H → Prop} (hf : f < 2) (h20 : h.1 108 20 = nI f) (hk : GK h st) (ho : GO h f out) (hd : h.1 108 25 = nI (dpS st)) (hl : out.length + st.length < 320) (hl2 : st.length ≤ 160) (hm : m < 100)
    (hq : ∀ h', Fr (ClW f) h h' → GK h' (clo m st out).1 → GO h' f (clo m st out).2 → h'.1 108 25 = nI (dpS (clo m st out).1) → Q h') : MX12_close (nI m) h Q := by
  unfold MX12_close
  refine lo1_g (S := List Nat × List ob_S) (fun s h1 => Fr (ClW f) h h1 ∧ GK h1 s.1 ∧ GO h1 f s.2 ∧ h1.1 108 25 = nI (dpS s.1) ∧ s.2.length + s.1.length < 320 ∧ s.1.length ≤ 160 ∧ clo m s.1 s.2 = clo m st out) (fun s => s.1.length) ?_ (st, out) ⟨Fr.rf, hk, ho, hd, hl, hl2, rfl⟩
  intro k s h1 hI hk1
  obtain ⟨st1, out1⟩ := s
  obtain ⟨i1, i2, i3, i4, i5, i7, i6⟩ := hI
  simp only at i2 i3 i4 i5 i6 i7
  have i20 : h1.1 108 20 = nI f := by rw [i1.i (by unfold ClW; omega)]; exact h20
  rw [← i6] at hq
  unfold FX12_close_0
  cases st1 with
  | nil =>
    rw [i2.1]
    exact br_t (by decide) (hq h1 i1 i2 i3 i4)
  | cons c st1 =>
    obtain ⟨t1, t2⟩ := i2.top
    simp only [List.length_cons] at i5 i7
    rw [i2.1, List.length_cons, show nI (st1.length + 1) - 1 = nI st1.length from nI_pred _, show ix (nI st1.length) = st1.length from nI_clamp (by omega), t1]
    have e0 : ¬ nI (st1.length + 1) ≤ 0 := by
      intro z
      have := (nI_leI (a := st1.length + 1) (b := 0) (by omega) (by omega)).mp z
      omega
    have tl := tgh_le c
    refine br_f e0 ⟨vp_in_nI (by omega) (by omega), ?_⟩
    rw [show (nI c = (20 : Int32)) = (c = 20) from propext (nI_eq (b := 20) (by omega) (by omega))]
    refine br_c (fun c20 => ?_) (fun c20 => rs_tight (by omega) ?_)
    · have e : clo m (c :: st1) out1 = (c :: st1, out1) := by rw [clo, if_pos (Or.inl c20)]
      rw [e] at hq
      exact hq h1 i1 i2 i3 i4
    · rw [nI_lt2 (by omega) (by omega)]
      refine br_c (fun cm => ?_) (fun cm => Lt_i fun y z => ?_)
      · have e : clo m (c :: st1) out1 = (c :: st1, out1) := by rw [clo, if_pos (Or.inr cm)]
        rw [e] at hq
        exact hq h1 i1 i2 i3 i4
      · have e : clo m (c :: st1) out1 = clo m st1 (out1 ++ [stpC c]) := by
          rw [clo, if_neg]
          rintro (x | x)
          · exact c20 x
          · exact cm x
        have y21 : y.1 108 21 = nI st1.length := by rw [z, h_i_1, if_pos ⟨rfl, rfl⟩]
        have y17 : ∀ k, y.1 117 k = h1.1 117 k := fun k => by rw [z, h_i_1, if_neg (by omega)]
        have y25 : y.1 108 25 = nI (dpS (c :: st1)) := by rw [z, h_i_1, if_neg (by omega)]; exact i4
        have y20 : y.1 108 20 = nI f := by rw [z, h_i_1, if_neg (by omega)]; exact i20
        have fy : Fr (ClW f) h y := by rw [z]; exact i1.st (by unfold ClW; omega)
        have gy : GK y st1 := i2.pop y21 y17
        have oy : GO y f out1 := i3.fr fun q k p => by rw [z, h_i_1, if_neg (by omega)]
        rw [y21, show ix (nI st1.length) = st1.length from nI_clamp (by omega), y17, t1]
        refine ⟨vp_in_nI (by omega) (by omega), ?_⟩
        rw [show (nI c = (21 : Int32)) = (c = 21) from propext (nI_eq (b := 21) (by omega) (by omega))]
        refine br_c (fun c21 => rs_add hf y20 oy (by omega) fun h2 f2 o2 => ?_) (fun c21 => rs_add hf y20 oy (by omega) fun h2 f2 o2 => ?_)
        · have d2 : h2.1 108 25 = nI (dpS st1 + 1) := by rw [f2.i (by omega), y25, dpS_o (Or.inr c21)]
          rw [d2, show nI (dpS st1 + 1) - 1 = nI (dpS st1) from nI_pred _]
          refine Lt_i fun y3 z3 => hk1 (st1, out1 ++ [stpC c]) y3 ⟨?_, ?_, ?_, ?_, ?_, ?_, ?_⟩ (by simp)
          · rw [z3]; exact (fy.tr (f2.mono fun q k p => by unfold ClW; omega)).st (by unfold ClW; omega)
          · exact gy.fr fun q k p => by rw [z3, h_i_1, if_neg (by omega), f2.i (by omega)]
          · have es : stpC c = ((2 : Int32), (0 : Int32)) := if_pos c21
            simp only
            rw [es]
            exact o2.fr fun q k p => by rw [z3, h_i_1, if_neg (by omega)]
          · rw [z3, h_i_1, if_pos ⟨rfl, rfl⟩]
          · simp only [List.length_append, List.length_singleton]; omega
          · simp only; omega
          · rw [← i6, e]
        · refine hk1 (st1, out1 ++ [stpC c]) h2 ⟨fy.tr (f2.mono fun q k p => by unfold ClW; omega), gy.fr fun q k p => f2.i (by omega), ?_, ?_, ?_, ?_, ?_⟩ (by simp)
          · have es : stpC c = ((3 : Int32), nI c) := if_neg c21
            simp only
            rw [es]
            exact o2
          · rw [f2.i (by omega), y25, dpS_c c20 c21]
          · simp only [List.length_append, List.length_singleton]; omega
          · simp only; omega
          · rw [← i6, e]
theorem rs_mayNot {h : ob_H} {st : List Nat} {Q : Int32 → Prop} (hk : GK h st) (hl : st.length ≤ 160) (hq : Q (tru (mayN st))) : MX12_mayNot h Q := by
  unfold MX12_mayNot
  cases st with
  | nil =>
    rw [hk.1]
    exact br_t rfl hq
  | cons c st =>
    obtain ⟨t1, t2⟩ := hk.top
    simp only [List.length_cons] at hl
    have tl := tgh_le c
    rw [hk.1, List.length_cons, show nI (st.length + 1) - 1 = nI st.length from nI_pred _, show ix (nI st.length) = st.length from nI_clamp (by omega), t1]
    have e0 : ¬ nI (st.length + 1) = 0 := by
      intro z
      have := (nI_eq (a := st.length + 1) (b := 0) (by omega) (by omega)).mp z
      omega
    rw [mayN] at hq
    refine br_f e0 ⟨vp_in_nI (by omega) (by omega), ?_⟩
    rw [show (nI c = (20 : Int32)) = (c = 20) from propext (nI_eq (b := 20) (by omega) (by omega))]
    refine br_c (fun c20 => ?_) (fun c20 => rs_tight (by omega) ?_)
    · rw [decide_eq_true (Or.inl c20)] at hq; exact hq
    · rw [show ((4 : Int32) ≤ nI (tgh c)) = (4 ≤ tgh c) from by rw [show (4 : Int32) = nI 4 from rfl, nI_le2 (by omega) (by omega)]]
      refine br_c (fun c4 => ?_) (fun c4 => ?_)
      · rw [decide_eq_false (by omega)] at hq; exact hq
      · rw [decide_eq_true (by omega)] at hq; exact hq
theorem rs_hasRelation {h : ob_H} {st : List Nat} {Q : Int32 → Prop} (hk : GK h st) (hl : st.length ≤ 160) (hq : Q (tru (hasR st))) : MX12_hasRelation h Q := by
  unfold MX12_hasRelation
  refine Lt_i fun v zv => ?_
  rw [hk.1] at zv
  refine lo1_g (S := List Nat) (fun s x => x = nI s.length - 1 ∧ hasR s = hasR st ∧ s.length ≤ 160 ∧ (∀ i c, s.reverse[i]? = some c → h.1 117 i = nI c) ∧ ∀ c, c ∈ s → c < 200) (fun s => s.length) ?_ st ⟨zv, rfl, hl, hk.2.1, hk.2.2⟩
  intro k s x hI hk1
  obtain ⟨rfl, i2, i3, i4, i5⟩ := hI
  rw [← i2] at hq
  unfold FX12_hasRelation_7
  cases s with
  | nil =>
    refine br_t (by decide) ?_
    unfold KX12_hasRelation_41
    exact br_t (by decide) hq
  | cons c s =>
    simp only [List.length_cons] at i3
    have t2 : c < 200 := i5 c List.mem_cons_self
    have t1 : h.1 117 s.length = nI c := i4 _ _ (by rw [List.reverse_cons, List.getElem?_append_right (by simp)]; simp)
    have tl := tgh_le c
    rw [List.length_cons, show nI (s.length + 1) - 1 = nI s.length from nI_pred _, show ix (nI s.length) = s.length from nI_clamp (by omega), t1]
    have e20 : (nI c = (20 : Int32)) = (c = 20) := propext (nI_eq (b := 20) (by omega) (by omega))
    rw [e20]
    rw [hasR] at hq
    have k41 : (c = 20 ∨ tgh c ≤ 4) → KX12_hasRelation_41 (nI s.length) h Q := by
      intro z
      unfold KX12_hasRelation_41
      rw [show ix (nI s.length) = s.length from nI_clamp (by omega), t1, e20]
      refine br_f (nI_pos (by omega)) ⟨vp_in_nI (by omega) (by omega), br_c (fun c20 => ?_) (fun c20 => rs_tight (by omega) ?_)⟩
      · rw [if_pos c20] at hq; exact hq
      · rw [if_neg c20, if_neg (by omega)] at hq
        rw [show (nI (tgh c) = (4 : Int32)) = (tgh c = 4) from propext (nI_eq (b := 4) (by omega) (by omega))]
        refine br_c (fun c4 => ?_) (fun c4 => ?_)
        · rw [decide_eq_true c4] at hq; exact hq
        · rw [decide_eq_false c4] at hq; exact hq
    refine br_f (nI_pos (by omega)) ⟨vp_in_nI (by omega) (by omega), br_c (fun c20 => k41 (Or.inl c20)) (fun c20 => rs_tight (by omega) ?_)⟩
    rw [show (nI (tgh c) ≤ (4 : Int32)) = (tgh c ≤ 4) from by rw [show (4 : Int32) = nI 4 from rfl, nI_le2 (by omega) (by omega)]]
    refine br_c (fun c4 => k41 (Or.inr c4)) (fun c4 => Lt_i fun v2 zv2 => hk1 s v2 ⟨?_, ?_, by omega, fun i x hx => ?_, fun x hx => i5 x (List.mem_cons_of_mem _ hx)⟩ (by simp))
    · rw [zv2, Int32.sub_eq_add_neg]
    · rw [← i2, hasR, if_neg c20, if_pos (by omega)]
    · refine i4 i x ?_
      have hi := (List.getElem?_eq_some_iff.mp hx).1
      rw [List.reverse_cons, List.getElem?_append_left hi]
      exact hx
theorem rs_hasBracket {h : ob_H} {st : List Nat} {Q : Int32 → Prop} (hk : GK h st) (hl : st.length ≤ 160) (hq : Q (tru (hasB st))) : MX12_hasBracket h Q := by
  unfold MX12_hasBracket
  refine lo2c2 st.length (by omega) (fun j x => x = tru (decide (20 ∈ st.reverse.take j))) ?_ ?_ 0 (Nat.zero_le _) _ (by simp [tru])
  · intro k j x hj hI hk1
    subst hI
    have hj' : j < st.reverse.length := by simpa using hj
    have hg := List.getElem?_eq_getElem hj'
    have t1 := hk.2.1 j _ hg
    have t2 : st.reverse[j] < 200 := hk.2.2 _ (List.mem_reverse.mp (List.getElem_mem hj'))
    have hs : (20 ∈ st.reverse.take (j + 1)) ↔ (20 ∈ st.reverse.take j ∨ st.reverse[j] = 20) := by
      rw [List.take_succ, hg]
      simp [eq_comm]
    unfold FX12_hasBracket_4
    rw [hk.1, show ix (nI j) = j from nI_clamp (by omega), t1, show (nI st.reverse[j] = (20 : Int32)) = (st.reverse[j] = 20) from propext (nI_eq (b := 20) (by omega) (by omega))]
    refine br_f (nI_ge hj (by omega)) ?_
    by_cases c : 20 ∈ st.reverse.take j
    · rw [decide_eq_true c]
      refine br_f (by decide) (Lt_eq (nI_1 _) (hk1 _ ?_))
      rw [decide_eq_true (hs.mpr (Or.inl c))]; rfl
    · rw [decide_eq_false c]
      refine br_t rfl ⟨vp_in_nI (by omega) (by omega), br_c (fun c2 => Lt_eq (nI_1 _) (hk1 _ ?_)) (fun c2 => Lt_eq (nI_1 _) (hk1 _ ?_))⟩
      · rw [decide_eq_true (hs.mpr (Or.inr c2))]; rfl
      · rw [decide_eq_false (fun z => by rcases hs.mp z with y | y; exact c y; exact c2 y)]; rfl
  · intro k x hI
    subst hI
    unfold FX12_hasBracket_4
    rw [hk.1]
    have e : decide (20 ∈ st.reverse.take st.length) = hasB st := by
      unfold hasB
      rw [List.take_of_length_le (by simp)]
      simp
    rw [e]
    exact br_t (nI_le (Nat.le_refl _) (by omega)) ⟨by cases hasB st <;> rfl, hq⟩
theorem wix_lit : (444300621413 : Int64) = Int64.ofNat (cd8 (wdsL.getD 0 [])) ∧ (30796695599342963 : Int64) = Int64.ofNat (cd8 (wdsL.getD 1 [])) ∧ (131260264768868 : Int64) = Int64.ofNat (cd8 (wdsL.getD 2 [])) ∧ (121450625394034 : Int64) = Int64.ofNat (cd8 (wdsL.getD 3 [])) ∧ (448377483876 : Int64) = Int64.ofNat (cd8 (wdsL.getD 4 [])) ∧ (120299592184933 : Int64) = Int64.ofNat (cd8 (wdsL.getD 5 [])) ∧ (8026094469620461426 : Int64) = Int64.ofNat (cd8 (wdsL.getD 6 [])) ∧ (495873784179 : Int64) = Int64.ofNat (cd8 (wdsL.getD 7 [])) ∧ (482955846501 : Int64) = Int64.ofNat (cd8 (wdsL.getD 8 [])) ∧ (1818326117 : Int64) = Int64.ofNat (cd8 (wdsL.getD 9 [])) ∧ (32481173165598067 : Int64) = Int64.ofNat (cd8 (wdsL.getD 10 [])) ∧ (108243534636915 : Int64) = Int64.ofNat (cd8 (wdsL.getD 11 [])) ∧ (117026742756708 : Int64) = Int64.ofNat (cd8 (wdsL.getD 12 [])) ∧ (478660552050 : Int64) = Int64.ofNat (cd8 (wdsL.getD 13 [])) ∧ (107127011501426 : Int64) = Int64.ofNat (cd8 (wdsL.getD 14 [])) ∧ (6447474 : Int64) = Int64.ofNat (cd8 (wdsL.getD 15 [])) ∧ (1685217655 : Int64) = Int64.ofNat (cd8 (wdsL.getD 16 [])) ∧ (28530 : Int64) = Int64.ofNat (cd8 (wdsL.getD 17 [])) ∧ (6385252 : Int64) = Int64.ofNat (cd8 (wdsL.getD 18 [])) ∧ (7237492 : Int64) = Int64.ofNat (cd8 (wdsL.getD 19 [])) := by decide +kernel
