-- ===== class and reference alike =====
/-- what the class writes on the way -/
def SC (q k : Nat) : Prop := (39 ≤ q ∧ q ≤ 94) ∨ q = 30 ∨ q = 33 ∨ q = 38 ∨ (q = 98 ∧ (k = 2 ∨ k = 3)) ∨ q = 105 ∨ q = 106 ∨ (q = 1 ∧ 2 ≤ k ∧ k ≤ 6) ∨ (q = 4 ∧ 5 ≤ k) ∨ (5 ≤ q ∧ q ≤ 19)
def SX (q k : Nat) : Prop := SC q k ∨ SR q k
def Core (B : Nat) (h : ob_H) (w : ob_W) (r : ob_P) : Prop := WFW w ∧ WFP w r B ∧ CW h w ∧ RW h w ∧ CR h w.1 34 r ∧ Nw h r
def TapeR (h : ob_H) : Prop := ∃ len, len ≤ 1600 ∧ h.1 1 1 = nI len ∧ h.1 108 1 = nI len ∧ ∀ k, k < len → ∃ v, v < 256 ∧ h.1 109 k = nI v ∧ h.1 2 k = (nI v).toInt8.toInt32
def FaultR (h : ob_H) : Prop := h.1 4 1 = h.1 108 2 ∧ h.1 4 2 = h.1 108 3
def TimeR (h : ob_H) : Prop := ∃ t, t ≤ 100000 ∧ h.1 98 1 = nI t ∧ h.1 108 71 = nI t
def LyR (h : ob_H) : Prop := ∃ n, n ≤ 7 ∧ h.1 0 11 = nI n ∧ h.1 108 62 = nI n ∧ ∀ k, k < n → h.1 107 k = h.1 140 k
/-- a room written into a row of the class -/
def CRw (h : ob_H) (q f n : Nat) (r : ob_P) : Prop := (∀ s, s < 7 → h.1 q (f + s) = nI (mk (isS r (nI s)) n)) ∧ (∀ k, k < n → h.1 q (f + 7 + k) = r (14 + k)) ∧ (∀ k, k < n → h.1 q (f + 14 + k) = r (7 + k)) ∧ h.1 q (f + 21) = r 21 ∧ h.1 q (f + 22) = r 22 ∧ h.1 q (f + 23) = r 23
def RRw (h : ob_H) (q f : Nat) (r : ob_P) : Prop := ∀ k, k < 24 → h.1 q (f + k) = r k
def rowC (od a : Nat) : Nat := (od + a) % 41 * 24
def ArcR (B : Nat) (h : ob_H) (w : ob_W) : Prop := ∃ (U R : List ob_P) (od : Nat), od < 41 ∧ U.length + R.length ≤ 40 ∧ h.1 95 0 = nI U.length ∧ h.1 95 1 = nI R.length ∧ h.1 95 4 = nI od ∧ h.1 108 59 = nI U.length ∧ h.1 108 60 = nI R.length ∧
  (∀ i r, U[i]? = some r → WFP w r B ∧ CRw h 96 (rowC od i) w.1 r ∧ RRw h 139 (24 * i) r) ∧ (∀ i r, R[i]? = some r → WFP w r B ∧ CRw h 96 (rowC od (U.length + 1 + i)) w.1 r ∧ RRw h 139 (24 * (U.length + i)) r) ∧ (R ≠ [] → CRw h 96 (rowC od U.length) w.1 (h.1 135))
def BoxR (B : Nat) (h : ob_H) (w : ob_W) : Prop := ∃ m, m < 8 ∧ h.1 95 6 = nI m ∧ ∀ b, b < 3 → (if m.testBit b = true then h.1 150 b = 1 ∧ ∃ r, WFP w r B ∧ CRw h 97 (24 * b) w.1 r ∧ RRw h 151 (24 * b) r else h.1 150 b = 0)
def SgR (h : ob_H) (w : ob_W) : Prop := ∃ c, c ≤ 30 ∧ h.1 98 0 = nI c ∧ h.1 108 70 = nI c ∧ ∀ i, i < c → ∃ p o, 1 ≤ p ∧ p ≤ 7 ∧ o < w.1 ∧ h.1 143 i = nI p ∧ h.1 99 i = nI (p - 1) ∧ h.1 144 i = nI o ∧ h.1 100 i = nI o ∧ h.1 101 i = h.1 147 i ∧ (h.1 147 i = 0 ∨ h.1 147 i = 1) ∧ h.1 102 i = h.1 145 i ∧ h.1 103 i = h.1 146 i
/-- the wedding with another grave of the last one -/
def wg (w : ob_W) (g : Int32) : ob_W := (w.1, (fun c k => if c = 0 ∧ k = w.1 - 1 then g else wv w c k), w.2.2)
/-- who is heard at a place, with that grave; none: nobody -/
def hdA (w : ob_W) (g : Int32) (p : Nat) : Option Nat := (((gn (wg w g) (bgn w)).1)[p]?).map (fun x => x.1)
def HrdR (h : ob_H) (w : ob_W) : Prop := h.1 98 12 = 0 ∨ (h.1 98 12 = 1 ∧ 0 < w.1 ∧ ∀ g, g < 100 → ∀ p, p < 7 → h.1 104 (g * 7 + p) = (match hdA w (nI g) p with | some o => nI o | none => 7))
/-- the words that stand for themselves, as letters -/
def wdsL : List (List Nat) := [[103, 114, 97, 118, 101], [109, 105, 110, 117, 116, 101, 115], [119, 97, 105, 116, 101, 100], [110, 117, 109, 98, 101, 114], [104, 101, 97, 114, 100], [109, 105, 110, 117, 116, 101], [111, 98, 106, 101, 99, 116, 111, 114], [115, 116, 97, 121, 115], [112, 114, 105, 99, 101], [108, 97, 116, 101], [115, 101, 116, 116, 108, 101, 115], [98, 114, 105, 110, 103, 115], [106, 111, 105, 110, 101, 100], [111, 114, 100, 101, 114], [97, 110, 115, 119, 101, 114], [98, 97, 114], [100, 114, 97, 119], [111, 114], [97, 110, 100], [110, 111, 116]]
/-- a word of the class: five bits a letter -/
def cd5 (l : List Nat) : Nat := l.foldl (fun a c => a * 32 + (c - 96)) 0
def WdsR (h : ob_H) : Prop := ∀ i, i < 20 → h.2.1 3 i = Int64.ofNat (cd5 (wdsL.getD i []))
def Rest (B : Nat) (h : ob_H) (w : ob_W) : Prop := TapeR h ∧ FaultR h ∧ TimeR h ∧ LyR h ∧ ArcR B h w ∧ BoxR B h w ∧ SgR h w ∧ HrdR h w ∧ WdsR h
def Rel (B : Nat) (h : ob_H) : Prop := ∃ w r, Core B h w r ∧ Rest B h w
theorem Core.fr {B : Nat} {h h' : ob_H} {w : ob_W} {r : ob_P} (a : Core B h w r) (hf : Fr SX h h') : Core B h' w r := by
  obtain ⟨a1, a2, a3, a4, a5, a6⟩ := a
  refine ⟨a1, a2, a3.fr hf (fun q k p => ?_), a4.fr a1.1 hf (fun q k p => ?_), a5.fr hf (fun q k p => ?_), fun k hk => ?_⟩
  · rcases p with p | p
    · unfold SC at p; omega
    · unfold SR at p; omega
  · rcases p with p | p
    · unfold SC at p; omega
    · unfold SR at p; omega
  · rcases p with p | p
    · unfold SC at p; omega
    · unfold SR at p; omega
  · rw [hf.i (fun p => by
      rcases p with p | p
      · unfold SC at p; omega
      · unfold SR at p; omega)]
    exact a6 k hk
theorem CRw.fr {h h' : ob_H} {q f n : Nat} {r : ob_P} (a : CRw h q f n r) (e : ∀ k, h'.1 q k = h.1 q k) : CRw h' q f n r := by
  obtain ⟨a1, a2, a3, a4, a5, a6⟩ := a
  exact ⟨fun s hs => by rw [e]; exact a1 s hs, fun k hk => by rw [e]; exact a2 k hk, fun k hk => by rw [e]; exact a3 k hk, by rw [e]; exact a4, by rw [e]; exact a5, by rw [e]; exact a6⟩
theorem RRw.fr {h h' : ob_H} {q f : Nat} {r : ob_P} (a : RRw h q f r) (e : ∀ k, h'.1 q k = h.1 q k) : RRw h' q f r := fun k hk => by rw [e]; exact a k hk
/-- the cells of the rest -/
def RX (q k : Nat) : Prop := ((q = 1 ∧ k = 1) ∨ (q = 108 ∧ k = 1) ∨ q = 109 ∨ q = 2) ∨ ((q = 4 ∧ (k = 1 ∨ k = 2)) ∨ (q = 108 ∧ (k = 2 ∨ k = 3))) ∨ ((q = 98 ∧ k = 1) ∨ (q = 108 ∧ k = 71)) ∨ ((q = 0 ∧ k = 11) ∨ (q = 108 ∧ k = 62) ∨ q = 107 ∨ q = 140) ∨
  ((q = 95 ∧ (k = 0 ∨ k = 1 ∨ k = 4)) ∨ (q = 108 ∧ (k = 59 ∨ k = 60)) ∨ q = 96 ∨ q = 139 ∨ q = 135) ∨ ((q = 95 ∧ k = 6) ∨ q = 150 ∨ q = 97 ∨ q = 151) ∨ ((q = 98 ∧ k = 0) ∨ (q = 108 ∧ k = 70) ∨ (143 ≤ q ∧ q ≤ 147) ∨ (99 ≤ q ∧ q ≤ 103)) ∨ ((q = 98 ∧ k = 12) ∨ q = 104) ∨ q = 3
theorem TapeR.fr {h h' : ob_H} (a : TapeR h) (e : ∀ q k, (q = 1 ∧ k = 1) ∨ (q = 108 ∧ k = 1) ∨ q = 109 ∨ q = 2 → h'.1 q k = h.1 q k) : TapeR h' := by
  obtain ⟨len, a1, a2, a3, a4⟩ := a
  refine ⟨len, a1, by rw [e _ _ (by omega)]; exact a2, by rw [e _ _ (by omega)]; exact a3, fun k hk => ?_⟩
  rw [e _ _ (by omega), e _ _ (by omega)]
  exact a4 k hk
theorem FaultR.fr {h h' : ob_H} (a : FaultR h) (e : ∀ q k, (q = 4 ∧ (k = 1 ∨ k = 2)) ∨ (q = 108 ∧ (k = 2 ∨ k = 3)) → h'.1 q k = h.1 q k) : FaultR h' := by
  unfold FaultR at a ⊢
  rw [e _ _ (by omega), e _ _ (by omega), e _ _ (by omega), e _ _ (by omega)]
  exact a
theorem TimeR.fr {h h' : ob_H} (a : TimeR h) (e : ∀ q k, (q = 98 ∧ k = 1) ∨ (q = 108 ∧ k = 71) → h'.1 q k = h.1 q k) : TimeR h' := by
  unfold TimeR at a ⊢
  rw [e _ _ (by omega), e _ _ (by omega)]
  exact a
theorem LyR.fr {h h' : ob_H} (a : LyR h) (e : ∀ q k, (q = 0 ∧ k = 11) ∨ (q = 108 ∧ k = 62) ∨ q = 107 ∨ q = 140 → h'.1 q k = h.1 q k) : LyR h' := by
  obtain ⟨n, a1, a2, a3, a4⟩ := a
  refine ⟨n, a1, by rw [e _ _ (by omega)]; exact a2, by rw [e _ _ (by omega)]; exact a3, fun k hk => ?_⟩
  rw [e _ _ (by omega), e _ _ (by omega)]
  exact a4 k hk
theorem ArcR.fr {B : Nat} {h h' : ob_H} {w : ob_W} (a : ArcR B h w) (e : ∀ q k, (q = 95 ∧ (k = 0 ∨ k = 1 ∨ k = 4)) ∨ (q = 108 ∧ (k = 59 ∨ k = 60)) ∨ q = 96 ∨ q = 139 ∨ q = 135 → h'.1 q k = h.1 q k) : ArcR B h' w := by
  obtain ⟨U, R, od, a1, a2, a3, a4, a5, a6, a7, a8, a9, a10⟩ := a
  refine ⟨U, R, od, a1, a2, by rw [e _ _ (by omega)]; exact a3, by rw [e _ _ (by omega)]; exact a4, by rw [e _ _ (by omega)]; exact a5, by rw [e _ _ (by omega)]; exact a6, by rw [e _ _ (by omega)]; exact a7, fun i r hi => ?_, fun i r hi => ?_, fun hne => ?_⟩
  · obtain ⟨b1, b2, b3⟩ := a8 i r hi
    exact ⟨b1, b2.fr (fun k => e _ _ (by omega)), b3.fr (fun k => e _ _ (by omega))⟩
  · obtain ⟨b1, b2, b3⟩ := a9 i r hi
    exact ⟨b1, b2.fr (fun k => e _ _ (by omega)), b3.fr (fun k => e _ _ (by omega))⟩
  · rw [show h'.1 135 = h.1 135 from funext fun k => e _ _ (by omega)]
    exact (a10 hne).fr (fun k => e _ _ (by omega))
theorem BoxR.fr {B : Nat} {h h' : ob_H} {w : ob_W} (a : BoxR B h w) (e : ∀ q k, (q = 95 ∧ k = 6) ∨ q = 150 ∨ q = 97 ∨ q = 151 → h'.1 q k = h.1 q k) : BoxR B h' w := by
  obtain ⟨m, a1, a2, a3⟩ := a
  refine ⟨m, a1, by rw [e _ _ (by omega)]; exact a2, fun b hb => ?_⟩
  have h1 := a3 b hb
  rw [e 150 b (by omega)]
  split
  · rename_i hm
    rw [if_pos hm] at h1
    obtain ⟨b1, r, b2, b3, b4⟩ := h1
    exact ⟨b1, r, b2, b3.fr (fun k => e _ _ (by omega)), b4.fr (fun k => e _ _ (by omega))⟩
  · rename_i hm
    rw [if_neg hm] at h1
    exact h1
theorem SgR.fr {h h' : ob_H} {w : ob_W} (a : SgR h w) (e : ∀ q k, (q = 98 ∧ k = 0) ∨ (q = 108 ∧ k = 70) ∨ (143 ≤ q ∧ q ≤ 147) ∨ (99 ≤ q ∧ q ≤ 103) → h'.1 q k = h.1 q k) : SgR h' w := by
  obtain ⟨c, a1, a2, a3, a4⟩ := a
  refine ⟨c, a1, by rw [e _ _ (by omega)]; exact a2, by rw [e _ _ (by omega)]; exact a3, fun i hi => ?_⟩
  rw [e 143 i (by omega), e 144 i (by omega), e 145 i (by omega), e 146 i (by omega), e 147 i (by omega), e 99 i (by omega), e 100 i (by omega), e 101 i (by omega), e 102 i (by omega), e 103 i (by omega)]
  exact a4 i hi
theorem HrdR.fr {h h' : ob_H} {w : ob_W} (a : HrdR h w) (e : ∀ q k, (q = 98 ∧ k = 12) ∨ q = 104 → h'.1 q k = h.1 q k) : HrdR h' w := by
  unfold HrdR at a ⊢
  rw [e 98 12 (by omega)]
  rcases a with a | ⟨a1, a2, a3⟩
  · exact Or.inl a
  · exact Or.inr ⟨a1, a2, fun g hg p hp => by rw [e _ _ (by omega)]; exact a3 g hg p hp⟩
theorem Rest.fr {B : Nat} {h h' : ob_H} {w : ob_W} (a : Rest B h w) {P : Nat → Nat → Prop} (hf : Fr P h h') (hP : ∀ q k, RX q k → ¬ P q k) : Rest B h' w := by
  obtain ⟨a1, a2, a3, a4, a5, a6, a7, a8, a9⟩ := a
  have e : ∀ q k, RX q k → h'.1 q k = h.1 q k := fun q k hx => hf.i (hP q k hx)
  exact ⟨TapeR.fr a1 fun q k z => e q k (Or.inl z), FaultR.fr a2 fun q k z => e q k (Or.inr (Or.inl z)), TimeR.fr a3 fun q k z => e q k (Or.inr (Or.inr (Or.inl z))), LyR.fr a4 fun q k z => e q k (Or.inr (Or.inr (Or.inr (Or.inl z)))),
    ArcR.fr a5 fun q k z => e q k (Or.inr (Or.inr (Or.inr (Or.inr (Or.inl z))))), BoxR.fr a6 fun q k z => e q k (Or.inr (Or.inr (Or.inr (Or.inr (Or.inr (Or.inl z)))))), SgR.fr a7 fun q k z => e q k (Or.inr (Or.inr (Or.inr (Or.inr (Or.inr (Or.inr (Or.inl z))))))), HrdR.fr a8 fun q k z => e q k (Or.inr (Or.inr (Or.inr (Or.inr (Or.inr (Or.inr (Or.inr (Or.inl z)))))))), fun i hi => by rw [hf.l (hP 3 i (Or.inr (Or.inr (Or.inr (Or.inr (Or.inr (Or.inr (Or.inr (Or.inr rfl)))))))))]; exact a9 i hi⟩
theorem RX_q {q k : Nat} (z : RX q k) : (q = 135 ∨ q = 3) ∨ (q = 108 ∧ (k = 1 ∨ k = 2 ∨ k = 3 ∨ k = 71 ∨ k = 62 ∨ k = 59 ∨ k = 60 ∨ k = 70)) ∨ (q = 1 ∧ k = 1) ∨ q = 109 ∨ q = 2 ∨ (q = 4 ∧ (k = 1 ∨ k = 2)) ∨ (q = 98 ∧ (k = 0 ∨ k = 1 ∨ k = 12)) ∨ q = 0 ∨ q = 107 ∨ q = 140 ∨ q = 95 ∨ q = 96 ∨ q = 139 ∨ q = 150 ∨ q = 97 ∨ q = 151 ∨ (143 ≤ q ∧ q ≤ 147) ∨ (99 ≤ q ∧ q ≤ 104) := by
  unfold RX at z
  rcases z with (⟨rfl, rfl⟩ | ⟨rfl, rfl⟩ | rfl | rfl) | (⟨rfl, rfl | rfl⟩ | ⟨rfl, rfl | rfl⟩) | (⟨rfl, rfl⟩ | ⟨rfl, rfl⟩) | (⟨rfl, rfl⟩ | ⟨rfl, rfl⟩ | rfl | rfl) | (⟨rfl, rfl | rfl | rfl⟩ | ⟨rfl, rfl | rfl⟩ | rfl | rfl | rfl) | (⟨rfl, rfl⟩ | rfl | rfl | rfl) | (⟨rfl, rfl⟩ | ⟨rfl, rfl⟩ | ⟨z1, z2⟩ | ⟨z1, z2⟩) | (⟨rfl, rfl⟩ | rfl) | rfl <;> first | (simp; done) | omega
theorem SX_RX : ∀ q k, RX q k → ¬ SX q k := by
  intro q k z
  rcases RX_q z with (rfl | rfl) | ⟨rfl, h⟩ | ⟨rfl, rfl⟩ | rfl | rfl | ⟨rfl, h⟩ | ⟨rfl, h⟩ | rfl | rfl | rfl | rfl | rfl | rfl | rfl | rfl | rfl | ⟨z1, z2⟩ | ⟨z1, z2⟩ <;> intro p <;> rcases p with p | p
  all_goals first
    | (unfold SC at p; omega)
    | (unfold SR at p; omega)
theorem Rest.sx {B : Nat} {h h' : ob_H} {w : ob_W} (a : Rest B h w) (hf : Fr SX h h') : Rest B h' w := a.fr hf SX_RX
theorem WFP.up {w : ob_W} {r : ob_P} {B B' : Nat} (a : WFP w r B) (h : B ≤ B') : WFP w r B' := ⟨a.1, by obtain ⟨m, h1, h2⟩ := a.2.1; exact ⟨m, by omega, h2⟩, a.2.2⟩
theorem Rest.up {B B' : Nat} {h : ob_H} {w : ob_W} (a : Rest B h w) (hb : B ≤ B') : Rest B' h w := by
  obtain ⟨a1, a2, a3, a4, a5, a6, a7, a8, a9⟩ := a
  refine ⟨a1, a2, a3, a4, ?_, ?_, a7, a8, a9⟩
  · obtain ⟨U, R, od, b1, b2, b3, b4, b5, b6, b7, b8, b9, b10⟩ := a5
    exact ⟨U, R, od, b1, b2, b3, b4, b5, b6, b7, fun i r hi => ⟨(b8 i r hi).1.up hb, (b8 i r hi).2⟩, fun i r hi => ⟨(b9 i r hi).1.up hb, (b9 i r hi).2⟩, b10⟩
  · obtain ⟨m, b1, b2, b3⟩ := a6
    refine ⟨m, b1, b2, fun b hb2 => ?_⟩
    have h1 := b3 b hb2
    split
    · rename_i hm
      rw [if_pos hm] at h1
      obtain ⟨c1, r, c2, c3⟩ := h1
      exact ⟨c1, r, c2.up hb, c3⟩
    · rename_i hm
      rw [if_neg hm] at h1
      exact h1
theorem Core.up {B B' : Nat} {h : ob_H} {w : ob_W} {r : ob_P} (a : Core B h w r) (hb : B ≤ B') : Core B' h w r := ⟨a.1, a.2.1.up hb, a.2.2⟩
theorem Rel.up {B B' : Nat} {h : ob_H} (a : Rel B h) (hb : B ≤ B') : Rel B' h := by
  obtain ⟨w, r, h1, h2⟩ := a
  exact ⟨w, r, h1.up hb, h2.up hb⟩
/-- a question: both sides write on the way only -/
theorem Rel.ask {B : Nat} {h h1 h2 : ob_H} (a : Rel B h) (f1 : Fr SC h h1) (f2 : Fr SR h1 h2) : Rel (B + 60) h2 := by
  obtain ⟨w, r, b1, b2⟩ := a
  have f : Fr SX h h2 := (f1.mono (fun q k p => Or.inl p)).tr (f2.mono (fun q k p => Or.inr p))
  exact ⟨w, r, (b1.fr f).up (by omega), (b2.sx f).up (by omega)⟩
