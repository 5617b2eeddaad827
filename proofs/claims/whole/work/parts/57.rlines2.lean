-- ===== the reference's lines: SETTLES, BRINGS, JOINED =====
theorem badT_c {α β : Type} {S : tx_S} {c : Nat} {e : tx_E} (h : badT (α := α) S c = .inl e) : badT (α := β) S c = .inl e := by
  unfold badT at h ⊢
  cases h
  rfl
def RQ (q k : Nat) : Prop := (q = 108 ∧ ((2 ≤ k ∧ k ≤ 9) ∨ (20 ≤ k ∧ k ≤ 25 ∧ k ≠ 23) ∨ (41 ≤ k ∧ k ≤ 47) ∨ k = 51 ∨ k = 52)) ∨ (110 ≤ q ∧ q ≤ 113) ∨ q = 117 ∨ q = 119 ∨ (121 ≤ q ∧ q ≤ 127)
theorem TkW_Q : ∀ q k, TkW q k → RQ q k := fun q k p => by unfold TkW at p; unfold RQ; omega
theorem RD.hi {h h' : ob_H} {D : tx_D} (d2 : D.2.1.length = D.1.1) (a : RD h D) (e : ∀ q k, RDX q k → q ≠ 127 → (121 ≤ q → k < D.1.1) → h'.1 q k = h.1 q k) (e7 : ∀ a b, a < D.1.1 → b < D.1.1 → h'.1 127 (7 * a + b) = h.1 127 (7 * a + b)) (e2 : ∀ k, k < D.1.1 → h'.2.1 110 k = h.2.1 110 k) : RD h' D := by
  obtain ⟨a1, a2, a3, a4, a5, a6, a7, ⟨a8, a9, a10, a11⟩, ⟨a12, a13, a14⟩, a15, a16⟩ := a
  refine ⟨by rw [e _ _ (by unfold RDX; omega) (by omega) (by omega)]; exact a1, fun c hc k hk => by rw [e _ _ (by unfold RDX; omega) (by omega) (by omega)]; exact a2 c hc k hk, fun x y hx hy => by rw [e7 x y hx hy]; exact a3 x y hx hy, by rw [e _ _ (by unfold RDX; omega) (by omega) (by omega)]; exact a4, by rw [e _ _ (by unfold RDX; omega) (by omega) (by omega)]; exact a5, by rw [e _ _ (by unfold RDX; omega) (by omega) (by omega)]; exact a6, by rw [e _ _ (by unfold RDX; omega) (by omega) (by omega)]; exact a7,
    ⟨by rw [e _ _ (by unfold RDX; omega) (by omega) (by omega)]; exact a8, by rw [e _ _ (by unfold RDX; omega) (by omega) (by omega)]; exact a9, by rw [e _ _ (by unfold RDX; omega) (by omega) (by omega)]; exact a10, by rw [e _ _ (by unfold RDX; omega) (by omega) (by omega)]; exact a11⟩, ⟨by rw [e _ _ (by unfold RDX; omega) (by omega) (by omega)]; exact a12, by rw [e _ _ (by unfold RDX; omega) (by omega) (by omega)]; exact a13, by rw [e _ _ (by unfold RDX; omega) (by omega) (by omega)]; exact a14⟩,
    fun k l hl => by rw [e2 k (by have := (List.getElem?_eq_some_iff.mp hl).1; omega)]; exact a15 k l hl, fun g hg hf => (a16 g hg hf).fr fun q k z => e q k (by unfold RDX; omega) (by omega) (by omega)⟩
theorem sr_243F {h : ob_H} {e : Nat × Nat} {Q : ob_H → Prop} (r : RsR h e) (hq : Q h) : KX12_readLine_243 h Q := by
  unfold KX12_readLine_243 KX12_readLine_264
  exact br_f r.pos.2 (br_f r.pos.2 hq)
theorem sr_243 {h : ob_H} {T : tx_T} {S : tx_S} {D : tx_D} {Q : ob_H → Prop} (c : SRd h T S D) (q0 : ∀ e h', pTake 59 S = .inl e → Fr TkW h h' → RsR h' e → Q h') (q1 : ∀ S' h', pTake 59 S = .inr S' → Fr TkW h h' → SRd h' T S' D → Q h') : KX12_readLine_243 h Q := by
  unfold KX12_readLine_243 KX12_readLine_264
  rw [c.2.1, show (59 : Int32) = nI 59 from rfl, c.1.is 59 (by omega) (by omega)]
  unfold pTake at q0 q1
  refine br_t rfl (br_c (fun e => br_t rfl ?_) (fun e => ?_))
  · rw [if_pos e] at q1
    exact sr_next c (by omega) fun h' f' c' => q1 _ h' rfl f' c'
  · rw [if_neg e] at q0
    exact sr_bad (c := 2) (α := tx_S) c (by omega) (by omega) fun e h' he f' r' => br_f r'.pos.2 (q0 e h' he f' r')
theorem sr_first {h : ob_H} {T : tx_T} {S : tx_S} {D : tx_D} {Q : Int32 → ob_H → Prop} (c : SRd h T S D) (hk : 1 < kdT S) (q0 : ∀ e h', pTwo D S = .inl e → Fr TkW h h' → RsR h' e → Q 0 h') (q1 : ∀ a h', kdT S.tail = 2 → nmF D.2.1 (wdT S.tail) = some a → a < D.1.1 → Fr TkW h h' → SRd h' T S.tail.tail D → Q (nI a) h') : MX12_readFirst h Q := by
  unfold MX12_readFirst
  refine sr_next c hk fun h1 f1 c1 => sr_oldOne c1 (fun e h' hk2 he f' r' => br_f r'.pos.2 (q0 e h' ?_ (f1.tr f') r')) (fun e h' hk2 hn he f' r' => br_f r'.pos.2 (q0 e h' ?_ (f1.tr f') r')) (fun a hk2 hn ha => ?_)
  · unfold pTwo
    rw [if_pos hk2]
    exact badT_c he
  · unfold pTwo
    rw [if_neg (fun z => z hk2), hn]
    exact badT_c he
  · rw [c1.2.1]
    exact br_t rfl (sr_next c1 (by omega) fun h2 f2 c2 => q1 a h2 hk2 hn ha (f1.tr f2) c2)
theorem sr_second {h : ob_H} {T : tx_T} {S : tx_S} {D : tx_D} {a : Nat} {m : Int32} {Q : Int32 → ob_H → Prop} (c : SRd h T S.tail.tail D) (hk2 : kdT S.tail = 2) (hn : nmF D.2.1 (wdT S.tail) = some a) (ha : a < D.1.1)
    (q0 : ∀ e v h', pTwo D S = .inl e → Fr TkW h h' → RsR h' e → Q v h')
    (q3 : ∀ e v b h', pTwo D S = .inr (a, b, S.tail.tail) → b < D.1.1 → bitI m b = true → badT (α := Nat) S.tail.tail 3 = .inl e → Fr TkW h h' → RsR h' e → Q v h')
    (q1 : ∀ b h', pTwo D S = .inr (a, b, S.tail.tail) → a ≠ b → b < D.1.1 → bitI m b = false → Fr TkW h h' → SRd h' T S.tail.tail.tail D → Q (nI b) h') : MX12_readSecond (nI a) m h Q := by
  have d7 := c.2.2.2.1
  have out : ∀ e v h', pTwo D S = .inl e → Fr TkW h h' → RsR h' e → KX12_readSecond_31 v h' Q := fun e v h' he f' r' => by
    unfold KX12_readSecond_31
    exact br_f r'.pos.2 (q0 e v h' he f' r')
  unfold MX12_readSecond
  refine sr_oldOne c (fun e h' hk3 he f' r' => br_f r'.pos.2 (out e _ h' ?_ f' r')) (fun e h' hk3 hn3 he f' r' => br_f r'.pos.2 (out e _ h' ?_ f' r')) (fun b hk3 hnb hb => ?_)
  · unfold pTwo
    rw [if_neg (fun z => z hk2), hn]
    simp only
    rw [if_pos hk3]
    exact badT_c he
  · unfold pTwo
    rw [if_neg (fun z => z hk2), hn]
    simp only
    rw [if_neg (fun z => z hk3), hn3]
    exact badT_c he
  · have p2 : pTwo D S = if a = b then badT S.tail.tail 3 else .inr (a, b, S.tail.tail) := by
      unfold pTwo
      rw [if_neg (fun z => z hk2), hn]
      simp only
      rw [if_neg (fun z => z hk3), hnb]
    rw [c.2.1, show (nI a = nI b) = (a = b) from propext (nI_eq (by omega) (by omega))]
    refine br_t rfl (br_c (fun e => ?_) (fun ne => bit11 (fun hbit => ?_) (fun hbit => ?_)))
    · unfold KX12_readSecond_26
      rw [if_pos e] at p2
      exact sr_bad (c := 3) (α := Nat) c (by omega) (by omega) fun e h' he f' r' => out e _ h' (by rw [p2]; exact badT_c he) f' r'
    · unfold KX12_readSecond_26
      rw [if_neg ne] at p2
      refine sr_bad (c := 3) (α := Nat) c (by omega) (by omega) fun e h' he f' r' => ?_
      unfold KX12_readSecond_31
      exact br_f r'.pos.2 (q3 e _ b h' p2 hb hbit he f' r')
    · unfold KX12_readSecond_31
      rw [c.2.1]
      rw [if_neg ne] at p2
      exact br_t rfl (sr_next c (by omega) fun h' f' c' => q1 b h' p2 ne hb hbit f' c')
theorem sr_whom {h : ob_H} {T : tx_T} {S : tx_S} {D : tx_D} {c most : Nat} {Q : ob_H → Prop} (hc : c = 4 ∨ c = 5) (cl : SRd h T S D) (hk : 1 < kdT S) (hm : ¬ most ≤ (if c = 4 then D.2.2.2.1 else D.2.2.2.2.1)) (q0 : ∀ e h', pWhom c most D S = .inl e → Fr RQ h h' → RsR h' e → Q h')
    (q1 : ∀ x h', pWhom c most D S = .inr x → Fr RQ h h' → SRd h' T x.2 x.1 → Q h') : MX12_readFirst h fun r1 h2 => vp_in r1 7 ∧ MX12_readSecond r1 (h2.1 (121 + c) (ix r1)) h2 fun r7 h8 => (((h8.1 108 2) ≤ 0 → Lt (h_i h8 (121 + c) (ix r1) ((h8.1 (121 + c) (ix r1)) ||| ((1) <<< (r7 &&& 31)))) fun h14 => Lt (h_i h14 108 (38 + c) ((h14.1 108 (38 + c)) + (1))) fun h16 => KX12_readLine_243 h16 Q) ∧ (¬ (h8.1 108 2) ≤ 0 → KX12_readLine_243 h8 Q)) := by
  have d7 := cl.2.2.2.1
  unfold pWhom at q0 q1
  rw [if_neg hm] at q0 q1
  refine sr_first cl hk (fun e h1 he f1 r1 => ⟨(vp_in_nI (by omega) (by omega) : vp_in (nI 0) 7), sr_secondF r1 (br_f r1.pos.1 (sr_243F r1 (q0 e h1 (bnd_l he) (f1.mono TkW_Q) r1)))⟩) (fun a h1 hk2 hn ha f1 c1 => ?_)
  have em : h1.1 (121 + c) a = wv D.1 c a := c1.2.2.1.2.1 c (by omega) a ha
  rw [show ix (nI a) = a from nI_clamp (by omega), em]
  refine ⟨vp_in_nI (by omega) (by omega), sr_second c1 hk2 hn ha (fun e v h' he f' r' => br_f r'.pos.1 (sr_243F r' (q0 e h' (bnd_l he) ((f1.tr f').mono TkW_Q) r'))) (fun e v b h' hp hb hbit he f' r' => br_f r'.pos.1 (sr_243F r' (q0 e h' ?_ ((f1.tr f').mono TkW_Q) r'))) (fun b h2 hp hne hb hbit f2 c2 => ?_)⟩
  · rw [bnd_r hp]
    simp only
    rw [if_pos hbit]
    exact badT_c he
  rw [bnd_r hp] at q0 q1
  simp only at q0 q1
  rw [if_neg (by rw [hbit]; decide)] at q0 q1
  rw [c2.2.1]
  refine br_t (by decide) (Lt_i fun y z => Lt_i fun y2 z2 => ?_)
  have fy : Fr (fun q k => (q = 121 + c ∧ k = a) ∨ (q = 108 ∧ k = 38 + c)) h2 y2 := by rw [z2, z]; exact (Fr.rf.st (by omega)).st (by omega)
  have cy : SRd y2 T S.tail.tail.tail (setW D c a b) := by
    refine ⟨c2.1.fr fy fun q k p => by omega, by rw [fy.i (by omega)]; exact c2.2.1, ?_, DI_setW cl.2.2.2 hc ha hb hbit⟩
    obtain ⟨a1, a2, a3, a4, a5, a6, a7, ⟨a8, a9, a10, a11⟩, ⟨a12, a13, a14⟩, a15, a16⟩ := c2.2.2.1
    have en : ∀ c' k, c' ≠ c → wv (setW D c a b).1 c' k = wv D.1 c' k := fun c' k h => by rw [setW_at, if_neg (fun z => h z.1)]
    refine ⟨by rw [fy.i (by omega)]; exact a1, fun c' hc' k hk => ?_, fun x y hx hy => by rw [fy.i (by omega), en 6 _ (by omega)]; exact a3 x y hx hy, by rw [fy.i (by omega), en 7 _ (by omega)]; exact a4, by rw [fy.i (by omega), en 7 _ (by omega)]; exact a5, by rw [fy.i (by omega), en 7 _ (by omega)]; exact a6, by rw [fy.i (by omega)]; exact a7,
      ⟨by rw [fy.i (by omega)]; exact a8, by rw [fy.i (by omega)]; exact a9, by rw [fy.i (by omega)]; exact a10, by rw [fy.i (by omega)]; exact a11⟩, ?_, fun k l hl => by rw [fy.l (by omega)]; exact a15 k l hl, fun g hg hf => (a16 g hg hf).fr fun q k z => fy.i (by omega)⟩
    · rw [setW_at, z2, h_i_1, if_neg (by omega), z, h_i_1]
      by_cases e : c' = c ∧ k = a
      · obtain ⟨rfl, rfl⟩ := e
        rw [if_pos ⟨rfl, rfl⟩, if_pos ⟨rfl, rfl⟩, a2 c' hc' k hk]
      · rw [if_neg (by omega), if_neg e]
        exact a2 c' hc' k hk
    · rcases hc with rfl | rfl
      · refine ⟨?_, by rw [fy.i (by omega)]; exact a13, by rw [fy.i (by omega)]; exact a14⟩
        rw [z2, h_i_1, if_pos ⟨rfl, rfl⟩, z, h_i_1, if_neg (by omega), a12]
        exact nI_1 _
      · refine ⟨by rw [fy.i (by omega)]; exact a12, ?_, by rw [fy.i (by omega)]; exact a14⟩
        rw [z2, h_i_1, if_pos ⟨rfl, rfl⟩, z, h_i_1, if_neg (by omega), a13]
        exact nI_1 _
  have gy : Fr RQ h y2 := ((f1.tr f2).mono TkW_Q).tr (fy.mono fun q k p => by unfold RQ; omega)
  exact sr_243 cy (fun e h' he f' r' => q0 e h' (bnd_l he) (gy.tr (f'.mono TkW_Q)) r') (fun S' h' hs f' c' => q1 (setW D c a b, S') h' (bnd_r hs) (gy.tr (f'.mono TkW_Q)) c')
theorem sr_joinLoop {h : ob_H} {a n : Nat} {Q : ob_H → Prop} (h41 : h.1 108 41 = nI n) (hn : n ≤ 7) (ha : a < 7) (hq : MX12_readSecond (nI a) (nI (mk (fun k => decide (¬ h.1 127 (7 * a + k) ≤ 0)) n)) h fun r8 h9 =>
  MX12_toldNumber (1) (99) h9 fun r12 h13 =>
  (((h13.1 108 2) ≤ 0 → vp_in (((7) * nI a) + r8) 49 ∧
  Lt (h_i h13 127 (ix (((7) * nI a) + r8)) r12) fun h21 =>
  vp_in (((7) * r8) + nI a) 49 ∧
  Lt (h_i h21 127 (ix (((7) * r8) + nI a)) r12) fun h25 =>
  Lt (h_i h25 108 44 ((h25.1 108 44) + (1))) fun h27 =>
  Q h27) ∧
  (¬ (h13.1 108 2) ≤ 0 → Q h13))) : lo2 (FX12_readJoined_9 (nI a) h Q) 0 0 := by
  refine lo2c2 n (by omega) (fun j x => x = nI (mk (fun k => decide (¬ h.1 127 (7 * a + k) ≤ 0)) j)) ?_ ?_ 0 (Nat.zero_le _) _ rfl
  · intro k j x hj hI hk
    subst hI
    have e7 : (7 : Int32) * nI a + nI j = nI (7 * a + j) := by rw [show (7 : Int32) = nI 7 from rfl, nI_mul, nI_add]
    unfold FX12_readJoined_9
    rw [h41, e7, show ix (nI (7 * a + j)) = 7 * a + j from nI_clamp (by omega)]
    have step : ∀ s0 : Int32, s0 = tru (decide (¬ h.1 127 (7 * a + j) ≤ 0)) → KX12_readJoined_37 (nI a) (nI j) s0 (nI (mk (fun k => decide (¬ h.1 127 (7 * a + k) ≤ 0)) j)) h Q k := by
      intro s0 hs
      unfold KX12_readJoined_37
      refine rs_truth (Lt_eq ?_ (Lt_eq (nI_1 _) (hk _ rfl)))
      rw [show (if s0 = 0 then (0 : Int32) else 1) = tru (decide (¬ h.1 127 (7 * a + j) ≤ 0)) from by rw [hs]; cases decide (¬ h.1 127 (7 * a + j) ≤ 0) <;> rfl]
      exact mk_orI (p := fun k => decide (¬ h.1 127 (7 * a + k) ≤ 0)) (by omega)
    refine br_f (nI_ge hj (by omega)) ⟨vp_in_nI (by omega) (by omega), br_c (fun cc => step 0 ?_) (fun cc => step 1 ?_)⟩
    · rw [decide_eq_false (fun z => z cc)]; rfl
    · rw [decide_eq_true cc]; rfl
  · intro k x hI
    subst hI
    unfold FX12_readJoined_9
    rw [h41]
    exact br_t (nI_le (Nat.le_refl _) (by omega)) hq
theorem sr_join {h : ob_H} {T : tx_T} {S : tx_S} {D : tx_D} {Q : ob_H → Prop} (cl : SRd h T S D) (hk : 1 < kdT S) (hm : ¬ 6 ≤ D.2.2.2.2.2.1) (q0 : ∀ e h', pJoin D S = .inl e → Fr RQ h h' → RsR h' e → Q h')
    (q1 : ∀ x h', pJoin D S = .inr x → Fr RQ h h' → SRd h' T x.2 x.1 → Q h') : MX12_readJoined h fun h' => KX12_readLine_243 h' Q := by
  have dd := cl.2.2.2
  have d7 := dd.1
  unfold pJoin at q0 q1
  rw [if_neg hm] at q0 q1
  unfold MX12_readJoined
  refine sr_first cl hk (fun e h1 he f1 r1 => ?_) (fun a h1 hk2 hn ha f1 c1 => ?_)
  · refine sr_joinLoop (a := 0) (n := D.1.1) (by rw [f1.i (by unfold TkW; omega)]; exact cl.2.2.1.1) d7 (by omega) (sr_secondF r1 (sr_numberF r1 (br_f r1.pos.1 (sr_243F r1 (q0 e h1 (bnd_l he) (f1.mono TkW_Q) r1)))))
  refine sr_joinLoop (a := a) (n := D.1.1) c1.2.2.1.1 d7 (by omega) ?_
  have a3' := c1.2.2.1.2.2.1
  have d67 := dd.2.2.2.2.2.2.1
  have bitE : ∀ b, b < D.1.1 → bitI (nI (mk (fun k => decide (¬ h1.1 127 (7 * a + k) ≤ 0)) D.1.1)) b = decide (wv D.1 6 (7 * a + b) ≠ 0) := by
    intro b hb
    have hlt := mk_lt (fun k => decide (¬ h1.1 127 (7 * a + k) ≤ 0)) D.1.1
    have h128 : 2 ^ D.1.1 ≤ 128 := by
      have := Nat.pow_le_pow_right (show 0 < 2 by decide) (show D.1.1 ≤ 7 by omega)
      omega
    rw [bitI_nI (by omega) (by omega), mk_bit, decide_eq_true hb, Bool.true_and, a3' a b ha hb]
    obtain ⟨_, x, x1, x2, _⟩ := d67 a b (by omega) (by omega)
    have g1 : (nI x ≤ (0 : Int32)) ↔ x ≤ 0 := nI_leI (a := x) (b := 0) (by omega) (by omega)
    have g2 : (nI x = (0 : Int32)) ↔ x = 0 := nI_eq (a := x) (b := 0) (by omega) (by omega)
    rw [x2]
    by_cases z : x = 0
    · rw [decide_eq_false (fun w => w (g1.mpr (by omega))), decide_eq_false (fun w => w (g2.mpr z))]
    · have g3 : ¬ nI x ≤ (0 : Int32) := fun w => by have := g1.mp w; omega
      have g4 : nI x ≠ (0 : Int32) := fun w => z (g2.mp w)
      rw [decide_eq_true g3, decide_eq_true g4]
  refine sr_second c1 hk2 hn ha (fun e v h' he f' r' => sr_numberF r' (br_f r'.pos.1 (sr_243F r' (q0 e h' (bnd_l he) ((f1.tr f').mono TkW_Q) r')))) (fun e v b h' hp hb hbit he f' r' => sr_numberF r' (br_f r'.pos.1 (sr_243F r' (q0 e h' ?_ ((f1.tr f').mono TkW_Q) r')))) (fun b h2 hp hne hb hbit f2 c2 => ?_)
  · rw [bitE b hb] at hbit
    rw [bnd_r hp]
    simp only
    rw [if_pos (of_decide_eq_true hbit)]
    exact badT_c he
  rw [bitE b hb] at hbit
  rw [bnd_r hp] at q0 q1
  simp only at q0 q1
  rw [if_neg (of_decide_eq_false hbit)] at q0 q1
  refine sr_number (lo := 1) (hi := 99) c2 (by omega) (by omega) (fun e v h' he f' r' => br_f r'.pos.1 (sr_243F r' (q0 e h' (bnd_l he) (((f1.tr f2).tr f').mono TkW_Q) r'))) (fun x h3 hx rg f3 c3 => ?_)
  rw [bnd_r hx] at q0 q1
  have e1 : (7 : Int32) * nI a + nI b = nI (7 * a + b) := by rw [show (7 : Int32) = nI 7 from rfl, nI_mul, nI_add]
  have e2 : (7 : Int32) * nI b + nI a = nI (7 * b + a) := by rw [show (7 : Int32) = nI 7 from rfl, nI_mul, nI_add]
  rw [c3.2.1, e1, e2, show ix (nI (7 * a + b)) = 7 * a + b from nI_clamp (by omega), show ix (nI (7 * b + a)) = 7 * b + a from nI_clamp (by omega)]
  refine br_t (by decide) ⟨vp_in_nI (by omega) (by omega), Lt_i fun y z => ⟨vp_in_nI (by omega) (by omega), Lt_i fun y2 z2 => Lt_i fun y3 z3 => ?_⟩⟩
  have fy : Fr (fun q k => q = 127 ∨ (q = 108 ∧ k = 44)) h3 y3 := by rw [z3, z2, z]; exact ((Fr.rf.st (by omega)).st (by omega)).st (by omega)
  have cy : SRd y3 T x.2 (setJ D a b x.1) := by
    refine ⟨c3.1.fr fy fun q k p => by omega, by rw [fy.i (by omega)]; exact c3.2.1, ?_, DI_setJ dd ha hb rg.2 (by omega)⟩
    obtain ⟨a1, a2, a3, a4, a5, a6, a7, ⟨a8, a9, a10, a11⟩, ⟨a12, a13, a14⟩, a15, a16⟩ := c3.2.2.1
    have en : ∀ c' k, c' ≠ 6 → wv (setJ D a b x.1).1 c' k = wv D.1 c' k := fun c' k h => by rw [setJ_at, if_neg (fun z => h z.1)]
    refine ⟨by rw [fy.i (by omega)]; exact a1, fun c' hc' k hk => by rw [fy.i (by omega), en c' k (by omega)]; exact a2 c' hc' k hk, fun u v hu hv => ?_, by rw [fy.i (by omega), en 7 _ (by omega)]; exact a4, by rw [fy.i (by omega), en 7 _ (by omega)]; exact a5, by rw [fy.i (by omega), en 7 _ (by omega)]; exact a6, by rw [fy.i (by omega)]; exact a7,
      ⟨by rw [fy.i (by omega)]; exact a8, by rw [fy.i (by omega)]; exact a9, by rw [fy.i (by omega)]; exact a10, by rw [fy.i (by omega)]; exact a11⟩, ⟨by rw [fy.i (by omega)]; exact a12, by rw [fy.i (by omega)]; exact a13, ?_⟩, fun k l hl => by rw [fy.l (by omega)]; exact a15 k l hl, fun g hg hf => (a16 g hg hf).fr fun q k z => fy.i (by omega)⟩
    · rw [setJ_at, z3, h_i_1, if_neg (by omega), z2, h_i_1]
      by_cases w1 : 7 * u + v = 7 * b + a
      · rw [if_pos ⟨rfl, w1⟩, if_pos ⟨rfl, Or.inr w1⟩]
      · rw [if_neg (by omega), z, h_i_1]
        by_cases w2 : 7 * u + v = 7 * a + b
        · rw [if_pos ⟨rfl, w2⟩, if_pos ⟨rfl, Or.inl w2⟩]
        · rw [if_neg (by omega), if_neg (by omega)]
          exact a3 u v hu hv
    · rw [z3, h_i_1, if_pos ⟨rfl, rfl⟩, z2, h_i_1, if_neg (by omega), z, h_i_1, if_neg (by omega), a14]
      exact nI_1 _
  have gy : Fr RQ h y3 := (((f1.tr f2).tr f3).mono TkW_Q).tr (fy.mono fun q k p => by unfold RQ; omega)
  exact sr_243 cy (fun e h' he f' r' => q0 e h' (bnd_l he) (gy.tr (f'.mono TkW_Q)) r') (fun S' h' hs f' c' => q1 (setJ D a b x.1, S') h' (bnd_r hs) (gy.tr (f'.mono TkW_Q)) c')
