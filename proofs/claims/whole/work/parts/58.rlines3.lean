-- ===== the reference's lines: bar, draw, formulas, OBJECTOR =====
theorem sr_amt {h : ob_H} {T : tx_T} {S : tx_S} {D : tx_D} {i lo : Nat} {x : Int64} {Q : ob_H → Prop} (hi : i = 2 ∨ i = 3) (hlo : lo < 1000) (hx : x = Int64.ofNat (cd8 (wdsL.getD (13 + i) []))) (cl : SRd h T S D) (hk : kdT S = 113 + i) (hfl : D.2.2.1 i = false) (q0 : ∀ e h', pBar i lo D S = .inl e → Fr RQ h h' → RsR h' e → Q h')
    (q1 : ∀ x h', pBar i lo D S = .inr x → Fr RQ h h' → SRd h' T x.2 x.1 → Q h') : Lt (h_i h 108 (49 + i) (1)) fun h81 => MX12_told x (nI lo) (999) h81 fun r83 h84 => Lt (h_i h84 108 (43 + i) r83) fun h87 => KX12_readLine_243 h87 Q := by
  unfold pBar at q0 q1
  rw [if_neg (by rw [hfl]; decide)] at q0 q1
  refine Lt_i fun y z => ?_
  have fy : Fr (fun q k => q = 108 ∧ k = 49 + i) h y := by rw [z]; exact Fr.rf.st ⟨rfl, rfl⟩
  have cy : SRd y T S (setL D i) := by
    refine ⟨cl.1.fr fy fun q k p => by omega, by rw [fy.i (by omega)]; exact cl.2.1, ?_, DI_setL cl.2.2.2 (by omega)⟩
    obtain ⟨a1, a2, a3, a4, a5, a6, a7, ⟨a8, a9, a10, a11⟩, ⟨a12, a13, a14⟩, a15, a16⟩ := cl.2.2.1
    have eg : ∀ j, (setL D i).2.2.1 j = if j = i then true else D.2.2.1 j := fun _ => rfl
    refine ⟨by rw [fy.i (by omega)]; exact a1, fun c' hc' k hk => by rw [fy.i (by omega)]; exact a2 c' hc' k hk, fun u v hu hv => by rw [fy.i (by omega)]; exact a3 u v hu hv, by rw [fy.i (by omega)]; exact a4, by rw [fy.i (by omega)]; exact a5, by rw [fy.i (by omega)]; exact a6, by rw [fy.i (by omega)]; exact a7,
      ⟨by rw [fy.i (by omega), eg, if_neg (by omega)]; exact a8, by rw [fy.i (by omega), eg, if_neg (by omega)]; exact a9, ?_, ?_⟩, ⟨by rw [fy.i (by omega)]; exact a12, by rw [fy.i (by omega)]; exact a13, by rw [fy.i (by omega)]; exact a14⟩, fun k l hl => by rw [fy.l (by omega)]; exact a15 k l hl, fun g hg hf => (a16 g hg (by rw [eg, if_neg (by omega)] at hf; exact hf)).fr fun q k z => fy.i (by omega)⟩
    · rw [eg, z, h_i_1]
      rcases hi with rfl | rfl
      · rw [if_pos ⟨rfl, rfl⟩, if_pos rfl]; rfl
      · rw [if_neg (by omega), if_neg (by omega)]; exact a10
    · rw [eg, z, h_i_1]
      rcases hi with rfl | rfl
      · rw [if_neg (by omega), if_neg (by omega)]; exact a11
      · rw [if_pos ⟨rfl, rfl⟩, if_pos rfl]; rfl
  have gy : Fr RQ h y := fy.mono fun q k p => by unfold RQ; omega
  have ht : pTake (100 + (13 + i)) S = .inr S.tail := by unfold pTake; rw [if_pos (by omega)]
  refine sr_told (i := 13 + i) (lo := lo) (hi := 999) cy (by omega) hx hlo (by omega) (fun e v h' he f' r' => Lt_i fun w zw => ?_) (fun S' x h' hs hx' rg f' c' => Lt_i fun w zw => ?_)
  · have fw : Fr (fun q k => q = 108 ∧ k = 43 + i) h' w := by rw [zw]; exact Fr.rf.st ⟨rfl, rfl⟩
    have r2 : RsR w e := r'.fr fun k hk => fw.i (by omega)
    rw [bnd_r ht] at he
    exact sr_243F r2 (q0 e w (bnd_l he) ((gy.tr (f'.mono TkW_Q)).tr (fw.mono fun q k p => by unfold RQ; omega)) r2)
  · have fw : Fr (fun q k => q = 108 ∧ k = 43 + i) h' w := by rw [zw]; exact Fr.rf.st ⟨rfl, rfl⟩
    rw [ht] at hs
    cases hs
    rw [bnd_r hx'] at q0 q1
    have cw : SRd w T x.2 (setB D i x.1) := by
      refine ⟨c'.1.fr fw fun q k p => by omega, by rw [fw.i (by omega)]; exact c'.2.1, ?_, DI_setB cl.2.2.2 hi⟩
      obtain ⟨a1, a2, a3, a4, a5, a6, a7, ⟨a8, a9, a10, a11⟩, ⟨a12, a13, a14⟩, a15, a16⟩ := c'.2.2.1
      have en : ∀ c k, ¬ (c = 7 ∧ k = i - 1) → wv (setB D i x.1).1 c k = wv D.1 c k := fun c k h => by rw [setB_at, if_neg h]
      refine ⟨by rw [fw.i (by omega)]; exact a1, fun c' hc' k hk => by rw [fw.i (by omega), en c' k (by omega)]; exact a2 c' hc' k hk, fun u v hu hv => by rw [fw.i (by omega), en 6 _ (by omega)]; exact a3 u v hu hv, by rw [fw.i (by omega), en 7 0 (by omega)]; exact a4, ?_, ?_, by rw [fw.i (by omega)]; exact a7,
        ⟨by rw [fw.i (by omega)]; exact a8, by rw [fw.i (by omega)]; exact a9, by rw [fw.i (by omega)]; exact a10, by rw [fw.i (by omega)]; exact a11⟩, ⟨by rw [fw.i (by omega)]; exact a12, by rw [fw.i (by omega)]; exact a13, by rw [fw.i (by omega)]; exact a14⟩, fun k l hl => by rw [fw.l (by omega)]; exact a15 k l hl, fun g hg hf => (a16 g hg hf).fr fun q k z => fw.i (by omega)⟩
      · rw [setB_at, zw, h_i_1]
        rcases hi with rfl | rfl
        · rw [if_pos ⟨rfl, rfl⟩, if_pos ⟨rfl, rfl⟩]
        · rw [if_neg (by omega), if_neg (by omega)]; exact a5
      · rw [setB_at, zw, h_i_1]
        rcases hi with rfl | rfl
        · rw [if_neg (by omega), if_neg (by omega)]; exact a6
        · rw [if_pos ⟨rfl, rfl⟩, if_pos ⟨rfl, rfl⟩]
    have gw : Fr RQ h w := (gy.tr (f'.mono TkW_Q)).tr (fw.mono fun q k p => by unfold RQ; omega)
    exact sr_243 cw (fun e h3 he f3 r3 => q0 e h3 (bnd_l he) (gw.tr (f3.mono TkW_Q)) r3) (fun S3 h3 hs f3 c3 => q1 (setB D i x.1, S3) h3 (bnd_r hs) (gw.tr (f3.mono TkW_Q)) c3)
theorem RFq_Q {f : Nat} (hf : f < 2) : ∀ q k, RFq f q k → RQ q k := fun q k p => by unfold RFq RFu TkR at p; unfold RQ; omega
theorem sr_form {h : ob_H} {T : tx_T} {S : tx_S} {D : tx_D} {i : Nat} {Q : ob_H → Prop} (hi : i < 2) (cl : SRd h T S D) (hk : 1 < kdT S) (hlen : S.length ≤ 1601) (hfl : D.2.2.1 i = false) (q0 : ∀ e h', pForm i D S = .inl e → Fr RQ h h' → RsR h' e → Q h')
    (q1 : ∀ x h', pForm i D S = .inr x → Fr RQ h h' → SRd h' T x.2 x.1 → Q h') : MX12_formula (nI i) h fun h' => KX12_readLine_243 h' Q := by
  have dd := cl.2.2.2
  have d9 := dd.2.2.2.2.2.2.2.2.1
  have d11 := dd.2.2.2.2.2.2.2.2.2.2.1
  have d12 := dd.2.2.2.2.2.2.2.2.2.2.2.1
  have hS := cl.1.2.1.sok
  have hSt := hS.tail hk
  have hlt := len_tail hS
  have eg := (go_pE (g := (0, D.2.2.2.2.2.2)) hSt (by omega)).1
  unfold pForm at q0 q1
  rw [if_neg (by rw [hfl]; decide), ← eg] at q0 q1
  refine rs_formula hi cl.1 cl.2.1 hk d9 cl.2.2.1.2.2.2.2.2.2.1 (fun e h' he f' r' => sr_243F r' (q0 e h' (by rw [he]) (f'.mono (RFq_Q hi)) r')) (fun x h' hx f' c' c2 c19 o c22 => ?_)
  rw [hx] at q0 q1
  simp only at q0 q1
  obtain ⟨w1, w2, w3, w4⟩ := pE_wf hSt (by rw [← eg]; exact hx)
  have cy : SRd h' T x.2.1 (setF D i x.1 x.2.2.2) := by
    refine ⟨c', c2, ?_, DI_setF dd hi w1 w2 w4⟩
    obtain ⟨a1, a2, a3, a4, a5, a6, a7, ⟨a8, a9, a10, a11⟩, ⟨a12, a13, a14⟩, a15, a16⟩ := cl.2.2.1
    have en : ∀ c k, ¬ (c = 7 ∧ k = 3) → wv (setF D i x.1 x.2.2.2).1 c k = wv D.1 c k := fun c k h => by rw [setF_at, if_neg h]
    have ef : ∀ j, (setF D i x.1 x.2.2.2).1.2.2 j = if j = i then x.1 else D.1.2.2 j := fun _ => rfl
    have eg : ∀ j, (setF D i x.1 x.2.2.2).2.2.1 j = if j = i then true else D.2.2.1 j := fun _ => rfl
    have fi : ∀ q k, RDX q k → ¬ (q = 108 ∧ k = 22) → ¬ (q = 119 ∧ k = i) → ¬ (q = 113 ∧ k = i) → ¬ ((q = 111 ∨ q = 112) ∧ 320 * i ≤ k ∧ k < 320 * i + 320) → h'.1 q k = h.1 q k := fun q k hx n1 n2 n3 n4 => f'.i (by unfold RFq RFu TkR; unfold RDX at hx; omega)
    refine ⟨by rw [fi _ _ (by unfold RDX; omega) (by omega) (by omega) (by omega) (by omega)]; exact a1, fun c' hc' k hk => by rw [fi _ _ (by unfold RDX; omega) (by omega) (by omega) (by omega) (by omega), en c' k (by omega)]; exact a2 c' hc' k hk, fun u v hu hv => by rw [fi _ _ (by unfold RDX; omega) (by omega) (by omega) (by omega) (by omega), en 6 _ (by omega)]; exact a3 u v hu hv, by rw [fi _ _ (by unfold RDX; omega) (by omega) (by omega) (by omega) (by omega), en 7 _ (by omega)]; exact a4, by rw [fi _ _ (by unfold RDX; omega) (by omega) (by omega) (by omega) (by omega), en 7 _ (by omega)]; exact a5, by rw [fi _ _ (by unfold RDX; omega) (by omega) (by omega) (by omega) (by omega), en 7 _ (by omega)]; exact a6, c22,
      ⟨?_, ?_, by rw [fi _ _ (by unfold RDX; omega) (by omega) (by omega) (by omega) (by omega), eg, if_neg (by omega)]; exact a10, by rw [fi _ _ (by unfold RDX; omega) (by omega) (by omega) (by omega) (by omega), eg, if_neg (by omega)]; exact a11⟩, ⟨by rw [fi _ _ (by unfold RDX; omega) (by omega) (by omega) (by omega) (by omega)]; exact a12, by rw [fi _ _ (by unfold RDX; omega) (by omega) (by omega) (by omega) (by omega)]; exact a13, by rw [fi _ _ (by unfold RDX; omega) (by omega) (by omega) (by omega) (by omega)]; exact a14⟩,
      fun k l hl => by rw [f'.l (by unfold RFq RFu TkR; omega)]; exact a15 k l hl, fun g hg hf => ?_⟩
    · rw [eg]
      by_cases e : 0 = i
      · rw [if_pos e]; rw [← e] at c19; exact c19
      · rw [if_neg e, fi _ _ (by unfold RDX; omega) (by omega) (by omega) (by omega) (by omega)]; exact a8
    · rw [eg]
      by_cases e : 1 = i
      · rw [if_pos e]; rw [← e] at c19; exact c19
      · rw [if_neg e, fi _ _ (by unfold RDX; omega) (by omega) (by omega) (by omega) (by omega)]; exact a9
    · rw [ef]
      by_cases e : g = i
      · rw [if_pos e, e]; exact o
      · rw [if_neg e]
        rw [eg, if_neg e] at hf
        have hl : (D.1.2.2 g).length ≤ 300 := by
          rcases (by omega : g = 0 ∨ g = 1) with rfl | rfl
          · exact d11.2
          · exact d12.2
        exact (a16 g hg hf).fr fun q k z => fi q k (by unfold RDX; omega) (by omega) (by omega) (by omega) (by omega)
  have gy : Fr RQ h h' := f'.mono (RFq_Q hi)
  exact sr_243 cy (fun e h3 he f3 r3 => q0 e h3 (bnd_l he) (gy.tr (f3.mono TkW_Q)) r3) (fun S3 h3 hs f3 c3 => q1 (_, S3) h3 (bnd_r hs) (gy.tr (f3.mono TkW_Q)) c3)
