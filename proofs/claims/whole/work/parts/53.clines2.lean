-- ===== the class's lines: an OBJECTOR, formulas, bar, draw =====
theorem CD.hi {h h' : ob_H} {D : tx_D} (d2 : D.2.1.length = D.1.1) (a : CD h D) (e : ∀ q k, DX q k → ¬ (6 ≤ q ∧ q ≤ 9 ∧ k = D.1.1) → h'.1 q k = h.1 q k) (e2 : ∀ k, k ≠ D.1.1 → h'.2.1 19 k = h.2.1 19 k) : CD h' D := by
  obtain ⟨a1, a2, a3, a4, a5, a6, a7, a8, a9, a10, a11, a12, a13⟩ := a
  refine ⟨by rw [e _ _ (by unfold DX; omega) (by omega)]; exact a1, fun c hc k hk => by rw [e _ _ (by unfold DX; omega) (by omega)]; exact a2 c hc k hk, fun c hc k hk => by rw [e _ _ (by unfold DX; omega) (by omega)]; exact a3 c hc k hk, fun x y hx hy => by rw [e _ _ (by unfold DX; omega) (by omega)]; exact a4 x y hx hy, by rw [e _ _ (by unfold DX; omega) (by omega)]; exact a5, by rw [e _ _ (by unfold DX; omega) (by omega)]; exact a6, by rw [e _ _ (by unfold DX; omega) (by omega)]; exact a7, by rw [e _ _ (by unfold DX; omega) (by omega)]; exact a8,
    a9.fr2 fun q k z => e q k (by unfold DX; omega) (by omega), a10.fr2 fun q k z => e q k (by unfold DX; omega) (by omega), fun k l hl => by rw [e2 k (by have := (List.getElem?_eq_some_iff.mp hl).1; omega)]; exact a11 k l hl, by rw [e _ _ (by unfold DX; omega) (by omega)]; exact a12, by rw [e _ _ (by unfold DX; omega) (by omega)]; exact a13⟩
/-- one row of the draft is written -/
theorem CL.row {h y : ob_H} {T : tx_T} {S : tx_S} {D : tx_D} (c : CL h T S D) {P : Nat → Nat → Prop} (f : Fr P h y) (hP : ∀ q k, P q k → (6 ≤ q ∧ q ≤ 9 ∧ k = D.1.1) ∨ (q = 4 ∧ k = 7)) : CL y T S D :=
  ⟨c.1.fr f fun q k p => by have := hP q k p; omega, c.2.1.hi c.2.2.2.1 (fun q k z n => f.i fun p => by have := hP q k p; unfold DX at z; omega) (fun k hk => f.l fun p => by have := hP 19 k p; omega), c.2.2⟩
theorem cl_obj {h : ob_H} {T : tx_T} {S : tx_S} {D : tx_D} {Q : Int32 → ob_H → Prop} (cl : CL h T S D) (hk : 1 < kdT S) (q0 : ∀ e h', pObj D S = .inl e → Fp PCc h h' → RsC h' e → Q 0 h')
    (q1 : ∀ x h', pObj D S = .inr x → Fp PCc h h' → CL h' T x.2 x.1 → Q 1 h') : MX5_readObjector h Q := by
  have dd := cl.2.2
  have hn7 := dd.1
  have hnl := dd.2.1
  unfold MX5_readObjector
  unfold pObj at q0 q1
  refine Lt_i fun v zv => ?_
  rw [cl.2.1.1] at zv
  subst zv
  have ev : ∀ n, n < 2 ^ 31 → ix (nI n) = n := fun n h => nI_clamp h
  rw [show (nI D.1.1 < (7 : Int32)) = (D.1.1 < 7) from by rw [show (7 : Int32) = nI 7 from rfl, nI_lt2 (by omega) (by omega)]]
  refine br_c (fun cn => ?_) (fun cn => ?_)
  rotate_left
  · rw [if_pos (by omega)] at q0
    exact cl_bad (α := tx_D × tx_S) cl.1 q0
  rw [if_neg (by omega)] at q0 q1
  have bn : vp_in (nI D.1.1) 7 := vp_in_nI (by omega) (by omega)
  refine cl_next cl hk fun h1 f1 e1 c1 => ?_
  unfold MX5_readNewName
  rw [show (2 : Int32) = nI 2 from rfl, c1.1.is 2 (by omega)]
  refine br_c (fun ck => cl_find c1 ?_) (fun ck => ?_)
  rotate_left
  · rw [if_pos ck] at q0
    exact cl_bad (α := tx_D × tx_S) c1.1 fun e h' he f' r' => br_t rfl (q0 e h' he (f1.tr f') r')
  rw [if_neg (fun z => z ck)] at q0 q1
  unfold fdN
  rw [if_pos ck]
  cases hfd : nmF D.2.1 (wdT S.tail) with
  | some o =>
    have := (nmF_lt hfd).2
    rw [hfd] at q0
    refine br_f (nI_pos (by omega)) ?_
    rw [if_pos (show (some o).isSome = true from rfl)] at q0
    exact cl_refuse (c := 3) (α := tx_D × tx_S) c1.1 (by omega) fun e h' he f' r' => br_t rfl (q0 e h' he (f1.tr f') r')
  | none =>
    rw [hfd, if_neg (by decide)] at q0 q1
    have hw := c1.1.2.2.1.hd.2.1 ck
    have e15 : h1.2.1 1 5 = Int64.ofNat (cd5 (wdT S.tail)) := c1.1.2.2.2.2.2.2.1 ck
    rw [ev D.1.1 (by omega)]
    refine br_t (by decide) ⟨bn, Lt_i fun y2 z2 => ?_⟩
    have fy2 : Fr (fun q k => q = 19 ∧ k = D.1.1) h1 y2 := by rw [z2]; exact Fr.rf.sl ⟨rfl, rfl⟩
    have cy2 : CL y2 T S.tail D := ⟨c1.1.fr fy2 fun q k p => by omega, c1.2.1.hi hnl (fun q k z n => by rw [z2]; rfl) (fun k hk => fy2.l (by omega)), c1.2.2⟩
    have n2 : y2.2.1 19 D.1.1 = Int64.ofNat (cd5 (wdT S.tail)) := by rw [z2, h_l_2, if_pos ⟨rfl, rfl⟩]; exact e15
    have g2 : Fp PCc h y2 := f1.tr (fy2.fp fun q k p => by unfold PCc; omega)
    refine cl_next cy2 (by omega) fun h3 f3 e3 c3 => br_f (by decide) ?_
    have n3 : h3.2.1 19 D.1.1 = Int64.ofNat (cd5 (wdT S.tail)) := by rw [(e3 19 _ (by omega)).2]; exact n2
    have g3 : Fp PCc h h3 := g2.tr f3
    refine cl_take (k := 100) c3 (by omega) (by omega) (fun e h' he f' r' => br_t rfl (q0 e h' (bnd_l he) (g3.tr f') r')) (fun S4 h4 hs4 f4 e4 c4 => br_f (by decide) ?_)
    rw [bnd_r hs4] at q0 q1
    refine cl_amount (lo := 0) (hi := 99) c4 (by omega) (by omega) (fun e h' he f' r' => br_t rfl (q0 e h' (bnd_l he) ((g3.tr f4).tr f') r')) (fun x5 h5 hx5 rg5 f5 e57 c5 e5 => br_f (by decide) ⟨bn, Lt_i fun y6 z6 => ?_⟩)
    rw [bnd_r hx5] at q0 q1
    rw [e57] at z6
    have fy6 : Fr (fun q k => q = 6 ∧ k = D.1.1) h5 y6 := by rw [z6]; exact Fr.rf.st ⟨rfl, rfl⟩
    have cy6 := c5.row fy6 fun q k p => by omega
    have n6 : y6.2.1 19 D.1.1 = Int64.ofNat (cd5 (wdT S.tail)) := by rw [fy6.l (by omega), (e5 19 _ (by omega) (by omega)).2, (e4 19 _ (by omega)).2]; exact n3
    have a6 : y6.1 6 D.1.1 = nI x5.1 := by rw [z6, h_i_1, if_pos ⟨rfl, rfl⟩]
    have g6 : Fp PCc h y6 := ((g3.tr f4).tr f5).tr (fy6.fp fun q k p => by unfold PCc; omega)
    refine cl_take (k := 101) cy6 (by omega) (by omega) (fun e h' he f' r' => br_t rfl (q0 e h' (bnd_l he) (g6.tr f') r')) (fun S7 h7 hs7 f7 e7 c7 => br_f (by decide) ?_)
    rw [bnd_r hs7] at q0 q1
    refine cl_amount (lo := 1) (hi := 60) c7 (by omega) (by omega) (fun e h' he f' r' => br_t rfl (q0 e h' (bnd_l he) ((g6.tr f7).tr f') r')) (fun x8 h8 hx8 rg8 f8 e87 c8 e8 => br_f (by decide) (Lt_i fun y9 z9 => Lt_i fun y10 z10 => ?_))
    rw [bnd_r hx8] at q0 q1
    rw [e87] at z9
    have fy10 : Fr (fun q k => (q = 7 ∧ k = D.1.1) ∨ (q = 4 ∧ k = 7)) h8 y10 := by rw [z10, z9]; exact (Fr.rf.st (by omega)).st (by omega)
    have cy10 := c8.row fy10 fun q k p => by omega
    have n10 : y10.2.1 19 D.1.1 = Int64.ofNat (cd5 (wdT S.tail)) := by rw [fy10.l (by omega), (e8 19 _ (by omega) (by omega)).2, (e7 19 _ (by omega)).2]; exact n6
    have a10 : y10.1 6 D.1.1 = nI x5.1 := by rw [fy10.i (by omega), (e8 6 _ (by omega) (by omega)).1, (e7 6 _ (by omega)).1]; exact a6
    have b10 : y10.1 7 D.1.1 = nI x8.1 := by rw [z10, h_i_1, if_neg (by omega), z9, h_i_1, if_pos ⟨rfl, rfl⟩]
    have m10 : y10.1 4 7 = nI 999 := by rw [z10, h_i_1, if_pos ⟨rfl, rfl⟩]; rfl
    have g10 : Fp PCc h y10 := ((g6.tr f7).tr f8).tr (fy10.fp fun q k p => by unfold PCc; omega)
    -- behind how long he stays
    have k143 : ∀ (s : Nat × tx_S) (h' : ob_H), pOpt 107 999 999 x8.2 = .inr s → s.1 ≤ 999 → Fp PCc h h' → CL h' T s.2 D → h'.1 4 7 = nI s.1 → h'.2.1 19 D.1.1 = Int64.ofNat (cd5 (wdT S.tail)) → h'.1 6 D.1.1 = nI x5.1 → h'.1 7 D.1.1 = nI x8.1 → KX5_readObjector_143 (nI D.1.1) h' Q := by
      intro s ha hs s999 ga ca a47 na aa ba
      rw [bnd_r hs] at q0 q1
      unfold KX5_readObjector_143
      rw [ev D.1.1 (by omega), a47]
      refine ⟨bn, Lt_i fun yb zb => Lt_i fun yc zc => ?_⟩
      have fyc : Fr (fun q k => (q = 8 ∧ k = D.1.1) ∨ (q = 4 ∧ k = 7)) ha yc := by rw [zc, zb]; exact (Fr.rf.st (by omega)).st (by omega)
      have cyc := ca.row fyc fun q k p => by omega
      have nc : yc.2.1 19 D.1.1 = Int64.ofNat (cd5 (wdT S.tail)) := by rw [fyc.l (by omega)]; exact na
      have ac : yc.1 6 D.1.1 = nI x5.1 := by rw [fyc.i (by omega)]; exact aa
      have bc : yc.1 7 D.1.1 = nI x8.1 := by rw [fyc.i (by omega)]; exact ba
      have sc : yc.1 8 D.1.1 = nI s.1 := by rw [zc, h_i_1, if_neg (by omega), zb, h_i_1, if_pos ⟨rfl, rfl⟩]
      have mc : yc.1 4 7 = nI 0 := by rw [zc, h_i_1, if_pos ⟨rfl, rfl⟩]; rfl
      have gc : Fp PCc h yc := ga.tr (fyc.fp fun q k p => by unfold PCc; omega)
      have k194 : ∀ (p : Nat × tx_S) (h' : ob_H), pOpt 108 99 0 s.2 = .inr p → p.1 ≤ 99 → Fp PCc h h' → CL h' T p.2 D → h'.1 4 7 = nI p.1 → h'.2.1 19 D.1.1 = Int64.ofNat (cd5 (wdT S.tail)) → h'.1 6 D.1.1 = nI x5.1 → h'.1 7 D.1.1 = nI x8.1 → h'.1 8 D.1.1 = nI s.1 → KX5_readObjector_194 (nI D.1.1) h' Q := by
        intro p hd hp p99 gd cd d47 nd ad bd sd
        rw [bnd_r hp] at q0 q1
        unfold KX5_readObjector_194
        rw [ev D.1.1 (by omega), d47]
        refine ⟨bn, Lt_i fun ye ze => ?_⟩
        have fye : Fr (fun q k => q = 9 ∧ k = D.1.1) hd ye := by rw [ze]; exact Fr.rf.st ⟨rfl, rfl⟩
        have cye := cd.row fye fun q k p => by omega
        have ne : ye.2.1 19 D.1.1 = Int64.ofNat (cd5 (wdT S.tail)) := by rw [fye.l (by omega)]; exact nd
        have ae : ye.1 6 D.1.1 = nI x5.1 := by rw [fye.i (by omega)]; exact ad
        have be : ye.1 7 D.1.1 = nI x8.1 := by rw [fye.i (by omega)]; exact bd
        have se : ye.1 8 D.1.1 = nI s.1 := by rw [fye.i (by omega)]; exact sd
        have pe : ye.1 9 D.1.1 = nI p.1 := by rw [ze, h_i_1, if_pos ⟨rfl, rfl⟩]
        have ge : Fp PCc h ye := gd.tr (fye.fp fun q k p => by unfold PCc; omega)
        have dD := DI_addO (late := decide (kdT p.2 = 109)) cye.2.2 cn hw.1 hw.2.1 hfd rg5.2 rg8 s999 p99
        -- the end of the line
        have k241 : ∀ (Sf : tx_S) (hf : ob_H), (if kdT p.2 = 109 then p.2.tail else p.2) = Sf → Fp PCc h hf → CS hf T Sf → (∀ q k, 4 ≤ q → ¬ (q = 5 ∧ k = 8) → hf.1 q k = ye.1 q k ∧ hf.2.1 q k = ye.2.1 q k) → hf.1 5 8 = wv (addO D (wdT S.tail) x5.1 x8.1 s.1 p.1 (decide (kdT p.2 = 109))).1 7 0 → KX5_readObjector_241 (nI D.1.1) hf Q := by
          intro Sf hf hSf gf cf ef e58
          rw [hSf] at q0 q1
          unfold KX5_readObjector_241
          rw [nI_1]
          refine Lt_i fun yg zg => ?_
          have fyg : Fr (fun q k => q = 5 ∧ k = 0) hf yg := by rw [zg]; exact Fr.rf.st ⟨rfl, rfl⟩
          have eg : ∀ q k, 4 ≤ q → ¬ (q = 5 ∧ (k = 0 ∨ k = 8)) → yg.1 q k = ye.1 q k ∧ yg.2.1 q k = ye.2.1 q k := fun q k h4 hne => ⟨by rw [fyg.i (by omega)]; exact (ef q k h4 (by omega)).1, by rw [fyg.l (by omega)]; exact (ef q k h4 (by omega)).2⟩
          have cyg : CL yg T Sf (addO D (wdT S.tail) x5.1 x8.1 s.1 p.1 (decide (kdT p.2 = 109))) := by
            refine ⟨cf.fr fyg fun q k p => by omega, ?_, dD⟩
            obtain ⟨a1, a2, a3, a4, a5, a6', a7, a8, a9, a10', a11, a12, a13⟩ := cye.2.1
            refine ⟨by rw [zg, h_i_1, if_pos ⟨rfl, rfl⟩]; rfl, fun c hc k hk => ?_, fun c hc k hk => ?_, fun u w hu hw => ?_, ?_, ?_, ?_, ?_, a9.fr2 fun q k z => (eg q k (by omega) (by omega)).1, a10'.fr2 fun q k z => (eg q k (by omega) (by omega)).1, fun k l hl => ?_, ?_, ?_⟩
            · rw [(eg _ _ (by omega) (by omega)).1, addO_at]
              have hk : k < D.1.1 + 1 := hk
              by_cases e : k = D.1.1
              · rw [if_pos ⟨hc, e⟩, e]
                have hc4 : c = 0 ∨ c = 1 ∨ c = 2 ∨ c = 3 := by omega
                rcases hc4 with rfl | rfl | rfl | rfl
                · exact ae
                · exact be
                · exact se
                · exact pe
              · rw [if_neg (fun z => e z.2), if_neg (by omega)]
                exact a2 c hc k (by omega)
            · rw [(eg _ _ (by omega) (by omega)).1, addO_at, if_neg (by omega), if_neg (by omega)]
              exact a3 c hc k hk
            · rw [(eg _ _ (by omega) (by omega)).1, addO_at, if_neg (by omega), if_neg (by omega)]
              exact a4 u w hu hw
            · rw [fyg.i (by omega)]; exact e58
            · rw [(eg _ _ (by omega) (by omega)).1, addO_at, if_neg (by omega), if_neg (by omega)]; exact a6'
            · rw [(eg _ _ (by omega) (by omega)).1, addO_at, if_neg (by omega), if_neg (by omega)]; exact a7
            · rw [(eg _ _ (by omega) (by omega)).1]; exact a8
            · rw [(eg _ _ (by omega) (by omega)).2]
              have hl : (D.2.1 ++ [wdT S.tail])[k]? = some l := hl
              by_cases e : k < D.2.1.length
              · rw [List.getElem?_append_left e] at hl
                exact a11 k l hl
              · have hi := (List.getElem?_eq_some_iff.mp hl).1
                simp at hi
                have ei : k = D.2.1.length := by omega
                subst ei
                simp at hl
                rw [hnl, ← hl]
                exact ne
            · rw [(eg _ _ (by omega) (by omega)).1]; exact a12
            · rw [(eg _ _ (by omega) (by omega)).1]; exact a13
          have gg : Fp PCc h yg := gf.tr (fyg.fp fun q k p => by unfold PCc; omega)
          exact cl_take (k := 59) cyg (by omega) (by omega) (fun e h' he f' r' => q0 e h' (bnd_l he) (gg.tr f') r') (fun S' h' hs' f' e' c' => q1 (_, S') h' (bnd_r hs') (gg.tr f') c')
        rw [show (109 : Int32) = nI 109 from rfl, cye.1.is 109 (by omega)]
        refine br_c (fun cl9 => Lt_i fun yf zf => ?_) (fun cl9 => k241 p.2 ye (by rw [if_neg cl9]) ge cye.1 (fun q k _ _ => ⟨rfl, rfl⟩) ?_)
        · have fyf : Fr (fun q k => q = 5 ∧ k = 8) ye yf := by rw [zf]; exact Fr.rf.st ⟨rfl, rfl⟩
          refine cs_next (cye.1.fr fyf fun q k p => by omega) (by omega) fun hh fh ch => k241 p.2.tail hh (by rw [if_pos cl9]) ((ge.tr (fyf.fp fun q k p => by unfold PCc; omega)).tr (fh.fp TkC_P)) ch (fun q k h4 hne => ⟨by rw [fh.i (by unfold TkC; omega), fyf.i (by omega)], by rw [fh.l (by unfold TkC; omega), fyf.l (by omega)]⟩) ?_
          rw [fh.i (by unfold TkC; omega), zf, h_i_1, if_pos ⟨rfl, rfl⟩, addO_at, if_neg (by omega), if_pos ⟨rfl, rfl, decide_eq_true cl9⟩, cye.2.1.2.2.2.2.1]
        · rw [addO_at, if_neg (by omega), if_neg (fun z => cl9 (of_decide_eq_true z.2.2))]
          exact cye.2.1.2.2.2.2.1
      rw [show (108 : Int32) = nI 108 from rfl, cyc.1.is 108 (by omega)]
      unfold pOpt at k194 q0
      refine br_c (fun c8' => ?_) (fun c8' => ?_)
      · rw [if_pos c8'] at q0
        refine cl_take (k := 108) cyc (by omega) (by omega) (fun e h' he f' r' => ?_) (fun Sx hx hsx fx ex cx => br_f (by decide) ?_)
        · unfold pTake at he; rw [if_pos c8'] at he; cases he
        · have hSx : Sx = s.2.tail := by unfold pTake at hsx; rw [if_pos c8'] at hsx; cases hsx; rfl
          subst hSx
          refine cl_amount (lo := 0) (hi := 99) cx (by omega) (by omega) (fun e h' he f' r' => br_t rfl (q0 e h' (bnd_l he) ((gc.tr fx).tr f') r')) (fun xz hz hxz rgz fz ez7 cz ez => br_f (by decide) (k194 xz hz (by rw [if_pos c8']; exact hxz) rgz.2 ((gc.tr fx).tr fz) cz ez7 ?_ ?_ ?_ ?_))
          · rw [(ez 19 _ (by omega) (by omega)).2, (ex 19 _ (by omega)).2]; exact nc
          · rw [(ez 6 _ (by omega) (by omega)).1, (ex 6 _ (by omega)).1]; exact ac
          · rw [(ez 7 _ (by omega) (by omega)).1, (ex 7 _ (by omega)).1]; exact bc
          · rw [(ez 8 _ (by omega) (by omega)).1, (ex 8 _ (by omega)).1]; exact sc
      · exact k194 (0, s.2) yc (by rw [if_neg c8']) (Nat.zero_le _) gc cyc mc nc ac bc sc
    rw [show (107 : Int32) = nI 107 from rfl, cy10.1.is 107 (by omega)]
    unfold pOpt at k143 q0
    refine br_c (fun c7' => ?_) (fun c7' => ?_)
    · rw [if_pos c7'] at q0
      refine cl_take (k := 107) cy10 (by omega) (by omega) (fun e h' he f' r' => ?_) (fun Sx hx hsx fx ex cx => br_f (by decide) ?_)
      · unfold pTake at he; rw [if_pos c7'] at he; cases he
      · have hSx : Sx = x8.2.tail := by unfold pTake at hsx; rw [if_pos c7'] at hsx; cases hsx; rfl
        subst hSx
        refine cl_amount (lo := 0) (hi := 999) cx (by omega) (by omega) (fun e h' he f' r' => br_t rfl (q0 e h' (bnd_l he) ((g10.tr fx).tr f') r')) (fun xz hz hxz rgz fz ez7 cz ez => br_f (by decide) (k143 xz hz (by rw [if_pos c7']; exact hxz) rgz.2 ((g10.tr fx).tr fz) cz ez7 ?_ ?_ ?_))
        · rw [(ez 19 _ (by omega) (by omega)).2, (ex 19 _ (by omega)).2]; exact n10
        · rw [(ez 6 _ (by omega) (by omega)).1, (ex 6 _ (by omega)).1]; exact a10
        · rw [(ez 7 _ (by omega) (by omega)).1, (ex 7 _ (by omega)).1]; exact b10
    · exact k143 (999, x8.2) y10 (by rw [if_neg c7']) (Nat.le_refl _) g10 cy10 m10 n10 a10 b10
