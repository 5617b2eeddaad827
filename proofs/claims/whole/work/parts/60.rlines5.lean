-- ===== the reference's lines: OBJECTOR, whole =====
set_option maxHeartbeats 1000000 in
theorem sr_obj {h : ob_H} {T : tx_T} {S : tx_S} {D : tx_D} {Q : ob_H → Prop} (cl : SRd h T S D) (hk : 1 < kdT S) (hm : ¬ 7 ≤ D.1.1) (q0 : ∀ e h', pObj D S = .inl e → Fr RQ h h' → RsR h' e → Q h')
    (q1 : ∀ x h', pObj D S = .inr x → Fr RQ h h' → SRd h' T x.2 x.1 → Q h') : MX12_readObjector h fun h' => KX12_readLine_243 h' Q := by
  have dd := cl.2.2.2
  have d2 := dd.2.1
  obtain ⟨l0, l1, l2, l3, l4, l5, l6, l7, l8, l9, _⟩ := wix_lit
  have pS : pObj D S = if kdT S.tail ≠ 2 then badT S.tail 2 else if (nmF D.2.1 (wdT S.tail)).isSome = true then badT S.tail 3 else pObj D S := by
    unfold pObj
    rw [if_neg hm]
    split
    · rfl
    · split <;> rfl
  unfold MX12_readObjector
  refine sr_next cl hk fun h1 f1 c1 => rs_isName c1.1 ?_
  have fault31 : ∀ e h', pObj D S = .inl e → Fr TkW h1 h' → RsR h' e → KX12_readObjector_31 h' (fun h' => KX12_readLine_243 h' Q) := by
    intro e h' he f' r'
    unfold KX12_readObjector_31
    exact br_f r'.pos.1 (sr_243F r' (q0 e h' he ((f1.tr f').mono TkW_Q) r'))
  by_cases hk2 : kdT S.tail = 2
  rotate_left
  · rw [decide_eq_false hk2]
    rw [if_pos hk2] at pS
    exact br_t rfl (sr_bad (c := 2) (α := tx_D × tx_S) c1 (by omega) (by omega) fun e h' he f' r' => fault31 e h' (by rw [pS]; exact he) f' r')
  rw [decide_eq_true hk2]
  refine br_f (by decide) (sr_find c1 hk2 ?_)
  cases hno : nmF D.2.1 (wdT S.tail) with
  | some a =>
    rw [if_neg (fun z => z hk2), hno, if_pos (show (some a).isSome = true from rfl)] at pS
    have ha := nmF_7 dd hno
    refine br_f (fun z => ?_) (sr_bad (c := 3) (α := tx_D × tx_S) c1 (by omega) (by omega) fun e h' he f' r' => fault31 e h' (by rw [pS]; exact he) f' r')
    exact nI_pos (by omega) z
  | none =>
    have pE := pObj_e (D := D) (S := S) (by omega) hk2 hno
    refine br_t (by decide) ?_
    unfold KX12_readObjector_31
    rw [c1.2.1]
    refine br_t (by decide) (Lt_eq c1.2.2.1.1 ?_)
    rw [show ix (nI D.1.1) = D.1.1 from nI_clamp (by omega)]
    refine ⟨vp_in_nI (by omega) (by omega), Lt_i fun y z => ?_⟩
    have fy : Fr (fun q k => q = 110 ∧ k = D.1.1) h1 y := by rw [z]; exact Fr.rf.sl ⟨rfl, rfl⟩
    have yn : y.2.1 110 D.1.1 = Int64.ofNat (cd8 (wdT S.tail)) := by
      rw [z, h_l_2, if_pos ⟨rfl, rfl⟩]
      exact c1.1.2.2.2.2.2.1 (Or.inl hk2)
    have cy : SRd y T S.tail D := ⟨c1.1.fr fy fun q k p => by omega, by rw [fy.i (by omega)]; exact c1.2.1, RD.hi d2 c1.2.2.1 (fun q k hx h7 hlt => by rw [z]; rfl) (fun a b ha hb => by rw [z]; rfl) (fun k hk => fy.l (by omega)), dd⟩
    refine sr_next cy (by omega) fun h2 f2 c2 => ?_
    refine sr_toldM (X := .inr S.tail.tail) (i := 0) (lo := 0) (hi := 99) c2 (by omega) l0 (by omega) (by omega) fun g h3 Y1 e1 f3 w3 v3 => Lt_i fun y4 z4 => ?_
    have g4 : Fr (fun q k => q = 121 ∧ k = D.1.1) h3 y4 := by rw [z4]; exact Fr.rf.st ⟨rfl, rfl⟩
    refine sr_toldM (i := 1) (lo := 1) (hi := 60) (w3.hi g4 fun q k p => by omega) (by omega) l1 (by omega) (by omega) fun m h5 Y2 e2 f5 w5 v5 => Lt_i fun y6 z6 => ?_
    have g6 : Fr (fun q k => q = 122 ∧ k = D.1.1) h5 y6 := by rw [z6]; exact Fr.rf.st ⟨rfl, rfl⟩
    refine sr_optionM (i := 7) (hi := 999) (d := 999) (w5.hi g6 fun q k p => by omega) (by omega) l7 (by omega) (by omega) fun s h7 Y3 e3 f7 w7 v7 => Lt_i fun y8 z8 => ?_
    have g8 : Fr (fun q k => q = 123 ∧ k = D.1.1) h7 y8 := by rw [z8]; exact Fr.rf.st ⟨rfl, rfl⟩
    refine sr_optionM (i := 8) (hi := 99) (d := 0) (w7.hi g8 fun q k p => by omega) (by omega) l8 (by omega) (by omega) fun p h9 Y4 e4 f9 w9 v9 => Lt_i fun y10 z10 => ?_
    have g10 : Fr (fun q k => q = 124 ∧ k = D.1.1) h9 y10 := by rw [z10]; exact Fr.rf.st ⟨rfl, rfl⟩
    refine sr_takesM (i := 9) (w9.hi g10 fun q k p => by omega) (by omega) l9 fun t h11 Y5 e5 f11 w11 v11 => rs_truth (Lt_i fun y12 z12 => Lt_i fun y13 z13 => Lt_i fun y14 z14 => ?_)
    have g14 : Fr (fun q k => (q = 108 ∧ k = 47) ∨ ((q = 125 ∨ q = 126) ∧ k = D.1.1)) h11 y14 := by rw [z14, z13, z12]; exact ((Fr.rf.st (by omega)).st (by omega)).st (by omega)
    refine sr_obLoop (n := D.1.1) (by omega) fun h15 f15 i15 u15 => ?_
    -- frames up to here
    have F5 : Fr (PE D.1.1 125) y10 h15 := ((f11.mono PE_t).tr (g14.mono fun q k p => by unfold PE; omega)).tr (f15.mono fun q k p => by unfold PE; omega)
    have F4 : Fr (PE D.1.1 124) y8 h15 := ((f9.mono PE_t).tr (g10.mono fun q k p => by unfold PE; omega)).tr (F5.mono (PE_m (by omega)))
    have F3 : Fr (PE D.1.1 123) y6 h15 := ((f7.mono PE_t).tr (g8.mono fun q k p => by unfold PE; omega)).tr (F4.mono (PE_m (by omega)))
    have F2 : Fr (PE D.1.1 122) y4 h15 := ((f5.mono PE_t).tr (g6.mono fun q k p => by unfold PE; omega)).tr (F3.mono (PE_m (by omega)))
    have F1 : Fr (PE D.1.1 121) y h15 := (((f2.mono PE_t).tr (f3.mono PE_t)).tr (g4.mono fun q k p => by unfold PE; omega)).tr (F2.mono (PE_m (by omega)))
    have G : Fr RQ h h15 := ((f1.mono TkW_Q).tr (fy.mono fun q k p => by unfold RQ; omega)).tr (F1.mono (PE_Q (by omega)))
    have fault : ∀ e, pObj D S = .inl e → RsR h11 e → ((h15.1 108 2 = 0 → Lt (h_i h15 108 41 ((h15.1 108 41) + (1))) fun h76 => KX12_readLine_243 h76 Q) ∧ (¬ h15.1 108 2 = 0 → KX12_readLine_243 h15 Q)) := by
      intro e he r
      have r15 : RsR h15 e := r.fr fun k hk => by rw [f15.i (by omega), g14.i (by omega)]
      exact br_f r15.pos.2 (sr_243F r15 (q0 e h15 he G r15))
    have e1' : Y1 = bnd (pTake 100 S.tail.tail) (pNum 0 99) := e1
    cases Y1 with
    | inl e =>
      have a2 : Y2 = .inl e := e2
      subst a2
      have a3 : Y3 = .inl e := e3
      subst a3
      have a4 : Y4 = .inl e := e4
      subst a4
      have a5 : Y5 = .inl e := e5
      subst a5
      exact fault e (by rw [pE, ← e1']; rfl) w11
    | inr y1 =>
    have e2' : Y2 = bnd (pTake 101 y1.2) (pNum 1 60) := e2
    cases Y2 with
    | inl e =>
      have a3 : Y3 = .inl e := e3
      subst a3
      have a4 : Y4 = .inl e := e4
      subst a4
      have a5 : Y5 = .inl e := e5
      subst a5
      exact fault e (by rw [pE, ← e1']; show bnd (bnd (pTake 101 y1.2) (pNum 1 60)) _ = _; rw [← e2']; rfl) w11
    | inr y2 =>
    have e3' : Y3 = pOpt 107 999 999 y2.2 := e3
    cases Y3 with
    | inl e =>
      have a4 : Y4 = .inl e := e4
      subst a4
      have a5 : Y5 = .inl e := e5
      subst a5
      exact fault e (by rw [pE, ← e1']; show bnd (bnd (pTake 101 y1.2) (pNum 1 60)) _ = _; rw [← e2']; show bnd (pOpt 107 999 999 y2.2) _ = _; rw [← e3']; rfl) w11
    | inr y3 =>
    have e4' : Y4 = pOpt 108 99 0 y3.2 := e4
    cases Y4 with
    | inl e =>
      have a5 : Y5 = .inl e := e5
      subst a5
      exact fault e (by rw [pE, ← e1']; show bnd (bnd (pTake 101 y1.2) (pNum 1 60)) _ = _; rw [← e2']; show bnd (pOpt 107 999 999 y2.2) _ = _; rw [← e3']; show bnd (pOpt 108 99 0 y3.2) _ = _; rw [← e4']; rfl) w11
    | inr y4' =>
    have a5 : Y5 = .inr (decide (kdT y4'.2 = 109), if kdT y4'.2 = 109 then y4'.2.tail else y4'.2) := e5
    subst a5
    have pG : pObj D S = bnd (pTake 59 (if kdT y4'.2 = 109 then y4'.2.tail else y4'.2)) fun S6 => .inr (addO D (wdT S.tail) y1.1 y2.1 y3.1 y4'.1 (decide (kdT y4'.2 = 109)), S6) := by
      rw [pE, ← e1']
      show bnd (bnd (pTake 101 y1.2) (pNum 1 60)) _ = _
      rw [← e2']
      show bnd (pOpt 107 999 999 y2.2) _ = _
      rw [← e3']
      show bnd (pOpt 108 99 0 y3.2) _ = _
      rw [← e4']
      rfl
    obtain ⟨vg, vg1, vg2⟩ := v3 y1 rfl
    obtain ⟨vm, vm1, vm2⟩ := v5 y2 rfl
    obtain ⟨vs, vs1⟩ := v7 y3 rfl
    obtain ⟨vp, vp1⟩ := v9 y4' rfl
    have vt := v11 _ rfl
    simp only at vt
    have c11 : SRd h11 T (if kdT y4'.2 = 109 then y4'.2.tail else y4'.2) D := w11
    have x2 : h15.1 108 2 = 0 := by rw [f15.i (by omega), g14.i (by omega)]; exact c11.2.1
    rw [x2]
    refine br_t rfl (Lt_i fun y16 z16 => ?_)
    have g16 : Fr (fun q k => q = 108 ∧ k = 41) h15 y16 := by rw [z16]; exact Fr.rf.st ⟨rfl, rfl⟩
    have g11 : Fr (fun q k => (q = 108 ∧ (k = 47 ∨ k = 41)) ∨ ((q = 125 ∨ q = 126) ∧ k = D.1.1) ∨ q = 127) h11 y16 := ((g14.mono fun q k p => by omega).tr (f15.mono fun q k p => by omega)).tr (g16.mono fun q k p => by omega)
    have lw := c1.1.2.1.hd.2.1 hk2
    have di := DI_addO (late := decide (kdT y4'.2 = 109)) dd (by omega) lw.1 lw.2.1 hno vg2 ⟨vm1, vm2⟩ vs1 vp1
    have dn := dd
    obtain ⟨_, _, _, _, _, d6, d7, _⟩ := dn
    have c16 : SRd y16 T (if kdT y4'.2 = 109 then y4'.2.tail else y4'.2) (addO D (wdT S.tail) y1.1 y2.1 y3.1 y4'.1 (decide (kdT y4'.2 = 109))) := by
      refine ⟨c11.1.fr g11 fun q k p => by omega, by rw [g16.i (by omega)]; exact x2, ?_, di⟩
      obtain ⟨a1, a2, a3, a4, a5, a6, a7, ⟨a8, a9, a10, a11⟩, ⟨a12, a13, a14⟩, a15, a16⟩ := c11.2.2.1
      refine ⟨?_, fun c hc k hk => ?_, fun u v hu hv => ?_, ?_, by rw [g11.i (by omega), addO_at, if_neg (by omega), if_neg (by omega)]; exact a5, by rw [g11.i (by omega), addO_at, if_neg (by omega), if_neg (by omega)]; exact a6, by rw [g11.i (by omega)]; exact a7,
        ⟨by rw [g11.i (by omega)]; exact a8, by rw [g11.i (by omega)]; exact a9, by rw [g11.i (by omega)]; exact a10, by rw [g11.i (by omega)]; exact a11⟩, ⟨by rw [g11.i (by omega)]; exact a12, by rw [g11.i (by omega)]; exact a13, by rw [g11.i (by omega)]; exact a14⟩, fun k l hl => ?_, fun f hf hg => (a16 f hf hg).fr fun q k z => g11.i (by omega)⟩
      · rw [z16, h_i_1, if_pos ⟨rfl, rfl⟩, f15.i (by omega), g14.i (by omega), a1]
        exact nI_1 _
      · have hk : k < D.1.1 + 1 := hk
        rw [addO_at]
        by_cases e : k = D.1.1
        · subst e
          by_cases c4 : c < 4
          · rw [if_pos ⟨c4, rfl⟩]
            rcases (by omega : c = 0 ∨ c = 1 ∨ c = 2 ∨ c = 3) with rfl | rfl | rfl | rfl
            · rw [if_pos rfl, g16.i (by omega), F2.i (by unfold PE TkW; omega), z4, h_i_1, if_pos ⟨rfl, rfl⟩]; exact vg
            · rw [if_neg (by omega), if_pos rfl, g16.i (by omega), F3.i (by unfold PE TkW; omega), z6, h_i_1, if_pos ⟨rfl, rfl⟩]; exact vm
            · rw [if_neg (by omega), if_neg (by omega), if_pos rfl, g16.i (by omega), F4.i (by unfold PE TkW; omega), z8, h_i_1, if_pos ⟨rfl, rfl⟩]; exact vs
            · rw [if_neg (by omega), if_neg (by omega), if_neg (by omega), g16.i (by omega), F5.i (by unfold PE TkW; omega), z10, h_i_1, if_pos ⟨rfl, rfl⟩]; exact vp
          · rw [if_neg (by omega), if_neg (by omega), g16.i (by omega), f15.i (by omega)]
            obtain ⟨x, x1, x2, x3⟩ := d6 c (by omega) D.1.1 (by omega)
            rw [x2, x3 (Nat.le_refl _)]
            rcases (by omega : c = 4 ∨ c = 5) with rfl | rfl
            · rw [z14, h_i_1, if_neg (by omega), z13, h_i_1, if_pos ⟨rfl, rfl⟩]; rfl
            · rw [z14, h_i_1, if_pos ⟨rfl, rfl⟩]; rfl
        · rw [if_neg (by omega), if_neg (by omega), g11.i (by omega)]
          exact a2 c hc k (by omega)
      · have hu : u < D.1.1 + 1 := hu
        have hv : v < D.1.1 + 1 := hv
        rw [addO_at, if_neg (by omega), if_neg (by omega), g16.i (by omega)]
        have z0 : (u = D.1.1 ∨ v = D.1.1) → wv D.1 6 (7 * u + v) = 0 := fun w => by
          obtain ⟨_, x, x1, x2, x3⟩ := d7 u v (by omega) (by omega)
          rw [x2, x3 (by omega)]; rfl
        by_cases w1 : u = D.1.1
        · rw [z0 (Or.inl w1), w1]
          exact (i15 v (by omega)).1
        · by_cases w2 : v = D.1.1
          · rw [z0 (Or.inr w2), w2]
            exact (i15 u (by omega)).2
          · rw [u15 u v (by omega) (by omega), g14.i (by omega)]
            exact a3 u v (by omega) (by omega)
      · rw [g16.i (by omega), f15.i (by omega), z14, h_i_1, if_neg (by omega), z13, h_i_1, if_neg (by omega), z12, h_i_1, if_pos ⟨rfl, rfl⟩, vt, addO_at, if_neg (show ¬ (7 < 4 ∧ 0 = D.1.1) by omega)]
        have e47 : y10.1 108 47 = wv D.1 7 0 := by rw [← f11.i (q := 108) (k := 47) (by unfold TkW; omega)]; exact a4
        rw [e47]
        by_cases w : kdT y4'.2 = 109
        · rw [decide_eq_true w, if_neg (show ¬ (tru true = 0) by decide), if_pos ⟨rfl, rfl, rfl⟩]
        · rw [decide_eq_false w, if_pos (show tru false = 0 by rfl), if_neg (show ¬ (7 = 7 ∧ 0 = 0 ∧ false = true) by simp)]
          obtain ⟨x, x1, x2⟩ := dd.2.2.2.2.2.2.2.1
          have : ∀ a b : Nat, b < 7 → ∀ X : Int32, X ||| ((0 : Int32) <<< (nI b &&& 31)) = X := by
            intro a b hb X
            have : ∀ b, b < 7 → ((0 : Int32) <<< (nI b &&& 31)) = 0 := by decide +kernel
            rw [this b hb]
            exact Int32.or_zero
          exact this 0 D.1.1 (by omega) _
      · have hl2 : (D.2.1 ++ [wdT S.tail])[k]? = some l := hl
        rw [g16.l (by omega)]
        by_cases w : k < D.2.1.length
        · rw [List.getElem?_append_left w] at hl2
          rw [f15.l (by omega), g14.l (by omega)]
          exact a15 k l hl2
        · have hi := (List.getElem?_eq_some_iff.mp hl2).1
          simp at hi
          have ek : k = D.1.1 := by omega
          rw [List.getElem?_append_right (by omega), show k - D.2.1.length = 0 by omega] at hl2
          simp at hl2
          rw [ek, F1.l (by unfold PE TkW; omega), yn, hl2]
    have G16 : Fr RQ h y16 := G.tr (g16.mono fun q k p => by unfold RQ; omega)
    exact sr_243 c16 (fun e h3 he f3 r3 => q0 e h3 (by rw [pG]; exact bnd_l he) (G16.tr (f3.mono TkW_Q)) r3) (fun S3 h3 hs f3 c3 => q1 (_, S3) h3 (by rw [pG]; exact bnd_r hs) (G16.tr (f3.mono TkW_Q)) c3)
