/-- the class's course lies there -/
def CrC (h : ob_H) (L : List (Nat × Int32)) : Prop := h.1 39 3 = nI L.length ∧ L.length ≤ 7 ∧ ∀ i o b, L[i]? = some (o, b) → h.1 40 i = nI o ∧ h.1 41 i = b
/-- what going on writes -/
def CG (q _k : Nat) : Prop := (39 ≤ q ∧ q ≤ 46) ∨ q = 30 ∨ q = 33
theorem CG_w : ∀ q k, CG q k → ¬ (20 ≤ q ∧ q ≤ 29) ∧ q ≠ 31 ∧ q ≠ 32 := fun q k p => by unfold CG at p; omega
theorem tI_nn {o : Option Nat} (h : ∀ b, o = some b → b < 2 ^ 31) : 0 ≤ tI o ↔ ∃ b, o = some b := by
  cases o with
  | none => simp [tI]
  | some b =>
    have := nI_pos' (h b rfl)
    simp [tI, this]
set_option maxHeartbeats 1000000 in
theorem cs_follow {h : ob_H} {w : ob_W} {r : ob_P} {Q : Int32 → ob_H → Prop} (hW : WFW w) (hw : CW h w) (hr : CR h w.1 42 r) (hq : ∀ h', Fr CG h h' → CrC h' (gn w r).1 → CR h' w.1 42 (gn w r).2 → Q (dsk w r) h') : MX3_follow h Q := by
  have hn7 := hW.1
  unfold MX3_follow
  refine Lt_i fun y1 z1 => ?_
  have f1 : Fr CG h y1 := by rw [z1]; exact Fr.rf.st (by unfold CG; omega)
  have r1 : CR y1 w.1 42 r := hr.fr (P := fun q k => q = 39) (by rw [z1]; exact Fr.rf.st rfl) (fun q k p => by omega)
  refine lo2c1 7 (by omega) (fun j h' => ∃ (ρ : ob_P) (pre : List (Nat × Int32)), pre.length = j ∧ Fr CG h h' ∧ CR h' w.1 42 ρ ∧ pre ++ (gon w (7 - j) ρ).1 = (gn w r).1 ∧ (gon w (7 - j) ρ).2 = (gn w r).2 ∧ h'.1 39 3 = nI j ∧ ∀ i o b, pre[i]? = some (o, b) → h'.1 40 i = nI o ∧ h'.1 41 i = b) ?_ ?_ 0 (Nat.zero_le _) _
    ⟨r, [], rfl, f1, r1, rfl, rfl, by rw [z1]; simp [h_i_1]; rfl, fun i o b hb => by simp at hb⟩
  · intro k j h' hj hI hk
    obtain ⟨ρ, pre, hlen, hf, hc, hpre, hfin, h3, hcr⟩ := hI
    have w' := hw.fr hf CG_w
    have ej : ix (nI j) = j := nI_clamp (by omega)
    unfold FX3_follow_7
    refine br_f (show ¬ nI 7 ≤ nI j from nI_ge hj (by omega)) (cs_turn hW w' hc (by omega) fun h1 g1 => ?_)
    have c1 : CR h1 w.1 42 ρ := hc.fr g1 (fun q k p => by unfold CE at p; omega)
    have hf1 : Fr CG h h1 := hf.tr (g1.mono (fun q k p => by unfold CE at p; unfold CG; omega))
    cases ht : trn w ρ with
    | none =>
      refine br_f (by decide) ?_
      rw [gon_none ht] at hpre hfin
      rw [List.append_nil] at hpre
      have e21 : h1.1 42 3 = dsk w r := by
        rw [c1.2.2.2.1]
        show ρ 21 = (gn w r).2 21
        rw [← hfin]
      rw [e21]
      have k39 : ∀ j, h1.1 39 j = h'.1 39 j := fun j => g1.i (by unfold CE; omega)
      have k40 : ∀ j, h1.1 40 j = h'.1 40 j := fun j => g1.i (by unfold CE; omega)
      have k41 : ∀ j, h1.1 41 j = h'.1 41 j := fun j => g1.i (by unfold CE; omega)
      exact hq h1 hf1 ⟨by rw [k39, h3, ← hpre, hlen], by rw [← hpre]; omega, fun i o b hb => by rw [k40, k41]; exact hcr i o b (by rw [hpre]; exact hb)⟩ (by rw [← hfin]; exact c1)
    | some o =>
      obtain ⟨ho, h0⟩ := trn_lt ht
      rw [show 7 - j = (7 - (j + 1)) + 1 by omega, gon_some ht] at hpre hfin
      refine br_t (show (0 : Int32) ≤ nI o from nI_pos' (by omega)) ⟨vp_in_nI (by omega) (by omega), ?_⟩
      rw [ej]
      refine Lt_i fun y2 z2 => Lt_i fun y3 z3 => Lt_i fun y4 z4 => ?_
      have q3 : y2.1 42 3 = ρ 21 := by rw [z2, h_i_1, if_neg (by omega)]; exact c1.2.2.2.1
      rw [q3] at z3
      rw [nI_1] at z4
      have f4 : Fr (fun q k => q = 39 ∨ q = 40 ∨ q = 41) h1 y4 := by
        rw [z4, z3, z2]
        exact Fr.st (Fr.st (Fr.st Fr.rf (by omega)) (by omega)) (by omega)
      have c4 : CR y4 w.1 42 ρ := c1.fr f4 (fun q k p => by omega)
      have hf4 : Fr CG h y4 := hf1.tr (f4.mono (fun q k p => by unfold CG; omega))
      refine cs_hearAs (s := 1) hW (hw.fr hf4 CG_w) c4 ho h0 (by omega) (by omega) fun h5 g5 c5 => ?_
      have hf5 : Fr CG h h5 := hf4.tr (g5.mono (fun q k p => by unfold CM at p; unfold CG; omega))
      refine Lt_eq (nI_1 _) (hk _ ⟨her w ρ o 1, pre ++ [(o, ρ 21)], by simp [hlen], hf5, c5, ?_, hfin, ?_, ?_⟩)
      · rw [← hpre]; simp
      · rw [g5.i (by unfold CM; omega), z4]; simp [h_i_1]
      · intro i o' b' hb
        have e40 : h5.1 40 i = y4.1 40 i := g5.i (by unfold CM; omega)
        have e41 : h5.1 41 i = y4.1 41 i := g5.i (by unfold CM; omega)
        have o40 : ∀ i, h1.1 40 i = h'.1 40 i := fun i => g1.i (by unfold CE; omega)
        have o41 : ∀ i, h1.1 41 i = h'.1 41 i := fun i => g1.i (by unfold CE; omega)
        rw [e40, e41, z4, h_i_1, if_neg (by omega), h_i_1, if_neg (by omega), z3, h_i_1, if_neg (by omega), h_i_1]
        by_cases hi : i < pre.length
        · rw [List.getElem?_append_left hi] at hb
          rw [if_neg (by omega), z2, h_i_1, if_neg (by omega), h_i_1, if_neg (by omega), o40, o41]
          exact hcr i o' b' hb
        · rw [List.getElem?_append_right (by omega)] at hb
          have hi2 : i = pre.length := by
            have := (List.getElem?_eq_some_iff.mp hb).1
            simp at this
            omega
          subst hi2
          simp at hb
          obtain ⟨rfl, rfl⟩ := hb
          rw [if_pos ⟨rfl, hlen⟩, z2, h_i_1, if_pos ⟨rfl, hlen⟩]
          exact ⟨rfl, rfl⟩
  · intro k h' hI
    obtain ⟨ρ, pre, hlen, hf, hc, hpre, hfin, h3, hcr⟩ := hI
    unfold FX3_follow_7
    refine br_t (show nI 7 ≤ nI 7 from nI_le (Nat.le_refl _) (by omega)) ?_
    have e0 : gon w (7 - 7) ρ = ([], ρ) := rfl
    rw [e0] at hpre hfin
    rw [List.append_nil] at hpre
    have e21 : h'.1 42 3 = dsk w r := by
      rw [hc.2.2.2.1]
      show ρ 21 = (gn w r).2 21
      rw [← hfin]
    rw [e21]
    exact hq h' hf ⟨by rw [h3, ← hpre, hlen], by rw [← hpre]; omega, fun i o b hb => hcr i o b (by rw [hpre]; exact hb)⟩ (by rw [← hfin]; exact hc)
theorem cs_goOn {h : ob_H} {w : ob_W} {r : ob_P} {p : Nat} {Q : Int32 → ob_H → Prop} (hW : WFW w) (hw : CW h w) (hr : CR h w.1 p r) (hp : p + 5 ≤ 42 ∨ 47 ≤ p) (hq : ∀ h', Fr CG h h' → CrC h' (gn w r).1 → CR h' w.1 42 (gn w r).2 → Q (dsk w r) h') : MX3_goOn p h Q := by
  unfold MX3_goOn
  refine cs_copy hW.1 hr (by omega) fun h1 f1 r1 => ?_
  have g1 : Fr CG h h1 := f1.mono (fun q k p => by unfold CG; omega)
  exact cs_follow hW (hw.fr g1 CG_w) r1 fun h2 f2 c2 r2 => hq h2 (g1.tr f2) c2 r2
/-- he whose turn it is is heard, by the draw -/
def sed (s : Int32) : Int32 := irm (s * 137 + 71) 1000
def hdr (w : ob_W) (r : ob_P) (o : Nat) : ob_P := her w (pu r 23 (sed (r 23))) o (if ansV w r o ≤ irm (sed (r 23)) 100 then 2 else 1)
theorem cs_hearDrawn {h : ob_H} {w : ob_W} {o k : Nat} {r : ob_P} {Q : ob_H → Prop} (hW : WFW w) (hw : CW h w) (hr : CR h w.1 o r) (hk : k < w.1) (h0 : r k = 0) (ho : 33 < o) (hq : ∀ h', Fr (CM o) h h' → CR h' w.1 o (hdr w r k) → Q h') : MX6_hearDrawn o (nI k) h Q := by
  have hn7 := hW.1
  unfold MX6_hearDrawn
  refine cs_answerOf hW hw hr hk ho fun h1 f1 => ?_
  have r1 : CR h1 w.1 o r := hr.fr f1 (fun q k p => by unfold CE at p; omega)
  rw [r1.2.2.2.2.2]
  refine Lt_i fun y z => ?_
  have z' : y = h_i h1 o 5 (sed (r 23)) := z
  have f2 : Fr (CM o) h y := by rw [z']; exact (f1.mono (CE_CM o)).st (by unfold CM; omega)
  have r2 : CR y w.1 o (pu r 23 (sed (r 23))) := by rw [z']; exact r1.see hn7
  have e23 : y.1 o 5 = sed (r 23) := by rw [z', h_i_1, if_pos ⟨rfl, rfl⟩]
  have h0' : pu r 23 (sed (r 23)) k = 0 := by unfold pu; rw [if_neg (by omega)]; exact h0
  rw [e23]
  refine br_c (fun c => ?_) (fun c => ?_)
  · refine cs_hearAs (s := 2) hW (hw.fr f2 (CM_w o ho)) r2 hk h0' (by omega) ho fun h3 f3 r3 => hq h3 (f2.tr f3) ?_
    unfold hdr
    rw [if_pos c]
    exact r3
  · refine cs_hearAs (s := 1) hW (hw.fr f2 (CM_w o ho)) r2 hk h0' (by omega) ho fun h3 f3 r3 => hq h3 (f2.tr f3) ?_
    unfold hdr
    rw [if_neg c]
    exact r3
