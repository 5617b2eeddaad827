theorem Air.put {h : ob_H} {r : ob_P} {k : Nat} {v : Int32} (a : Air h r) : Air (h_i h 136 k v) (pu r k v) := by
  intro j hj
  rw [h_i_1]
  unfold pu
  by_cases e : j = k
  · simp [e]
  · simp [e, a j hj]
theorem Air.cg {h : ob_H} {r r' : ob_P} (a : Air h r) (e : ∀ k, k < 24 → r k = r' k) : Air h r' := fun k hk => (a k hk).trans (e k hk)
theorem and1 (x : Int32) : x &&& 1 = 0 ∨ x &&& 1 = 1 := by
  obtain ⟨j, hj, e⟩ := pk_andE x (m := 1) 1 (by decide)
  rcases (show j = 0 ∨ j = 1 by omega) with rfl | rfl
  · exact Or.inl e
  · exact Or.inr e
theorem bit0 {x : Int32} {o : Nat} : (x >>> (nI o &&& 31)) &&& 1 = 0 ↔ bitI x o = false := by
  unfold bitI
  rcases and1 (x >>> (nI o &&& 31)) with e | e <;> simp [e]
theorem bit1 {x : Int32} {o : Nat} : (x >>> (nI o &&& 31)) &&& 1 = 1 ↔ bitI x o = true := by
  unfold bitI
  simp
def levJ (w : ob_W) (r : ob_P) (j : Nat) : ob_P := fun k => if k < j ∧ lvs w r k = true then 4 else r k
theorem rs_leave {h : ob_H} {w : ob_W} {r : ob_P} {Q : Int32 → ob_H → Prop} (hn7 : w.1 ≤ 7) (hw : RW h w) (ha : Air h r) (hq : ∀ h', Fr (fun q _ => q = 136) h h' → Air h' (lev w r) → Q (nI (cnt (lvs w r) w.1)) h') : MX12_leave h Q := by
  unfold MX12_leave
  refine lo3c2 w.1 (by omega) (fun j a h' => a = nI (cnt (lvs w r) j) ∧ Fr (fun q _ => q = 136) h h' ∧ Air h' (levJ w r j)) ?_ ?_ 0 (Nat.zero_le _) _ _ ⟨rfl, Fr.rf, ha.cg (fun k _ => by simp [levJ])⟩
  · intro k j a h' hj hI hk
    obtain ⟨rfl, hf, ha'⟩ := hI
    have hw' : RW h' w := hw.fr hn7 hf (fun q k p => by omega)
    have e1 : ix (nI j) = j := nI_clamp (by omega)
    have e7 : (7 : Int32) + nI j = nI (7 + j) := nI_add 7 j
    have i7 : ix (nI (7 + j)) = 7 + j := nI_clamp (by omega)
    have g1 : h'.1 136 j = r j := (ha' j (by omega)).trans (by simp [levJ])
    have g2 : h'.1 136 21 = r 21 := (ha' 21 (by omega)).trans (by simp only [levJ]; rw [if_neg (by omega)])
    have g3 : h'.1 136 (7 + j) = r (7 + j) := (ha' _ (by omega)).trans (by simp only [levJ]; rw [if_neg (by omega)])
    have g4 : h'.1 130 j = wv w 2 j := hw'.2.1 2 (by omega) j hj
    have step : ∀ h2 : ob_H, Fr (fun q _ => q = 136) h h2 → Air h2 (levJ w r (j + 1)) → k (nI (cnt (lvs w r) (j + 1))) (nI (j + 1)) h2 := fun h2 f2 a2 => hk _ _ ⟨rfl, f2, a2⟩
    have same : lvs w r j = false → Air h' (levJ w r (j + 1)) := fun hz => ha'.cg (fun q _ => by
      unfold levJ
      by_cases e : q = j
      · subst e; simp [hz]
      · have : (q < j + 1) ↔ (q < j) := by omega
        simp [this])
    unfold FX12_leave_4
    refine br_f (by rw [hw'.1]; exact nI_ge hj (by omega)) ⟨vp_in_nI (by omega) (by omega), ?_⟩
    rw [e1, e7, i7, g1, g2, g3, g4]
    refine br_c (fun c => ⟨vp_in_nI (by omega) (by omega), vp_in_nI (by omega) (by omega), br_c (fun c2 => ?_) (fun c2 => ?_)⟩) (fun c => ?_)
    · have hz : lvs w r j = true := by simp [lvs, isS, c, c2]
      refine Lt_i fun h2 z2 => Lt_eq (w := nI (cnt (lvs w r) (j + 1))) (by show _ = nI (cnt (lvs w r) j + _); rw [if_pos hz]; exact nI_1 _) (Lt_eq (nI_1 _) (step h2 (by rw [z2]; exact hf.st rfl) ?_))
      rw [z2]
      refine (ha'.put (k := j) (v := 4)).cg (fun q _ => ?_)
      unfold pu levJ
      by_cases e : q = j
      · subst e; simp [hz]
      · have : (q < j + 1) ↔ (q < j) := by omega
        simp [this, e]
    · have hz : lvs w r j = false := by simp [lvs, isS, c, c2]
      have e2 : nI (cnt (lvs w r) (j + 1)) = nI (cnt (lvs w r) j) := by show nI (cnt (lvs w r) j + _) = _; rw [if_neg (by simp [hz])]; rfl
      refine Lt_eq (nI_1 _) ?_
      rw [← e2]
      exact step h' hf (same hz)
    · have hz : lvs w r j = false := by simp [lvs, isS, c]
      have e2 : nI (cnt (lvs w r) (j + 1)) = nI (cnt (lvs w r) j) := by show nI (cnt (lvs w r) j + _) = _; rw [if_neg (by simp [hz])]; rfl
      refine Lt_eq (nI_1 _) ?_
      rw [← e2]
      exact step h' hf (same hz)
  · intro k a h' hI
    obtain ⟨rfl, hf, ha'⟩ := hI
    have hw' : RW h' w := hw.fr hn7 hf (fun q k p => by omega)
    unfold FX12_leave_4
    exact br_t (by rw [hw'.1]; exact nI_le (Nat.le_refl _) (by omega)) (hq h' hf ha')
def her2J (w : ob_W) (r : ob_P) (o j : Nat) : ob_P := fun k => if k < j ∧ bitI (wv w 4 o) k = true ∧ r k = 0 then 3 else r k
def her3J (w : ob_W) (r : ob_P) (o j : Nat) : ob_P := fun k => if k < j ∧ brg w r o k = true then 0 else if 7 ≤ k ∧ k < 7 + j ∧ brg w r o (k - 7) = true then r 21 else r k
theorem rs_goHear {h : ob_H} {w : ob_W} {r : ob_P} {o : Nat} {s : Int32} {Q : ob_H → Prop} (hn7 : w.1 ≤ 7) (hw : RW h w) (ha : Air h r) (ho : o < w.1) (hq : ∀ h', Fr (fun q _ => q = 136) h h' → Air h' (her w r o s) → Q h') : MX12_goHear (nI o) s h Q := by
  have eo : ix (nI o) = o := nI_clamp (by omega)
  unfold MX12_goHear
  rw [eo]
  refine ⟨vp_in_nI (by omega) (by omega), Lt_i fun y1 z1 => ⟨vp_in_nI (by omega) (by omega), Lt_i fun y2 z2 => ?_⟩⟩
  have hA : Air y2 (her1 w r o s) := by
    rw [z2, z1, ha 21 (by omega), hw.2.1 1 (by omega) o ho]
    exact ha.put.put
  have hF : Fr (fun q _ => q = 136) h y2 := by
    rw [z2, z1]
    exact Fr.st (P := fun q _ => q = 136) (Fr.st (P := fun q _ => q = 136) Fr.rf rfl) rfl
  clear z1 z2
  generalize hr1 : her1 w r o s = r1 at *
  refine lo2c1 w.1 (by omega) (fun j h' => Fr (fun q _ => q = 136) h h' ∧ Air h' (her2J w r1 o j)) ?_ ?_ 0 (Nat.zero_le _) _ ⟨hF, hA.cg (fun k _ => by simp [her2J])⟩
  · intro k j h' hj hI hk
    obtain ⟨hf, ha'⟩ := hI
    have hw' : RW h' w := hw.fr hn7 hf (fun q k p => by omega)
    have e1 : ix (nI j) = j := nI_clamp (by omega)
    have g1 : h'.1 136 j = r1 j := (ha' j (by omega)).trans (by simp [her2J])
    have g2 : h'.1 132 o = wv w 4 o := hw'.2.1 4 (by omega) o ho
    have same : ¬ (bitI (wv w 4 o) j = true ∧ r1 j = 0) → Air h' (her2J w r1 o (j + 1)) := fun hz => ha'.cg (fun q _ => by
      unfold her2J
      by_cases e : q = j
      · subst e; simp [hz]
      · have : (q < j + 1) ↔ (q < j) := by omega
        simp [this])
    unfold FX12_goHear_25
    refine br_f (by rw [hw'.1]; exact nI_ge hj (by omega)) ⟨vp_in_nI (by omega) (by omega), ?_⟩
    rw [eo, e1, g1, g2]
    refine br_c (fun c => ⟨vp_in_nI (by omega) (by omega), br_c (fun c2 => ?_) (fun c2 => ?_)⟩) (fun c => ?_)
    · refine Lt_i fun h2 z2 => Lt_eq (nI_1 _) (hk _ ⟨by rw [z2]; exact hf.st rfl, ?_⟩)
      rw [z2]
      refine (ha'.put (k := j) (v := 3)).cg (fun q _ => ?_)
      unfold pu her2J
      by_cases e : q = j
      · subst e; simp [bit1.mp c, c2]
      · have : (q < j + 1) ↔ (q < j) := by omega
        simp [this, e]
    · exact Lt_eq (nI_1 _) (hk _ ⟨hf, same (fun z => c2 z.2)⟩)
    · exact Lt_eq (nI_1 _) (hk _ ⟨hf, same (fun z => c (bit1.mpr z.1))⟩)
  · intro k h' hI
    obtain ⟨hf, ha'⟩ := hI
    have hw' : RW h' w := hw.fr hn7 hf (fun q k p => by omega)
    unfold FX12_goHear_25
    refine br_t (by rw [hw'.1]; exact nI_le (Nat.le_refl _) (by omega)) ?_
    clear hF hA
    generalize hr2 : her2J w r1 o w.1 = r2 at *
    refine lo2c1 w.1 (by omega) (fun j h' => Fr (fun q _ => q = 136) h h' ∧ Air h' (her3J w r2 o j)) ?_ ?_ 0 (Nat.zero_le _) _ ⟨hf, ha'.cg (fun k _ => by unfold her3J; rw [if_neg (by omega), if_neg (by omega)])⟩
    · intro k j h' hj hI hk
      obtain ⟨hf, ha'⟩ := hI
      have hw' : RW h' w := hw.fr hn7 hf (fun q k p => by omega)
      have e1 : ix (nI j) = j := nI_clamp (by omega)
      have e7 : (7 : Int32) + nI j = nI (7 + j) := nI_add 7 j
      have i7 : ix (nI (7 + j)) = 7 + j := nI_clamp (by omega)
      have g1 : h'.1 136 j = r2 j := (ha' j (by omega)).trans (by unfold her3J; rw [if_neg (by omega), if_neg (by omega)])
      have g2 : h'.1 133 o = wv w 5 o := hw'.2.1 5 (by omega) o ho
      have g3 : h'.1 136 21 = r2 21 := (ha' 21 (by omega)).trans (by unfold her3J; rw [if_neg (by omega), if_neg (by omega)])
      have same : brg w r2 o j = false → Air h' (her3J w r2 o (j + 1)) := fun hz => ha'.cg (fun q _ => by
        unfold her3J
        by_cases e : q = j
        · subst e
          have n7 : ¬ 7 ≤ q := by omega
          simp [hz, n7]
        · by_cases e2 : q = 7 + j
          · subst e2
            rw [if_neg (by omega), if_neg (by omega), if_neg (by omega), if_neg (by rw [show 7 + j - 7 = j by omega, hz]; simp)]
          · have q1 : (q < j + 1) ↔ (q < j) := by omega
            have q2 : (q < 7 + (j + 1)) ↔ (q < 7 + j) := by omega
            simp only [q1, q2])
      unfold FX12_goHear_71
      refine br_f (by rw [hw'.1]; exact nI_ge hj (by omega)) ⟨vp_in_nI (by omega) (by omega), ?_⟩
      rw [eo, e1, g1, g2, e7, i7]
      refine br_c (fun c => ?_) (fun c => ⟨vp_in_nI (by omega) (by omega), br_c (fun c2 => ?_) (fun c2 => ?_)⟩)
      · exact Lt_eq (nI_1 _) (hk _ ⟨hf, same (by simp [brg, bit0.mp c])⟩)
      · have hz : brg w r2 o j = true := by
          have : bitI (wv w 5 o) j = true := by
            cases hb : bitI (wv w 5 o) j with
            | true => rfl
            | false => exact absurd (bit0.mpr hb) c
          simp [brg, this, isS, c2]
        refine Lt_i fun h2 z2 => ⟨vp_in_nI (by omega) (by omega), Lt_i fun h3 z3 => Lt_eq (nI_1 _) (hk _ ⟨?_, ?_⟩)⟩
        · rw [z3, z2]; exact (hf.st rfl).st rfl
        · have q21 : h2.1 136 21 = r2 21 := by rw [z2, h_i_1, if_neg (by omega)]; exact g3
          rw [z3, q21, z2]
          refine ((ha'.put (k := j) (v := 0)).put (k := 7 + j) (v := r2 21)).cg (fun q _ => ?_)
          unfold pu her3J
          by_cases e : q = j
          · subst e; rw [if_neg (by omega), if_pos rfl, if_pos ⟨by omega, hz⟩]
          · by_cases e2 : q = 7 + j
            · subst e2
              rw [if_pos rfl, if_neg (by omega), if_pos ⟨by omega, by omega, by rw [show 7 + j - 7 = j by omega]; exact hz⟩]
            · have q1 : (q < j + 1) ↔ (q < j) := by omega
              have q2 : (q < 7 + (j + 1)) ↔ (q < 7 + j) := by omega
              rw [if_neg e2, if_neg e]
              simp only [q1, q2]
      · exact Lt_eq (nI_1 _) (hk _ ⟨hf, same (by simp [brg, isS, c2])⟩)
    · intro k h' hI
      obtain ⟨hf, ha'⟩ := hI
      have hw' : RW h' w := hw.fr hn7 hf (fun q k p => by omega)
      unfold FX12_goHear_71
      refine br_t (by rw [hw'.1]; exact nI_le (Nat.le_refl _) (by omega)) (rs_leave hn7 hw' ha' fun h2 f2 a2 => hq h2 (hf.tr f2) ?_)
      unfold her
      rw [hr1]
      have e2 : her2 w r1 o = r2 := by rw [← hr2]; rfl
      rw [e2]
      exact a2
theorem cnt_mono {p q : Nat → Bool} : ∀ {n}, (∀ k, k < n → p k = true → q k = true) → cnt p n ≤ cnt q n
  | 0, _ => Nat.le_refl _
  | n + 1, h => by
    have h1 := cnt_mono (p := p) (q := q) (n := n) (fun k hk => h k (by omega))
    have h2 := h n (by omega)
    unfold cnt
    by_cases hp : p n = true
    · rw [if_pos hp, if_pos (h2 hp)]; omega
    · rw [if_neg hp]; split <;> omega
theorem cnt_lt {p q : Nat → Bool} {o : Nat} : ∀ {n}, (∀ k, k < n → p k = true → q k = true) → o < n → q o = true → p o = false → cnt p n + 1 ≤ cnt q n
  | 0, _, ho, _, _ => absurd ho (Nat.not_lt_zero _)
  | n + 1, h, ho, hq, hp => by
    unfold cnt
    by_cases e : o = n
    · subst e
      have h1 := cnt_mono (p := p) (q := q) (n := o) (fun k hk => h k (by omega))
      rw [if_neg (by simp [hp]), if_pos hq]
      omega
    · have h1 := cnt_lt (p := p) (q := q) (n := n) (fun k hk => h k (by omega)) (by omega) hq hp
      have h2 := h n (by omega)
      by_cases hp2 : p n = true
      · rw [if_pos hp2, if_pos (h2 hp2)]; omega
      · rw [if_neg hp2]; split <;> omega
/-- what one of the seven is behind a hearing: gone on waiting or away only if he did, or was -/
theorem her_06 {w : ob_W} {r : ob_P} {o k : Nat} {s : Int32} (hn7 : w.1 ≤ 7) (ho : o < w.1) (hs : s ≠ 0 ∧ s ≠ 6) (hk : k < w.1) (h : her w r o s k = 0 ∨ her w r o s k = 6) : k ≠ o ∧ (r k = 0 ∨ r k = 6) := by
  unfold her lev at h
  split at h
  · exact absurd h (by decide)
  · rename_i h1
    unfold her3 at h
    have hne : ∀ x : ob_P, (if 7 ≤ k ∧ k < 7 + w.1 ∧ brg w x o (k - 7) = true then x 21 else x k) = x k := fun x => if_neg (by omega)
    rw [hne] at h
    have h2 : her2 w (her1 w r o s) o k = 0 ∨ her2 w (her1 w r o s) o k = 6 := by
      split at h
      · rename_i h3
        have := h3.2
        simp only [brg, isS, Bool.and_eq_true, decide_eq_true_eq] at this
        exact Or.inr this.2
      · exact h
    unfold her2 at h2
    have h3 : her1 w r o s k = 0 ∨ her1 w r o s k = 6 := by
      split at h2
      · exact absurd h2 (by decide)
      · exact h2
    unfold her1 pu at h3
    by_cases e : k = o
    · rw [if_pos e] at h3
      rcases h3 with h3 | h3
      · exact absurd h3 hs.1
      · exact absurd h3 hs.2
    · rw [if_neg e, if_neg (by omega)] at h3
      exact ⟨e, h3⟩
theorem lft_her {w : ob_W} {r : ob_P} {o : Nat} {s : Int32} (hn7 : w.1 ≤ 7) (ho : o < w.1) (hs : s ≠ 0 ∧ s ≠ 6) (h0 : r o = 0) : lft w (her w r o s) + 1 ≤ lft w r := by
  unfold lft
  refine cnt_lt (o := o) (fun k hk h => ?_) ho (by simp [h0]) ?_
  · simp only [decide_eq_true_eq] at h ⊢
    exact (her_06 hn7 ho hs hk h).2
  · simp only [decide_eq_false_iff_not]
    intro h
    exact (her_06 hn7 ho hs ho h).1 rfl
theorem trn_lt {w : ob_W} {r : ob_P} {o : Nat} (h : trn w r = some o) : o < w.1 ∧ r o = 0 := by
  have := best_lt h
  simpa [isS] using this
theorem lft_pos {w : ob_W} {r : ob_P} {o : Nat} (ho : o < w.1) (h0 : r o = 0) : 0 < lft w r := by
  unfold lft
  have : ∀ n, o < n → 0 < cnt (fun o => decide (r o = 0 ∨ r o = 6)) n := by
    intro n
    induction n with
    | zero => intro h; exact absurd h (Nat.not_lt_zero _)
    | succ n ih =>
      intro h
      unfold cnt
      by_cases e : o = n
      · subst e; simp [h0]
      · have := ih (by omega); omega
  exact this _ ho
/-- the course lies there -/
def Crs (h : ob_H) (L : List (Nat × Int32)) : Prop := h.1 108 57 = nI L.length ∧ L.length ≤ 7 ∧ ∀ i o b, L[i]? = some (o, b) → h.1 137 i = nI o ∧ h.1 138 i = b
theorem gon_len {w : ob_W} : ∀ {f : Nat} {r : ob_P}, (gon w f r).1.length ≤ f
  | 0, _ => Nat.le_refl _
  | f + 1, r => by
    unfold gon
    cases trn w r with
    | none => exact Nat.zero_le _
    | some o => exact Nat.succ_le_succ gon_len
theorem gon_none {w : ob_W} {r : ob_P} (h : trn w r = none) : ∀ f, gon w f r = ([], r)
  | 0 => rfl
  | f + 1 => by unfold gon; rw [h]
theorem gon_some {w : ob_W} {r : ob_P} {o f : Nat} (h : trn w r = some o) : gon w (f + 1) r = ((o, r 21) :: (gon w f (her w r o 1)).1, (gon w f (her w r o 1)).2) := by
  show (match trn w r with
    | none => ([], r)
    | some o => ((o, r 21) :: (gon w f (her w r o 1)).1, (gon w f (her w r o 1)).2)) = _
  rw [h]
set_option maxHeartbeats 1000000 in
theorem rs_goOn {h : ob_H} {w : ob_W} {r : ob_P} {Q : Int32 → ob_H → Prop} (hW : WFW w) (hw : RW h w) (ha : Air h r) (hq : ∀ h', Fr SR h h' → Crs h' (gn w r).1 → Air h' (gn w r).2 → Q (dsk w r) h') : MX12_goOn h Q := by
  have hn7 := hW.1
  have hp : ∀ q k, q = 118 ∨ q = 120 → SR q k := fun q k p => by unfold SR; omega
  unfold MX12_goOn
  refine Lt_i fun y1 z1 => ?_
  have f1 : Fr SR h y1 := by rw [z1]; exact Fr.rf.st (by unfold SR; omega)
  have g1 : y1.1 108 57 = 0 := by rw [z1]; simp [h_i_1]
  have a1 : Air y1 r := fun k hk => by rw [z1, h_i_1, if_neg (by omega)]; exact ha k hk
  refine rs_turnOf hW (hw.sr hn7 f1) a1 fun y2 f2 => ?_
  have f2' : Fr SR h y2 := f1.tr (f2.mono SE_SR)
  refine lo2_i (fun x1 h' => ∃ (ρ : ob_P) (f : Nat) (pre : List (Nat × Int32)), x1 = tI (trn w ρ) ∧ Fr SR h h' ∧ Air h' ρ ∧ pre ++ (gon w f ρ).1 = (gn w r).1 ∧ (gon w f ρ).2 = (gn w r).2 ∧ lft w ρ ≤ f ∧ pre.length + f = 7 ∧ h'.1 108 57 = nI pre.length ∧ ∀ i o b, pre[i]? = some (o, b) → h'.1 137 i = nI o ∧ h'.1 138 i = b) (fun _ h' => 7 - (h'.1 108 57).toNatClampNeg) ?_
    ⟨r, 7, [], rfl, f2', a1.se f2, rfl, rfl, Nat.le_trans (cnt_le _ _) hn7, rfl, by rw [f2.i (by unfold SE; omega), g1]; rfl, fun i o b hb => by simp at hb⟩
  intro k x1 h' hI hk
  obtain ⟨ρ, f, pre, rfl, hf, ha', hpre, hfin, hl, hlen, h57, hcr⟩ := hI
  have hw' := hw.sr hn7 hf
  unfold FX12_goOn_10
  cases ht : trn w ρ with
  | none =>
    refine br_t (by decide) ?_
    rw [gon_none ht] at hpre hfin
    rw [List.append_nil] at hpre
    have e21 : h'.1 136 21 = dsk w r := by
      rw [ha' 21 (by omega)]
      show ρ 21 = (gn w r).2 21
      rw [← hfin]
    rw [e21]
    refine hq h' hf ⟨by rw [← hpre]; exact h57, by rw [← hpre]; omega, fun i o b hb => hcr i o b (by rw [hpre]; exact hb)⟩ (by rw [← hfin]; exact ha')
  | some o =>
    obtain ⟨ho, h0⟩ := trn_lt ht
    have hfp := lft_pos ho h0
    obtain ⟨f', rfl⟩ : ∃ f', f = f' + 1 := ⟨f - 1, by omega⟩
    rw [gon_some ht] at hpre hfin
    have e1 : ix (nI pre.length) = pre.length := nI_clamp (by omega)
    have b1 : vp_in (nI pre.length) 7 := vp_in_nI (by omega) (by omega)
    refine br_f (nI_pos (by omega)) ?_
    rw [h57, e1]
    refine ⟨b1, Lt_i fun y3 z3 => ?_⟩
    have q3 : y3.1 108 57 = nI pre.length := by rw [z3, h_i_1, if_neg (by omega)]; exact h57
    have q3' : y3.1 136 21 = ρ 21 := by rw [z3, h_i_1, if_neg (by omega)]; exact ha' 21 (by omega)
    rw [q3, e1, q3']
    refine ⟨b1, Lt_i fun y4 z4 => ?_⟩
    have q4 : y4.1 108 57 = nI pre.length := by rw [z4, h_i_1, if_neg (by omega)]; exact q3
    rw [q4, nI_1]
    refine Lt_i fun y5 z5 => ?_
    have hf5 : Fr SR h y5 := by
      subst z3 z4 z5
      exact ((hf.st (by unfold SR; omega)).st (by unfold SR; omega)).st (by unfold SR; omega)
    have ha5 : Air y5 ρ := fun q hq => by rw [z5, h_i_1, if_neg (by omega), z4, h_i_1, if_neg (by omega), z3, h_i_1, if_neg (by omega)]; exact ha' q hq
    have hw5 := hw.sr hn7 hf5
    refine rs_goHear hn7 hw5 ha5 ho fun y6 f6 a6 => ?_
    have hf6 : Fr SR h y6 := hf5.tr (f6.mono (fun q k p => by unfold SR; omega))
    refine rs_turnOf hW (hw.sr hn7 hf6) a6 fun y7 f7 => ?_
    have c57 : y7.1 108 57 = nI (pre.length + 1) := by
      rw [f7.i (by unfold SE; omega), f6.i (by omega), z5]; simp [h_i_1]
    refine hk _ _ ⟨her w ρ o 1, f', pre ++ [(o, ρ 21)], rfl, hf6.tr (f7.mono SE_SR), a6.se f7, ?_, hfin, ?_, by simp; omega, by simpa using c57, ?_⟩ ?_
    · rw [← hpre]; simp
    · have := lft_her (s := 1) hn7 ho (by decide) h0; omega
    · intro i o' b' hb
      have e137 : ∀ j, y7.1 137 j = y5.1 137 j := fun j => by rw [f7.i (by unfold SE; omega), f6.i (by omega)]
      have e138 : ∀ j, y7.1 138 j = y5.1 138 j := fun j => by rw [f7.i (by unfold SE; omega), f6.i (by omega)]
      rw [e137, e138, z5, h_i_1, if_neg (by omega), h_i_1, if_neg (by omega), z4, h_i_1, if_neg (by omega), h_i_1]
      by_cases hi : i < pre.length
      · rw [List.getElem?_append_left hi] at hb
        have hc := hcr i o' b' hb
        rw [if_neg (by omega), z3, h_i_1, if_neg (by omega), h_i_1, if_neg (by omega)]
        exact hc
      · rw [List.getElem?_append_right (by omega)] at hb
        have hi2 : i = pre.length := by
          have := (List.getElem?_eq_some_iff.mp hb).1
          simp at this
          omega
        subst hi2
        simp at hb
        obtain ⟨rfl, rfl⟩ := hb
        rw [z3, h_i_1]
        simp [tI]
    · show 7 - (y7.1 108 57).toNatClampNeg < 7 - (h'.1 108 57).toNatClampNeg
      rw [c57, h57, nI_clamp (by omega), nI_clamp (by omega)]
      omega

theorem rs_load {h : ob_H} {r : ob_P} {Q : ob_H → Prop} (ha : Nw h r) (hq : ∀ h', Fr (fun q _ => q = 136) h h' → Air h' r → Q h') : MX12_load h Q := by
  unfold MX12_load
  refine lo2c1 24 (by omega) (fun j h' => Fr (fun q _ => q = 136) h h' ∧ ∀ k, k < j → h'.1 136 k = r k) ?_ ?_ 0 (Nat.zero_le _) _ ⟨Fr.rf, fun k hk => absurd hk (Nat.not_lt_zero _)⟩
  · intro k j h' hj hI hk
    obtain ⟨hf, ha'⟩ := hI
    have e1 : ix (nI j) = j := nI_clamp (by omega)
    unfold FX12_load_2
    refine br_f (show ¬ nI 24 ≤ nI j from nI_ge hj (by omega)) ⟨vp_in_nI (by omega) (by omega), ?_⟩
    rw [e1, hf.i (by omega), ha j hj]
    refine Lt_i fun h2 z2 => Lt_eq (nI_1 _) (hk _ ⟨by rw [z2]; exact hf.st rfl, fun q hq => ?_⟩)
    rw [z2, h_i_1]
    by_cases e : q = j
    · simp [e]
    · rw [if_neg (by omega)]; exact ha' q (by omega)
  · intro k h' hI
    unfold FX12_load_2
    exact br_t (show nI 24 ≤ nI 24 from nI_le (Nat.le_refl _) (by omega)) (hq h' hI.1 hI.2)
theorem rs_keepAir {h : ob_H} {r : ob_P} {Q : ob_H → Prop} (ha : Air h r) (hq : ∀ h', Fr (fun q _ => q = 135) h h' → Nw h' r → Q h') : MX12_keepAir h Q := by
  unfold MX12_keepAir
  refine lo2c1 24 (by omega) (fun j h' => Fr (fun q _ => q = 135) h h' ∧ ∀ k, k < j → h'.1 135 k = r k) ?_ ?_ 0 (Nat.zero_le _) _ ⟨Fr.rf, fun k hk => absurd hk (Nat.not_lt_zero _)⟩
  · intro k j h' hj hI hk
    obtain ⟨hf, ha'⟩ := hI
    have e1 : ix (nI j) = j := nI_clamp (by omega)
    unfold FX12_keepAir_2
    refine br_f (show ¬ nI 24 ≤ nI j from nI_ge hj (by omega)) ⟨vp_in_nI (by omega) (by omega), ?_⟩
    rw [e1, hf.i (by omega), ha j hj]
    refine Lt_i fun h2 z2 => Lt_eq (nI_1 _) (hk _ ⟨by rw [z2]; exact hf.st rfl, fun q hq => ?_⟩)
    rw [z2, h_i_1]
    by_cases e : q = j
    · simp [e]
    · rw [if_neg (by omega)]; exact ha' q (by omega)
  · intro k h' hI
    unfold FX12_keepAir_2
    exact br_t (show nI 24 ≤ nI 24 from nI_le (Nat.le_refl _) (by omega)) (hq h' hI.1 hI.2)
/-- a room as told -/
def bgn (w : ob_W) : ob_P := fun k => if k < w.1 then (if bitI (wv w 7 0) k = true then 6 else 0) else if 14 ≤ k ∧ k < 14 + w.1 then nI (k - 14) else 0
def bgnJ (w : ob_W) (j : Nat) : ob_P := fun k => if k < j then (if bitI (wv w 7 0) k = true then 6 else 0) else if 14 ≤ k ∧ k < 14 + j then nI (k - 14) else 0
theorem rs_begin {h : ob_H} {w : ob_W} {Q : ob_H → Prop} (hn7 : w.1 ≤ 7) (hn : h.1 108 48 = nI w.1) (hl : h.1 108 49 = wv w 7 0) (hq : ∀ h', Fr (fun q _ => q = 136) h h' → Air h' (bgn w) → Q h') : MX12_begin h Q := by
  unfold MX12_begin
  refine lo2c1 24 (by omega) (fun j h' => Fr (fun q _ => q = 136) h h' ∧ ∀ k, k < j → h'.1 136 k = 0) ?_ ?_ 0 (Nat.zero_le _) _ ⟨Fr.rf, fun k hk => absurd hk (Nat.not_lt_zero _)⟩
  · intro k j h' hj hI hk
    obtain ⟨hf, ha'⟩ := hI
    have e1 : ix (nI j) = j := nI_clamp (by omega)
    unfold FX12_begin_2
    refine br_f (show ¬ nI 24 ≤ nI j from nI_ge hj (by omega)) ⟨vp_in_nI (by omega) (by omega), ?_⟩
    rw [e1]
    refine Lt_i fun h2 z2 => Lt_eq (nI_1 _) (hk _ ⟨by rw [z2]; exact hf.st rfl, fun q hq => ?_⟩)
    rw [z2, h_i_1]
    by_cases e : q = j
    · simp [e]
    · rw [if_neg (by omega)]; exact ha' q (by omega)
  · intro k h' hI
    obtain ⟨hf, ha'⟩ := hI
    unfold FX12_begin_2
    refine br_t (show nI 24 ≤ nI 24 from nI_le (Nat.le_refl _) (by omega)) ?_
    refine lo2c1 w.1 (by omega) (fun j h2 => Fr (fun q _ => q = 136) h h2 ∧ Air h2 (bgnJ w j)) ?_ ?_ 0 (Nat.zero_le _) _ ⟨hf, fun q hq => by rw [ha' q hq]; unfold bgnJ; rw [if_neg (by omega), if_neg (by omega)]⟩
    · intro k j h2 hj hI hk
      obtain ⟨hf2, ha2⟩ := hI
      have e1 : ix (nI j) = j := nI_clamp (by omega)
      have e14 : (14 : Int32) + nI j = nI (14 + j) := nI_add 14 j
      have i14 : ix (nI (14 + j)) = 14 + j := nI_clamp (by omega)
      have fin : ∀ v : Int32, v = (if bitI (wv w 7 0) j = true then 6 else 0) → KX12_begin_54 (nI j) v (nI j) h2 Q k := by
        intro v hv
        unfold KX12_begin_54
        rw [e1, e14, i14]
        refine ⟨vp_in_nI (by omega) (by omega), Lt_i fun h3 z3 => ⟨vp_in_nI (by omega) (by omega), Lt_i fun h4 z4 => Lt_eq (nI_1 _) (hk _ ⟨?_, ?_⟩)⟩⟩
        · rw [z4, z3]; exact (hf2.st rfl).st rfl
        · rw [z4, z3]
          refine ((ha2.put (k := j) (v := v)).put (k := 14 + j) (v := nI j)).cg (fun q _ => ?_)
          unfold pu bgnJ
          by_cases e : q = j
          · subst e; rw [if_neg (by omega), if_pos rfl, if_pos (by omega), hv]
          · by_cases e2 : q = 14 + j
            · subst e2
              rw [if_pos rfl, if_neg (by omega), if_pos (by omega), show 14 + j - 14 = j by omega]
            · have q1 : (q < j + 1) ↔ (q < j) := by omega
              have q2 : (q < 14 + (j + 1)) ↔ (q < 14 + j) := by omega
              rw [if_neg e2, if_neg e]
              simp only [q1, q2]
      unfold FX12_begin_23
      rw [hf2.i (by omega), hf2.i (by omega), hn, hl]
      refine br_f (nI_ge hj (by omega)) (br_c (fun c => fin 6 ?_) (fun c => fin 0 ?_))
      · rw [if_pos (bit1.mp c)]
      · rw [if_neg (fun z => c (bit1.mpr z))]
    · intro k h2 hI
      unfold FX12_begin_23
      rw [hI.1.i (by omega), hn]
      exact br_t (nI_le (Nat.le_refl _) (by omega)) (hq h2 hI.1 hI.2)
theorem mk_succ {p : Nat → Bool} {n : Nat} : mk p (n + 1) = mk p n + (if p n then 2 ^ n else 0) := rfl
theorem mk_orI {p : Nat → Bool} {j : Nat} (hj : j < 7) : nI (mk p j) ||| (tru (p j) <<< (nI j &&& 31)) = nI (mk p (j + 1)) := by
  have hl := mk_lt p j
  have h7 : (2 : Nat) ^ j ≤ 2 ^ 6 := Nat.pow_le_pow_right (by decide) (by omega)
  have h7' : (2 : Nat) ^ j < 2 ^ 7 := by omega
  rw [mk_succ]
  unfold tru
  by_cases hp : p j = true
  · rw [if_pos hp, if_pos hp, ja_shl j hj, ja_or _ _ (by omega) h7']
    congr 1
    have := Nat.two_pow_add_eq_or_of_lt hl 1
    rw [Nat.mul_one] at this
    rw [Nat.or_comm, ← this, Nat.add_comm]
  · rw [if_neg hp, if_neg hp, Nat.add_zero]
    rw [show (0 : Int32) <<< (nI j &&& 31) = nI 0 from ?_, ja_or _ _ (by omega) (by decide), Nat.or_zero]
    revert hj
    exact fun hj => (by
      have : ∀ j, j < 7 → (0 : Int32) <<< (nI j &&& 31) = nI 0 := by decide +kernel
      exact this j hj)
theorem rs_thatAre {h : ob_H} {n : Nat} {r : ob_P} {s : Int32} {Q : Int32 → Prop} (hn : h.1 108 48 = nI n) (hn7 : n ≤ 7) (ha : Air h r) (hq : Q (nI (mk (isS r s) n))) : MX12_thatAre s h Q := by
  unfold MX12_thatAre
  refine lo2c2 n (by omega) (fun j a => a = nI (mk (isS r s) j)) ?_ ?_ 0 (Nat.zero_le _) _ rfl
  · intro k j a hj ha2 hk
    subst ha2
    have e1 : ix (nI j) = j := nI_clamp (by omega)
    have fin : ∀ v : Int32, (if v = 0 then (0 : Int32) else 1) = tru (isS r s j) → KX12_thatAre_28 s (nI j) v (nI (mk (isS r s) j)) h Q k := by
      intro v hv
      unfold KX12_thatAre_28
      refine rs_truth ?_
      rw [hv]
      exact Lt_eq (mk_orI (by omega)) (Lt_eq (nI_1 _) (hk _ rfl))
    unfold FX12_thatAre_4
    refine br_f (by rw [hn]; exact nI_ge hj (by omega)) ⟨vp_in_nI (by omega) (by omega), ?_⟩
    rw [e1, ha j (by omega)]
    refine br_c (fun c => fin 1 ?_) (fun c => fin 0 ?_) <;> simp [tru, isS, c]
  · intro k a ha2
    unfold FX12_thatAre_4
    refine br_t (by rw [hn]; exact nI_le (Nat.le_refl _) (by omega)) ?_
    rw [ha2]
    exact hq
theorem rs_duskNow {h : ob_H} {w : ob_W} {r : ob_P} {Q : Int32 → ob_H → Prop} (hW : WFW w) (hw : RW h w) (ha : Nw h r) (hq : ∀ h', Fr SR h h' → Crs h' (gn w r).1 → Air h' (gn w r).2 → Q (dsk w r) h') : MX12_duskNow h Q := by
  unfold MX12_duskNow
  refine rs_load ha fun h1 f1 a1 => rs_goOn hW (hw.fr hW.1 f1 (fun q k p => by omega)) a1 fun h2 f2 c2 a2 => hq h2 ((f1.mono (fun q k p => by unfold SR; omega)).tr f2) c2 a2
