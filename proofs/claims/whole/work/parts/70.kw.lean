-- ===== shapes as they grow =====
/-- below o as ks says, from o on the list -/
def KW (ks : Nat → ob_K) (o : Nat) (L : List ob_K) : Nat → ob_K := fun q => if q < o then ks q else L.getD (q - o) (0, [])
theorem KW_set {ks : Nat → ob_K} {o i : Nat} {L : List ob_K} {v : ob_K} (hi : i < L.length) : ku (KW ks o L) (o + i) v = KW ks o (L.set i v) := by
  funext q
  unfold ku KW
  by_cases e : q = o + i
  · subst e
    rw [if_pos rfl, if_neg (by omega), Nat.add_sub_cancel_left]
    simp [List.getD_eq_getElem?_getD, hi]
  · rw [if_neg e]
    by_cases c : q < o
    · rw [if_pos c, if_pos c]
    · rw [if_neg c, if_neg c]
      have : i ≠ q - o := by omega
      simp [List.getD_eq_getElem?_getD, List.getElem?_set, this]
theorem KW_push {ks : Nat → ob_K} {o : Nat} {L : List ob_K} {v : ob_K} : ku (KW ks o L) (o + L.length) v = KW ks o (L ++ [v]) := by
  funext q
  unfold ku KW
  by_cases e : q = o + L.length
  · subst e
    rw [if_pos rfl, if_neg (by omega), Nat.add_sub_cancel_left]
    simp [List.getD_eq_getElem?_getD]
  · rw [if_neg e]
    by_cases c : q < o
    · rw [if_pos c, if_pos c]
    · rw [if_neg c, if_neg c]
      by_cases d : q - o < L.length
      · simp [List.getD_eq_getElem?_getD, List.getElem?_append_left d]
      · rw [List.getD_eq_getElem?_getD, List.getD_eq_getElem?_getD, List.getElem?_eq_none (by omega), List.getElem?_eq_none (by simp; omega)]
theorem KW_is {ks : Nat → ob_K} {o i : Nat} {L : List ob_K} {v : ob_K} (hi : L[i]? = some v) (hn : o + L.length ≤ 100000) : ob_is (KW ks o L) (o + L.length) (o + i) v := by
  have h := (List.getElem?_eq_some_iff.mp hi).1
  refine ⟨by omega, hn, ?_⟩
  unfold KW
  rw [if_neg (by omega), Nat.add_sub_cancel_left, List.getD_eq_getElem?_getD, hi]
  rfl
theorem KW_lo {ks : Nat → ob_K} {o q n : Nat} {L : List ob_K} {v : ob_K} (h : ob_is ks n q v) (hq : q < o) (hn : o + L.length ≤ 100000) : ob_is (KW ks o L) (o + L.length) q v := by
  refine ⟨by omega, hn, ?_⟩
  unfold KW
  rw [if_pos hq]
  exact h.2.2
/-- cells alike: nothing else is looked at -/
theorem oj_conv {own : String} {cc : ByteArray} {nL : Nat} {R : Room} {ini : Bool} {sc : ob_Sc} {ce sl : Nat} {ks ks' : Nat → ob_K} {n : Nat} {h h' : ob_H} {pc : Nat} {lv : List (Nat × Value)} {st : List Value} {Q : ob_Q}
    (e : ∀ (ct : Nat → ClassId) (base q : Nat), q < n → ob_cell ct base h q (ks q) = ob_cell ct base h' q (ks' q)) (k : ob_J own cc nL R ini sc ce sl ks' n h' pc lv st Q) : ob_J own cc nL R ini sc ce sl ks n h pc lv st Q := by
  intro p l e' s m args below meth c D ct base b Z C F H locs ls hR hS hl
  have ew := ob_w_congr (ct := ct) (base := base) (e ct base)
  refine k p l e' s m args below meth c D ct base b Z C F H locs ls ?_ hS hl
  unfold ob_R at hR ⊢
  rw [← ew]
  exact hR
