-- ===== the JDK's String: length and charAt, raw =====
def sx_P (base a0 v0 : Nat) (U : State) (H : Heap) : Prop := ob_Z base U H ∧ vk_S 1 [121] [obByt] (fun _ => a0) (fun _ => v0) (fun q => base ≤ q) U H
theorem sx_P.moved {base a0 v0 : Nat} {u U : State} {H : Heap} (hv : u.vm.Alike U.vm) (h : sx_P base a0 v0 u H) : sx_P base a0 v0 U H := ⟨⟨h.1.1.moved hv, h.1.2.moved hv⟩, h.2.moved hv⟩
theorem sx_P.kept {base a0 v0 : Nat} {s : State} {H H1 : Heap} (h : sx_P base a0 v0 s H) (hq : ∀ a, a < H.size → ¬ base ≤ a → H1[a]? = H[a]?) : sx_P base a0 v0 s H1 := ⟨⟨h.1.1.kept hq, h.1.2.kept hq⟩, h.2.kept hq⟩
def sx_Pc (base a0 v0 : Nat) (av : List Value) : Array Value → State → Prop := fun v U => v = av.toArray ∧ sx_P base a0 v0 U U.heap
def sx_Qc (rv : Option Value) : State → Outcome → State → Prop := fun st o t => o = .returned rv ∧ t.heap = st.heap
theorem sx_blind {base a0 v0 : Nat} {av : List Value} : FrameBlind (sx_Pc base a0 v0 av) := fun a U g mk q => ⟨q.1, sx_P.moved (u := U) (U := U.calling g mk a) (Vm.Alike.refl U.vm) q.2⟩
section SXB
variable {p : Program} {l : Launch} {e : Env} {R : Room} {s : State} {m : MethodId} {args : Array Value} {below : List Frame} {meth : Method} {c : Code} {H : Heap} {locs : List Loc} {ce sl : Nat} {Z : State → Prop} {base a0 v0 : Nat} {ls : Array Slot} {pc : Nat} {st0 rest : List Value} {rv : Option Value}
theorem sx_pre (hP : sx_P base a0 v0 s s.heap) (hS : va_S (fun q => base ≤ q) s.heap H locs) (av : List Value) : ∀ U : State, U.heap = H → s.WarmedH U.vm → sx_Pc base a0 v0 av av.toArray U := fun U hU hW =>
  ⟨rfl, by rw [hU]; exact (hP.kept hS.2.1).moved hW.alike⟩
theorem sx_back (hS : va_S (fun q => base ≤ q) s.heap H locs) (hr : va_Run p l e R s m args below meth c H locs ce sl 0 0 (F0 m pc ls st0) rest (sx_Qc rv) (fun q => base ≤ q))
    (kk : ∀ locs', va_S (fun q => base ≤ q) s.heap H locs' → W p l e R s m args below meth c H locs' ce sl Z (F0 m (pc + 3) ls (rv.toList ++ rest))) : W p l e R s m args below meth c H locs ce sl Z (F0 m pc ls st0) := by
  intro T hT X
  obtain ⟨v, st₀, t, T', L, h0, X', hL, e1, e2, ⟨hv, hh⟩, go⟩ := hr T hT X
  have hv' : v = rv := by cases hv; rfl
  subst hv'
  obtain ⟨t2, a1, b1⟩ := kk (locs ++ L) ⟨hS.1, hS.2.1, fun q hq => by
      rcases List.mem_append.mp hq with h | h
      · exact hS.2.2 q h
      · exact hL q h⟩ T' (by rw [e1, hh, h0]) X'
  exact ⟨t2, go t2 a1, b1⟩
end SXB
theorem sx_coder {base a0 v0 : Nat} (l : Launch) : Met l yJ0_coder_7d493 (.code yJ0_coder_7d493 cJ0_coder_7d493 1 (some .byte) :: obWS) { frames := 0, cells := 0, slots := 0, locals := 0 } (sx_Pc base a0 v0 [.ref a0]) (fun _ => sx_Qc (some (.int 0))) 0 0 (fun q => base ≤ q) := by
  refine Met.ofW (cc := cJ0_coder_7d493) (maxL := 1) (ret := some .byte) (by decide +kernel) rfl ?_
  intro p e s m args below meth c s₁ B hml hv
  obtain ⟨rfl, hZ, hE⟩ := hv
  have hx := B.exec
  have hb := B.bytes
  have hr := B.returns
  have hts := atoms_spec (ws := .code yJ0_coder_7d493 cJ0_coder_7d493 1 (some .byte) :: obWS) B.pre
  have hown : s.vm.findClass RJ0 = some m.cls := findClass_of_methodNamed B.named
  have hlocks := B.notSynchronized
  have hS : va_S (fun q => base ≤ q) s.heap s.heap [] := va_S.rf
  have hl := lv_entry ([.ref a0]) (n := 1) (Nat.le_of_ble_eq_true rfl)
  rw [lg_entry_eq]
  generalize (lg_sl ([.ref a0]) ++ List.replicate (1 - (lg_sl ([.ref a0])).length) Slot.unset).toArray = ls at hl ⊢
  refine va_gets hx hb hZ.1 hS hown (hts _ (List.mem_cons_of_mem _ ow_44)) (fun _ h => h) dJ0_coder_7d493_0 ?_
  refine lv_if_eq (tgt := 13) hx hb dJ0_coder_7d493_3 (by decide) (fun c => absurd c (by decide)) (fun _ => ?_)
  refine lv_aload_n hx hb dJ0_coder_7d493_6 rfl (lv_at hl 0 rfl) ?_
  refine vk_getf hx hb (hE.1 0 (by decide)).2.1 hS hown (hts _ (List.mem_cons_of_mem _ ow_1932)) (fun _ h => h) dJ0_coder_7d493_7 ?_
  refine lv_goto (tgt := 14) hx hb dJ0_coder_7d493_10 (by decide) ?_
  exact W.zret hx hb hr rfl (fun t ht _ => ⟨rfl, ht⟩) hS.2.2 dJ0_coder_7d493_14
theorem sx_isLatin1 {base a0 v0 : Nat} (l : Launch) : Met l yJ0_isLatin1_aae02 (.code yJ0_isLatin1_aae02 cJ0_isLatin1_aae02 1 (some .boolean) :: obWS) { frames := 0, cells := 0, slots := 0, locals := 0 } (sx_Pc base a0 v0 [.ref a0]) (fun _ => sx_Qc (some (.int 1))) 0 0 (fun q => base ≤ q) := by
  refine Met.ofW (cc := cJ0_isLatin1_aae02) (maxL := 1) (ret := some .boolean) (by decide +kernel) rfl ?_
  intro p e s m args below meth c s₁ B hml hv
  obtain ⟨rfl, hZ, hE⟩ := hv
  have hx := B.exec
  have hb := B.bytes
  have hr := B.returns
  have hts := atoms_spec (ws := .code yJ0_isLatin1_aae02 cJ0_isLatin1_aae02 1 (some .boolean) :: obWS) B.pre
  have hown : s.vm.findClass RJ0 = some m.cls := findClass_of_methodNamed B.named
  have hlocks := B.notSynchronized
  have hS : va_S (fun q => base ≤ q) s.heap s.heap [] := va_S.rf
  have hl := lv_entry ([.ref a0]) (n := 1) (Nat.le_of_ble_eq_true rfl)
  rw [lg_entry_eq]
  generalize (lg_sl ([.ref a0]) ++ List.replicate (1 - (lg_sl ([.ref a0])).length) Slot.unset).toArray = ls at hl ⊢
  refine va_gets hx hb hZ.1 hS hown (hts _ (List.mem_cons_of_mem _ ow_44)) (fun _ h => h) dJ0_isLatin1_aae02_0 ?_
  refine lv_if_eq (tgt := 17) hx hb dJ0_isLatin1_aae02_3 (by decide) (fun c => absurd c (by decide)) (fun _ => ?_)
  refine lv_aload_n hx hb dJ0_isLatin1_aae02_6 rfl (lv_at hl 0 rfl) ?_
  refine vk_getf hx hb (hE.1 0 (by decide)).2.1 hS hown (hts _ (List.mem_cons_of_mem _ ow_1932)) (fun _ h => h) dJ0_isLatin1_aae02_7 ?_
  refine lv_if_ne (tgt := 17) hx hb dJ0_isLatin1_aae02_10 (by decide) (fun c => absurd rfl c) (fun _ => ?_)
  refine lv_iconst (v := 1) hx hb dJ0_isLatin1_aae02_13 (by decide) ?_
  refine lv_goto (tgt := 18) hx hb dJ0_isLatin1_aae02_14 (by decide) ?_
  exact W.zret hx hb hr rfl (fun t ht _ => ⟨rfl, ht⟩) hS.2.2 dJ0_isLatin1_aae02_18
theorem sx_length {base a0 v0 : Nat} (l : Launch) : Met l yJ0_length_8abf5 (.code yJ0_length_8abf5 cJ0_length_8abf5 1 (some .int) :: obWS) { frames := 1, cells := 0, slots := 0, locals := 20 } (sx_Pc base a0 v0 [.ref a0]) (fun _ => sx_Qc (some (.int 121))) 0 0 (fun q => base ≤ q) := by
  refine Met.ofW (cc := cJ0_length_8abf5) (maxL := 1) (ret := some .int) (by decide +kernel) rfl ?_
  intro p e s m args below meth c s₁ B hml hv
  obtain ⟨rfl, hP⟩ := hv
  have hZ := hP.1
  have hE := hP.2
  have hx := B.exec
  have hb := B.bytes
  have hr := B.returns
  have hts := atoms_spec (ws := .code yJ0_length_8abf5 cJ0_length_8abf5 1 (some .int) :: obWS) B.pre
  have hw : ∀ w ∈ obWS, w.before #[Value.ref a0] s = true := fun w h => hts w (List.mem_cons_of_mem _ h)
  have hown : s.vm.findClass RJ0 = some m.cls := findClass_of_methodNamed B.named
  have hlocks := B.notSynchronized
  have hS : va_S (fun q => base ≤ q) s.heap s.heap [] := va_S.rf
  have hl := lv_entry ([.ref a0]) (n := 1) (Nat.le_of_ble_eq_true rfl)
  rw [lg_entry_eq]
  generalize (lg_sl ([.ref a0]) ++ List.replicate (1 - (lg_sl ([.ref a0])).length) Slot.unset).toArray = ls at hl ⊢
  refine lv_aload_n hx hb dJ0_length_8abf5_0 rfl (lv_at hl 0 rfl) ?_
  refine vk_getf hx hb (hE.1 0 (by decide)).2.2.1 hS hown (hw _ ow_1931) (fun _ h => h) dJ0_length_8abf5_1 ?_
  refine va_tlen hx hb (hE.1 0 (by decide)).2.2.2 hS (v := 121) (by decide) dJ0_length_8abf5_4 ?_
  refine lv_aload_n hx hb dJ0_length_8abf5_5 rfl (lv_at hl 0 rfl) ?_
  refine sx_back hS (va_runV (As := []) (b := a0) (C := RJ0) (rest := [.int 121]) ⟨hx, hb, hml, hown, hw⟩ (sx_coder (base := base) (a0 := a0) (v0 := v0) l) ⟨callB_of 0 hw (ob_goodIn ow_43) rfl rfl rfl (hw _ ow_3) (hw _ ow_40) (by decide +kernel) ⟨by decide, by decide⟩, hw _ ow_41, hw _ ow_42⟩ ⟨sx_blind, vk_recv hE (i := 0) (by decide) hS, sx_pre hP hS [.ref a0]⟩ rfl rfl hl.1 rfl (lv_room (by decide)) dJ0_length_8abf5_6 ⟨by decide, by decide⟩) (fun locs' hS' => ?_)
  refine lv_ishr hx hb dJ0_length_8abf5_9 ?_
  exact W.iret hx hb hr (fun t ht _ => ⟨congrArg (fun x : Int32 => Outcome.returned (some (Value.int x))) (by decide), ht⟩) hS'.2.2 dJ0_length_8abf5_10
theorem sx_checkIndex3 {base a0 v0 : Nat} (l : Launch) {i n : Int32} {f : Value} (h0 : ¬ i < 0) (h1 : i < n) : Met l yJ3_checkIndex_8e157 (.code yJ3_checkIndex_8e157 cJ3_checkIndex_8e157 3 (some .int) :: obWS) { frames := 0, cells := 0, slots := 0, locals := 0 } (fun v U => sx_Pc base a0 v0 [.int i, .int n, f] v U ∧ f.category = 1) (fun _ => sx_Qc (some (.int i))) 0 0 (fun q => base ≤ q) := by
  refine Met.ofW (cc := cJ3_checkIndex_8e157) (maxL := 3) (ret := some .int) (by decide +kernel) rfl ?_
  intro p e s m args below meth c s₁ B hml hv
  obtain ⟨⟨rfl, hP⟩, hf⟩ := hv
  have hx := B.exec
  have hb := B.bytes
  have hr := B.returns
  have hown : s.vm.findClass RJ3 = some m.cls := findClass_of_methodNamed B.named
  have hlocks := B.notSynchronized
  have hS : va_S (fun q => base ≤ q) s.heap s.heap [] := va_S.rf
  have hsl : (lg_sl [.int i, .int n, f]).length = 3 := by
    cases f <;> first
      | rfl
      | cases hf
  have hl := lv_entry ([.int i, .int n, f]) (n := 3) (Nat.le_of_eq hsl)
  rw [lg_entry_eq]
  generalize (lg_sl ([.int i, .int n, f]) ++ List.replicate (3 - (lg_sl ([.int i, .int n, f])).length) Slot.unset).toArray = ls at hl ⊢
  refine lv_iload_n hx hb dJ3_checkIndex_8e157_0 rfl (lv_at hl 0 rfl) ?_
  refine lv_if_lt (tgt := 9) hx hb dJ3_checkIndex_8e157_1 (by decide) (fun c => absurd c h0) (fun _ => ?_)
  refine lv_iload_n hx hb dJ3_checkIndex_8e157_4 rfl (lv_at hl 0 rfl) ?_
  refine lv_iload_n hx hb dJ3_checkIndex_8e157_5 rfl (lv_at hl 1 rfl) ?_
  refine lv_icmp_lt (tgt := 16) hx hb dJ3_checkIndex_8e157_6 (by decide) (fun _ => ?_) (fun c => absurd h1 c)
  refine lv_iload_n hx hb dJ3_checkIndex_8e157_16 rfl (lv_at hl 0 rfl) ?_
  exact W.iret hx hb hr (fun t ht _ => ⟨rfl, ht⟩) hS.2.2 dJ3_checkIndex_8e157_17
theorem sx_checkIndex {base a0 v0 : Nat} (l : Launch) {i n : Int32} (h0 : ¬ i < 0) (h1 : i < n) : Met l yJ0_checkIndex_df160 (.code yJ0_checkIndex_df160 cJ0_checkIndex_df160 2 none :: obWS) { frames := 1, cells := 0, slots := 0, locals := 22 } (sx_Pc base a0 v0 [.int i, .int n]) (fun _ => sx_Qc none) 0 0 (fun q => base ≤ q) := by
  refine Met.ofW (cc := cJ0_checkIndex_df160) (maxL := 2) (ret := none) (by decide +kernel) rfl ?_
  intro p e s m args below meth c s₁ B hml hv
  obtain ⟨rfl, hP⟩ := hv
  have hZ := hP.1
  have hx := B.exec
  have hb := B.bytes
  have hr := B.returns
  have hts := atoms_spec (ws := .code yJ0_checkIndex_df160 cJ0_checkIndex_df160 2 none :: obWS) B.pre
  have hw : ∀ w ∈ obWS, w.before #[Value.int i, Value.int n] s = true := fun w h => hts w (List.mem_cons_of_mem _ h)
  have hown : s.vm.findClass RJ0 = some m.cls := findClass_of_methodNamed B.named
  have hlocks := B.notSynchronized
  have hS : va_S (fun q => base ≤ q) s.heap s.heap [] := va_S.rf
  have hl := lv_entry ([.int i, .int n]) (n := 2) (Nat.le_of_ble_eq_true rfl)
  rw [lg_entry_eq]
  generalize (lg_sl ([.int i, .int n]) ++ List.replicate (2 - (lg_sl ([.int i, .int n])).length) Slot.unset).toArray = ls at hl ⊢
  refine lv_iload_n hx hb dJ0_checkIndex_df160_0 rfl (lv_at hl 0 rfl) ?_
  refine lv_iload_n hx hb dJ0_checkIndex_df160_1 rfl (lv_at hl 1 rfl) ?_
  have go : ∀ f : Value, f.category = 1 → W p l e { frames := 1, cells := 0, slots := 0, locals := 22 } s m #[Value.int i, Value.int n] below meth c s.heap [] 0 0 (MQ below (fun _ => sx_Qc none) #[Value.int i, Value.int n] s 0 0 (fun q => base ≤ q)) (F0 m 5 ls [f, .int n, .int i]) := by
    intro f hf
    refine sx_back hS (va_runS (As := [.int i, .int n, f]) (rest := []) ⟨hx, hb, hml, hown, hw⟩ (sx_checkIndex3 (base := base) (a0 := a0) (v0 := v0) l h0 h1) ⟨callB_of 3 hw (ob_goodIn ow_64) rfl rfl rfl (hw _ ow_5) (hw _ ow_62) (by decide +kernel) ⟨by decide, by decide⟩, hw _ ow_63⟩ ⟨fun a U g mk q => ⟨sx_blind a U g mk q.1, q.2⟩, fun U h1 h2 => ⟨sx_pre hP hS [.int i, .int n, f] U h1 h2, hf⟩⟩ rfl rfl hl.1 rfl (lv_room (by decide)) dJ0_checkIndex_df160_5 ⟨by decide, by decide⟩) (fun locs' hS' => ?_)
    refine lv_pop hx hb dJ0_checkIndex_df160_8 rfl ?_
    exact W.vret hx hb hr (fun t ht _ => ⟨rfl, ht⟩) hS'.2.2 dJ0_checkIndex_df160_9
  rcases hZ.2 with hn | ⟨t, hn⟩
  · exact va_gets hx hb hn hS hown (hw _ ow_60) (fun _ h => h) dJ0_checkIndex_df160_2 (go _ rfl)
  · exact va_gets hx hb hn hS hown (hw _ ow_60) (fun _ h => h) dJ0_checkIndex_df160_2 (go _ rfl)
theorem sx_byte : ∀ k, k < 121 → ((obByt.getD k 0 &&& 255).toUInt32 % 65536).toInt32 = obByt.getD k 0 := by decide +kernel
theorem sx_latin {base a0 v0 : Nat} (l : Launch) {k : Nat} (hk : k < 121) : Met l yJ1_charAt_3b067 (.code yJ1_charAt_3b067 cJ1_charAt_3b067 2 (some .char) :: obWS) { frames := 2, cells := 0, slots := 0, locals := 43 } (sx_Pc base a0 v0 [.ref v0, .int (nI k)]) (fun _ => sx_Qc (some (.int (obByt.getD k 0)))) 0 0 (fun q => base ≤ q) := by
  refine Met.ofW (cc := cJ1_charAt_3b067) (maxL := 2) (ret := some .char) (by decide +kernel) rfl ?_
  intro p e s m args below meth c s₁ B hml hv
  obtain ⟨rfl, hP⟩ := hv
  have hE := hP.2
  have hx := B.exec
  have hb := B.bytes
  have hr := B.returns
  have hts := atoms_spec (ws := .code yJ1_charAt_3b067 cJ1_charAt_3b067 2 (some .char) :: obWS) B.pre
  have hw : ∀ w ∈ obWS, w.before #[Value.ref v0, Value.int (nI k)] s = true := fun w h => hts w (List.mem_cons_of_mem _ h)
  have hown : s.vm.findClass RJ1 = some m.cls := findClass_of_methodNamed B.named
  have hlocks := B.notSynchronized
  have hS : va_S (fun q => base ≤ q) s.heap s.heap [] := va_S.rf
  have hl := lv_entry ([.ref v0, .int (nI k)]) (n := 2) (Nat.le_of_ble_eq_true rfl)
  rw [lg_entry_eq]
  generalize (lg_sl ([.ref v0, .int (nI k)]) ++ List.replicate (2 - (lg_sl ([.ref v0, .int (nI k)])).length) Slot.unset).toArray = ls at hl ⊢
  refine lv_iload_n hx hb dJ1_charAt_3b067_0 rfl (lv_at hl 1 rfl) ?_
  refine lv_aload_n hx hb dJ1_charAt_3b067_1 rfl (lv_at hl 0 rfl) ?_
  refine va_tlen hx hb (hE.1 0 (by decide)).2.2.2 hS (v := 121) (by decide) dJ1_charAt_3b067_2 ?_
  refine sx_back hS (va_runS (As := [.int (nI k), .int 121]) (rest := []) ⟨hx, hb, hml, hown, hw⟩ (sx_checkIndex (base := base) (a0 := a0) (v0 := v0) l (nI_pos (by omega)) (nI_lt (b := 121) hk (by decide))) ⟨callB_of 2 hw (ob_goodIn ow_59) rfl rfl rfl (hw _ ow_3) (hw _ ow_57) (by decide +kernel) ⟨by decide, by decide⟩, hw _ ow_58⟩ ⟨sx_blind, sx_pre hP hS [.int (nI k), .int 121]⟩ rfl rfl hl.1 rfl (lv_room (by decide)) dJ1_charAt_3b067_3 ⟨by decide, by decide⟩) (fun locs' hS' => ?_)
  refine lv_aload_n hx hb dJ1_charAt_3b067_6 rfl (lv_at hl 0 rfl) ?_
  refine lv_iload_n hx hb dJ1_charAt_3b067_7 rfl (lv_at hl 1 rfl) ?_
  refine va_tb hx hb (hE.1 0 (by decide)).2.2.2 hS' (v := .int (obByt.getD k 0)) (vp_in_nI hk (by decide)) (congrArg (fun j => Value.int (obByt.getD j 0)) (nI_clamp (n := k) (by omega))) dJ1_charAt_3b067_8 ?_
  refine lv_sipush (v := 255) hx hb dJ1_charAt_3b067_9 (by decide) ?_
  refine lv_iand hx hb dJ1_charAt_3b067_12 ?_
  refine lv_i2c hx hb dJ1_charAt_3b067_13 (sx_byte k hk) ?_
  exact W.zret hx hb hr (congrArg Value.int ((by decide +kernel : ∀ k, k < 121 → ((obByt.getD k 0).toUInt32 % 65536).toInt32 = obByt.getD k 0) k hk)) (fun t ht _ => ⟨rfl, ht⟩) hS'.2.2 dJ1_charAt_3b067_14
theorem sx_charAt {base a0 v0 : Nat} (l : Launch) {k : Nat} (hk : k < 121) : Met l yJ0_charAt_5068e (.code yJ0_charAt_5068e cJ0_charAt_5068e 2 (some .char) :: obWS) { frames := 3, cells := 0, slots := 0, locals := 64 } (sx_Pc base a0 v0 [.ref a0, .int (nI k)]) (fun _ => sx_Qc (some (.int (obByt.getD k 0)))) 0 0 (fun q => base ≤ q) := by
  refine Met.ofW (cc := cJ0_charAt_5068e) (maxL := 2) (ret := some .char) (by decide +kernel) rfl ?_
  intro p e s m args below meth c s₁ B hml hv
  obtain ⟨rfl, hP⟩ := hv
  have hE := hP.2
  have hx := B.exec
  have hb := B.bytes
  have hr := B.returns
  have hts := atoms_spec (ws := .code yJ0_charAt_5068e cJ0_charAt_5068e 2 (some .char) :: obWS) B.pre
  have hw : ∀ w ∈ obWS, w.before #[Value.ref a0, Value.int (nI k)] s = true := fun w h => hts w (List.mem_cons_of_mem _ h)
  have hown : s.vm.findClass RJ0 = some m.cls := findClass_of_methodNamed B.named
  have hlocks := B.notSynchronized
  have hS : va_S (fun q => base ≤ q) s.heap s.heap [] := va_S.rf
  have hl := lv_entry ([.ref a0, .int (nI k)]) (n := 2) (Nat.le_of_ble_eq_true rfl)
  rw [lg_entry_eq]
  generalize (lg_sl ([.ref a0, .int (nI k)]) ++ List.replicate (2 - (lg_sl ([.ref a0, .int (nI k)])).length) Slot.unset).toArray = ls at hl ⊢
  refine lv_aload_n hx hb dJ0_charAt_5068e_0 rfl (lv_at hl 0 rfl) ?_
  refine sx_back hS (va_runV (As := []) (b := a0) (C := RJ0) (rest := []) ⟨hx, hb, hml, hown, hw⟩ (sx_isLatin1 (base := base) (a0 := a0) (v0 := v0) l) ⟨callB_of 0 hw (ob_goodIn ow_53) rfl rfl rfl (hw _ ow_3) (hw _ ow_50) (by decide +kernel) ⟨by decide, by decide⟩, hw _ ow_51, hw _ ow_52⟩ ⟨sx_blind, vk_recv hE (i := 0) (by decide) hS, sx_pre hP hS [.ref a0]⟩ rfl rfl hl.1 rfl (lv_room (by decide)) dJ0_charAt_5068e_1 ⟨by decide, by decide⟩) (fun locs' hS' => ?_)
  refine lv_if_eq (tgt := 16) hx hb dJ0_charAt_5068e_4 (by decide) (fun c => absurd c (by decide)) (fun _ => ?_)
  refine lv_aload_n hx hb dJ0_charAt_5068e_7 rfl (lv_at hl 0 rfl) ?_
  refine vk_getf hx hb (hE.1 0 (by decide)).2.2.1 hS' hown (hw _ ow_1931) (fun _ h => h) dJ0_charAt_5068e_8 ?_
  refine lv_iload_n hx hb dJ0_charAt_5068e_11 rfl (lv_at hl 1 rfl) ?_
  refine sx_back hS' (va_runS (As := [.ref v0, .int (nI k)]) (rest := []) ⟨hx, hb, hml, hown, hw⟩ (sx_latin (base := base) (a0 := a0) (v0 := v0) l hk) ⟨callB_of 2 hw (ob_goodIn ow_56) rfl rfl rfl (hw _ ow_4) (hw _ ow_54) (by decide +kernel) ⟨by decide, by decide⟩, hw _ ow_55⟩ ⟨sx_blind, sx_pre hP hS' [.ref v0, .int (nI k)]⟩ rfl rfl hl.1 rfl (lv_room (by decide)) dJ0_charAt_5068e_12 ⟨by decide, by decide⟩) (fun locs2 hS2 => ?_)
  exact W.zret hx hb hr (congrArg Value.int ((by decide +kernel : ∀ k, k < 121 → ((obByt.getD k 0).toUInt32 % 65536).toInt32 = obByt.getD k 0) k hk)) (fun t ht _ => ⟨rfl, ht⟩) hS2.2.2 dJ0_charAt_5068e_15
-- the two, as rows of the mini world
section SXR
variable {own : String} {cc : ByteArray} {nL : Nat} {R : Room} {ini : Bool} {sc : ob_Sc} {ce sl : Nat} {ks : Nat → ob_K} {n : Nat} {h : ob_H} {pc : Nat} {lv : List (Nat × Value)} {st : List Value} {Q : ob_Q}
theorem oj_strlen (hown : own = RX10) (hd1 : decode cc pc = .ok (.ldc 37, 2)) (hd2 : decode cc (pc + 2) = .ok (.invokevirtual 39, 3)) (hR1 : 2 ≤ R.frames ∧ 40 ≤ R.locals) (hce : ce ≤ R.cells) (hsl : sl ≤ R.slots) (hst : (st.map fun v => v.category).sum ≤ 8)
    (k : ob_J own cc nL R ini sc ce sl ks n h (pc + 2 + 3) lv (.int 121 :: st) Q) : ob_J own cc nL R ini sc ce sl ks n h pc lv st Q := by
  intro p l e s m args below meth c D ct base b Z C F H locs ls hR hS hl
  obtain ⟨hZ, a0, v0, hR0, hE⟩ := C.2.2.2.2.2.2.2.2.2.2.2
  subst hown
  have hx := C.2.2.2.2.1
  refine va_ldcS C.1 C.2.1 C.2.2.2.1 hR0 hd1 ?_
  exact sx_back hS (va_runV (As := []) (b := a0) (C := RJ0) (rest := st.map (ob_rv base b)) ⟨C.1, C.2.1, C.2.2.1, C.2.2.2.1, hx⟩ (sx_length (base := base) (a0 := a0) (v0 := v0) l) ⟨callB_of 0 hx (ob_goodIn ow_39) rfl rfl rfl (hx _ ow_3) (hx _ ow_36) (by decide +kernel) hR1, hx _ ow_37, hx _ ow_38⟩ ⟨sx_blind, vk_recv hE (i := 0) (by decide) hS, sx_pre ⟨hZ, hE⟩ hS [.ref a0]⟩ rfl rfl hl.1 rfl (lv_room (ob_cat8 hst)) hd2 ⟨hce, hsl⟩) (fun locs' hS' => k p l e s m args below meth c D ct base b Z C F H locs' ls hR hS' hl)
theorem oj_strat {i k : Nat} {z : Fin 4} (j : Nat) (hown : own = RX10) (hk : k < 121) (hd1 : decode cc pc = .ok (.ldc 37, 2)) (hd0 : decode cc (pc + 2) = .ok (.iload_n z, 1)) (hz : (z : Nat) = i) (hj : lv[j]? = some (i, .int (nI k))) (hd2 : decode cc (pc + 2 + 1) = .ok (.invokevirtual 44, 3)) (hR1 : 4 ≤ R.frames ∧ 85 ≤ R.locals) (hce : ce ≤ R.cells) (hsl : sl ≤ R.slots) (hst : (st.map fun v => v.category).sum ≤ 8)
    (kk : ob_J own cc nL R ini sc ce sl ks n h (pc + 2 + 1 + 3) lv (.int (obByt.getD k 0) :: st) Q) : ob_J own cc nL R ini sc ce sl ks n h pc lv st Q := by
  intro p l e s m args below meth c D ct base b Z C F H locs ls hR hS hl
  obtain ⟨hZ, a0, v0, hR0, hE⟩ := C.2.2.2.2.2.2.2.2.2.2.2
  subst hown
  have hx := C.2.2.2.2.1
  refine va_ldcS C.1 C.2.1 C.2.2.2.1 hR0 hd1 ?_
  refine lv_iload_n C.1 C.2.1 hd0 hz (ob_lv_at hl hj) ?_
  exact sx_back hS (va_runV (As := [.int (nI k)]) (b := a0) (C := RJ0) (rest := st.map (ob_rv base b)) ⟨C.1, C.2.1, C.2.2.1, C.2.2.2.1, hx⟩ (sx_charAt (base := base) (a0 := a0) (v0 := v0) l hk) ⟨callB_of 1 hx (ob_goodIn ow_49) rfl rfl rfl (hx _ ow_3) (hx _ ow_46) (by decide +kernel) hR1, hx _ ow_47, hx _ ow_48⟩ ⟨sx_blind, vk_recv hE (i := 0) (by decide) hS, sx_pre ⟨hZ, hE⟩ hS [.ref a0, .int (nI k)]⟩ rfl rfl hl.1 rfl (lv_room (ob_cat8 hst)) hd2 ⟨hce, hsl⟩) (fun locs' hS' => kk p l e s m args below meth c D ct base b Z C F H locs' ls hR hS' hl)
end SXR
