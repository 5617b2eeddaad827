
-- ===== the mini world =====
abbrev ob_K : Type := Nat × List Nat
abbrev ob_H : Type := (Nat → Nat → Int32) × (Nat → Nat → Int64) × Nat
def ob_ad (base b o : Nat) : Nat := if o < 100000 then base + o else b
def ob_rv (base b : Nat) (v : Value) : Value := match v with
  | .ref o => .ref (ob_ad base b o)
  | w => w
def ob_fv (base : Nat) (h : ob_H) (o k : Nat) (code : Nat) : Value := match code with
  | 0 => .int (h.1 o k)
  | 1 => .long (h.2.1 o k)
  | 2 => .ref (base + h.2.2)
  | 3 => .null
  | q + 4 => .ref (base + q)
def ob_fs (base : Nat) (h : ob_H) (o : Nat) (codes : List Nat) : List Value := codes.mapIdx (fun k c => ob_fv base h o k c)
def ob_rf (base : Nat) (code : Nat) : Option Nat := match code with
  | q + 4 => some (base + q)
  | _ => none
def ob_cell (ct : Nat → ClassId) (base : Nat) (h : ob_H) (o : Nat) (k : ob_K) : va_E := match k.1 with
  | 0 => .inl (ct 0, k.2.headD 0, .inl (h.1 o))
  | 1 => .inl (ct 1, k.2.headD 0, .inr (.inl (h.2.1 o)))
  | 2 => .inl (ct 2, k.2.headD 0, .inl (h.1 o))
  | 3 => .inl (ct 3, k.2.headD 0, .inl (h.1 o))
  | 4 => .inl (ct 4, k.2.length, .inr (.inr (.inr (.inr (fun j => ob_rf base (k.2.getD j 3))))))
  | ci + 5 => .inr (ci, ob_fs base h o k.2)
def ob_w (ct : Nat → ClassId) (base : Nat) (ks : Nat → ob_K) (n : Nat) (h : ob_H) : va_W := (List.range n).map (fun o => (base + o, ob_cell ct base h o (ks o)))
theorem ob_w_at {ct : Nat → ClassId} {base : Nat} {ks : Nat → ob_K} {n : Nat} {h : ob_H} {o : Nat} (ho : o < n) : (ob_w ct base ks n h)[o]? = some (base + o, ob_cell ct base h o (ks o)) := by
  unfold ob_w
  rw [List.getElem?_map, List.getElem?_range ho]
  rfl
theorem ob_w_lt {ct : Nat → ClassId} {base : Nat} {ks : Nat → ob_K} {n : Nat} {h : ob_H} {k : Nat} {q : Nat × va_E} (hq : (ob_w ct base ks n h)[k]? = some q) : k < n ∧ q = (base + k, ob_cell ct base h k (ks k)) := by
  have hk : k < n := by
    have := (List.getElem?_eq_some_iff.mp hq).1
    simpa [ob_w] using this
  refine ⟨hk, ?_⟩
  rw [ob_w_at hk] at hq
  exact (Option.some.inj hq).symm
theorem ob_w_D {ct : Nat → ClassId} {base : Nat} {ks : Nat → ob_K} {n : Nat} {h : ob_H} : va_D (fun q => base ≤ q) (ob_w ct base ks n h) := by
  refine ⟨fun i j p q hi hj he => ?_, fun k q hk => ?_⟩
  · obtain ⟨-, rfl⟩ := ob_w_lt hi
    obtain ⟨-, rfl⟩ := ob_w_lt hj
    simpa using he
  · obtain ⟨-, rfl⟩ := ob_w_lt hk
    exact Nat.le_add_right _ _
/-- a world with one cell changed is the world of the changed picture -/
theorem ob_w_set {ct : Nat → ClassId} {base : Nat} {ks ks' : Nat → ob_K} {n : Nat} {h h' : ob_H} {o : Nat} {e : va_E} (ho : o < n) (he : e = ob_cell ct base h' o (ks' o)) (hne : ∀ q, q < n → q ≠ o → ob_cell ct base h q (ks q) = ob_cell ct base h' q (ks' q)) :
    (ob_w ct base ks n h).set o (base + o, e) = ob_w ct base ks' n h' := by
  apply List.ext_getElem?
  intro k
  by_cases hk : k < n
  · by_cases hko : k = o
    · subst hko
      rw [List.getElem?_set_self (by simpa [ob_w] using hk), ob_w_at hk, he]
    · rw [List.getElem?_set_ne (Ne.symm hko), ob_w_at hk, ob_w_at hk, hne k hk hko]
  · rw [List.getElem?_eq_none (by simpa [ob_w] using hk), List.getElem?_eq_none (by simpa [ob_w] using hk)]
theorem ob_w_push {ct : Nat → ClassId} {base : Nat} {ks ks' : Nat → ob_K} {n : Nat} {h : ob_H} {e : va_E} (he : e = ob_cell ct base h n (ks' n)) (hne : ∀ q, q < n → ks' q = ks q) :
    ob_w ct base ks n h ++ [(base + n, e)] = ob_w ct base ks' (n + 1) h := by
  unfold ob_w
  rw [List.range_succ, List.map_append, List.map_cons, List.map_nil, he]
  congr 1
  apply List.map_congr_left
  intro q hq
  rw [hne q (List.mem_range.mp hq)]
theorem ob_w_congr {ct : Nat → ClassId} {base : Nat} {ks ks' : Nat → ob_K} {n : Nat} {h h' : ob_H} (hne : ∀ q, q < n → ob_cell ct base h q (ks q) = ob_cell ct base h' q (ks' q)) : ob_w ct base ks n h = ob_w ct base ks' n h' := by
  unfold ob_w
  apply List.map_congr_left
  intro q hq
  rw [hne q (List.mem_range.mp hq)]
-- changes of the picture
def h_i (h : ob_H) (o k : Nat) (v : Int32) : ob_H := (fun o' k' => if o' = o ∧ k' = k then v else h.1 o' k', h.2)
def h_l (h : ob_H) (o k : Nat) (v : Int64) : ob_H := (h.1, fun o' k' => if o' = o ∧ k' = k then v else h.2.1 o' k', h.2.2)
def h_d (h : ob_H) (t : Nat) : ob_H := (h.1, h.2.1, t)
def h_c (h : ob_H) (o0 sp o1 dp n : Nat) : ob_H := (fun o' k' => if o' = o1 then va_cpy (h.1 o0) (h.1 o1) sp dp n k' else h.1 o' k', h.2)
def ku (ks : Nat → ob_K) (o : Nat) (v : ob_K) : Nat → ob_K := fun q => if q = o then v else ks q
theorem ku_s {ks : Nat → ob_K} {o : Nat} {v : ob_K} : ku ks o v o = v := if_pos rfl
theorem ku_n {ks : Nat → ob_K} {o q : Nat} {v : ob_K} (h : q ≠ o) : ku ks o v q = ks q := if_neg h
/-- object o is of the kind kd -/
def ob_is (ks : Nat → ob_K) (n o : Nat) (kd : ob_K) : Prop := o < n ∧ n ≤ 100000 ∧ ks o = kd
theorem ob_cell_h_i {ct : Nat → ClassId} {base : Nat} {h : ob_H} {o q k : Nat} {v : Int32} {kd : ob_K} (hq : q ≠ o) : ob_cell ct base h q kd = ob_cell ct base (h_i h o k v) q kd := by
  have e1 : (h_i h o k v).1 q = h.1 q := by funext z; simp [h_i, hq]
  have e2 : (h_i h o k v).2 = h.2 := rfl
  unfold ob_cell
  split <;> first | (rw [e1]) | (rw [e2]) | rfl | (unfold ob_fs ob_fv; congr 2; apply congrArg (fun f => List.mapIdx f kd.2); funext a c; rw [e1, e2])
theorem ob_cell_h_l {ct : Nat → ClassId} {base : Nat} {h : ob_H} {o q k : Nat} {v : Int64} {kd : ob_K} (hq : q ≠ o) : ob_cell ct base h q kd = ob_cell ct base (h_l h o k v) q kd := by
  have e1 : (h_l h o k v).2.1 q = h.2.1 q := by funext z; simp [h_l, hq]
  have e2 : (h_l h o k v).1 = h.1 := rfl
  have e3 : (h_l h o k v).2.2 = h.2.2 := rfl
  unfold ob_cell
  split <;> first | (rw [e1]) | (rw [e2]) | rfl | (unfold ob_fs ob_fv; congr 2; apply congrArg (fun f => List.mapIdx f kd.2); funext a c; rw [e1, e2, e3])
theorem ob_cell_h_c {ct : Nat → ClassId} {base : Nat} {h : ob_H} {o0 sp o1 dp m q : Nat} {kd : ob_K} (hq : q ≠ o1) : ob_cell ct base h q kd = ob_cell ct base (h_c h o0 sp o1 dp m) q kd := by
  have e1 : (h_c h o0 sp o1 dp m).1 q = h.1 q := by funext z; simp [h_c, hq]
  have e2 : (h_c h o0 sp o1 dp m).2 = h.2 := rfl
  unfold ob_cell
  split <;> first | (rw [e1]) | (rw [e2]) | rfl | (unfold ob_fs ob_fv; congr 2; apply congrArg (fun f => List.mapIdx f kd.2); funext a c; rw [e1, e2])
theorem ob_fs_at {base : Nat} {h : ob_H} {o k c : Nat} {codes : List Nat} (hcd : codes[k]? = some c) : (ob_fs base h o codes)[k]? = some (ob_fv base h o k c) := by
  unfold ob_fs
  rw [List.getElem?_mapIdx, hcd]
  rfl
theorem ob_fs_len {base : Nat} {h : ob_H} {o : Nat} {codes : List Nat} : (ob_fs base h o codes).length = codes.length := by simp [ob_fs]
theorem ob_fs_set {base : Nat} {h h' : ob_H} {o k c : Nat} {codes codes' : List Nat} {v : Value} (hk : k < codes.length) (hcd : codes' = codes.set k c) (hv : v = ob_fv base h' o k c) (hne : ∀ j c', j ≠ k → codes[j]? = some c' → ob_fv base h o j c' = ob_fv base h' o j c') :
    (ob_fs base h o codes).set k v = ob_fs base h' o codes' := by
  apply List.ext_getElem?
  intro j
  unfold ob_fs
  by_cases hj : j = k
  · subst hj
    rw [List.getElem?_set_self (by simpa using hk), List.getElem?_mapIdx, hcd, List.getElem?_set_self hk, hv]
    rfl
  · rw [List.getElem?_set_ne (Ne.symm hj), List.getElem?_mapIdx, List.getElem?_mapIdx, hcd, List.getElem?_set_ne (Ne.symm hj)]
    cases hc : codes[j]? with
    | none => rfl
    | some c' => exact congrArg some (hne j c' hj hc)
-- ===== the classes =====
abbrev obCl : List vw_C := [(RX0, TX0, 8), (RX1, TX1, 7), (RX2, TX2, 14), (RX3, TX3, 4), (RX4, TX4, 3), (RX5, TX5, 12), (RX6, TX6, 8), (RX7, TX7, 4), (RX8, TX8, 7), (RX9, TX9, 15), (RX10, TX10, 8), (RX11, TX11, 12), (RX12, TX12, 76)]
def obWS : List Cond := lw_tbl.filter goodWord
theorem ob_mem {w : Cond} (i : Nat) (h : tables_1[i]? = some w) (g : goodWord w = true) : w ∈ obWS := List.mem_filter.mpr ⟨List.mem_append_right _ (List.mem_of_getElem? h), g⟩
theorem ob_memP {w : Cond} (h : w ∈ k2_sels lw_privs) (g : goodWord w = true) : w ∈ obWS := List.mem_filter.mpr ⟨List.mem_append_left _ h, g⟩
theorem ob_good : ∀ w ∈ obWS, (w.onTables && w.keeps) = true ∨ ∃ ty, w = .arrayClass ty := fun w h => good_of_word (List.mem_filter.mp h).2
def ob_tys (ct : Nat → ClassId) : List (ClassId × FieldType) := [(ct 0, .int), (ct 1, .long), (ct 2, .byte), (ct 3, .boolean), (ct 4, .object "Objections$Room")]
def obTxt : String := "grave minutes waited number heard minute objector stays price late settles brings joined order answer bar draw or and not"
def obByt : List Int32 := [103, 114, 97, 118, 101, 32, 109, 105, 110, 117, 116, 101, 115, 32, 119, 97, 105, 116, 101, 100, 32, 110, 117, 109, 98, 101, 114, 32, 104, 101, 97, 114, 100, 32, 109, 105, 110, 117, 116, 101, 32, 111, 98, 106, 101, 99, 116, 111, 114, 32, 115, 116, 97, 121, 115, 32, 112, 114, 105, 99, 101, 32, 108, 97, 116, 101, 32, 115, 101, 116, 116, 108, 101, 115, 32, 98, 114, 105, 110, 103, 115, 32, 106, 111, 105, 110, 101, 100, 32, 111, 114, 100, 101, 114, 32, 97, 110, 115, 119, 101, 114, 32, 98, 97, 114, 32, 100, 114, 97, 119, 32, 111, 114, 32, 97, 110, 100, 32, 110, 111, 116]
/-- what the constructors' calls need beside the words -/
def ob_Z (base : Nat) (s : State) (H : Heap) : Prop := va_Z "java/lang/String" "COMPACT_STRINGS" "Z" (.int 1) (fun q => base ≤ q) s H ∧ va_Zq "jdk/internal/util/Preconditions" "SIOOBE_FORMATTER" "Ljava/util/function/BiFunction;" (fun q => base ≤ q) s H
def ob_X (base : Nat) (s : State) (H : Heap) : Prop := va_Nw (.methodLinkNest "Objections$Book" 49 yX4_init "Objections") s ∧ va_AO "Objections$Room" s ∧ ob_Z base s H ∧ ∃ a0 v0 : Nat, vk_R "Objections$Tape" 37 obTxt a0 s ∧ vk_S 1 [121] [obByt] (fun _ => a0) (fun _ => v0) (fun q => base ≤ q) s H
def ob_R (D : va_G) (ct : Nat → ClassId) (base : Nat) (ks : Nat → ob_K) (n : Nat) (h : ob_H) (H : Heap) : Prop := va_P D obCl (ob_w ct base ks n h) H ∧ H.size = base + n
abbrev ob_Sc : Type := Option (Nat × (Nat → Int32))
def ob_C (p : Program) (s : State) (m : MethodId) (args : Array Value) (meth : Method) (c : Code) (D : va_G) (ct : Nat → ClassId) (base b : Nat) (own : String) (cc : ByteArray) (nL : Nat) (ini : Bool) (sc : ob_Sc) : Prop :=
  p.tables.exec = Jvm.exec ∧ c.code = cc ∧ c.maxLocals = nL ∧ s.vm.findClass own = some m.cls ∧ (∀ w ∈ obWS, w.before args s = true) ∧ va_K D obCl (ob_tys ct) s ∧ base ≤ s.heap.size ∧ (ini = true → meth.name = "<init>") ∧
  (∀ L xs, sc = some (L, xs) → va_X b L xs s s.heap ∧ b < base) ∧ ob_X base s s.heap
def ob_ri (r : Option Value) : Instr := match r with
  | none => .return_
  | some (.long _) => .lreturn
  | _ => .ireturn
abbrev ob_Q : Type := Option Value → (Nat → ob_K) → Nat → ob_H → Prop
def ob_Ret (p : Program) (l : Launch) (e : Env) (R : Room) (s : State) (m : MethodId) (args : Array Value) (below : List Frame) (meth : Method) (c : Code) (D : va_G) (ct : Nat → ClassId) (base b : Nat) (cc : ByteArray) (Q : ob_Q) (Z : State → Prop) : Prop :=
  ∀ (r : Option Value) (ks : Nat → ob_K) (n : Nat) (h : ob_H), Q r ks n h → ∀ (pc : Nat) (H : Heap) (locs : List Loc) (ls : Array Slot), decode cc pc = .ok (ob_ri r, 1) → ob_R D ct base ks n h H → va_S (fun q => base ≤ q) s.heap H locs →
    W p l e R s m args below meth c H locs R.cells R.slots Z (F0 m pc ls (r.toList.map (ob_rv base b)))
/-- from here, in this method, the run comes to a return with Q -/
def ob_J (own : String) (cc : ByteArray) (nL : Nat) (R : Room) (ini : Bool) (sc : ob_Sc) (ce sl : Nat) (ks : Nat → ob_K) (n : Nat) (h : ob_H) (pc : Nat) (lv : List (Nat × Value)) (st : List Value) (Q : ob_Q) : Prop :=
  ∀ (p : Program) (l : Launch) (e : Env) (s : State) (m : MethodId) (args : Array Value) (below : List Frame) (meth : Method) (c : Code) (D : va_G) (ct : Nat → ClassId) (base b : Nat) (Z : State → Prop),
    ob_C p s m args meth c D ct base b own cc nL ini sc → ob_Ret p l e R s m args below meth c D ct base b cc Q Z →
    ∀ (H : Heap) (locs : List Loc) (ls : Array Slot), ob_R D ct base ks n h H → va_S (fun q => base ≤ q) s.heap H locs → lv_has ls nL (lv.map fun q => (q.1, ob_rv base b q.2)) →
      W p l e R s m args below meth c H locs ce sl Z (F0 m pc ls (st.map (ob_rv base b)))
theorem ob_rv_cat (base b : Nat) (v : Value) : (ob_rv base b v).category = v.category := by cases v <;> rfl
theorem ob_lv_at {base b i k : Nat} {v : Value} {lv : List (Nat × Value)} {ls : Array Slot} {nL : Nat} (hl : lv_has ls nL (lv.map fun q => (q.1, ob_rv base b q.2))) (hk : lv[k]? = some (i, v)) : ls[i]? = some (.val (ob_rv base b v)) :=
  lv_at hl k (by rw [List.getElem?_map, hk]; rfl)
theorem ob_lv_sub {base b : Nat} {lv lv' : List (Nat × Value)} {ls : Array Slot} {nL : Nat} (hl : lv_has ls nL (lv.map fun q => (q.1, ob_rv base b q.2))) (js : List Nat) (hs : lv_pick lv js = lv') : lv_has ls nL (lv'.map fun q => (q.1, ob_rv base b q.2)) := by
  refine ⟨hl.1, hl.2.1, fun q hq => ?_⟩
  obtain ⟨z, hz, rfl⟩ := List.mem_map.mp hq
  rw [← hs] at hz
  obtain ⟨j, -, hj⟩ := List.mem_filterMap.mp hz
  exact ob_lv_at hl hj
/-- what a store leaves of the locals -/
def ob_st1 (i : Nat) (lv : List (Nat × Value)) : List (Nat × Value) := lv.filter (fun q => !(q.1 == i) && !(q.1 + 1 == i && q.2.category == 2))
def ob_st2 (i : Nat) (lv : List (Nat × Value)) : List (Nat × Value) := lv.filter (fun q => !(q.1 == i) && (!(q.1 == i + 1) && !(q.1 + 1 == i && q.2.category == 2)))
theorem ob_st1_map {base b i : Nat} {lv : List (Nat × Value)} : (lv.map fun q => (q.1, ob_rv base b q.2)).filter (fun q => !(q.1 == i) && !(q.1 + 1 == i && q.2.category == 2)) = (ob_st1 i lv).map fun q => (q.1, ob_rv base b q.2) := by
  unfold ob_st1
  rw [List.filter_map]
  congr 1
  apply List.filter_congr
  intro q _
  simp [Function.comp, ob_rv_cat]
theorem ob_st2_map {base b i : Nat} {lv : List (Nat × Value)} : (lv.map fun q => (q.1, ob_rv base b q.2)).filter (fun q => !(q.1 == i) && (!(q.1 == i + 1) && !(q.1 + 1 == i && q.2.category == 2))) = (ob_st2 i lv).map fun q => (q.1, ob_rv base b q.2) := by
  unfold ob_st2
  rw [List.filter_map]
  congr 1
  apply List.filter_congr
  intro q _
  simp [Function.comp, ob_rv_cat]
section JROWS
variable {own : String} {cc : ByteArray} {nL : Nat} {R : Room} {ini : Bool} {sc : ob_Sc} {ce sl : Nat} {ks : Nat → ob_K} {n : Nat} {h : ob_H} {pc : Nat} {lv lv' : List (Nat × Value)} {st : List Value} {Q : ob_Q}
theorem oj_iconst {z : Int} {v : Int32} (hdg : decode cc pc = .ok (.iconst z, 1)) (hv : Int32.ofInt z = v) (k : ob_J own cc nL R ini sc ce sl ks n h (pc + 1) lv (.int v :: st) Q) : ob_J own cc nL R ini sc ce sl ks n h pc lv (st) Q := by
  intro p l e s m args below meth c D ct base b Z C F H locs ls hR hS hl
  exact lv_iconst C.1 C.2.1 hdg hv (k p l e s m args below meth c D ct base b Z C F H locs ls hR hS hl)
theorem oj_bipush {z : Int} {v : Int32} (hdg : decode cc pc = .ok (.bipush z, 2)) (hv : (Int8.ofInt z).toInt32 = v) (k : ob_J own cc nL R ini sc ce sl ks n h (pc + 2) lv (.int v :: st) Q) : ob_J own cc nL R ini sc ce sl ks n h pc lv (st) Q := by
  intro p l e s m args below meth c D ct base b Z C F H locs ls hR hS hl
  exact lv_bipush C.1 C.2.1 hdg hv (k p l e s m args below meth c D ct base b Z C F H locs ls hR hS hl)
theorem oj_sipush {z : Int} {v : Int32} (hdg : decode cc pc = .ok (.sipush z, 3)) (hv : (Int16.ofInt z).toInt32 = v) (k : ob_J own cc nL R ini sc ce sl ks n h (pc + 3) lv (.int v :: st) Q) : ob_J own cc nL R ini sc ce sl ks n h pc lv (st) Q := by
  intro p l e s m args below meth c D ct base b Z C F H locs ls hR hS hl
  exact lv_sipush C.1 C.2.1 hdg hv (k p l e s m args below meth c D ct base b Z C F H locs ls hR hS hl)
theorem oj_lconst {z : Fin 2} {v : Int64} (hdg : decode cc pc = .ok (.lconst z, 1)) (hv : Int64.ofNat (z : Nat) = v) (k : ob_J own cc nL R ini sc ce sl ks n h (pc + 1) lv (.long v :: st) Q) : ob_J own cc nL R ini sc ce sl ks n h pc lv (st) Q := by
  intro p l e s m args below meth c D ct base b Z C F H locs ls hR hS hl
  exact lv_lconst C.1 C.2.1 hdg hv (k p l e s m args below meth c D ct base b Z C F H locs ls hR hS hl)
theorem oj_iload_n {z : Fin 4} {i : Nat} {x : Int32} (j : Nat) (hdg : decode cc pc = .ok (.iload_n z, 1)) (hi : (z : Nat) = i) (hk : lv[j]? = some (i, .int x)) (k : ob_J own cc nL R ini sc ce sl ks n h (pc + 1) lv (.int x :: st) Q) : ob_J own cc nL R ini sc ce sl ks n h pc lv (st) Q := by
  intro p l e s m args below meth c D ct base b Z C F H locs ls hR hS hl
  exact lv_iload_n C.1 C.2.1 hdg hi (ob_lv_at hl hk) (k p l e s m args below meth c D ct base b Z C F H locs ls hR hS hl)
theorem oj_iload {i : Nat} {x : Int32} (j : Nat) (hdg : decode cc pc = .ok (.iload i, 2)) (hk : lv[j]? = some (i, .int x)) (k : ob_J own cc nL R ini sc ce sl ks n h (pc + 2) lv (.int x :: st) Q) : ob_J own cc nL R ini sc ce sl ks n h pc lv (st) Q := by
  intro p l e s m args below meth c D ct base b Z C F H locs ls hR hS hl
  exact lv_iload C.1 C.2.1 hdg (ob_lv_at hl hk) (k p l e s m args below meth c D ct base b Z C F H locs ls hR hS hl)
theorem oj_istore_n {z : Fin 4} {i : Nat} {x : Int32} (hdg : decode cc pc = .ok (.istore_n z, 1)) (hi : (z : Nat) = i) (hn : i < nL) (hv : (i, Value.int x) :: ob_st1 i lv = lv') (k : ob_J own cc nL R ini sc ce sl ks n h (pc + 1) lv' st Q) : ob_J own cc nL R ini sc ce sl ks n h pc lv (.int x :: st) Q := by
  intro p l e s m args below meth c D ct base b Z C F H locs ls hR hS hl
  exact lv_istore_n C.1 C.2.1 hdg hi hl hn rfl (fun ls' hl' => k p l e s m args below meth c D ct base b Z C F H locs ls' hR hS (by rw [ob_st1_map] at hl'; rw [← hv]; exact hl'))
theorem oj_istore {i : Nat} {x : Int32} (hdg : decode cc pc = .ok (.istore i, 2)) (hn : i < nL) (hv : (i, Value.int x) :: ob_st1 i lv = lv') (k : ob_J own cc nL R ini sc ce sl ks n h (pc + 2) lv' st Q) : ob_J own cc nL R ini sc ce sl ks n h pc lv (.int x :: st) Q := by
  intro p l e s m args below meth c D ct base b Z C F H locs ls hR hS hl
  exact lv_istore C.1 C.2.1 hdg hl hn rfl (fun ls' hl' => k p l e s m args below meth c D ct base b Z C F H locs ls' hR hS (by rw [ob_st1_map] at hl'; rw [← hv]; exact hl'))
theorem oj_lload_n {z : Fin 4} {i : Nat} {x : Int64} (j : Nat) (hdg : decode cc pc = .ok (.lload_n z, 1)) (hi : (z : Nat) = i) (hk : lv[j]? = some (i, .long x)) (k : ob_J own cc nL R ini sc ce sl ks n h (pc + 1) lv (.long x :: st) Q) : ob_J own cc nL R ini sc ce sl ks n h pc lv (st) Q := by
  intro p l e s m args below meth c D ct base b Z C F H locs ls hR hS hl
  exact lv_lload_n C.1 C.2.1 hdg hi (ob_lv_at hl hk) (k p l e s m args below meth c D ct base b Z C F H locs ls hR hS hl)
theorem oj_lload {i : Nat} {x : Int64} (j : Nat) (hdg : decode cc pc = .ok (.lload i, 2)) (hk : lv[j]? = some (i, .long x)) (k : ob_J own cc nL R ini sc ce sl ks n h (pc + 2) lv (.long x :: st) Q) : ob_J own cc nL R ini sc ce sl ks n h pc lv (st) Q := by
  intro p l e s m args below meth c D ct base b Z C F H locs ls hR hS hl
  exact lv_lload C.1 C.2.1 hdg (ob_lv_at hl hk) (k p l e s m args below meth c D ct base b Z C F H locs ls hR hS hl)
theorem oj_lstore_n {z : Fin 4} {i : Nat} {x : Int64} (hdg : decode cc pc = .ok (.lstore_n z, 1)) (hi : (z : Nat) = i) (hn : i + 1 < nL) (hv : (i, Value.long x) :: ob_st2 i lv = lv') (k : ob_J own cc nL R ini sc ce sl ks n h (pc + 1) lv' st Q) : ob_J own cc nL R ini sc ce sl ks n h pc lv (.long x :: st) Q := by
  intro p l e s m args below meth c D ct base b Z C F H locs ls hR hS hl
  exact lv_lstore_n C.1 C.2.1 hdg hi hl hn rfl (fun ls' hl' => k p l e s m args below meth c D ct base b Z C F H locs ls' hR hS (by rw [ob_st2_map] at hl'; rw [← hv]; exact hl'))
theorem oj_lstore {i : Nat} {x : Int64} (hdg : decode cc pc = .ok (.lstore i, 2)) (hn : i + 1 < nL) (hv : (i, Value.long x) :: ob_st2 i lv = lv') (k : ob_J own cc nL R ini sc ce sl ks n h (pc + 2) lv' st Q) : ob_J own cc nL R ini sc ce sl ks n h pc lv (.long x :: st) Q := by
  intro p l e s m args below meth c D ct base b Z C F H locs ls hR hS hl
  exact lv_lstore C.1 C.2.1 hdg hl hn rfl (fun ls' hl' => k p l e s m args below meth c D ct base b Z C F H locs ls' hR hS (by rw [ob_st2_map] at hl'; rw [← hv]; exact hl'))
theorem oj_aload_n {z : Fin 4} {i : Nat} {x : Nat} (j : Nat) (hdg : decode cc pc = .ok (.aload_n z, 1)) (hi : (z : Nat) = i) (hk : lv[j]? = some (i, .ref x)) (k : ob_J own cc nL R ini sc ce sl ks n h (pc + 1) lv (.ref x :: st) Q) : ob_J own cc nL R ini sc ce sl ks n h pc lv (st) Q := by
  intro p l e s m args below meth c D ct base b Z C F H locs ls hR hS hl
  exact lv_aload_n C.1 C.2.1 hdg hi (ob_lv_at hl hk) (k p l e s m args below meth c D ct base b Z C F H locs ls hR hS hl)
theorem oj_aload {i : Nat} {x : Nat} (j : Nat) (hdg : decode cc pc = .ok (.aload i, 2)) (hk : lv[j]? = some (i, .ref x)) (k : ob_J own cc nL R ini sc ce sl ks n h (pc + 2) lv (.ref x :: st) Q) : ob_J own cc nL R ini sc ce sl ks n h pc lv (st) Q := by
  intro p l e s m args below meth c D ct base b Z C F H locs ls hR hS hl
  exact lv_aload C.1 C.2.1 hdg (ob_lv_at hl hk) (k p l e s m args below meth c D ct base b Z C F H locs ls hR hS hl)
theorem oj_astore_n {z : Fin 4} {i : Nat} {x : Nat} (hdg : decode cc pc = .ok (.astore_n z, 1)) (hi : (z : Nat) = i) (hn : i < nL) (hv : (i, Value.ref x) :: ob_st1 i lv = lv') (k : ob_J own cc nL R ini sc ce sl ks n h (pc + 1) lv' st Q) : ob_J own cc nL R ini sc ce sl ks n h pc lv (.ref x :: st) Q := by
  intro p l e s m args below meth c D ct base b Z C F H locs ls hR hS hl
  exact lv_astore_n C.1 C.2.1 hdg hi hl hn rfl (fun ls' hl' => k p l e s m args below meth c D ct base b Z C F H locs ls' hR hS (by rw [ob_st1_map] at hl'; rw [← hv]; exact hl'))
theorem oj_astore {i : Nat} {x : Nat} (hdg : decode cc pc = .ok (.astore i, 2)) (hn : i < nL) (hv : (i, Value.ref x) :: ob_st1 i lv = lv') (k : ob_J own cc nL R ini sc ce sl ks n h (pc + 2) lv' st Q) : ob_J own cc nL R ini sc ce sl ks n h pc lv (.ref x :: st) Q := by
  intro p l e s m args below meth c D ct base b Z C F H locs ls hR hS hl
  exact lv_astore C.1 C.2.1 hdg hl hn rfl (fun ls' hl' => k p l e s m args below meth c D ct base b Z C F H locs ls' hR hS (by rw [ob_st1_map] at hl'; rw [← hv]; exact hl'))
theorem oj_iinc {i : Nat} {z : Int} {x v : Int32} (j : Nat) (hdg : decode cc pc = .ok (.iinc i z, 3)) (hk : lv[j]? = some (i, .int x)) (hz : x + Int32.ofInt z = v) (hn : i < nL) (hv : (i, Value.int v) :: ob_st1 i lv = lv') (k : ob_J own cc nL R ini sc ce sl ks n h (pc + 3) lv' st Q) : ob_J own cc nL R ini sc ce sl ks n h pc lv st Q := by
  intro p l e s m args below meth c D ct base b Z C F H locs ls hR hS hl
  exact lv_iinc C.1 C.2.1 hdg hl (k := j) (x := x) (by rw [List.getElem?_map, hk]; rfl) hz hn rfl (fun ls' hl' => k p l e s m args below meth c D ct base b Z C F H locs ls' hR hS (by rw [ob_st1_map] at hl'; rw [← hv]; exact hl'))
theorem oj_iadd {x y : Int32} (hdg : decode cc pc = .ok (.iadd, 1)) (k : ob_J own cc nL R ini sc ce sl ks n h (pc + 1) lv (.int (x + y) :: st) Q) : ob_J own cc nL R ini sc ce sl ks n h pc lv (.int y :: .int x :: st) Q := by
  intro p l e s m args below meth c D ct base b Z C F H locs ls hR hS hl
  exact lv_iadd C.1 C.2.1 hdg  (k p l e s m args below meth c D ct base b Z C F H locs ls hR hS hl)
theorem oj_isub {x y : Int32} (hdg : decode cc pc = .ok (.isub, 1)) (k : ob_J own cc nL R ini sc ce sl ks n h (pc + 1) lv (.int (x - y) :: st) Q) : ob_J own cc nL R ini sc ce sl ks n h pc lv (.int y :: .int x :: st) Q := by
  intro p l e s m args below meth c D ct base b Z C F H locs ls hR hS hl
  exact lv_isub C.1 C.2.1 hdg  (k p l e s m args below meth c D ct base b Z C F H locs ls hR hS hl)
theorem oj_imul {x y : Int32} (hdg : decode cc pc = .ok (.imul, 1)) (k : ob_J own cc nL R ini sc ce sl ks n h (pc + 1) lv (.int (x * y) :: st) Q) : ob_J own cc nL R ini sc ce sl ks n h pc lv (.int y :: .int x :: st) Q := by
  intro p l e s m args below meth c D ct base b Z C F H locs ls hR hS hl
  exact lv_imul C.1 C.2.1 hdg  (k p l e s m args below meth c D ct base b Z C F H locs ls hR hS hl)
theorem oj_iand {x y : Int32} (hdg : decode cc pc = .ok (.iand, 1)) (k : ob_J own cc nL R ini sc ce sl ks n h (pc + 1) lv (.int (x &&& y) :: st) Q) : ob_J own cc nL R ini sc ce sl ks n h pc lv (.int y :: .int x :: st) Q := by
  intro p l e s m args below meth c D ct base b Z C F H locs ls hR hS hl
  exact lv_iand C.1 C.2.1 hdg  (k p l e s m args below meth c D ct base b Z C F H locs ls hR hS hl)
theorem oj_ior {x y : Int32} (hdg : decode cc pc = .ok (.ior, 1)) (k : ob_J own cc nL R ini sc ce sl ks n h (pc + 1) lv (.int (x ||| y) :: st) Q) : ob_J own cc nL R ini sc ce sl ks n h pc lv (.int y :: .int x :: st) Q := by
  intro p l e s m args below meth c D ct base b Z C F H locs ls hR hS hl
  exact lv_ior C.1 C.2.1 hdg  (k p l e s m args below meth c D ct base b Z C F H locs ls hR hS hl)
theorem oj_ixor {x y : Int32} (hdg : decode cc pc = .ok (.ixor, 1)) (k : ob_J own cc nL R ini sc ce sl ks n h (pc + 1) lv (.int (x ^^^ y) :: st) Q) : ob_J own cc nL R ini sc ce sl ks n h pc lv (.int y :: .int x :: st) Q := by
  intro p l e s m args below meth c D ct base b Z C F H locs ls hR hS hl
  exact lv_ixor C.1 C.2.1 hdg  (k p l e s m args below meth c D ct base b Z C F H locs ls hR hS hl)
theorem oj_ishl {x y : Int32} (hdg : decode cc pc = .ok (.ishl, 1)) (k : ob_J own cc nL R ini sc ce sl ks n h (pc + 1) lv (.int (x <<< (y &&& 31)) :: st) Q) : ob_J own cc nL R ini sc ce sl ks n h pc lv (.int y :: .int x :: st) Q := by
  intro p l e s m args below meth c D ct base b Z C F H locs ls hR hS hl
  exact lv_ishl C.1 C.2.1 hdg  (k p l e s m args below meth c D ct base b Z C F H locs ls hR hS hl)
theorem oj_ishr {x y : Int32} (hdg : decode cc pc = .ok (.ishr, 1)) (k : ob_J own cc nL R ini sc ce sl ks n h (pc + 1) lv (.int (x >>> (y &&& 31)) :: st) Q) : ob_J own cc nL R ini sc ce sl ks n h pc lv (.int y :: .int x :: st) Q := by
  intro p l e s m args below meth c D ct base b Z C F H locs ls hR hS hl
  exact lv_ishr C.1 C.2.1 hdg  (k p l e s m args below meth c D ct base b Z C F H locs ls hR hS hl)
theorem oj_iushr {x y v : Int32} (hdg : decode cc pc = .ok (.iushr, 1)) (hv : (x.toUInt32 >>> (y.toUInt32 &&& Int32.toUInt32 31)).toInt32 = v) (k : ob_J own cc nL R ini sc ce sl ks n h (pc + 1) lv (.int v :: st) Q) : ob_J own cc nL R ini sc ce sl ks n h pc lv (.int y :: .int x :: st) Q := by
  intro p l e s m args below meth c D ct base b Z C F H locs ls hR hS hl
  exact lv_iushr C.1 C.2.1 hdg hv (k p l e s m args below meth c D ct base b Z C F H locs ls hR hS hl)
theorem oj_idiv {x y : Int32} (hdg : decode cc pc = .ok (.idiv, 1)) (hne : ¬ y = 0) (k : ob_J own cc nL R ini sc ce sl ks n h (pc + 1) lv (.int (x / y) :: st) Q) : ob_J own cc nL R ini sc ce sl ks n h pc lv (.int y :: .int x :: st) Q := by
  intro p l e s m args below meth c D ct base b Z C F H locs ls hR hS hl
  exact lv_idiv C.1 C.2.1 hdg hne (k p l e s m args below meth c D ct base b Z C F H locs ls hR hS hl)
theorem oj_irem {x y : Int32} (hdg : decode cc pc = .ok (.irem, 1)) (hne : ¬ y = 0) (k : ob_J own cc nL R ini sc ce sl ks n h (pc + 1) lv (.int (x - x / y * y) :: st) Q) : ob_J own cc nL R ini sc ce sl ks n h pc lv (.int y :: .int x :: st) Q := by
  intro p l e s m args below meth c D ct base b Z C F H locs ls hR hS hl
  exact lv_irem C.1 C.2.1 hdg hne (k p l e s m args below meth c D ct base b Z C F H locs ls hR hS hl)
theorem oj_ineg {x : Int32} (hdg : decode cc pc = .ok (.ineg, 1)) (k : ob_J own cc nL R ini sc ce sl ks n h (pc + 1) lv (.int (-x) :: st) Q) : ob_J own cc nL R ini sc ce sl ks n h pc lv (.int x :: st) Q := by
  intro p l e s m args below meth c D ct base b Z C F H locs ls hR hS hl
  exact lv_ineg C.1 C.2.1 hdg  (k p l e s m args below meth c D ct base b Z C F H locs ls hR hS hl)
theorem oj_ladd {x y : Int64} (hdg : decode cc pc = .ok (.ladd, 1)) (k : ob_J own cc nL R ini sc ce sl ks n h (pc + 1) lv (.long (x + y) :: st) Q) : ob_J own cc nL R ini sc ce sl ks n h pc lv (.long y :: .long x :: st) Q := by
  intro p l e s m args below meth c D ct base b Z C F H locs ls hR hS hl
  exact lv_ladd C.1 C.2.1 hdg  (k p l e s m args below meth c D ct base b Z C F H locs ls hR hS hl)
theorem oj_lsub {x y : Int64} (hdg : decode cc pc = .ok (.lsub, 1)) (k : ob_J own cc nL R ini sc ce sl ks n h (pc + 1) lv (.long (x - y) :: st) Q) : ob_J own cc nL R ini sc ce sl ks n h pc lv (.long y :: .long x :: st) Q := by
  intro p l e s m args below meth c D ct base b Z C F H locs ls hR hS hl
  exact lv_lsub C.1 C.2.1 hdg  (k p l e s m args below meth c D ct base b Z C F H locs ls hR hS hl)
theorem oj_lmul {x y : Int64} (hdg : decode cc pc = .ok (.lmul, 1)) (k : ob_J own cc nL R ini sc ce sl ks n h (pc + 1) lv (.long (x * y) :: st) Q) : ob_J own cc nL R ini sc ce sl ks n h pc lv (.long y :: .long x :: st) Q := by
  intro p l e s m args below meth c D ct base b Z C F H locs ls hR hS hl
  exact lv_lmul C.1 C.2.1 hdg  (k p l e s m args below meth c D ct base b Z C F H locs ls hR hS hl)
theorem oj_lor {x y : Int64} (hdg : decode cc pc = .ok (.lor, 1)) (k : ob_J own cc nL R ini sc ce sl ks n h (pc + 1) lv (.long (x ||| y) :: st) Q) : ob_J own cc nL R ini sc ce sl ks n h pc lv (.long y :: .long x :: st) Q := by
  intro p l e s m args below meth c D ct base b Z C F H locs ls hR hS hl
  exact lv_lor C.1 C.2.1 hdg  (k p l e s m args below meth c D ct base b Z C F H locs ls hR hS hl)
theorem oj_i2l {x : Int32} (hdg : decode cc pc = .ok (.i2l, 1)) (k : ob_J own cc nL R ini sc ce sl ks n h (pc + 1) lv (.long x.toInt64 :: st) Q) : ob_J own cc nL R ini sc ce sl ks n h pc lv (.int x :: st) Q := by
  intro p l e s m args below meth c D ct base b Z C F H locs ls hR hS hl
  exact lv_i2l C.1 C.2.1 hdg rfl (k p l e s m args below meth c D ct base b Z C F H locs ls hR hS hl)
theorem oj_i2b {x : Int32} (hdg : decode cc pc = .ok (.i2b, 1)) (k : ob_J own cc nL R ini sc ce sl ks n h (pc + 1) lv (.int x.toInt8.toInt32 :: st) Q) : ob_J own cc nL R ini sc ce sl ks n h pc lv (.int x :: st) Q := by
  intro p l e s m args below meth c D ct base b Z C F H locs ls hR hS hl
  exact lv_i2b C.1 C.2.1 hdg rfl (k p l e s m args below meth c D ct base b Z C F H locs ls hR hS hl)
theorem oj_lshl {x : Int64} {y : Int32} (hdg : decode cc pc = .ok (.lshl, 1)) (k : ob_J own cc nL R ini sc ce sl ks n h (pc + 1) lv (.long (x <<< (y.toInt64 &&& 63)) :: st) Q) : ob_J own cc nL R ini sc ce sl ks n h pc lv (.int y :: .long x :: st) Q := by
  intro p l e s m args below meth c D ct base b Z C F H locs ls hR hS hl
  exact lv_lshl C.1 C.2.1 hdg rfl (k p l e s m args below meth c D ct base b Z C F H locs ls hR hS hl)
theorem oj_dup {a : Value} (hdg : decode cc pc = .ok (.dup, 1)) (hc : a.category = 1) (k : ob_J own cc nL R ini sc ce sl ks n h (pc + 1) lv (a :: a :: st) Q) : ob_J own cc nL R ini sc ce sl ks n h pc lv (a :: st) Q := by
  intro p l e s m args below meth c D ct base b Z C F H locs ls hR hS hl
  exact lv_dup C.1 C.2.1 hdg ((ob_rv_cat base b a).trans hc) (k p l e s m args below meth c D ct base b Z C F H locs ls hR hS hl)
theorem oj_pop {a : Value} (hdg : decode cc pc = .ok (.pop, 1)) (hc : a.category = 1) (k : ob_J own cc nL R ini sc ce sl ks n h (pc + 1) lv (st) Q) : ob_J own cc nL R ini sc ce sl ks n h pc lv (a :: st) Q := by
  intro p l e s m args below meth c D ct base b Z C F H locs ls hR hS hl
  exact lv_pop C.1 C.2.1 hdg ((ob_rv_cat base b a).trans hc) (k p l e s m args below meth c D ct base b Z C F H locs ls hR hS hl)
theorem oj_dup_x1 {a a2 : Value} (hdg : decode cc pc = .ok (.dup_x1, 1)) (hc : a.category = 1) (hc2 : a2.category = 1) (k : ob_J own cc nL R ini sc ce sl ks n h (pc + 1) lv (a :: a2 :: a :: st) Q) : ob_J own cc nL R ini sc ce sl ks n h pc lv (a :: a2 :: st) Q := by
  intro p l e s m args below meth c D ct base b Z C F H locs ls hR hS hl
  exact lv_dup_x1 C.1 C.2.1 hdg ((ob_rv_cat base b a).trans hc) ((ob_rv_cat base b a2).trans hc2) (k p l e s m args below meth c D ct base b Z C F H locs ls hR hS hl)
theorem oj_dup_x2 {a a2 a3 : Value} (hdg : decode cc pc = .ok (.dup_x2, 1)) (hc : a.category = 1) (hc2 : a2.category = 1) (hc3 : a3.category = 1) (k : ob_J own cc nL R ini sc ce sl ks n h (pc + 1) lv (a :: a2 :: a3 :: a :: st) Q) : ob_J own cc nL R ini sc ce sl ks n h pc lv (a :: a2 :: a3 :: st) Q := by
  intro p l e s m args below meth c D ct base b Z C F H locs ls hR hS hl
  exact lv_dup_x2 C.1 C.2.1 hdg ((ob_rv_cat base b a).trans hc) ((ob_rv_cat base b a2).trans hc2) ((ob_rv_cat base b a3).trans hc3) (k p l e s m args below meth c D ct base b Z C F H locs ls hR hS hl)
theorem oj_dup2 {a a2 : Value} (hdg : decode cc pc = .ok (.dup2, 1)) (hc : a.category = 1) (hc2 : a2.category = 1) (k : ob_J own cc nL R ini sc ce sl ks n h (pc + 1) lv (a :: a2 :: a :: a2 :: st) Q) : ob_J own cc nL R ini sc ce sl ks n h pc lv (a :: a2 :: st) Q := by
  intro p l e s m args below meth c D ct base b Z C F H locs ls hR hS hl
  exact lv_dup2_11 C.1 C.2.1 hdg ((ob_rv_cat base b a).trans hc) ((ob_rv_cat base b a2).trans hc2) (k p l e s m args below meth c D ct base b Z C F H locs ls hR hS hl)
theorem oj_if_eq {x : Int32} {off : Int} (tgt : Nat) (hdg : decode cc pc = .ok (.ifCond .eq off, 3)) (ht : (pc : Int) + off = (tgt : Int)) (kt : x = 0 → ob_J own cc nL R ini sc ce sl ks n h tgt lv st Q) (kf : ¬ x = 0 → ob_J own cc nL R ini sc ce sl ks n h (pc + 3) lv st Q) : ob_J own cc nL R ini sc ce sl ks n h pc lv (.int x :: st) Q := by
  intro p l e s m args below meth c D ct base b Z C F H locs ls hR hS hl
  exact lv_if_eq C.1 C.2.1 hdg ht (fun q => kt q p l e s m args below meth c D ct base b Z C F H locs ls hR hS hl) (fun q => kf q p l e s m args below meth c D ct base b Z C F H locs ls hR hS hl)
theorem oj_icmp_eq {x y : Int32} {off : Int} (tgt : Nat) (hdg : decode cc pc = .ok (.if_icmp .eq off, 3)) (ht : (pc : Int) + off = (tgt : Int)) (kt : x = y → ob_J own cc nL R ini sc ce sl ks n h tgt lv st Q) (kf : ¬ x = y → ob_J own cc nL R ini sc ce sl ks n h (pc + 3) lv st Q) : ob_J own cc nL R ini sc ce sl ks n h pc lv (.int y :: .int x :: st) Q := by
  intro p l e s m args below meth c D ct base b Z C F H locs ls hR hS hl
  exact lv_icmp_eq C.1 C.2.1 hdg ht (fun q => kt q p l e s m args below meth c D ct base b Z C F H locs ls hR hS hl) (fun q => kf q p l e s m args below meth c D ct base b Z C F H locs ls hR hS hl)
theorem oj_if_ne {x : Int32} {off : Int} (tgt : Nat) (hdg : decode cc pc = .ok (.ifCond .ne off, 3)) (ht : (pc : Int) + off = (tgt : Int)) (kt : ¬ x = 0 → ob_J own cc nL R ini sc ce sl ks n h tgt lv st Q) (kf : x = 0 → ob_J own cc nL R ini sc ce sl ks n h (pc + 3) lv st Q) : ob_J own cc nL R ini sc ce sl ks n h pc lv (.int x :: st) Q := by
  intro p l e s m args below meth c D ct base b Z C F H locs ls hR hS hl
  exact lv_if_ne C.1 C.2.1 hdg ht (fun q => kt q p l e s m args below meth c D ct base b Z C F H locs ls hR hS hl) (fun q => kf q p l e s m args below meth c D ct base b Z C F H locs ls hR hS hl)
theorem oj_icmp_ne {x y : Int32} {off : Int} (tgt : Nat) (hdg : decode cc pc = .ok (.if_icmp .ne off, 3)) (ht : (pc : Int) + off = (tgt : Int)) (kt : ¬ x = y → ob_J own cc nL R ini sc ce sl ks n h tgt lv st Q) (kf : x = y → ob_J own cc nL R ini sc ce sl ks n h (pc + 3) lv st Q) : ob_J own cc nL R ini sc ce sl ks n h pc lv (.int y :: .int x :: st) Q := by
  intro p l e s m args below meth c D ct base b Z C F H locs ls hR hS hl
  exact lv_icmp_ne C.1 C.2.1 hdg ht (fun q => kt q p l e s m args below meth c D ct base b Z C F H locs ls hR hS hl) (fun q => kf q p l e s m args below meth c D ct base b Z C F H locs ls hR hS hl)
theorem oj_if_lt {x : Int32} {off : Int} (tgt : Nat) (hdg : decode cc pc = .ok (.ifCond .lt off, 3)) (ht : (pc : Int) + off = (tgt : Int)) (kt : x < 0 → ob_J own cc nL R ini sc ce sl ks n h tgt lv st Q) (kf : ¬ x < 0 → ob_J own cc nL R ini sc ce sl ks n h (pc + 3) lv st Q) : ob_J own cc nL R ini sc ce sl ks n h pc lv (.int x :: st) Q := by
  intro p l e s m args below meth c D ct base b Z C F H locs ls hR hS hl
  exact lv_if_lt C.1 C.2.1 hdg ht (fun q => kt q p l e s m args below meth c D ct base b Z C F H locs ls hR hS hl) (fun q => kf q p l e s m args below meth c D ct base b Z C F H locs ls hR hS hl)
theorem oj_icmp_lt {x y : Int32} {off : Int} (tgt : Nat) (hdg : decode cc pc = .ok (.if_icmp .lt off, 3)) (ht : (pc : Int) + off = (tgt : Int)) (kt : x < y → ob_J own cc nL R ini sc ce sl ks n h tgt lv st Q) (kf : ¬ x < y → ob_J own cc nL R ini sc ce sl ks n h (pc + 3) lv st Q) : ob_J own cc nL R ini sc ce sl ks n h pc lv (.int y :: .int x :: st) Q := by
  intro p l e s m args below meth c D ct base b Z C F H locs ls hR hS hl
  exact lv_icmp_lt C.1 C.2.1 hdg ht (fun q => kt q p l e s m args below meth c D ct base b Z C F H locs ls hR hS hl) (fun q => kf q p l e s m args below meth c D ct base b Z C F H locs ls hR hS hl)
theorem oj_if_ge {x : Int32} {off : Int} (tgt : Nat) (hdg : decode cc pc = .ok (.ifCond .ge off, 3)) (ht : (pc : Int) + off = (tgt : Int)) (kt : 0 ≤ x → ob_J own cc nL R ini sc ce sl ks n h tgt lv st Q) (kf : ¬ 0 ≤ x → ob_J own cc nL R ini sc ce sl ks n h (pc + 3) lv st Q) : ob_J own cc nL R ini sc ce sl ks n h pc lv (.int x :: st) Q := by
  intro p l e s m args below meth c D ct base b Z C F H locs ls hR hS hl
  exact lv_if_ge C.1 C.2.1 hdg ht (fun q => kt q p l e s m args below meth c D ct base b Z C F H locs ls hR hS hl) (fun q => kf q p l e s m args below meth c D ct base b Z C F H locs ls hR hS hl)
theorem oj_icmp_ge {x y : Int32} {off : Int} (tgt : Nat) (hdg : decode cc pc = .ok (.if_icmp .ge off, 3)) (ht : (pc : Int) + off = (tgt : Int)) (kt : y ≤ x → ob_J own cc nL R ini sc ce sl ks n h tgt lv st Q) (kf : ¬ y ≤ x → ob_J own cc nL R ini sc ce sl ks n h (pc + 3) lv st Q) : ob_J own cc nL R ini sc ce sl ks n h pc lv (.int y :: .int x :: st) Q := by
  intro p l e s m args below meth c D ct base b Z C F H locs ls hR hS hl
  exact lv_icmp_ge C.1 C.2.1 hdg ht (fun q => kt q p l e s m args below meth c D ct base b Z C F H locs ls hR hS hl) (fun q => kf q p l e s m args below meth c D ct base b Z C F H locs ls hR hS hl)
theorem oj_if_gt {x : Int32} {off : Int} (tgt : Nat) (hdg : decode cc pc = .ok (.ifCond .gt off, 3)) (ht : (pc : Int) + off = (tgt : Int)) (kt : 0 < x → ob_J own cc nL R ini sc ce sl ks n h tgt lv st Q) (kf : ¬ 0 < x → ob_J own cc nL R ini sc ce sl ks n h (pc + 3) lv st Q) : ob_J own cc nL R ini sc ce sl ks n h pc lv (.int x :: st) Q := by
  intro p l e s m args below meth c D ct base b Z C F H locs ls hR hS hl
  exact lv_if_gt C.1 C.2.1 hdg ht (fun q => kt q p l e s m args below meth c D ct base b Z C F H locs ls hR hS hl) (fun q => kf q p l e s m args below meth c D ct base b Z C F H locs ls hR hS hl)
theorem oj_icmp_gt {x y : Int32} {off : Int} (tgt : Nat) (hdg : decode cc pc = .ok (.if_icmp .gt off, 3)) (ht : (pc : Int) + off = (tgt : Int)) (kt : y < x → ob_J own cc nL R ini sc ce sl ks n h tgt lv st Q) (kf : ¬ y < x → ob_J own cc nL R ini sc ce sl ks n h (pc + 3) lv st Q) : ob_J own cc nL R ini sc ce sl ks n h pc lv (.int y :: .int x :: st) Q := by
  intro p l e s m args below meth c D ct base b Z C F H locs ls hR hS hl
  exact lv_icmp_gt C.1 C.2.1 hdg ht (fun q => kt q p l e s m args below meth c D ct base b Z C F H locs ls hR hS hl) (fun q => kf q p l e s m args below meth c D ct base b Z C F H locs ls hR hS hl)
theorem oj_if_le {x : Int32} {off : Int} (tgt : Nat) (hdg : decode cc pc = .ok (.ifCond .le off, 3)) (ht : (pc : Int) + off = (tgt : Int)) (kt : x ≤ 0 → ob_J own cc nL R ini sc ce sl ks n h tgt lv st Q) (kf : ¬ x ≤ 0 → ob_J own cc nL R ini sc ce sl ks n h (pc + 3) lv st Q) : ob_J own cc nL R ini sc ce sl ks n h pc lv (.int x :: st) Q := by
  intro p l e s m args below meth c D ct base b Z C F H locs ls hR hS hl
  exact lv_if_le C.1 C.2.1 hdg ht (fun q => kt q p l e s m args below meth c D ct base b Z C F H locs ls hR hS hl) (fun q => kf q p l e s m args below meth c D ct base b Z C F H locs ls hR hS hl)
theorem oj_icmp_le {x y : Int32} {off : Int} (tgt : Nat) (hdg : decode cc pc = .ok (.if_icmp .le off, 3)) (ht : (pc : Int) + off = (tgt : Int)) (kt : x ≤ y → ob_J own cc nL R ini sc ce sl ks n h tgt lv st Q) (kf : ¬ x ≤ y → ob_J own cc nL R ini sc ce sl ks n h (pc + 3) lv st Q) : ob_J own cc nL R ini sc ce sl ks n h pc lv (.int y :: .int x :: st) Q := by
  intro p l e s m args below meth c D ct base b Z C F H locs ls hR hS hl
  exact lv_icmp_le C.1 C.2.1 hdg ht (fun q => kt q p l e s m args below meth c D ct base b Z C F H locs ls hR hS hl) (fun q => kf q p l e s m args below meth c D ct base b Z C F H locs ls hR hS hl)
theorem oj_goto {off : Int} (tgt : Nat) (hdg : decode cc pc = .ok (.goto off, 3)) (ht : (pc : Int) + off = (tgt : Int)) (k : ob_J own cc nL R ini sc ce sl ks n h tgt lv st Q) : ob_J own cc nL R ini sc ce sl ks n h pc lv st Q := by
  intro p l e s m args below meth c D ct base b Z C F H locs ls hR hS hl
  exact lv_goto C.1 C.2.1 hdg ht (k p l e s m args below meth c D ct base b Z C F H locs ls hR hS hl)
theorem oj_tableOut {dflt lo hi : Int} {offs : Array Int} {len : Nat} {x : Int32} (tgt : Nat) (hdg : decode cc pc = .ok (.tableswitch dflt lo hi offs, len)) (hx : x.toInt < lo ∨ hi < x.toInt) (ht : (pc : Int) + dflt = (tgt : Int)) (k : ob_J own cc nL R ini sc ce sl ks n h tgt lv st Q) : ob_J own cc nL R ini sc ce sl ks n h pc lv (.int x :: st) Q := by
  intro p l e s m args below meth c D ct base b Z C F H locs ls hR hS hl
  exact lv_tableOut C.1 C.2.1 hdg hx ht (k p l e s m args below meth c D ct base b Z C F H locs ls hR hS hl)
theorem oj_tableIn {dflt lo hi : Int} {offs : Array Int} {len : Nat} {x : Int32} {off : Int} (tgt : Nat) (hdg : decode cc pc = .ok (.tableswitch dflt lo hi offs, len)) (h1 : ¬ x.toInt < lo) (h2 : ¬ hi < x.toInt) (ho : offs[(x.toInt - lo).toNat]? = some off) (ht : (pc : Int) + off = (tgt : Int)) (k : ob_J own cc nL R ini sc ce sl ks n h tgt lv st Q) : ob_J own cc nL R ini sc ce sl ks n h pc lv (.int x :: st) Q := by
  intro p l e s m args below meth c D ct base b Z C F H locs ls hR hS hl
  exact lv_tableIn C.1 C.2.1 hdg h1 h2 ho ht (k p l e s m args below meth c D ct base b Z C F H locs ls hR hS hl)
theorem oj_lookup {dflt : Int} {ps : Array (Int × Int)} {len : Nat} {x : Int32} {off : Int} (tgt : Nat) (hdg : decode cc pc = .ok (.lookupswitch dflt ps, len)) (hp : (ps.toList.zip (ps.toList.drop 1)).all (fun (a, next) => a.1 < next.1) = true) (ho : Op.lookupswitch.offset ps.toList dflt x.toInt = off) (ht : (pc : Int) + off = (tgt : Int)) (k : ob_J own cc nL R ini sc ce sl ks n h tgt lv st Q) : ob_J own cc nL R ini sc ce sl ks n h pc lv (.int x :: st) Q := by
  intro p l e s m args below meth c D ct base b Z C F H locs ls hR hS hl
  exact lv_lookup C.1 C.2.1 hdg hp ho ht (k p l e s m args below meth c D ct base b Z C F H locs ls hR hS hl)
theorem oj_ldc {index : Nat} {v : Int32} (hw : Cond.constant own index v ∈ obWS) (hdg : decode cc pc = .ok (.ldc index, 2)) (k : ob_J own cc nL R ini sc ce sl ks n h (pc + 2) lv (.int v :: st) Q) : ob_J own cc nL R ini sc ce sl ks n h pc lv st Q := by
  intro p l e s m args below meth c D ct base b Z C F H locs ls hR hS hl
  exact lv_ldc C.1 C.2.1 C.2.2.2.1 (C.2.2.2.2.1 _ hw) hdg (k p l e s m args below meth c D ct base b Z C F H locs ls hR hS hl)
theorem oj_ldc2 {index : Nat} {v : Int64} (hw : Cond.constantLong own index v ∈ obWS) (hdg : decode cc pc = .ok (.ldc2_w index, 3)) (k : ob_J own cc nL R ini sc ce sl ks n h (pc + 3) lv (.long v :: st) Q) : ob_J own cc nL R ini sc ce sl ks n h pc lv st Q := by
  intro p l e s m args below meth c D ct base b Z C F H locs ls hR hS hl
  exact lv_ldc2 C.1 C.2.1 C.2.2.2.1 (C.2.2.2.2.1 _ hw) hdg (k p l e s m args below meth c D ct base b Z C F H locs ls hR hS hl)
theorem oj_ldcw {index : Nat} {v : Int32} (hw : Cond.constant own index v ∈ obWS) (hdg : decode cc pc = .ok (.ldc_w index, 3)) (k : ob_J own cc nL R ini sc ce sl ks n h (pc + 3) lv (.int v :: st) Q) : ob_J own cc nL R ini sc ce sl ks n h pc lv st Q := by
  intro p l e s m args below meth c D ct base b Z C F H locs ls hR hS hl
  exact lv_ldcw C.1 C.2.1 C.2.2.2.1 (C.2.2.2.2.1 _ hw) hdg (k p l e s m args below meth c D ct base b Z C F H locs ls hR hS hl)
theorem oj_lcmp {x y : Int64} (hdg : decode cc pc = .ok (.lcmp, 1)) (k : ob_J own cc nL R ini sc ce sl ks n h (pc + 1) lv (.int (lg_cmp x y) :: st) Q) : ob_J own cc nL R ini sc ce sl ks n h pc lv (.long y :: .long x :: st) Q := by
  intro p l e s m args below meth c D ct base b Z C F H locs ls hR hS hl
  exact W.lcmp C.1 C.2.1 hdg (k p l e s m args below meth c D ct base b Z C F H locs ls hR hS hl)

theorem ob_ad_lt {base b o : Nat} {kd : ob_K} (hk : ob_is ks n o kd) : ob_ad base b o = base + o := if_pos (Nat.lt_of_lt_of_le hk.1 hk.2.1)
theorem ob_ent {ct : Nat → ClassId} {base o : Nat} {kd : ob_K} (hk : ob_is ks n o kd) : (ob_w ct base ks n h)[o]? = some (base + o, ob_cell ct base h o kd) := by
  rw [ob_w_at hk.1, hk.2.2]
def ob_fl (own : String) (index ci k : Nat) (fin : Bool) (ty : FieldType) : Prop := ∃ (C : String) (T : u_T) (N : Nat) (ty0 : Nat → FieldType), obCl[ci]? = some (C, T, N) ∧ (∀ w ∈ u_ws C T N, w ∈ obWS) ∧ k < N ∧ Cond.fieldLink own index (T k).1 (T k).2.1 (T k).2.2.1 ∈ obWS ∧ (T k).2.2.2 = fin ∧ (∀ j, j < N → parseFieldDescriptor (T j).2.2.1 = some (ty0 j)) ∧ ty0 k = ty ∧ (∀ a, a < N → ∀ b, b < N → a ≠ b → (T a).2.1 ≠ (T b).2.1) ∧ (T k).1 = C
theorem ob_Rset {D : va_G} {ct : Nat → ClassId} {base o : Nat} {ks' : Nat → ob_K} {h' : ob_H} {H H1 : Heap} (hR : ob_R D ct base ks n h H) (ho : o < n) (he : va_at D obCl (base + o, ob_cell ct base h' o (ks' o)) H1) (z : H1.size = H.size) (oq : ∀ q, q ≠ base + o → H1[q]? = H[q]?)
    (hne : ∀ q, q < n → q ≠ o → ob_cell ct base h q (ks q) = ob_cell ct base h' q (ks' q)) : ob_R D ct base ks' n h' H1 := by
  refine ⟨fun k q hq => ?_, z.trans hR.2⟩
  obtain ⟨hk, rfl⟩ := ob_w_lt hq
  by_cases hko : k = o
  · subst hko
    exact he
  · have h1 := hR.1 k _ (ob_w_at hk)
    rw [hne k hk hko] at h1
    exact h1.kept (oq _ (by omega))
theorem ob_Rpush {D : va_G} {ct : Nat → ClassId} {base : Nat} {ks' : Nat → ob_K} {H H1 : Heap} (hR : ob_R D ct base ks n h H) (he : va_at D obCl (base + n, ob_cell ct base h n (ks' n)) H1) (z : H1.size = H.size + 1) (oq : ∀ q, q < H.size → H1[q]? = H[q]?)
    (hne : ∀ q, q < n → ks' q = ks q) : ob_R D ct base ks' (n + 1) h H1 := by
  refine ⟨fun k q hq => ?_, by rw [z, hR.2]; omega⟩
  obtain ⟨hk, rfl⟩ := ob_w_lt hq
  by_cases hko : k = n
  · subst hko
    exact he
  · have hk2 : k < n := by omega
    have h1 := hR.1 k _ (ob_w_at hk2)
    rw [hne k hk2]
    exact h1.kept (oq _ (by show base + k < H.size; rw [hR.2]; omega))
theorem ob_Spush {base : Nat} {H0 H H1 : Heap} {locs : List Loc} (hS : va_S (fun q => base ≤ q) H0 H locs) (z : H1.size = H.size + 1) (oq : ∀ q, q < H.size → H1[q]? = H[q]?) : va_S (fun q => base ≤ q) H0 H1 locs :=
  ⟨by rw [z]; exact Nat.le_succ_of_le hS.1, fun q h1 h2 => (oq q (Nat.lt_of_lt_of_le h1 hS.1)).trans (hS.2.1 q h1 h2), hS.2.2⟩
theorem ob_set_same {codes : List Nat} {k c : Nat} (hc : codes[k]? = some c) : codes.set k c = codes := by
  apply List.ext_getElem?
  intro j
  by_cases hj : j = k
  · subst hj
    rw [List.getElem?_set_self (List.getElem?_eq_some_iff.mp hc).1, hc]
  · rw [List.getElem?_set_ne (Ne.symm hj)]
/-- a field of an object changed: the world behind it -/
theorem ob_field {D : va_G} {ct : Nat → ClassId} {base o ci k c : Nat} {codes : List Nat} {ks' : Nat → ob_K} {h' : ob_H} {H H1 : Heap} {v : Value} {C : String} {T : u_T} {N : Nat} {cell : Cell}
    (hR : ob_R D ct base ks n h H) (hk : ob_is ks n o (ci + 5, codes)) (hcl : obCl[ci]? = some (C, T, N)) (hkN : k < N) (hkc : k < codes.length) (hap : ∀ x y, x < N → y < N → x ≠ y → (D.2 ci) x ≠ (D.2 ci) y)
    (q1 : H[base + o]? = some cell) (q2 : cell.cls = D.1 ci) (q3 : cell.vm = .none) (q4 : ∀ j, j < N → cell.slots[(D.2 ci) j]? = some (vp_V (ob_fs base h o codes) j))
    (e1 : H1[base + o]? = some (cell.setSlot ((D.2 ci) k) v)) (z : H1.size = H.size) (oq : ∀ q, q ≠ base + o → H1[q]? = H[q]?)
    (hks : ks' o = (ci + 5, codes.set k c)) (hv : v = ob_fv base h' o k c) (hsame : ∀ j c', j ≠ k → codes[j]? = some c' → ob_fv base h o j c' = ob_fv base h' o j c')
    (hne : ∀ q, q < n → q ≠ o → ob_cell ct base h q (ks q) = ob_cell ct base h' q (ks' q)) : ob_R D ct base ks' n h' H1 := by
  refine ob_Rset hR hk.1 ?_ z oq hne
  rw [hks]
  refine ⟨_, hcl, t_OB.to (V := updV (vp_V (ob_fs base h o codes)) k v) ⟨_, e1, q2, q3, t_set q4 hap hkN v⟩ (fun j _ => ?_)⟩
  rw [vp_updV_set (by rw [ob_fs_len]; exact hkc) v j, ob_fs_set hkc rfl hv hsame]

theorem oj_geti {index ci k o : Nat} {codes : List Nat} {fin : Bool} {ty : FieldType} (hf : ob_fl own index ci k fin ty) (hk : ob_is ks n o (ci + 5, codes)) (hcd : codes[k]? = some 0) (hdg : decode cc pc = .ok (.getfield index, 3)) (k : ob_J own cc nL R ini sc ce sl ks n h (pc + 3) lv (.int (h.1 o k) :: st) Q) : ob_J own cc nL R ini sc ce sl ks n h pc lv (.ref o :: st) Q := by
  intro p l e s m args below meth c D ct base b Z C F H locs ls hR hS hl
  obtain ⟨Cn, T, N, ty0, f1, f2, f3, f4, f5, f6, f7, f8, f9⟩ := hf
  show W p l e R s m args below meth c H locs ce sl Z (F0 m pc ls (.ref (ob_ad base b o) :: st.map (ob_rv base b)))
  rw [ob_ad_lt hk]
  exact va_get (D := D) (ref := (T _).1) C.1 C.2.1 C.2.2.2.2.1 f2 C.2.2.2.1 C.2.2.2.2.2.1 hR.1 o (ob_ent hk) f1 _ f3 (C.2.2.2.2.1 _ f4) (fun _ z => z) (ob_fs_at hcd) hdg (k p l e s m args below meth c D ct base b Z C F H locs ls hR hS hl)
theorem oj_getl {index ci k o : Nat} {codes : List Nat} {fin : Bool} {ty : FieldType} (hf : ob_fl own index ci k fin ty) (hk : ob_is ks n o (ci + 5, codes)) (hcd : codes[k]? = some 1) (hdg : decode cc pc = .ok (.getfield index, 3)) (k : ob_J own cc nL R ini sc ce sl ks n h (pc + 3) lv (.long (h.2.1 o k) :: st) Q) : ob_J own cc nL R ini sc ce sl ks n h pc lv (.ref o :: st) Q := by
  intro p l e s m args below meth c D ct base b Z C F H locs ls hR hS hl
  obtain ⟨Cn, T, N, ty0, f1, f2, f3, f4, f5, f6, f7, f8, f9⟩ := hf
  show W p l e R s m args below meth c H locs ce sl Z (F0 m pc ls (.ref (ob_ad base b o) :: st.map (ob_rv base b)))
  rw [ob_ad_lt hk]
  exact va_get (D := D) (ref := (T _).1) C.1 C.2.1 C.2.2.2.2.1 f2 C.2.2.2.1 C.2.2.2.2.2.1 hR.1 o (ob_ent hk) f1 _ f3 (C.2.2.2.2.1 _ f4) (fun _ z => z) (ob_fs_at hcd) hdg (k p l e s m args below meth c D ct base b Z C F H locs ls hR hS hl)
theorem oj_getr {index ci k o q : Nat} {codes : List Nat} {fin : Bool} {ty : FieldType} {kd : ob_K} (hf : ob_fl own index ci k fin ty) (hk : ob_is ks n o (ci + 5, codes)) (hcd : codes[k]? = some (q + 4)) (hq : ob_is ks n q kd) (hdg : decode cc pc = .ok (.getfield index, 3)) (k : ob_J own cc nL R ini sc ce sl ks n h (pc + 3) lv (.ref q :: st) Q) : ob_J own cc nL R ini sc ce sl ks n h pc lv (.ref o :: st) Q := by
  intro p l e s m args below meth c D ct base b Z C F H locs ls hR hS hl
  obtain ⟨Cn, T, N, ty0, f1, f2, f3, f4, f5, f6, f7, f8, f9⟩ := hf
  show W p l e R s m args below meth c H locs ce sl Z (F0 m pc ls (.ref (ob_ad base b o) :: st.map (ob_rv base b)))
  rw [ob_ad_lt hk]
  refine va_get (D := D) (ref := (T _).1) C.1 C.2.1 C.2.2.2.2.1 f2 C.2.2.2.1 C.2.2.2.2.2.1 hR.1 o (ob_ent hk) f1 _ f3 (C.2.2.2.2.1 _ f4) (fun _ z => z) (ob_fs_at hcd) hdg ?_
  have e1 : ob_rv base b (.ref q) = .ref (base + q) := by show Value.ref (ob_ad base b q) = _; rw [ob_ad_lt hq]
  have e2 := (k p l e s m args below meth c D ct base b Z C F H locs ls hR hS hl)
  rw [List.map_cons, e1] at e2
  exact e2
theorem oj_getd {index ci k o : Nat} {codes : List Nat} {fin : Bool} {ty : FieldType} {kd : ob_K} (hf : ob_fl own index ci k fin ty) (hk : ob_is ks n o (ci + 5, codes)) (hcd : codes[k]? = some 2) (hq : ob_is ks n h.2.2 kd) (hdg : decode cc pc = .ok (.getfield index, 3)) (k : ob_J own cc nL R ini sc ce sl ks n h (pc + 3) lv (.ref h.2.2 :: st) Q) : ob_J own cc nL R ini sc ce sl ks n h pc lv (.ref o :: st) Q := by
  intro p l e s m args below meth c D ct base b Z C F H locs ls hR hS hl
  obtain ⟨Cn, T, N, ty0, f1, f2, f3, f4, f5, f6, f7, f8, f9⟩ := hf
  show W p l e R s m args below meth c H locs ce sl Z (F0 m pc ls (.ref (ob_ad base b o) :: st.map (ob_rv base b)))
  rw [ob_ad_lt hk]
  refine va_get (D := D) (ref := (T _).1) C.1 C.2.1 C.2.2.2.2.1 f2 C.2.2.2.1 C.2.2.2.2.2.1 hR.1 o (ob_ent hk) f1 _ f3 (C.2.2.2.2.1 _ f4) (fun _ z => z) (ob_fs_at hcd) hdg ?_
  have e1 : ob_rv base b (.ref h.2.2) = .ref (base + h.2.2) := by show Value.ref (ob_ad base b h.2.2) = _; rw [ob_ad_lt hq]
  have e2 := (k p l e s m args below meth c D ct base b Z C F H locs ls hR hS hl)
  rw [List.map_cons, e1] at e2
  exact e2

theorem ob_fv_hs {base o k j c' : Nat} {v : Int32} (hj : j ≠ k) : ob_fv base h o j c' = ob_fv base (h_i h o k v) o j c' := by
  unfold ob_fv h_i
  split <;> simp [hj]
theorem ob_fv_hl {base o k j c' : Nat} {v : Int64} (hj : j ≠ k) : ob_fv base h o j c' = ob_fv base (h_l h o k v) o j c' := by
  unfold ob_fv h_l
  split <;> simp [hj]
/-- what putfield needs of the tables and of the heap -/
theorem ob_putf {p : Program} {l : Launch} {e : Env} {s : State} {m : MethodId} {args : Array Value} {below : List Frame} {meth : Method} {c : Code} {H : Heap} {locs : List Loc} {Z : State → Prop} {ls : Array Slot} {rest : List Value} {D : va_G} {ct : Nat → ClassId} {base b index ci k o : Nat} {codes : List Nat} {fin : Bool} {ty : FieldType} {v : Value}
    (C : ob_C p s m args meth c D ct base b own cc nL ini sc) (hf : ob_fl own index ci k fin ty) (hfin : fin = false ∨ (ini = true ∧ ∃ Cn T N, obCl[ci]? = some (Cn, T, N) ∧ Cn = own)) (hk : ob_is ks n o (ci + 5, codes)) (hR : ob_R D ct base ks n h H) (hn : narrow ty v = v) (hfit : fits ty v = true) (hdg : decode cc pc = .ok (.putfield index, 3))
    (kk : ∀ (C : String) (T : u_T) (N : Nat) (cell : Cell) (H1 : Heap) (locs1 : List Loc), obCl[ci]? = some (C, T, N) → k < N → (∀ x y, x < N → y < N → x ≠ y → (D.2 ci) x ≠ (D.2 ci) y) → H[base + o]? = some cell → cell.cls = D.1 ci → cell.vm = .none → (∀ j, j < N → cell.slots[(D.2 ci) j]? = some (vp_V (ob_fs base h o codes) j)) →
      H1[base + o]? = some (cell.setSlot ((D.2 ci) k) v) → H1.size = H.size → (∀ q, q ≠ base + o → H1[q]? = H[q]?) → (locs1 = locs ++ [⟨base + o, (D.2 ci) k⟩]) → W p l e R s m args below meth c H1 locs1 ce sl Z (F0 m (pc + 3) ls rest)) :
    W p l e R s m args below meth c H locs ce sl Z (F0 m pc ls (v :: .ref (base + o) :: rest)) := by
  obtain ⟨Cn, T, N, ty0, f1, f2, f3, f4, f5, f6, f7, f8, f9⟩ := hf
  have hap : ∀ x y, x < N → y < N → x ≠ y → (D.2 ci) x ≠ (D.2 ci) y := va_apart (own := own) C.2.2.2.2.1 f2 ty0 f6 f8 C.2.2.2.2.2.1 f1
  obtain ⟨r, h1, cell, q1, q2, q3, q4⟩ := hR.1 o _ (ob_ent hk)
  have hr : r = (Cn, T, N) := Option.some.inj (h1.symm.trans f1)
  subst hr
  obtain ⟨hS, hfc, kC, hkC, hkind⟩ := C.2.2.2.2.2.1.1 ci _ f1
  obtain ⟨cf, kf, fi, f, hi, hsl⟩ := hS k f3
  have hst := (u_facts hfc hkC (u_lays C.2.2.2.2.1 f2 f3) hi).1
  have hd0 : parseFieldDescriptor (T k).2.2.1 = some ty := by rw [f6 k f3, f7]
  have hsz : f.slot < cell.slots.size := by rw [hsl]; exact k2_hasslot (q4 k f3)
  have hlay := C.2.2.2.2.1 _ (f2 _ (u_in_lay f3))
  unfold u_lay at hlay
  cases fin with
  | false =>
    rw [if_neg (by rw [f5]; decide)] at hlay
    have h6 := u_store hfc hkC hkind hlay hi hd0 hn hfit
    refine W.putK C.1 C.2.1 (f := f) ⟨C.2.2.2.1, C.2.2.2.2.1 _ f4, ⟨_, _, _, hi⟩, hst⟩ (by rw [q2]; exact h6) q1 q3 hsz rfl rfl hdg fun H' e1 e2 e3 => ?_
    rw [hsl] at e1 ⊢
    exact kk Cn T N cell H' _ f1 f3 hap q1 q2 q3 q4 e1 e2 e3 rfl
  | true =>
    rw [if_pos f5] at hlay
    rcases hfin with hfin | ⟨hini, C2, T2, N2, g1, g2⟩
    · cases hfin
    have hCn : Cn = own := by rw [f1] at g1; cases g1; exact g2
    have hcf : m.cls = cf := by
      obtain ⟨_, _, c', _, _, _, -, -, hf', -, -, -, hown2, -⟩ := Cond.laysFinal_spec hlay
      have e1 : c' = cf := by have := hi.symm.trans hf'; simp at this; exact this.1.symm
      rw [f9, hCn] at hown2
      rw [← e1]
      exact Option.some.inj (C.2.2.2.1.symm.trans hown2)
    have h6 := u_fits hfc hkC hkind (Or.inr hlay) hi hd0 hn hfit
    refine W.putFinK C.1 C.2.1 C.2.2.2.1 (C.2.2.2.2.1 _ f4) hi hst hcf (C.2.2.2.2.2.2.2.1 hini) (by rw [q2]; exact h6) q1 q3 hsz rfl rfl hdg fun H' e1 e2 e3 => ?_
    rw [hsl] at e1 ⊢
    exact kk Cn T N cell H' _ f1 f3 hap q1 q2 q3 q4 e1 e2 e3 rfl

theorem oj_puti {index ci k o : Nat} {codes : List Nat} {fin : Bool} {ty : FieldType} {x : Int32} (hf : ob_fl own index ci k fin ty) (hfin : fin = false ∨ (ini = true ∧ ∃ Cn T N, obCl[ci]? = some (Cn, T, N) ∧ Cn = own)) (hk : ob_is ks n o (ci + 5, codes)) (hcd : codes[k]? = some 0) (hn : narrow ty (.int x) = .int x) (hfit : fits ty (.int x) = true) (hdg : decode cc pc = .ok (.putfield index, 3)) (k : ob_J own cc nL R ini sc ce sl ks n (h_i h o k x) (pc + 3) lv st Q) : ob_J own cc nL R ini sc ce sl ks n h pc lv (.int x :: .ref o :: st) Q := by
  intro p l e s m args below meth c D ct base b Z C F H locs ls hR hS hl
  show W p l e R s m args below meth c H locs ce sl Z (F0 m pc ls (.int x :: .ref (ob_ad base b o) :: st.map (ob_rv base b)))
  rw [ob_ad_lt hk]
  refine ob_putf C hf hfin hk hR hn hfit hdg fun Cn T N cell H1 locs1 f1 f3 hap q1 q2 q3 q4 e1 z oq hlo => ?_
  have hcc : _ < codes.length := (List.getElem?_eq_some_iff.mp hcd).1
  refine k p l e s m args below meth c D ct base b Z C F H1 locs1 ls (ob_field hR hk f1 f3 hcc hap q1 q2 q3 q4 e1 z oq (c := 0) (by rw [ob_set_same hcd]; exact hk.2.2) (by simp [ob_fv, h_i]) (fun j c' hj _ => ob_fv_hs hj) (fun q _ hq => ob_cell_h_i hq)) (by rw [hlo]; exact hS.put z oq (Nat.le_add_right _ _)) hl
theorem oj_putl {index ci k o : Nat} {codes : List Nat} {fin : Bool} {ty : FieldType} {x : Int64} (hf : ob_fl own index ci k fin ty) (hfin : fin = false ∨ (ini = true ∧ ∃ Cn T N, obCl[ci]? = some (Cn, T, N) ∧ Cn = own)) (hk : ob_is ks n o (ci + 5, codes)) (hcd : codes[k]? = some 1) (hn : narrow ty (.long x) = .long x) (hfit : fits ty (.long x) = true) (hdg : decode cc pc = .ok (.putfield index, 3)) (k : ob_J own cc nL R ini sc ce sl ks n (h_l h o k x) (pc + 3) lv st Q) : ob_J own cc nL R ini sc ce sl ks n h pc lv (.long x :: .ref o :: st) Q := by
  intro p l e s m args below meth c D ct base b Z C F H locs ls hR hS hl
  show W p l e R s m args below meth c H locs ce sl Z (F0 m pc ls (.long x :: .ref (ob_ad base b o) :: st.map (ob_rv base b)))
  rw [ob_ad_lt hk]
  refine ob_putf C hf hfin hk hR hn hfit hdg fun Cn T N cell H1 locs1 f1 f3 hap q1 q2 q3 q4 e1 z oq hlo => ?_
  have hcc : _ < codes.length := (List.getElem?_eq_some_iff.mp hcd).1
  refine k p l e s m args below meth c D ct base b Z C F H1 locs1 ls (ob_field hR hk f1 f3 hcc hap q1 q2 q3 q4 e1 z oq (c := 1) (by rw [ob_set_same hcd]; exact hk.2.2) (by simp [ob_fv, h_l]) (fun j c' hj _ => ob_fv_hl hj) (fun q _ hq => ob_cell_h_l hq)) (by rw [hlo]; exact hS.put z oq (Nat.le_add_right _ _)) hl

theorem ob_cell_ku {ct : Nat → ClassId} {base o q : Nat} {kd : ob_K} (hq : q ≠ o) : ob_cell ct base h q (ks q) = ob_cell ct base h q (ku ks o kd q) := by
  rw [ku_n hq]
theorem oj_putr {index ci k o q : Nat} {codes : List Nat} {fin : Bool} {ty : FieldType} {kd : ob_K} (hf : ob_fl own index ci k fin ty) (hfin : fin = false ∨ (ini = true ∧ ∃ Cn T N, obCl[ci]? = some (Cn, T, N) ∧ Cn = own)) (hk : ob_is ks n o (ci + 5, codes)) (hq : ob_is ks n q kd) (hkc : k < codes.length) (hn : ∀ z, narrow ty (.ref z) = .ref z) (hfit : ∀ z, fits ty (.ref z) = true) (hdg : decode cc pc = .ok (.putfield index, 3)) (k : ob_J own cc nL R ini sc ce sl (ku ks o (ci + 5, codes.set k (q + 4))) n h (pc + 3) lv st Q) : ob_J own cc nL R ini sc ce sl ks n h pc lv (.ref q :: .ref o :: st) Q := by
  intro p l e s m args below meth c D ct base b Z C F H locs ls hR hS hl
  show W p l e R s m args below meth c H locs ce sl Z (F0 m pc ls (.ref (ob_ad base b q) :: .ref (ob_ad base b o) :: st.map (ob_rv base b)))
  rw [ob_ad_lt hk, ob_ad_lt hq]
  refine ob_putf C hf hfin hk hR (hn _) (hfit _) hdg fun Cn T N cell H1 locs1 f1 f3 hap q1 q2 q3 q4 e1 z oq hlo => ?_
  exact k p l e s m args below meth c D ct base b Z C F H1 locs1 ls (ob_field hR hk f1 f3 hkc hap q1 q2 q3 q4 e1 z oq (c := q + 4) ku_s rfl (fun j c' hj _ => rfl) (fun q' _ hq' => ob_cell_ku hq')) (by rw [hlo]; exact hS.put z oq (Nat.le_add_right _ _)) hl
/-- the one field that goes on changing what it points to -/
theorem oj_putd {index ci k o q : Nat} {codes : List Nat} {ty : FieldType} {kd : ob_K} (hf : ob_fl own index ci k false ty) (hk : ob_is ks n o (ci + 5, codes)) (hq : ob_is ks n q kd) (hcd : codes[k]? = some 2) (hn : ∀ z, narrow ty (.ref z) = .ref z) (hfit : ∀ z, fits ty (.ref z) = true) (hone : ∀ (o' k' : Nat) (codes' : List Nat), ks o' = (ci + 5, codes') → codes'[k']? = some 2 → o' < n → o' = o ∧ k' = k) (hone2 : ∀ o', o' < n → o' ≠ o → (ks o').1 < 5 ∨ ∀ k' : Nat, (ks o').2[k']? ≠ some 2) (hdg : decode cc pc = .ok (.putfield index, 3)) (k : ob_J own cc nL R ini sc ce sl ks n (h_d h q) (pc + 3) lv st Q) : ob_J own cc nL R ini sc ce sl ks n h pc lv (.ref q :: .ref o :: st) Q := by
  intro p l e s m args below meth c D ct base b Z C F H locs ls hR hS hl
  show W p l e R s m args below meth c H locs ce sl Z (F0 m pc ls (.ref (ob_ad base b q) :: .ref (ob_ad base b o) :: st.map (ob_rv base b)))
  rw [ob_ad_lt hk, ob_ad_lt hq]
  refine ob_putf C hf (Or.inl rfl) hk hR (hn _) (hfit _) hdg fun Cn T N cell H1 locs1 f1 f3 hap q1 q2 q3 q4 e1 z oq hlo => ?_
  have hcc : _ < codes.length := (List.getElem?_eq_some_iff.mp hcd).1
  refine k p l e s m args below meth c D ct base b Z C F H1 locs1 ls (ob_field hR hk f1 f3 hcc hap q1 q2 q3 q4 e1 z oq (c := 2) (by rw [ob_set_same hcd]; exact hk.2.2) rfl (fun j c' hj hc' => ?_) (fun q' hq1 hq2 => ?_)) (by rw [hlo]; exact hS.put z oq (Nat.le_add_right _ _)) hl
  · unfold ob_fv h_d
    split <;> first | rfl | exact absurd (hone o j codes hk.2.2 hc' hk.1).2 hj
  · have hz := hone2 q' hq1 hq2
    generalize ks q' = kd' at hz ⊢
    obtain ⟨tg, cs⟩ := kd'
    unfold ob_cell
    split <;> first | rfl | skip
    rename_i ci' heq
    congr 2
    apply List.ext_getElem?
    intro j
    unfold ob_fs
    rw [List.getElem?_mapIdx, List.getElem?_mapIdx]
    cases hc : cs[j]? with
    | none => simp [h_c]
    | some c' =>
      have hne : c' ≠ 2 := by
        intro h2
        subst h2
        rcases hz with hz | hz
        · have : tg = ci' + 5 := heq
          simp at hz
          omega
        · exact hz j hc
      simp only [hc, Option.map_some]
      congr 1
      unfold ob_fv h_d
      split <;> first | rfl | exact absurd rfl hne
theorem oj_iald {o N j : Nat} {i : Int32} (hk : ob_is ks n o (0, [N])) (hin : vp_in i N) (hj : i.toNatClampNeg = j) (hdg : decode cc pc = .ok (.iaload, 1)) (k : ob_J own cc nL R ini sc ce sl ks n h (pc + 1) lv (.int (h.1 o j) :: st) Q) : ob_J own cc nL R ini sc ce sl ks n h pc lv (.int i :: .ref o :: st) Q := by
  intro p l e s m args below meth c D ct base b Z C F H locs ls hR hS hl
  show W p l e R s m args below meth c H locs ce sl Z (F0 m pc ls (.int i :: .ref (ob_ad base b o) :: st.map (ob_rv base b)))
  rw [ob_ad_lt hk]
  subst hj
  exact va_iald C.1 C.2.1 C.2.2.2.2.2.1 hR.1 o 0 (ob_ent hk) rfl hin hdg (k p l e s m args below meth c D ct base b Z C F H locs ls hR hS hl)
theorem oj_iast {o N j : Nat} {i : Int32} {x : Int32} (hk : ob_is ks n o (0, [N])) (hin : vp_in i N) (hj : i.toNatClampNeg = j) (hdg : decode cc pc = .ok (.iastore, 1)) (k : ob_J own cc nL R ini sc ce sl ks n (h_i h o j x) (pc + 1) lv st Q) : ob_J own cc nL R ini sc ce sl ks n h pc lv (.int x :: .int i :: .ref o :: st) Q := by
  intro p l e s m args below meth c D ct base b Z C F H locs ls hR hS hl
  show W p l e R s m args below meth c H locs ce sl Z (F0 m pc ls (.int x :: .int i :: .ref (ob_ad base b o) :: st.map (ob_rv base b)))
  rw [ob_ad_lt hk]
  subst hj
  have hcell : H[base + o]? = some (vp_cell (ct 0) (N, .inl (h.1 o))) := hR.1 o _ (ob_ent hk)
  refine W.iast C.1 C.2.1 hcell ((C.2.2.2.2.2.1.2 0 _ rfl).1 N (fun j => .int (h.1 o j))) (fun q => by cases q) (by show ¬ (i < 0 ∨ (arrV _ _ _).slots.size ≤ _); rw [arrV_size]; exact hin) rfl rfl hdg fun H1 e1 z oq => ?_
  refine k p l e s m args below meth c D ct base b Z C F H1 _ ls (ob_Rset hR hk.1 ?_ z oq (fun q _ hq => ob_cell_h_i hq)) (hS.put z oq (Nat.le_add_right _ _)) hl
  rw [hk.2.2]
  show H1[base + o]? = some (vp_cell (ct 0) (N, .inl ((h_i h o i.toNatClampNeg x).1 o)))
  rw [e1, vp_cell_i, vp_cell_i, arrV_store]
  congr 2
  funext q
  by_cases hq : q = i.toNatClampNeg
  · subst hq
    simp [updV, h_i, vp_nar]
    try rfl
  · simp [updV, h_i, hq]
theorem oj_bald {o N j : Nat} {i : Int32} (hk : ob_is ks n o (2, [N])) (hin : vp_in i N) (hj : i.toNatClampNeg = j) (hdg : decode cc pc = .ok (.baload, 1)) (k : ob_J own cc nL R ini sc ce sl ks n h (pc + 1) lv (.int (h.1 o j) :: st) Q) : ob_J own cc nL R ini sc ce sl ks n h pc lv (.int i :: .ref o :: st) Q := by
  intro p l e s m args below meth c D ct base b Z C F H locs ls hR hS hl
  show W p l e R s m args below meth c H locs ce sl Z (F0 m pc ls (.int i :: .ref (ob_ad base b o) :: st.map (ob_rv base b)))
  rw [ob_ad_lt hk]
  subst hj
  exact va_bald C.1 C.2.1 C.2.2.2.2.2.1 hR.1 o 2 (ob_ent hk) rfl hin hdg (k p l e s m args below meth c D ct base b Z C F H locs ls hR hS hl)
theorem oj_bast {o N j : Nat} {i : Int32} {x : Int32} (hk : ob_is ks n o (2, [N])) (hin : vp_in i N) (hj : i.toNatClampNeg = j) (hdg : decode cc pc = .ok (.bastore, 1)) (k : ob_J own cc nL R ini sc ce sl ks n (h_i h o j x.toInt8.toInt32) (pc + 1) lv st Q) : ob_J own cc nL R ini sc ce sl ks n h pc lv (.int x :: .int i :: .ref o :: st) Q := by
  intro p l e s m args below meth c D ct base b Z C F H locs ls hR hS hl
  show W p l e R s m args below meth c H locs ce sl Z (F0 m pc ls (.int x :: .int i :: .ref (ob_ad base b o) :: st.map (ob_rv base b)))
  rw [ob_ad_lt hk]
  subst hj
  have hcell : H[base + o]? = some (vp_cell (ct 2) (N, .inl (h.1 o))) := hR.1 o _ (ob_ent hk)
  refine W.bast C.1 C.2.1 hcell ((C.2.2.2.2.2.1.2 2 _ rfl).1 N (fun j => .int (h.1 o j))) (fun q => by cases q) (by show ¬ (i < 0 ∨ (arrV _ _ _).slots.size ≤ _); rw [arrV_size]; exact hin) rfl rfl hdg fun H1 e1 z oq => ?_
  refine k p l e s m args below meth c D ct base b Z C F H1 _ ls (ob_Rset hR hk.1 ?_ z oq (fun q _ hq => ob_cell_h_i hq)) (hS.put z oq (Nat.le_add_right _ _)) hl
  rw [hk.2.2]
  show H1[base + o]? = some (vp_cell (ct 2) (N, .inl ((h_i h o i.toNatClampNeg x.toInt8.toInt32).1 o)))
  rw [e1, vp_cell_i, vp_cell_i, arrV_store]
  congr 2
  funext q
  by_cases hq : q = i.toNatClampNeg
  · subst hq
    simp [updV, h_i, vp_nar]
    try rfl
  · simp [updV, h_i, hq]
theorem oj_zald {o N j : Nat} {i : Int32} (hk : ob_is ks n o (3, [N])) (hin : vp_in i N) (hj : i.toNatClampNeg = j) (hdg : decode cc pc = .ok (.baload, 1)) (k : ob_J own cc nL R ini sc ce sl ks n h (pc + 1) lv (.int (h.1 o j) :: st) Q) : ob_J own cc nL R ini sc ce sl ks n h pc lv (.int i :: .ref o :: st) Q := by
  intro p l e s m args below meth c D ct base b Z C F H locs ls hR hS hl
  show W p l e R s m args below meth c H locs ce sl Z (F0 m pc ls (.int i :: .ref (ob_ad base b o) :: st.map (ob_rv base b)))
  rw [ob_ad_lt hk]
  subst hj
  exact va_zald C.1 C.2.1 C.2.2.2.2.2.1 hR.1 o 3 (ob_ent hk) rfl hin hdg (k p l e s m args below meth c D ct base b Z C F H locs ls hR hS hl)
theorem oj_zast {o N j : Nat} {i : Int32} {x : Int32} (hk : ob_is ks n o (3, [N])) (hin : vp_in i N) (hj : i.toNatClampNeg = j) (hdg : decode cc pc = .ok (.bastore, 1)) (k : ob_J own cc nL R ini sc ce sl ks n (h_i h o j (vp_nar .boolean x)) (pc + 1) lv st Q) : ob_J own cc nL R ini sc ce sl ks n h pc lv (.int x :: .int i :: .ref o :: st) Q := by
  intro p l e s m args below meth c D ct base b Z C F H locs ls hR hS hl
  show W p l e R s m args below meth c H locs ce sl Z (F0 m pc ls (.int x :: .int i :: .ref (ob_ad base b o) :: st.map (ob_rv base b)))
  rw [ob_ad_lt hk]
  subst hj
  have hcell : H[base + o]? = some (vp_cell (ct 3) (N, .inl (h.1 o))) := hR.1 o _ (ob_ent hk)
  refine W.zast C.1 C.2.1 hcell ((C.2.2.2.2.2.1.2 3 _ rfl).1 N (fun j => .int (h.1 o j))) (fun q => by cases q) (by show ¬ (i < 0 ∨ (arrV _ _ _).slots.size ≤ _); rw [arrV_size]; exact hin) rfl rfl hdg fun H1 e1 z oq => ?_
  refine k p l e s m args below meth c D ct base b Z C F H1 _ ls (ob_Rset hR hk.1 ?_ z oq (fun q _ hq => ob_cell_h_i hq)) (hS.put z oq (Nat.le_add_right _ _)) hl
  rw [hk.2.2]
  show H1[base + o]? = some (vp_cell (ct 3) (N, .inl ((h_i h o i.toNatClampNeg (vp_nar .boolean x)).1 o)))
  rw [e1, vp_cell_i, vp_cell_i, arrV_store]
  congr 2
  funext q
  by_cases hq : q = i.toNatClampNeg
  · subst hq
    simp [updV, h_i, vp_nar]
    try rfl
  · simp [updV, h_i, hq]
theorem oj_lald {o N j : Nat} {i : Int32} (hk : ob_is ks n o (1, [N])) (hin : vp_in i N) (hj : i.toNatClampNeg = j) (hdg : decode cc pc = .ok (.laload, 1)) (k : ob_J own cc nL R ini sc ce sl ks n h (pc + 1) lv (.long (h.2.1 o j) :: st) Q) : ob_J own cc nL R ini sc ce sl ks n h pc lv (.int i :: .ref o :: st) Q := by
  intro p l e s m args below meth c D ct base b Z C F H locs ls hR hS hl
  show W p l e R s m args below meth c H locs ce sl Z (F0 m pc ls (.int i :: .ref (ob_ad base b o) :: st.map (ob_rv base b)))
  rw [ob_ad_lt hk]
  subst hj
  exact va_lald C.1 C.2.1 C.2.2.2.2.2.1 hR.1 o 1 (ob_ent hk) rfl hin hdg (k p l e s m args below meth c D ct base b Z C F H locs ls hR hS hl)
theorem oj_last {o N j : Nat} {i : Int32} {x : Int64} (hk : ob_is ks n o (1, [N])) (hin : vp_in i N) (hj : i.toNatClampNeg = j) (hdg : decode cc pc = .ok (.lastore, 1)) (k : ob_J own cc nL R ini sc ce sl ks n (h_l h o j x) (pc + 1) lv st Q) : ob_J own cc nL R ini sc ce sl ks n h pc lv (.long x :: .int i :: .ref o :: st) Q := by
  intro p l e s m args below meth c D ct base b Z C F H locs ls hR hS hl
  show W p l e R s m args below meth c H locs ce sl Z (F0 m pc ls (.long x :: .int i :: .ref (ob_ad base b o) :: st.map (ob_rv base b)))
  rw [ob_ad_lt hk]
  subst hj
  have hcell : H[base + o]? = some (vp_cell (ct 1) (N, .inr (.inl (h.2.1 o)))) := hR.1 o _ (ob_ent hk)
  refine W.last C.1 C.2.1 hcell ((C.2.2.2.2.2.1.2 1 _ rfl).1 N (fun j => .long (h.2.1 o j))) (fun q => by cases q) (by show ¬ (i < 0 ∨ (arrV _ _ _).slots.size ≤ _); rw [arrV_size]; exact hin) rfl rfl hdg fun H1 e1 z oq => ?_
  refine k p l e s m args below meth c D ct base b Z C F H1 _ ls (ob_Rset hR hk.1 ?_ z oq (fun q _ hq => ob_cell_h_l hq)) (hS.put z oq (Nat.le_add_right _ _)) hl
  rw [hk.2.2]
  show H1[base + o]? = some (vp_cell (ct 1) (N, .inr (.inl ((h_l h o i.toNatClampNeg x).2.1 o))))
  rw [e1, vp_cell_l, vp_cell_l, arrV_store]
  congr 2
  funext q
  by_cases hq : q = i.toNatClampNeg
  · subst hq
    simp [updV, h_l, vp_nar]
    try rfl
  · simp [updV, h_l, hq]
theorem oj_alen {o tag N : Nat} {v : Int32} (hk : ob_is ks n o (tag, [N])) (htag : tag < 4) (hv : Int32.ofNat N = v) (hdg : decode cc pc = .ok (.arraylength, 1)) (k : ob_J own cc nL R ini sc ce sl ks n h (pc + 1) lv (.int v :: st) Q) : ob_J own cc nL R ini sc ce sl ks n h pc lv (.ref o :: st) Q := by
  intro p l e s m args below meth c D ct base b Z C F H locs ls hR hS hl
  show W p l e R s m args below meth c H locs ce sl Z (F0 m pc ls (.ref (ob_ad base b o) :: st.map (ob_rv base b)))
  rw [ob_ad_lt hk]
  match tag, htag, hk with
  | 0, _, hk => exact va_alen C.1 C.2.1 C.2.2.2.2.2.1 hR.1 o 0 (ob_ent hk) rfl hv hdg (k p l e s m args below meth c D ct base b Z C F H locs ls hR hS hl)
  | 1, _, hk => exact va_alen C.1 C.2.1 C.2.2.2.2.2.1 hR.1 o 1 (ob_ent hk) rfl hv hdg (k p l e s m args below meth c D ct base b Z C F H locs ls hR hS hl)
  | 2, _, hk => exact va_alen C.1 C.2.1 C.2.2.2.2.2.1 hR.1 o 2 (ob_ent hk) rfl hv hdg (k p l e s m args below meth c D ct base b Z C F H locs ls hR hS hl)
  | 3, _, hk => exact va_alen C.1 C.2.1 C.2.2.2.2.2.1 hR.1 o 3 (ob_ent hk) rfl hv hdg (k p l e s m args below meth c D ct base b Z C F H locs ls hR hS hl)
theorem oj_qlen {o : Nat} {codes : List Nat} {v : Int32} (hk : ob_is ks n o (4, codes)) (hv : Int32.ofNat codes.length = v) (hdg : decode cc pc = .ok (.arraylength, 1)) (k : ob_J own cc nL R ini sc ce sl ks n h (pc + 1) lv (.int v :: st) Q) : ob_J own cc nL R ini sc ce sl ks n h pc lv (.ref o :: st) Q := by
  intro p l e s m args below meth c D ct base b Z C F H locs ls hR hS hl
  show W p l e R s m args below meth c H locs ce sl Z (F0 m pc ls (.ref (ob_ad base b o) :: st.map (ob_rv base b)))
  rw [ob_ad_lt hk]
  exact va_alen C.1 C.2.1 C.2.2.2.2.2.1 hR.1 o 4 (ob_ent hk) rfl hv hdg (k p l e s m args below meth c D ct base b Z C F H locs ls hR hS hl)
theorem oj_aald {o j q : Nat} {i : Int32} {codes : List Nat} {kd : ob_K} (hk : ob_is ks n o (4, codes)) (hin : vp_in i codes.length) (hj : i.toNatClampNeg = j) (hcd : codes[j]? = some (q + 4)) (hq : ob_is ks n q kd) (hdg : decode cc pc = .ok (.aaload, 1)) (k : ob_J own cc nL R ini sc ce sl ks n h (pc + 1) lv (.ref q :: st) Q) : ob_J own cc nL R ini sc ce sl ks n h pc lv (.int i :: .ref o :: st) Q := by
  intro p l e s m args below meth c D ct base b Z C F H locs ls hR hS hl
  show W p l e R s m args below meth c H locs ce sl Z (F0 m pc ls (.int i :: .ref (ob_ad base b o) :: st.map (ob_rv base b)))
  rw [ob_ad_lt hk]
  subst hj
  refine va_aldq (C := "Objections$Room") C.1 C.2.1 C.2.2.2.2.2.1 hR.1 o 4 (ob_ent hk) rfl hin hdg ?_
  have e1 : ob_rv base b (.ref q) = va_rf (ob_rf base (codes.getD i.toNatClampNeg 3)) := by
    rw [List.getD_eq_getElem?_getD, hcd]
    show Value.ref (ob_ad base b q) = Value.ref (base + q)
    rw [ob_ad_lt hq]
  have e2 := (k p l e s m args below meth c D ct base b Z C F H locs ls hR hS hl)
  rw [List.map_cons, e1] at e2
  exact e2
theorem oj_aast {o j q ci : Nat} {i : Int32} {codes vc : List Nat} {T : u_T} {N : Nat} (hk : ob_is ks n o (4, codes)) (hin : vp_in i codes.length) (hj : i.toNatClampNeg = j) (hq : ob_is ks n q (ci + 5, vc)) (hc : obCl[ci]? = some ("Objections$Room", T, N)) (hdg : decode cc pc = .ok (.aastore, 1)) (k : ob_J own cc nL R ini sc ce sl (ku ks o (4, codes.set j (q + 4))) n h (pc + 1) lv st Q) : ob_J own cc nL R ini sc ce sl ks n h pc lv (.ref q :: .int i :: .ref o :: st) Q := by
  intro p l e s m args below meth c D ct base b Z C F H locs ls hR hS hl
  show W p l e R s m args below meth c H locs ce sl Z (F0 m pc ls (.ref (ob_ad base b q) :: .int i :: .ref (ob_ad base b o) :: st.map (ob_rv base b)))
  rw [ob_ad_lt hk, ob_ad_lt hq]
  subst hj
  have hlt : i.toNatClampNeg < codes.length := Nat.not_le.mp fun q => hin (Or.inr q)
  have h0 : ¬ i < 0 := fun q => hin (Or.inl q)
  obtain ⟨r', hr', cellV, g1, g2, g3, -⟩ := hR.1 q _ (ob_ent hq)
  have hcls := (C.2.2.2.2.2.1.1 ci _ hc).2
  obtain ⟨kA, comp, k1, k2, k3, -⟩ := (C.2.2.2.2.2.1.2 4 _ rfl).2
  have hcomp : comp = D.1 ci := Option.some.inj (k3.symm.trans hcls.1)
  subst hcomp
  obtain ⟨kC, hkC, -⟩ := hcls.2
  have hcell : H[base + o]? = some (vp_cell (ct 4) (codes.length, .inr (.inr (.inr (.inr (fun j => ob_rf base (codes.getD j 3))))))) := hR.1 o _ (ob_ent hk)
  refine W.aast C.1 C.2.1 hcell (fun q h => by cases h) (fun h => by cases h) k1 k2 rfl hkC ⟨h0, by show _ < (arrV _ _ _).slots.size; rw [arrV_size]; exact hlt⟩ g1 (fun q h => by rw [g3] at h; cases h) (by rw [g2]; exact hkC) (by rw [g2]; exact va_assign hcls) rfl rfl hdg fun H1 e1 z oq => ?_
  refine k p l e s m args below meth c D ct base b Z C F H1 _ ls (ob_Rset hR hk.1 ?_ z oq (fun q _ hq => ob_cell_ku hq)) (hS.put z oq (Nat.le_add_right _ _)) hl
  rw [ku_s]
  show H1[base + o]? = some (vp_cell (ct 4) ((codes.set i.toNatClampNeg (q + 4)).length, .inr (.inr (.inr (.inr (fun j => ob_rf base ((codes.set i.toNatClampNeg (q + 4)).getD j 3)))))))
  rw [e1, vp_cell_q, vp_cell_q, arrV_store, List.length_set]
  congr 2
  funext x
  by_cases hx : x = i.toNatClampNeg
  · subst hx
    simp [updV, List.getD_eq_getElem?_getD, hlt, ob_rf, va_rf]
  · simp [updV, hx, List.getD_eq_getElem?_getD, List.getElem?_set_ne (Ne.symm hx)]
theorem oj_newa_i {N : Nat} {v : Int32} (hw : Cond.arrayClass .int ∈ obWS) (hn : ¬ v < 0) (hN : v.toNatClampNeg = N) (hb : N * 8 ≤ 536870912) (hz : ∀ k, h.1 n k = 0) (hnn : n < 100000) (hc : ce + 1 ≤ R.cells) (hsl : sl + N ≤ R.slots) (hdg : decode cc pc = .ok (.newarray .int, 2)) (k : ob_J own cc nL R ini sc (ce + 1) (sl + N) (ku ks n (0, [N])) (n + 1) h (pc + 2) lv (.ref n :: st) Q) : ob_J own cc nL R ini sc ce sl ks n h pc lv (.int v :: st) Q := by
  intro p l e s m args below meth c D ct base b Z C F H locs ls hR hS hl
  refine va_newaK (atype := .int) C.1 C.2.1 (C.2.2.2.2.1 _ hw) rfl hdg rfl hn hN (Nat.le_trans (Nat.mul_le_mul_left _ (show componentBytes (newarray.typeOf .int) ≤ 8 by decide)) hb) hc hsl hR.2 fun H1 cA e1 z o1 hAr hNm => ?_
  have hcA : cA = ct 0 := by
    have h2 : s.vm.findClass ("[" ++ (FieldType.toString .int)) = some (ct 0) := (C.2.2.2.2.2.1.2 0 _ rfl).2
    exact Option.some.inj (hNm.symm.trans h2)
  subst hcA
  have z' : H1.size = H.size + 1 := by rw [z, hR.2]
  have o1' : ∀ q, q < H.size → H1[q]? = H[q]? := fun q hq => o1 q (by rw [← hR.2]; exact hq)
  have e2 := k p l e s m args below meth c D ct base b Z C F H1 locs ls (ob_Rpush hR (ks' := ku ks n (0, [N])) (by
    rw [ku_s]
    show H1[base + n]? = some (vp_cell (ct 0) (N, .inl (h.1 n)))
    rw [e1]
    refine congrArg some ?_
    show arrV _ _ (fun _ => _) = arrV _ _ (fun j => .int (h.1 n j))
    congr 1
    funext q
    rw [hz]
    rfl) z' o1' (fun q hq => ku_n (Nat.ne_of_lt hq))) (ob_Spush hS z' o1') hl
  have ea : ob_rv base b (.ref n) = .ref (base + n) := by show Value.ref (ob_ad base b n) = _; rw [ob_ad, if_pos hnn]
  rw [List.map_cons, ea] at e2
  exact e2
theorem oj_newa_l {N : Nat} {v : Int32} (hw : Cond.arrayClass .long ∈ obWS) (hn : ¬ v < 0) (hN : v.toNatClampNeg = N) (hb : N * 8 ≤ 536870912) (hz : ∀ k, h.2.1 n k = 0) (hnn : n < 100000) (hc : ce + 1 ≤ R.cells) (hsl : sl + N ≤ R.slots) (hdg : decode cc pc = .ok (.newarray .long, 2)) (k : ob_J own cc nL R ini sc (ce + 1) (sl + N) (ku ks n (1, [N])) (n + 1) h (pc + 2) lv (.ref n :: st) Q) : ob_J own cc nL R ini sc ce sl ks n h pc lv (.int v :: st) Q := by
  intro p l e s m args below meth c D ct base b Z C F H locs ls hR hS hl
  refine va_newaK (atype := .long) C.1 C.2.1 (C.2.2.2.2.1 _ hw) rfl hdg rfl hn hN (Nat.le_trans (Nat.mul_le_mul_left _ (show componentBytes (newarray.typeOf .long) ≤ 8 by decide)) hb) hc hsl hR.2 fun H1 cA e1 z o1 hAr hNm => ?_
  have hcA : cA = ct 1 := by
    have h2 : s.vm.findClass ("[" ++ (FieldType.toString .long)) = some (ct 1) := (C.2.2.2.2.2.1.2 1 _ rfl).2
    exact Option.some.inj (hNm.symm.trans h2)
  subst hcA
  have z' : H1.size = H.size + 1 := by rw [z, hR.2]
  have o1' : ∀ q, q < H.size → H1[q]? = H[q]? := fun q hq => o1 q (by rw [← hR.2]; exact hq)
  have e2 := k p l e s m args below meth c D ct base b Z C F H1 locs ls (ob_Rpush hR (ks' := ku ks n (1, [N])) (by
    rw [ku_s]
    show H1[base + n]? = some (vp_cell (ct 1) (N, .inr (.inl (h.2.1 n))))
    rw [e1]
    refine congrArg some ?_
    show arrV _ _ (fun _ => _) = arrV _ _ (fun j => .long (h.2.1 n j))
    congr 1
    funext q
    rw [hz]
    rfl) z' o1' (fun q hq => ku_n (Nat.ne_of_lt hq))) (ob_Spush hS z' o1') hl
  have ea : ob_rv base b (.ref n) = .ref (base + n) := by show Value.ref (ob_ad base b n) = _; rw [ob_ad, if_pos hnn]
  rw [List.map_cons, ea] at e2
  exact e2
theorem oj_newa_b {N : Nat} {v : Int32} (hw : Cond.arrayClass .byte ∈ obWS) (hn : ¬ v < 0) (hN : v.toNatClampNeg = N) (hb : N * 8 ≤ 536870912) (hz : ∀ k, h.1 n k = 0) (hnn : n < 100000) (hc : ce + 1 ≤ R.cells) (hsl : sl + N ≤ R.slots) (hdg : decode cc pc = .ok (.newarray .byte, 2)) (k : ob_J own cc nL R ini sc (ce + 1) (sl + N) (ku ks n (2, [N])) (n + 1) h (pc + 2) lv (.ref n :: st) Q) : ob_J own cc nL R ini sc ce sl ks n h pc lv (.int v :: st) Q := by
  intro p l e s m args below meth c D ct base b Z C F H locs ls hR hS hl
  refine va_newaK (atype := .byte) C.1 C.2.1 (C.2.2.2.2.1 _ hw) rfl hdg rfl hn hN (Nat.le_trans (Nat.mul_le_mul_left _ (show componentBytes (newarray.typeOf .byte) ≤ 8 by decide)) hb) hc hsl hR.2 fun H1 cA e1 z o1 hAr hNm => ?_
  have hcA : cA = ct 2 := by
    have h2 : s.vm.findClass ("[" ++ (FieldType.toString .byte)) = some (ct 2) := (C.2.2.2.2.2.1.2 2 _ rfl).2
    exact Option.some.inj (hNm.symm.trans h2)
  subst hcA
  have z' : H1.size = H.size + 1 := by rw [z, hR.2]
  have o1' : ∀ q, q < H.size → H1[q]? = H[q]? := fun q hq => o1 q (by rw [← hR.2]; exact hq)
  have e2 := k p l e s m args below meth c D ct base b Z C F H1 locs ls (ob_Rpush hR (ks' := ku ks n (2, [N])) (by
    rw [ku_s]
    show H1[base + n]? = some (vp_cell (ct 2) (N, .inl (h.1 n)))
    rw [e1]
    refine congrArg some ?_
    show arrV _ _ (fun _ => _) = arrV _ _ (fun j => .int (h.1 n j))
    congr 1
    funext q
    rw [hz]
    rfl) z' o1' (fun q hq => ku_n (Nat.ne_of_lt hq))) (ob_Spush hS z' o1') hl
  have ea : ob_rv base b (.ref n) = .ref (base + n) := by show Value.ref (ob_ad base b n) = _; rw [ob_ad, if_pos hnn]
  rw [List.map_cons, ea] at e2
  exact e2
theorem oj_newa_z {N : Nat} {v : Int32} (hw : Cond.arrayClass .boolean ∈ obWS) (hn : ¬ v < 0) (hN : v.toNatClampNeg = N) (hb : N * 8 ≤ 536870912) (hz : ∀ k, h.1 n k = 0) (hnn : n < 100000) (hc : ce + 1 ≤ R.cells) (hsl : sl + N ≤ R.slots) (hdg : decode cc pc = .ok (.newarray .boolean, 2)) (k : ob_J own cc nL R ini sc (ce + 1) (sl + N) (ku ks n (3, [N])) (n + 1) h (pc + 2) lv (.ref n :: st) Q) : ob_J own cc nL R ini sc ce sl ks n h pc lv (.int v :: st) Q := by
  intro p l e s m args below meth c D ct base b Z C F H locs ls hR hS hl
  refine va_newaK (atype := .boolean) C.1 C.2.1 (C.2.2.2.2.1 _ hw) rfl hdg rfl hn hN (Nat.le_trans (Nat.mul_le_mul_left _ (show componentBytes (newarray.typeOf .boolean) ≤ 8 by decide)) hb) hc hsl hR.2 fun H1 cA e1 z o1 hAr hNm => ?_
  have hcA : cA = ct 3 := by
    have h2 : s.vm.findClass ("[" ++ (FieldType.toString .boolean)) = some (ct 3) := (C.2.2.2.2.2.1.2 3 _ rfl).2
    exact Option.some.inj (hNm.symm.trans h2)
  subst hcA
  have z' : H1.size = H.size + 1 := by rw [z, hR.2]
  have o1' : ∀ q, q < H.size → H1[q]? = H[q]? := fun q hq => o1 q (by rw [← hR.2]; exact hq)
  have e2 := k p l e s m args below meth c D ct base b Z C F H1 locs ls (ob_Rpush hR (ks' := ku ks n (3, [N])) (by
    rw [ku_s]
    show H1[base + n]? = some (vp_cell (ct 3) (N, .inl (h.1 n)))
    rw [e1]
    refine congrArg some ?_
    show arrV _ _ (fun _ => _) = arrV _ _ (fun j => .int (h.1 n j))
    congr 1
    funext q
    rw [hz]
    rfl) z' o1' (fun q hq => ku_n (Nat.ne_of_lt hq))) (ob_Spush hS z' o1') hl
  have ea : ob_rv base b (.ref n) = .ref (base + n) := by show Value.ref (ob_ad base b n) = _; rw [ob_ad, if_pos hnn]
  rw [List.map_cons, ea] at e2
  exact e2
theorem oj_new {index ci N : Nat} {Cn : String} {T : u_T} {ty0 : Nat → FieldType} {codes : List Nat} (hcl : obCl[ci]? = some (Cn, T, N)) (hin : ∀ w ∈ u_ws Cn T N, w ∈ obWS) (hty : ∀ k, k < N → parseFieldDescriptor (T k).2.2.1 = some (ty0 k)) (w1 : Cond.classLink own index Cn ∈ obWS) (w2 : Cond.instantiable Cn N ∈ obWS) (w3 : Cond.initialized Cn ∈ obWS) (hcd : ∀ base' j, j < N → defaultValue (ty0 j) = vp_V (ob_fs base' h n codes) j) (hnn : n < 100000) (hc : ce + 1 ≤ R.cells) (hsl : sl + N ≤ R.slots) (hdg : decode cc pc = .ok (.new index, 3)) (k : ob_J own cc nL R ini sc (ce + 1) (sl + N) (ku ks n (ci + 5, codes)) (n + 1) h (pc + 3) lv (.ref n :: st) Q) : ob_J own cc nL R ini sc ce sl ks n h pc lv st Q := by
  intro p l e s m args below meth c D ct base b Z C F H locs ls hR hS hl
  have hKn := C.2.2.2.2.2.1.1 ci _ hcl
  refine W.newcK C.1 C.2.1 C.2.2.2.1 (C.2.2.2.2.1 _ w1) (C.2.2.2.2.1 _ w2) (C.2.2.2.2.1 _ w3) rfl hdg hc hsl hKn.2.1 hR.2 fun H1 kC hkC e1 z o1 => ?_
  have z' : H1.size = H.size + 1 := by rw [z, hR.2]
  have o1' : ∀ q, q < H.size → H1[q]? = H[q]? := fun q hq => o1 q (by rw [← hR.2]; exact hq)
  have e2 := k p l e s m args below meth c D ct base b Z C F H1 locs ls (ob_Rpush hR (ks' := ku ks n (ci + 5, codes)) (by
    rw [ku_s]
    exact ⟨_, hcl, (u_born ty0 C.2.2.2.2.1 hin hKn hkC e1 hty).to (hcd base)⟩) z' o1' (fun q hq => ku_n (Nat.ne_of_lt hq))) (ob_Spush hS z' o1') hl
  have ea : ob_rv base b (.ref n) = .ref (base + n) := by show Value.ref (ob_ad base b n) = _; rw [ob_ad, if_pos hnn]
  rw [List.map_cons, ea] at e2
  exact e2
theorem oj_newq {index N : Nat} {v : Int32} (w1 : Cond.classLink own index "Objections$Room" ∈ obWS) (hn : ¬ v < 0) (hN : v.toNatClampNeg = N) (hb : N * 4 ≤ 536870912) (hnn : n < 100000) (hc : ce + 1 ≤ R.cells) (hsl : sl + N ≤ R.slots) (hdg : decode cc pc = .ok (.anewarray index, 3)) (k : ob_J own cc nL R ini sc (ce + 1) (sl + N) (ku ks n (4, List.replicate N 3)) (n + 1) h (pc + 3) lv (.ref n :: st) Q) : ob_J own cc nL R ini sc ce sl ks n h pc lv (.int v :: st) Q := by
  intro p l e s m args below meth c D ct base b Z C F H locs ls hR hS hl
  subst hN
  refine W.anew C.1 C.2.1 C.2.2.2.1 (C.2.2.2.2.1 _ w1) (va_AO.use C.2.2.2.2.2.2.2.2.2.2.1) rfl hdg rfl hn hb hc hsl fun cA kA comp f1 f2 f3 f4 => ?_
  generalize hH1 : H.push ({ cls := cA, slots := Array.replicate v.toNatClampNeg .null, vm := .none } : Cell) = H1
  have z' : H1.size = H.size + 1 := by rw [← hH1, Array.size_push]
  have e1 : H1[H.size]? = some (arrV cA v.toNatClampNeg (fun _ => .null)) := by rw [← hH1, Array.getElem?_push_size, ← arrV_new]
  have o1' : ∀ q : Nat, q < H.size → H1[q]? = H[q]? := fun q hq => by rw [← hH1, Array.getElem?_push, if_neg (Nat.ne_of_lt hq)]
  obtain ⟨kA2, comp2, k1, k2, k3, k4⟩ := (C.2.2.2.2.2.1.2 4 _ rfl).2
  have hcA : cA = ct 4 := Option.some.inj (f1.symm.trans k4)
  subst hcA
  have e2 := k p l e s m args below meth c D ct base b Z C F H1 locs ls (ob_Rpush hR (ks' := ku ks n (4, List.replicate v.toNatClampNeg 3)) (by
    rw [ku_s]
    show H1[base + n]? = some (vp_cell (ct 4) ((List.replicate v.toNatClampNeg 3).length, .inr (.inr (.inr (.inr (fun j => ob_rf base ((List.replicate v.toNatClampNeg 3).getD j 3)))))))
    rw [← hR.2, e1, vp_cell_q, List.length_replicate]
    congr 2
    funext x
    have : (List.replicate v.toNatClampNeg 3).getD x 3 = 3 := by
      rw [List.getD_eq_getElem?_getD]
      by_cases hx : x < v.toNatClampNeg
      · simp [List.getElem?_replicate, hx]
      · simp [List.getElem?_replicate, hx]
    rw [this]
    rfl) z' o1' (fun q hq => ku_n (Nat.ne_of_lt hq))) (ob_Spush hS z' o1') hl
  have ea : ob_rv base b (.ref n) = .ref (base + n) := by show Value.ref (ob_ad base b n) = _; rw [ob_ad, if_pos hnn]
  rw [List.map_cons, ea, ← hR.2] at e2
  exact e2
theorem oj_copy {index o0 o1 N0 N1 : Nat} {sp dp z : Int32} {jsp jdp jz : Nat} (hk0 : ob_is ks n o0 (0, [N0])) (hk1 : ob_is ks n o1 (0, [N1])) (w1 : Cond.methodLink own index arraycopyName ∈ obWS) (w2 : Cond.native arraycopyName ∈ obWS) (w3 : Cond.static arraycopyName ∈ obWS) (w4 : Cond.initialized "java/lang/System" ∈ obWS)
    (h1 : ¬ sp < 0) (h2 : ¬ dp < 0) (h3 : ¬ z < 0) (g1 : sp.toNatClampNeg = jsp) (g2 : dp.toNatClampNeg = jdp) (g3 : z.toNatClampNeg = jz) (h4 : jsp + jz ≤ N0) (h5 : jdp + jz ≤ N1) (hfr : 1 ≤ R.frames) (hlo : 40 ≤ R.locals) (hst : (st.map fun v => v.category).sum ≤ 8) (hdg : decode cc pc = .ok (.invokestatic index, 3)) (k : ob_J own cc nL R ini sc ce sl ks n (h_c h o0 jsp o1 jdp jz) (pc + 3) lv st Q) : ob_J own cc nL R ini sc ce sl ks n h pc lv (.int z :: .int dp :: .ref o1 :: .int sp :: .ref o0 :: st) Q := by
  intro p l e s m args below meth c D ct base b Z C F H locs ls hR hS hl
  show W p l e R s m args below meth c H locs ce sl Z (F0 m pc ls (.int z :: .int dp :: .ref (ob_ad base b o1) :: .int sp :: .ref (ob_ad base b o0) :: st.map (ob_rv base b)))
  rw [ob_ad_lt hk0, ob_ad_lt hk1]
  subst g1
  subst g2
  subst g3
  have nn : ∀ z : Int32, ¬ z < 0 → z.toInt = (z.toNatClampNeg : Int) := by
    intro z hz
    have hz0 : (0 : Int) ≤ z.toInt := by
      have := Int32.not_lt.mp hz
      simpa using Int32.le_iff_toInt_le.mp this
    show z.toInt = ((z.toInt.toNat : Nat) : Int)
    omega
  intro T hT X
  have hc0 : H[base + o0]? = some (vp_cell (ct 0) (N0, .inl (h.1 o0))) := hR.1 o0 _ (ob_ent hk0)
  have hc1 : H[base + o1]? = some (vp_cell (ct 0) (N1, .inl (h.1 o1))) := hR.1 o1 _ (ob_ent hk1)
  obtain ⟨-, k0, hk0', cm0, hkk0⟩ := (C.2.2.2.2.2.1.2 0 _ rfl).1 N0 (fun j => .int (h.1 o0 j))
  have hcat : ((st.map (ob_rv base b)).map fun v => v.category).sum ≤ 8 := by
    rw [List.map_map]
    have : ((fun v => v.category) ∘ ob_rv base b) = (fun v : Value => v.category) := by funext v; exact ob_rv_cat base b v
    rw [this]
    exact hst
  have hnw : nativeFrameWords "java/lang/System" "arraycopy" 5 ≤ 20 := by decide +kernel
  obtain ⟨vm', X', step⟩ := X.arraycopy C.1 C.2.2.2.1 (C.2.2.2.2.1 _ w1) (C.2.2.2.2.1 _ w2) (C.2.2.2.2.1 _ w3) (C.2.2.2.2.1 _ w4) (src := base + o0) (dst := base + o1) (cs := vp_cell (ct 0) (N0, .inl (h.1 o0))) (cd := vp_cell (ct 0) (N1, .inl (h.1 o1))) (srcPos := sp) (destPos := dp) (n := z) (by rw [hT]; exact hc0) (by rw [hT]; exact hc1)
    (fun _ h => by cases h) (fun _ h => by cases h) (fun h => by cases h) (fun h => by cases h) hk0' hk0' hkk0 hkk0 (by simp [refKind]) h1 h2 h3
    (by rw [nn sp h1, nn z h3]; show ¬ _ > ((arrV (ct 0) N0 (fun j => .int (h.1 o0 j))).slots.size : Int); rw [arrV_size]; omega)
    (by rw [nn dp h2, nn z h3]; show ¬ _ > ((arrV (ct 0) N1 (fun j => .int (h.1 o1 j))).slots.size : Int); rw [arrV_size]; omega)
    (fun vm₁ _ i hi => by
      have e : (vp_cell (ct 0) (N0, .inl (h.1 o0))).slots.getD (sp.toNatClampNeg + i) .null = .int (h.1 o0 (sp.toNatClampNeg + i)) := by
        show (arrV (ct 0) N0 (fun j => .int (h.1 o0 j))).slots.getD _ _ = _
        rw [Array.getD_eq_getD_getElem?, arrV_read _ _ (by omega)]
        rfl
      refine ⟨?_, ?_⟩
      · rw [e]
        rfl
      · rw [e]
        exact trivial)
    (g := F0 m pc ls (.int z :: .int dp :: .ref (base + o1) :: .int sp :: .ref (base + o0) :: st.map (ob_rv base b))) rfl (hl.1.trans C.2.2.1.symm) (rest := st.map (ob_rv base b)) rfl (by rw [C.2.1]; exact hdg) hfr (by show 2 * 0 + _ + _ ≤ _; omega)
  have e1 : copied (vp_cell (ct 0) (N0, .inl (h.1 o0))) (vp_cell (ct 0) (N1, .inl (h.1 o1))) sp dp z = vp_cell (ct 0) (N1, .inl (va_cpy (h.1 o0) (h.1 o1) sp.toNatClampNeg dp.toNatClampNeg z.toNatClampNeg)) := va_copied (fun z => .int z) (ct 0) (ct 0) (h.1 o0) (h.1 o1) h4
  rw [e1] at X' step
  have hlt : base + o1 < H.size := (Array.getElem?_eq_some_iff.mp hc1).1
  have hheap : ((T.setVm vm').setCell (base + o1) (vp_cell (ct 0) (N1, .inl (va_cpy (h.1 o0) (h.1 o1) sp.toNatClampNeg dp.toNatClampNeg z.toNatClampNeg)))).heap = H.setIfInBounds (base + o1) (vp_cell (ct 0) (N1, .inl (va_cpy (h.1 o0) (h.1 o1) sp.toNatClampNeg dp.toNatClampNeg z.toNatClampNeg))) := by rw [← hT]; rfl
  generalize hH1 : H.setIfInBounds (base + o1) (vp_cell (ct 0) (N1, .inl (va_cpy (h.1 o0) (h.1 o1) sp.toNatClampNeg dp.toNatClampNeg z.toNatClampNeg))) = H1 at hheap
  have oq : ∀ q : Nat, q ≠ base + o1 → H1[q]? = H[q]? := fun q hq => by rw [← hH1]; simp [Array.getElem?_setIfInBounds, Ne.symm hq]
  have zz : H1.size = H.size := by rw [← hH1]; simp
  have ee : H1[base + o1]? = some (vp_cell (ct 0) (N1, .inl (va_cpy (h.1 o0) (h.1 o1) sp.toNatClampNeg dp.toNatClampNeg z.toNatClampNeg))) := by rw [← hH1]; simp [Array.getElem?_setIfInBounds, hlt]
  have hS1 : ∀ L : List Loc, (∀ q ∈ L, base ≤ q.base) → va_S (fun q => base ≤ q) s.heap H1 (locs ++ L) := fun L hL => ⟨by rw [zz]; exact hS.1, fun q y1 y2 => (oq q (fun e => y2 (by rw [e]; exact Nat.le_add_right _ _))).trans (hS.2.1 q y1 y2), fun q hq => by
      rcases List.mem_append.mp hq with h | h
      · exact hS.2.2 q h
      · exact hL q h⟩
  have hR1 : ob_R D ct base ks n (h_c h o0 sp.toNatClampNeg o1 dp.toNatClampNeg z.toNatClampNeg) H1 := ob_Rset hR hk1.1 (by
      rw [hk1.2.2]
      show H1[base + o1]? = some (vp_cell (ct 0) (N1, .inl ((h_c h o0 sp.toNatClampNeg o1 dp.toNatClampNeg z.toNatClampNeg).1 o1)))
      rw [ee]
      congr 2
      simp [h_c]) zz oq (fun q _ hq => ob_cell_h_c hq)
  obtain ⟨t, a1, b1⟩ := k p l e s m args below meth c D ct base b Z C F H1 _ ls hR1 (hS1 _ (fun q hq => by
      obtain ⟨z, -, hz⟩ := List.mem_map.mp hq
      rw [← hz]
      exact Nat.le_add_right _ _)) hl _ hheap X'
  exact ⟨t, step t a1, b1⟩
theorem oj_objInit {o : Nat} {idx : Nat} {kd : ob_K} (hk : ob_is ks n o kd) (w1 : Cond.methodLink own idx objectInit ∈ obWS) (w2 : Cond.instanceMethod objectInit ∈ obWS) (w3 : Cond.code objectInit ⟨#[0xb1]⟩ 1 none ∈ obWS) (hfr : 1 ≤ R.frames) (hlo : 40 ≤ R.locals) (hst : st = []) (hdg : decode cc pc = .ok (.invokespecial idx, 3)) (k : ob_J own cc nL R ini sc ce sl ks n h (pc + 3) lv st Q) : ob_J own cc nL R ini sc ce sl ks n h pc lv (.ref o :: st) Q := by
  intro p l e s m args below meth c D ct base b Z C F H locs ls hR hS hl
  subst hst
  exact W.objInit C.1 C.2.1 C.2.2.2.1 (C.2.2.2.2.1 _ w1) (C.2.2.2.2.1 _ w2) (C.2.2.2.2.1 _ w3) rfl (hl.1.trans C.2.2.1.symm) rfl hdg hfr (Nat.le_trans (show 2 * 0 + 0 + 12 ≤ 40 by decide) hlo) (k p l e s m args below meth c D ct base b Z C F H locs ls hR hS hl)
theorem oj_ret {r : Option Value} (hq : Q r ks n h) (hdg : decode cc pc = .ok (ob_ri r, 1)) (hce : ce ≤ R.cells) (hsl : sl ≤ R.slots) : ob_J own cc nL R ini sc ce sl ks n h pc lv r.toList Q := by
  intro p l e s m args below meth c D ct base b Z C F H locs ls hR hS hl
  exact W.widen hce hsl (F r ks n h hq pc H locs ls hdg hR hS)
theorem oj_imp {Q2 : ob_Q} (k : ob_J own cc nL R ini sc ce sl ks n h pc lv st Q) (hq : ∀ r ks' n' h', Q r ks' n' h' → Q2 r ks' n' h') : ob_J own cc nL R ini sc ce sl ks n h pc lv st Q2 := by
  intro p l e s m args below meth c D ct base b Z C F H locs ls hR hS hl
  exact k p l e s m args below meth c D ct base b Z C (fun r ks' n' h' z => F r ks' n' h' (hq r ks' n' h' z)) H locs ls hR hS hl
theorem oj_lv (js : List Nat) (hs : lv_pick lv js = lv') (k : ob_J own cc nL R ini sc ce sl ks n h pc lv' st Q) : ob_J own cc nL R ini sc ce sl ks n h pc lv st Q := by
  intro p l e s m args below meth c D ct base b Z C F H locs ls hR hS hl
  exact k p l e s m args below meth c D ct base b Z C F H locs ls hR hS (ob_lv_sub hl js hs)
theorem oj_mmax {index : Nat} {x y : Int32} (w1 : Cond.methodLink own index Lib.Math.max.name ∈ obWS) (w2 : Cond.static Lib.Math.max.name ∈ obWS) (w3 : Cond.initialized "java/lang/Math" ∈ obWS) (w4 : Cond.code Lib.Math.max.name Lib.Math.max.code 2 (some .int) ∈ obWS) (hfr : 1 ≤ R.frames) (hlo : 40 ≤ R.locals) (hst : (st.map fun v => v.category).sum ≤ 8) (hce : ce ≤ R.cells) (hsl : sl ≤ R.slots) (hdg : decode cc pc = .ok (.invokestatic index, 3)) (k : ob_J own cc nL R ini sc ce sl ks n h (pc + 3) lv (.int (if x < y then y else x) :: st) Q) : ob_J own cc nL R ini sc ce sl ks n h pc lv (.int y :: .int x :: st) Q := by
  intro p l e s m args below meth c D ct base b Z C F H locs ls hR hS hl
  have hcat : ((st.map (ob_rv base b)).map fun v => v.category).sum ≤ 8 := by
    rw [List.map_map]
    have : ((fun v => v.category) ∘ ob_rv base b) = (fun v : Value => v.category) := by funext v; exact ob_rv_cat base b v
    rw [this]
    exact hst
  exact va_mmax C.1 C.2.1 (C.2.2.1.trans hl.1.symm) C.2.2.2.1 (C.2.2.2.2.1 _ w1) (C.2.2.2.2.1 _ w2) (C.2.2.2.2.1 _ w3) (C.2.2.2.2.1 _ w4) hfr (by omega) hce hsl hdg (k p l e s m args below meth c D ct base b Z C F H locs ls hR hS hl)
theorem oj_mmin {index : Nat} {x y : Int32} (w1 : Cond.methodLink own index Lib.Math.min.name ∈ obWS) (w2 : Cond.static Lib.Math.min.name ∈ obWS) (w3 : Cond.initialized "java/lang/Math" ∈ obWS) (w4 : Cond.code Lib.Math.min.name Lib.Math.min.code 2 (some .int) ∈ obWS) (hfr : 1 ≤ R.frames) (hlo : 40 ≤ R.locals) (hst : (st.map fun v => v.category).sum ≤ 8) (hce : ce ≤ R.cells) (hsl : sl ≤ R.slots) (hdg : decode cc pc = .ok (.invokestatic index, 3)) (k : ob_J own cc nL R ini sc ce sl ks n h (pc + 3) lv (.int (if y < x then y else x) :: st) Q) : ob_J own cc nL R ini sc ce sl ks n h pc lv (.int y :: .int x :: st) Q := by
  intro p l e s m args below meth c D ct base b Z C F H locs ls hR hS hl
  have hcat : ((st.map (ob_rv base b)).map fun v => v.category).sum ≤ 8 := by
    rw [List.map_map]
    have : ((fun v => v.category) ∘ ob_rv base b) = (fun v : Value => v.category) := by funext v; exact ob_rv_cat base b v
    rw [this]
    exact hst
  exact va_mmin C.1 C.2.1 (C.2.2.1.trans hl.1.symm) C.2.2.2.1 (C.2.2.2.2.1 _ w1) (C.2.2.2.2.1 _ w2) (C.2.2.2.2.1 _ w3) (C.2.2.2.2.1 _ w4) hfr (by omega) hce hsl hdg (k p l e s m args below meth c D ct base b Z C F H locs ls hR hS hl)
theorem oj_sld {L j : Nat} {xs : Nat → Int32} {i : Int32} (hsc : sc = some (L, xs)) (hin : vp_in i L) (hj : i.toNatClampNeg = j) (hdg : decode cc pc = .ok (.iaload, 1)) (k : ob_J own cc nL R ini sc ce sl ks n h (pc + 1) lv (.int (xs j) :: st) Q) : ob_J own cc nL R ini sc ce sl ks n h pc lv (.int i :: .ref 100000 :: st) Q := by
  intro p l e s m args below meth c D ct base b Z C F H locs ls hR hS hl
  obtain ⟨hX, hb⟩ := C.2.2.2.2.2.2.2.2.1 L xs hsc
  subst hj
  exact va_sld C.1 C.2.1 hX (Nat.lt_of_lt_of_le hb C.2.2.2.2.2.2.1) (Nat.not_le.mpr hb) hS hin hdg (k p l e s m args below meth c D ct base b Z C F H locs ls hR hS hl)
theorem oj_slen {L : Nat} {xs : Nat → Int32} (hsc : sc = some (L, xs)) (hdg : decode cc pc = .ok (.arraylength, 1)) (k : ob_J own cc nL R ini sc ce sl ks n h (pc + 1) lv (.int (Int32.ofNat L) :: st) Q) : ob_J own cc nL R ini sc ce sl ks n h pc lv (.ref 100000 :: st) Q := by
  intro p l e s m args below meth c D ct base b Z C F H locs ls hR hS hl
  obtain ⟨hX, hb⟩ := C.2.2.2.2.2.2.2.2.1 L xs hsc
  exact va_slen C.1 C.2.1 hX (Nat.lt_of_lt_of_le hb C.2.2.2.2.2.2.1) (Nat.not_le.mpr hb) hS hdg (k p l e s m args below meth c D ct base b Z C F H locs ls hR hS hl)
end JROWS

-- ===== contracts and calls =====
def ob_Pc (D : va_G) (ct : Nat → ClassId) (base b : Nat) (ks : Nat → ob_K) (n : Nat) (h : ob_H) (av : List Value) : Array Value → State → Prop := fun v U =>
  v = (av.map (ob_rv base b)).toArray ∧ ob_R D ct base ks n h U.heap ∧ va_K D obCl (ob_tys ct) U ∧ ob_X base U U.heap
def ob_Qc (D : va_G) (ct : Nat → ClassId) (base b : Nat) (Q : ob_Q) : Array Value → State → Outcome → State → Prop := fun _ st o t =>
  ∃ (r : Option Value) (ks : Nat → ob_K) (n : Nat) (h : ob_H), o = .returned (r.map (ob_rv base b)) ∧ Q r ks n h ∧ ob_R D ct base ks n h t.heap ∧ st.heap.size ≤ t.heap.size ∧ ∀ q, q < st.heap.size → ¬ base ≤ q → t.heap[q]? = st.heap[q]?
/-- the contract of a method: from this picture and these arguments it returns with Q -/
def ob_T (y : MethodName) (cc : ByteArray) (nL : Nat) (ret : Option FieldType) (R : Room) (ks : Nat → ob_K) (n : Nat) (h : ob_H) (av : List Value) (Q : ob_Q) : Prop :=
  ∀ (l : Launch) (D : va_G) (ct : Nat → ClassId) (base b : Nat), Met l y (.code y cc nL ret :: obWS) R (ob_Pc D ct base b ks n h av) (ob_Qc D ct base b Q) R.cells R.slots (fun q => base ≤ q)
def ob_fits (ret : Option FieldType) (r : Option Value) : Prop := match ret, r with
  | none, none => True
  | some .int, some (.int _) => True
  | some .boolean, some (.int v) => narrow .boolean (.int v) = .int v
  | some .long, some (.long _) => True
  | _, _ => False
theorem ob_args {base b : Nat} : ∀ (i : Nat) (av : List Value), lv_args i (av.map (ob_rv base b)) = (lv_args i av).map (fun q => (q.1, ob_rv base b q.2))
  | _, [] => rfl
  | i, v :: vs => by
    show (i, ob_rv base b v) :: lv_args (if (ob_rv base b v).category = 2 then i + 2 else i + 1) (vs.map (ob_rv base b)) = _
    rw [ob_rv_cat, ob_args]
    rfl
theorem ob_sl_len {base b : Nat} : ∀ (av : List Value), (lg_sl (av.map (ob_rv base b))).length = (lg_sl av).length
  | [] => rfl
  | v :: vs => by
    have h := ob_sl_len (base := base) (b := b) vs
    unfold lg_sl at h ⊢
    rw [List.map_cons, List.flatMap_cons, List.flatMap_cons, List.length_append, List.length_append, h, ob_rv_cat]
    split <;> rfl
theorem ob_X.warm {base : Nat} {s U : State} {H : Heap} (hW : s.WarmedH U.vm) (h : ob_X base s H) : ob_X base U H := by
  obtain ⟨h1, h2, ⟨z1, z2⟩, a0, v0, h3, h4⟩ := h
  exact ⟨va_Nw.warmM hW h1, h2.moved hW.alike, ⟨z1.moved hW.alike, z2.moved hW.alike⟩, a0, v0, h3.warm hW, h4.moved hW.alike⟩
theorem ob_X.kept {base : Nat} {s : State} {H H1 : Heap} (h : ob_X base s H) (hq : ∀ a, a < H.size → ¬ base ≤ a → H1[a]? = H[a]?) : ob_X base s H1 := by
  obtain ⟨h1, h2, ⟨z1, z2⟩, a0, v0, h3, h4⟩ := h
  exact ⟨h1, h2, ⟨z1.kept hq, z2.kept hq⟩, a0, v0, h3, h4.kept hq⟩
theorem ob_X.same {base : Nat} {u U : State} {H : Heap} (hv : U.vm = u.vm) (h : ob_X base u H) : ob_X base U H := by
  obtain ⟨h1, h2, ⟨z1, z2⟩, a0, v0, h3, h4⟩ := h
  have hal : u.vm.Alike U.vm := by rw [hv]; exact Vm.Alike.refl _
  exact ⟨va_Nw.same rfl hv.symm h1, h2.moved hal, ⟨z1.moved hal, z2.moved hal⟩, a0, v0, h3.same hv, h4.moved hal⟩
theorem ob_blind {D : va_G} {ct : Nat → ClassId} {base b : Nat} {ks : Nat → ob_K} {n : Nat} {h : ob_H} {av : List Value} : FrameBlind (ob_Pc D ct base b ks n h av) := by
  intro a U g mk q
  obtain ⟨q1, q2, q3, q4⟩ := q
  exact ⟨q1, q2, va_K.moved (u := U) (U := U.calling g mk a) (Vm.Alike.refl U.vm) q3, ob_X.same (u := U) (U := U.calling g mk a) rfl q4⟩
theorem ob_goodIn {y : MethodName} {cc : ByteArray} {nL : Nat} {ret : Option FieldType} (hc : Cond.code y cc nL ret ∈ obWS) : GoodIn obWS (Cond.code y cc nL ret :: obWS) := by
  intro w hw
  rcases List.mem_cons.mp hw with rfl | hw
  · exact ⟨hc, ob_good _ hc⟩
  · exact ⟨hw, ob_good _ hw⟩
set_option maxHeartbeats 1000000 in
theorem ob_T_of {y : MethodName} {cc : ByteArray} {nL : Nat} {ret : Option FieldType} {R : Room} {ini : Bool} {ks : Nat → ob_K} {n : Nat} {h : ob_H} {av : List Value} {Q : ob_Q} (hy : plainName y.cls = true) (hini : ini = true → y.name = "<init>") (hlen : (lg_sl av).length ≤ nL)
    (hJ : ob_J y.cls cc nL R ini none 0 0 ks n h 0 (lv_args 0 av) [] (fun r ks' n' h' => ob_fits ret r ∧ Q r ks' n' h')) : ob_T y cc nL ret R ks n h av Q := by
  intro l D ct base b
  refine Met.ofW (cc := cc) (maxL := nL) (ret := ret) hy rfl ?_
  intro p e s m args below meth c s₁ B hml hv
  obtain ⟨rfl, hR, hK, hX⟩ := hv
  have hts := atoms_spec (ws := Cond.code y cc nL ret :: obWS) B.pre
  have hle := lv_entry (av.map (ob_rv base b)) (n := nL) (by rw [ob_sl_len]; exact hlen)
  rw [ob_args] at hle
  rw [lg_entry_eq]
  have hlocks := B.notSynchronized
  refine hJ p l e s m _ below meth c D ct base b _ ⟨B.exec, B.bytes, hml, findClass_of_methodNamed B.named, fun w hw => hts w (List.mem_cons_of_mem _ hw), hK, by rw [hR.2]; exact Nat.le_add_right _ _, fun hi => by rw [(name_of_methodNamed B.named B.method).1]; exact hini hi, fun _ _ hn => by (cases hn), hX⟩ ?_ s.heap [] _ hR va_S.rf hle
  intro r ks' n' h' hq pc H locs ls hdg hR' hS'
  have hpost : ∀ t : State, t.heap = H → s.WarmedH t.vm → ob_Qc D ct base b Q (List.map (ob_rv base b) av).toArray s (.returned (r.map (ob_rv base b))) t := fun t ht _ =>
    ⟨r, ks', n', h', rfl, hq.2, by rw [ht]; exact hR', by rw [ht]; exact hS'.1, fun q h1 h2 => by rw [ht]; exact hS'.2.1 q h1 h2⟩
  have hr := B.returns
  have hf := hq.1
  cases r with
  | none =>
    cases ret with
    | some ty => cases ty <;> exact hf.elim
    | none => exact W.vret B.exec B.bytes hr hpost hS'.2.2 hdg
  | some v =>
    cases ret with
    | none => exact hf.elim
    | some ty =>
      cases ty <;> first | exact hf.elim | skip
      all_goals cases v <;> first | exact hf.elim | skip
      all_goals first
        | exact W.iret B.exec B.bytes hr hpost hS'.2.2 hdg
        | exact W.lret B.exec B.bytes hr hpost hS'.2.2 hdg
        | exact W.zret B.exec B.bytes hr hf hpost hS'.2.2 hdg

section JCALLS
variable {own : String} {cc : ByteArray} {nL : Nat} {R : Room} {ini : Bool} {sc : ob_Sc} {ce sl : Nat} {ks : Nat → ob_K} {n : Nat} {h : ob_H} {pc : Nat} {lv lv' : List (Nat × Value)} {st : List Value} {Q : ob_Q}
def ob_mi (own : String) (index : Nat) (y : MethodName) (bytes : ByteArray) (maxL : Nat) (ret : Option FieldType) (na : Nat) : Prop :=
  Cond.methodLink own index y ∈ obWS ∧ Cond.initialized y.cls ∈ obWS ∧ Cond.code y bytes maxL ret ∈ obWS ∧ (y.cls ≠ "java/lang/invoke/MethodHandle" ∧ y.cls ≠ "java/lang/invoke/VarHandle" ∧ (parseMethodDescriptor y.desc).map (fun d => d.parameters.length) = some na)
/-- behind a call -/
theorem ob_back {p : Program} {l : Launch} {e : Env} {s : State} {m : MethodId} {args : Array Value} {below : List Frame} {meth : Method} {c : Code} {D : va_G} {ct : Nat → ClassId} {base b : Nat} {Z : State → Prop} {H : Heap} {locs : List Loc} {ls : Array Slot} {st0 : List Value} {Q1 : ob_Q} {av : Array Value} {mc ms : Nat}
    (C : ob_C p s m args meth c D ct base b own cc nL ini sc) (F : ob_Ret p l e R s m args below meth c D ct base b cc Q Z) (hS : va_S (fun q => base ≤ q) s.heap H locs) (hl : lv_has ls nL (lv.map fun q => (q.1, ob_rv base b q.2)))
    (hr : va_Run p l e R s m args below meth c H locs ce sl mc ms (F0 m pc ls st0) (st.map (ob_rv base b)) (ob_Qc D ct base b Q1 av) (fun q => base ≤ q))
    (kk : ∀ r ks' n' h', Q1 r ks' n' h' → ob_J own cc nL R ini sc (ce + mc) (sl + ms) ks' n' h' (pc + 3) lv (r.toList ++ st) Q) : W p l e R s m args below meth c H locs ce sl Z (F0 m pc ls st0) := by
  intro T hT X
  obtain ⟨v, st₀, t, T', L, h0, X', hL, e1, e2, ⟨r, ks', n', h', hv, hq, hR', hz, ho⟩, go⟩ := hr T hT X
  have hv' : v = r.map (ob_rv base b) := by cases hv; rfl
  subst hv'
  rw [h0] at hz ho
  rw [← e1] at hR' hz ho
  have e3 := kk r ks' n' h' hq p l e s m args below meth c D ct base b Z C F T'.heap (locs ++ L) ls hR' ⟨Nat.le_trans hS.1 hz, fun q h1 h2 => (ho q (Nat.lt_of_lt_of_le h1 hS.1) h2).trans (hS.2.1 q h1 h2), fun q hq => by
      rcases List.mem_append.mp hq with h | h
      · exact hS.2.2 q h
      · exact hL q h⟩ hl
  have e4 : (r.toList ++ st).map (ob_rv base b) = (r.map (ob_rv base b)).toList ++ st.map (ob_rv base b) := by cases r <;> rfl
  rw [e4] at e3
  obtain ⟨t2, a1, b1⟩ := e3 T' rfl X'
  exact ⟨t2, go t2 a1, b1⟩
theorem ob_cat8 {base b : Nat} (hst : (st.map fun v => v.category).sum ≤ 8) : ((st.map (ob_rv base b)).map fun v => v.category).sum ≤ 8 := by
  rw [List.map_map]
  have : ((fun v => v.category) ∘ ob_rv base b) = (fun v : Value => v.category) := by funext v; exact ob_rv_cat base b v
  rw [this]
  exact hst
theorem ob_pre {p : Program} {s : State} {m : MethodId} {args : Array Value} {meth : Method} {c : Code} {D : va_G} {ct : Nat → ClassId} {base b : Nat} {H : Heap} {locs : List Loc} {av : List Value}
    (C : ob_C p s m args meth c D ct base b own cc nL ini sc) (hR : ob_R D ct base ks n h H) (hS : va_S (fun q => base ≤ q) s.heap H locs) : ∀ U : State, U.heap = H → s.WarmedH U.vm → ob_Pc D ct base b ks n h av (av.map (ob_rv base b)).toArray U := by
  intro U hU hW
  refine ⟨rfl, by rw [hU]; exact hR, va_K.moved hW.alike C.2.2.2.2.2.1, ?_⟩
  rw [hU]
  exact ob_X.warm hW (ob_X.kept C.2.2.2.2.2.2.2.2.2 (fun a h1 h2 => hS.2.1 a h1 h2))
theorem oj_callS {index maxL : Nat} {y : MethodName} {bytes : ByteArray} {ret : Option FieldType} {rm : Room} {st0 : List Value} {Q1 : ob_Q} (As : List Value) (hM : ob_mi own index y bytes maxL ret As.length) (w1 : Cond.static y ∈ obWS) (hT : ob_T y bytes maxL ret rm ks n h As Q1) (hR1 : rm.frames + 1 ≤ R.frames ∧ 8 + (maxL + 11) + rm.locals ≤ R.locals) (hcs : ce + rm.cells ≤ R.cells ∧ sl + rm.slots ≤ R.slots) (hst0 : st0 = As.reverse ++ st) (hst : (st.map fun v => v.category).sum ≤ 8) (hdg : decode cc pc = .ok (.invokestatic index, 3))
    (kk : ∀ r ks' n' h', Q1 r ks' n' h' → ob_J own cc nL R ini sc (ce + rm.cells) (sl + rm.slots) ks' n' h' (pc + 3) lv (r.toList ++ st) Q) : ob_J own cc nL R ini sc ce sl ks n h pc lv st0 Q := by
  intro p l e s m args below meth c D ct base b Z C F H locs ls hR hS hl
  obtain ⟨m1, m2, m3, m4⟩ := hM
  have hx := C.2.2.2.2.1
  refine ob_back C F hS hl (va_runS (As := As.map (ob_rv base b)) (rest := st.map (ob_rv base b)) ⟨C.1, C.2.1, C.2.2.1, C.2.2.2.1, hx⟩ (hT l D ct base b) ⟨callB_of As.length hx (ob_goodIn m3) rfl rfl rfl (hx _ m2) (hx _ m1) m4 hR1, hx _ w1⟩ ⟨ob_blind, ob_pre C hR hS⟩ rfl (List.length_map ..) hl.1 ?_ (lv_room (ob_cat8 hst)) hdg hcs) kk
  show st0.map (ob_rv base b) = _
  rw [hst0, List.map_append, List.map_reverse]
theorem oj_callV {index maxL ci o N : Nat} {T : u_T} {codes : List Nat} {y : MethodName} {bytes : ByteArray} {ret : Option FieldType} {rm : Room} {st0 : List Value} {Q1 : ob_Q} (As : List Value) (hM : ob_mi own index y bytes maxL ret As.length) (w1 : Cond.instanceMethod y ∈ obWS) (w2 : Cond.selects y.cls y y ∈ obWS) (hcl : obCl[ci]? = some (y.cls, T, N)) (hk : ob_is ks n o (ci + 5, codes)) (hT : ob_T y bytes maxL ret rm ks n h (.ref o :: As) Q1) (hR1 : rm.frames + 1 ≤ R.frames ∧ 8 + (maxL + 11) + rm.locals ≤ R.locals) (hcs : ce + rm.cells ≤ R.cells ∧ sl + rm.slots ≤ R.slots) (hst0 : st0 = As.reverse ++ .ref o :: st) (hst : (st.map fun v => v.category).sum ≤ 8) (hdg : decode cc pc = .ok (.invokevirtual index, 3))
    (kk : ∀ r ks' n' h', Q1 r ks' n' h' → ob_J own cc nL R ini sc (ce + rm.cells) (sl + rm.slots) ks' n' h' (pc + 3) lv (r.toList ++ st) Q) : ob_J own cc nL R ini sc ce sl ks n h pc lv st0 Q := by
  intro p l e s m args below meth c D ct base b Z C F H locs ls hR hS hl
  obtain ⟨m1, m2, m3, m4⟩ := hM
  have hx := C.2.2.2.2.1
  have hrec := va_recv C.2.2.2.2.2.1 hR.1 (ci := ci) (q0 := o) (fs := ob_fs base h o codes) (a := base + o) hcl (ob_ent hk)
  refine ob_back C F hS hl (va_runV (As := As.map (ob_rv base b)) (b := base + o) (C := y.cls) (rest := st.map (ob_rv base b)) ⟨C.1, C.2.1, C.2.2.1, C.2.2.2.1, hx⟩ (hT l D ct base b) ⟨callB_of As.length hx (ob_goodIn m3) rfl rfl rfl (hx _ m2) (hx _ m1) m4 hR1, hx _ w1, hx _ w2⟩ ⟨ob_blind, hrec, ?_⟩ rfl (List.length_map ..) hl.1 ?_ (lv_room (ob_cat8 hst)) hdg hcs) kk
  · have h9 := ob_pre (av := .ref o :: As) C hR hS
    rw [List.map_cons, show ob_rv base b (.ref o) = .ref (base + o) by show Value.ref (ob_ad base b o) = _; rw [ob_ad_lt hk]] at h9
    exact h9
  · show st0.map (ob_rv base b) = _
    rw [hst0, List.map_append, List.map_reverse, List.map_cons, show ob_rv base b (.ref o) = .ref (base + o) by show Value.ref (ob_ad base b o) = _; rw [ob_ad_lt hk]]
theorem oj_callI {index maxL o : Nat} {kd : ob_K} {y : MethodName} {bytes : ByteArray} {rm : Room} {st0 : List Value} {Q1 : ob_Q} (As : List Value) (hM : ob_mi own index y bytes maxL none As.length) (hy : y.name = "<init>") (w1 : Cond.instanceMethod y ∈ obWS) (hk : ob_is ks n o kd) (hT : ob_T y bytes maxL none rm ks n h (.ref o :: As) Q1) (hR1 : rm.frames + 1 ≤ R.frames ∧ 8 + (maxL + 11) + rm.locals ≤ R.locals) (hcs : ce + rm.cells ≤ R.cells ∧ sl + rm.slots ≤ R.slots) (hst0 : st0 = As.reverse ++ .ref o :: st) (hst : (st.map fun v => v.category).sum ≤ 8) (hdg : decode cc pc = .ok (.invokespecial index, 3))
    (kk : ∀ r ks' n' h', Q1 r ks' n' h' → ob_J own cc nL R ini sc (ce + rm.cells) (sl + rm.slots) ks' n' h' (pc + 3) lv (r.toList ++ st) Q) : ob_J own cc nL R ini sc ce sl ks n h pc lv st0 Q := by
  intro p l e s m args below meth c D ct base b Z C F H locs ls hR hS hl
  obtain ⟨m1, m2, m3, m4⟩ := hM
  have hx := C.2.2.2.2.1
  refine ob_back C F hS hl (va_runI (As := As.map (ob_rv base b)) (b := base + o) (rest := st.map (ob_rv base b)) ⟨C.1, C.2.1, C.2.2.1, C.2.2.2.1, hx⟩ (hT l D ct base b) ⟨callB_of As.length hx (ob_goodIn m3) rfl rfl rfl (hx _ m2) (hx _ m1) m4 hR1, hy, hx _ w1⟩ ⟨ob_blind, ?_⟩ rfl (List.length_map ..) hl.1 ?_ (lv_room (ob_cat8 hst)) hdg hcs) kk
  · have h9 := ob_pre (av := .ref o :: As) C hR hS
    rw [List.map_cons, show ob_rv base b (.ref o) = .ref (base + o) by show Value.ref (ob_ad base b o) = _; rw [ob_ad_lt hk]] at h9
    exact h9
  · show st0.map (ob_rv base b) = _
    rw [hst0, List.map_append, List.map_reverse, List.map_cons, show ob_rv base b (.ref o) = .ref (base + o) by show Value.ref (ob_ad base b o) = _; rw [ob_ad_lt hk]]
/-- the one constructor that is private, called by a nest mate -/
theorem oj_callIN {maxL o : Nat} {kd : ob_K} {bytes : ByteArray} {rm : Room} {st0 : List Value} {Q1 : ob_Q} (As : List Value) (hown : own = "Objections$Book") (m2 : Cond.initialized yX4_init.cls ∈ obWS) (m3 : Cond.code yX4_init bytes maxL none ∈ obWS) (m4 : (yX4_init.cls ≠ "java/lang/invoke/MethodHandle" ∧ yX4_init.cls ≠ "java/lang/invoke/VarHandle" ∧ (parseMethodDescriptor yX4_init.desc).map (fun d => d.parameters.length) = some As.length)) (w1 : Cond.instanceMethod yX4_init ∈ obWS) (hk : ob_is ks n o kd) (hT : ob_T yX4_init bytes maxL none rm ks n h (.ref o :: As) Q1) (hR1 : rm.frames + 1 ≤ R.frames ∧ 8 + (maxL + 11) + rm.locals ≤ R.locals) (hcs : ce + rm.cells ≤ R.cells ∧ sl + rm.slots ≤ R.slots) (hst0 : st0 = As.reverse ++ .ref o :: st) (hst : (st.map fun v => v.category).sum ≤ 8) (hdg : decode cc pc = .ok (.invokespecial 49, 3))
    (kk : ∀ r ks' n' h', Q1 r ks' n' h' → ob_J own cc nL R ini sc (ce + rm.cells) (sl + rm.slots) ks' n' h' (pc + 3) lv (r.toList ++ st) Q) : ob_J own cc nL R ini sc ce sl ks n h pc lv st0 Q := by
  intro p l e s m args below meth c D ct base b Z C F H locs ls hR hS hl
  have hx := C.2.2.2.2.1
  subst hown
  refine ob_back C F hS hl (va_runIN (As := As.map (ob_rv base b)) (b := base + o) (rest := st.map (ob_rv base b)) ⟨C.1, C.2.1, C.2.2.1, C.2.2.2.1, hx⟩ (hT l D ct base b) ⟨va_cnB (host := "Objections") As.length hx (ob_goodIn m3) rfl rfl rfl C.2.2.2.2.2.2.2.2.2.1 (hx _ m2) m4 hR1, rfl, hx _ w1⟩ ⟨ob_blind, ?_⟩ rfl (List.length_map ..) hl.1 ?_ (lv_room (ob_cat8 hst)) hdg hcs) kk
  · have h9 := ob_pre (av := .ref o :: As) C hR hS
    rw [List.map_cons, show ob_rv base b (.ref o) = .ref (base + o) by show Value.ref (ob_ad base b o) = _; rw [ob_ad_lt hk]] at h9
    exact h9
  · show st0.map (ob_rv base b) = _
    rw [hst0, List.map_append, List.map_reverse, List.map_cons, show ob_rv base b (.ref o) = .ref (base + o) by show Value.ref (ob_ad base b o) = _; rw [ob_ad_lt hk]]
end JCALLS
