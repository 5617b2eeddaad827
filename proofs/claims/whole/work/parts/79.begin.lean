-- ===== what the start gives =====
theorem st_K {s : State} {A : Array Value} (hO : ∀ w ∈ obWS, w.before A s = true) (hR : (Cond.arrayOver (.object "Objections$Room")).before A s = true) : ∃ (D : va_G) (ct : Nat → ClassId), va_K D obCl (ob_tys ct) s := by
  obtain ⟨c0, i0, e0⟩ := u_known (C := RX0) (T := TX0) (N := 8) hO inX0 (hO _ ow_400)
  obtain ⟨c1, i1, e1⟩ := u_known (C := RX1) (T := TX1) (N := 7) hO inX1 (hO _ ow_456)
  obtain ⟨c2, i2, e2⟩ := u_known (C := RX2) (T := TX2) (N := 14) hO inX2 (hO _ ow_131)
  obtain ⟨c3, i3, e3⟩ := u_known (C := RX3) (T := TX3) (N := 4) hO inX3 (hO _ ow_337)
  obtain ⟨c4, i4, e4⟩ := u_known (C := RX4) (T := TX4) (N := 3) hO inX4 (hO _ ow_137)
  obtain ⟨c5, i5, e5⟩ := u_known (C := RX5) (T := TX5) (N := 12) hO inX5 (hO _ ow_125)
  obtain ⟨c6, i6, e6⟩ := u_known (C := RX6) (T := TX6) (N := 8) hO inX6 (hO _ ow_293)
  obtain ⟨c7, i7, e7⟩ := u_known (C := RX7) (T := TX7) (N := 4) hO inX7 (hO _ ow_436)
  obtain ⟨c8, i8, e8⟩ := u_known (C := RX8) (T := TX8) (N := 7) hO inX8 (hO _ ow_366)
  obtain ⟨c9, i9, e9⟩ := u_known (C := RX9) (T := TX9) (N := 15) hO inX9 (hO _ ow_486)
  obtain ⟨c10, i10, e10⟩ := u_known (C := RX10) (T := TX10) (N := 8) hO inX10 (hO _ ow_30)
  obtain ⟨c11, i11, e11⟩ := u_known (C := RX11) (T := TX11) (N := 12) hO inX11 (hO _ ow_22)
  obtain ⟨c12, i12, e12⟩ := u_known (C := RX12) (T := TX12) (N := 76) hO inX12 (hO _ ow_1194)
  have h0 : ∀ k : Nat, ∃ pr : ClassId × (Nat → Nat), ∀ q : vw_C, obCl[k]? = some q → u_Kn s q.1 q.2.1 q.2.2 pr.1 pr.2 := by
    intro k
    match k with
    | 0 => exact ⟨(c0, i0), fun q hq => by cases hq; exact e0⟩
    | 1 => exact ⟨(c1, i1), fun q hq => by cases hq; exact e1⟩
    | 2 => exact ⟨(c2, i2), fun q hq => by cases hq; exact e2⟩
    | 3 => exact ⟨(c3, i3), fun q hq => by cases hq; exact e3⟩
    | 4 => exact ⟨(c4, i4), fun q hq => by cases hq; exact e4⟩
    | 5 => exact ⟨(c5, i5), fun q hq => by cases hq; exact e5⟩
    | 6 => exact ⟨(c6, i6), fun q hq => by cases hq; exact e6⟩
    | 7 => exact ⟨(c7, i7), fun q hq => by cases hq; exact e7⟩
    | 8 => exact ⟨(c8, i8), fun q hq => by cases hq; exact e8⟩
    | 9 => exact ⟨(c9, i9), fun q hq => by cases hq; exact e9⟩
    | 10 => exact ⟨(c10, i10), fun q hq => by cases hq; exact e10⟩
    | 11 => exact ⟨(c11, i11), fun q hq => by cases hq; exact e11⟩
    | 12 => exact ⟨(c12, i12), fun q hq => by cases hq; exact e12⟩
    | k + 13 => exact ⟨(c0, i0), fun q hq => by simp [obCl] at hq⟩
  obtain ⟨f, hf⟩ := Classical.axiomOfChoice h0
  obtain ⟨a0, b0, d0, n0, m0, p0⟩ := Cond.arrayClass_spec (hO _ ow_152)
  obtain ⟨a1, b1, d1, n1, m1, p1⟩ := Cond.arrayClass_spec (hO _ ow_123)
  obtain ⟨a2, b2, d2, n2, m2, p2⟩ := Cond.arrayClass_spec (hO _ ow_122)
  obtain ⟨a3, b3, d3, n3, m3, p3⟩ := Cond.arrayClass_spec (hO _ ow_541)
  obtain ⟨d4, a4, b4, w4, -, m4, p4, n4⟩ := Cond.arrayOver_spec hR
  refine ⟨(fun k => (f k).1, fun k => (f k).2), fun k => match k with
    | 0 => a0
    | 1 => a1
    | 2 => a2
    | 3 => a3
    | _ => a4, fun k q hq => hf k q hq, fun k q hq => ?_⟩
  match k, hq with
  | 0, hq => cases hq; exact ⟨fun N z => ⟨(fun k h => by cases h), b0, m0, d0, p0⟩, n0⟩
  | 1, hq => cases hq; exact ⟨fun N z => ⟨(fun k h => by cases h), b1, m1, d1, p1⟩, n1⟩
  | 2, hq => cases hq; exact ⟨fun N z => ⟨(fun k h => by cases h), b2, m2, d2, p2⟩, n2⟩
  | 3, hq => cases hq; exact ⟨fun N z => ⟨(fun k h => by cases h), b3, m3, d3, p3⟩, n3⟩
  | 4, hq => cases hq; exact ⟨fun N z => ⟨(fun k h => by cases h), b4, m4, d4, p4⟩, b4, d4, m4, p4, w4, n4⟩
  | k + 5, hq => simp [ob_tys] at hq
set_option maxRecDepth 100000 in
set_option maxHeartbeats 4000000 in
theorem st_X {s : State} {A : Array Value} (hts : ∀ w ∈ lw_tbl, w.before A s = true) (hgv : (Jvm.Cond.and given_1 narrow_1).before A s = true) : ob_X s.heap.size s s.heap := by
  have hs := flat_of_before _ hgv
  have hA : ∀ a : Nat, a < s.heap.size → ¬ s.heap.size ≤ a := fun a h => Nat.not_le.mpr h
  have hS : (Cond.stringRef "Objections$Tape" 37 obTxt).before A s = true := hts _ (by decide +kernel)
  obtain ⟨adK, adV, hv, he⟩ := vk_Sof (args := A) (s := s) (N := 1) (tm := fun _ => .string "Objections$Tape" 37) (len := [121]) (byt := [obByt]) (A := fun q => s.heap.size ≤ q)
    (fun i hi => by obtain rfl : i = 0 := by omega
                    decide)
    (fun i hi => hs _ (by decide +kernel)) (fun i hi => hs _ (by decide +kernel)) (fun i hi => hs _ (by decide +kernel))
    (fun i hi => by obtain rfl : i = 0 := by omega
                    exact hs _ (by decide +kernel))
    (fun i hi j hj => by
      obtain rfl : i = 0 := by omega
      exact hs _ ((by decide +kernel : ∀ j, j < 121 → Cond.eq (.elem (.field (.string "Objections$Tape" 37) "java/lang/String" "value" "[B") (.int (Int32.ofNat j))) (.int (obByt.getD j 0)) ∈ flatC (Jvm.Cond.and given_1 narrow_1)) j hj))
    (fun i j hi hj hn => absurd (show i = j by omega) hn) hA
  exact ⟨va_Nw.of rfl (hts (.methodLinkNest "Objections$Book" 49 yX4_init "Objections") (by decide +kernel)), va_AO.of (hts (.arrayOver (.object "Objections$Room")) (by decide +kernel)),
    ⟨va_Zof (hts (.laysStatic "java/lang/String" "COMPACT_STRINGS" "Z") (by decide +kernel)) (hts (.initialized "java/lang/String") (by decide +kernel)) (va_eqi (hs _ (by decide +kernel))) hA,
     va_Zqof (hts (.laysStatic "jdk/internal/util/Preconditions" "SIOOBE_FORMATTER" "Ljava/util/function/BiFunction;") (by decide +kernel)) (hts (.initialized "jdk/internal/util/Preconditions") (by decide +kernel)) (hs _ (by decide +kernel)) hA⟩,
    adK 0, adV 0, vk_R.of hS (he 0 (by decide)), fun i hi => by obtain rfl : i = 0 := by omega
                                                                exact hv.1 0 (by decide), fun i j hi hj _ => by omega⟩
