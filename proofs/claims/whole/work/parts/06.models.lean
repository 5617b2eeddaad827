-- Objections$Tape.put(I)V
def FX10_put_3 (x1 : Int32) (Q : ob_H → Prop) (k3 : Int32 → ob_H → Prop) (x2 : Int32) (h : ob_H) : Prop :=
  ((x2 < 0 → Q h) ∧
  (¬ x2 < 0 → (((1600) ≤ (h.1 1 1) → Q h) ∧
  (¬ (1600) ≤ (h.1 1 1) → vp_in (h.1 1 1) 1600 ∧
  Lt (h_i h 2 (ix (h.1 1 1)) (((ush x1 x2)).toInt8.toInt32).toInt8.toInt32) fun h9 =>
  Lt (h_i h9 1 1 ((h9.1 1 1) + (1))) fun h11 =>
  Lt (x2 + (-8) : Int32) fun v13 =>
  k3 v13 h11))))
def MX10_put  (p1 : Int32) (h : ob_H) (Q : ob_H → Prop) : Prop :=
  lo2 (FX10_put_3 p1 Q) (24) h
-- Objections.feed(IIIII)I
def MX11_feed  (p1 : Int32) (p2 : Int32) (p3 : Int32) (p4 : Int32) (p5 : Int32) (h : ob_H) (Q : Int32 → ob_H → Prop) : Prop :=
  ((((h.1 1 1) + (20)) ≤ (1600) → MX10_put p1 h fun h5 =>
  MX10_put p2 h5 fun h9 =>
  MX10_put p3 h9 fun h13 =>
  MX10_put p4 h13 fun h17 =>
  MX10_put p5 h17 fun h21 =>
  Q (h21.1 1 1) h21) ∧
  (¬ ((h.1 1 1) + (20)) ≤ (1600) → Q (-1) h))
-- Objections.end(I)I
def MX11_end  (p1 : Int32) (h : ob_H) (Q : Int32 → ob_H → Prop) : Prop :=
  ((p1 < 0 → Q (-1) h) ∧
  (¬ p1 < 0 → ((p1 ≤ (h.1 1 1) → Lt (h_i h 1 1 p1) fun h7 =>
  Q p1 h7) ∧
  (¬ p1 ≤ (h.1 1 1) → Q (-1) h))))
-- Objections$Formula.clear()V
def MX4_clear  (o : Nat) (h : ob_H) (Q : ob_H → Prop) : Prop :=
  Lt (h_i h o 1 (0)) fun h1 =>
  Q h1
-- Objections$Formula.add(I)V
def MX4_add  (o : Nat) (p1 : Int32) (h : ob_H) (Q : ob_H → Prop) : Prop :=
  (((300) ≤ (h.1 o 1) → Q h) ∧
  (¬ (300) ≤ (h.1 o 1) → vp_in (h.1 o 1) 300 ∧
  Lt (h_i h (o + 1) (ix (h.1 o 1)) p1) fun h6 =>
  Lt (h_i h6 o 1 ((h6.1 o 1) + (1))) fun h8 =>
  Q h8))
-- Objections$Book.clear()V
def FX2_clear_56  (o : Nat) (Q : ob_H → Prop) (k56 : Int32 → ob_H → Prop) (x1 : Int32) (h : ob_H) : Prop :=
  (((49) ≤ x1 → MX4_clear (o + 8) h fun h18 =>
  MX4_add (o + 8) (-100) h18 fun h22 =>
  MX4_clear (o + 11) h22 fun h26 =>
  MX4_add (o + 11) (100) h26 fun h30 =>
  Q h30) ∧
  (¬ (49) ≤ x1 → vp_in x1 49 ∧
  Lt (h_i h (o + 7) (ix x1) (0)) fun h35 =>
  Lt (x1 + (1) : Int32) fun v37 =>
  k56 v37 h35))
def FX2_clear_28  (o : Nat) (Q : ob_H → Prop) (k28 : Int32 → ob_H → Prop) (x1 : Int32) (h : ob_H) : Prop :=
  (((7) ≤ x1 → lo2 (FX2_clear_56 o Q) (0) h) ∧
  (¬ (7) ≤ x1 → vp_in x1 7 ∧
  Lt (h_i h (o + 5) (ix x1) (0)) fun h42 =>
  Lt (h_i h42 (o + 6) (ix x1) (0)) fun h44 =>
  Lt (x1 + (1) : Int32) fun v46 =>
  k28 v46 h44))
def MX2_clear  (o : Nat) (h : ob_H) (Q : ob_H → Prop) : Prop :=
  Lt (h_i h o 0 (0)) fun h1 =>
  Lt (h_i h1 o 8 (0)) fun h3 =>
  Lt (h_i h3 o 9 (100)) fun h5 =>
  Lt (h_i h5 o 10 (0)) fun h7 =>
  Lt (h_i h7 o 11 (0)) fun h9 =>
  lo2 (FX2_clear_28 o Q) (0) h9
-- Objections$Tape.isLetter(I)Z
def MX10_isLetter  (p0 : Int32) (h : ob_H) (Q : Int32 → Prop) : Prop :=
  ((p0 < (97) → Q (0)) ∧
  (¬ p0 < (97) → (((122) < p0 → Q (0)) ∧
  (¬ (122) < p0 → Q (1)))))
-- Objections$Tape.withLetter(JI)J
def MX10_withLetter  (p0 : Int64) (p2 : Int32) (h : ob_H) (Q : Int64 → Prop) : Prop :=
  Q ((((p0 * (32)) + (p2).toInt64) - (97)) + 1)
-- Objections$Tape.readWord()V
def FX10_readWord_83 (x1 : Int64) (Q : ob_H → Prop) (k83 : Int32 → ob_H → Prop) (x4 : Int32) (h : ob_H) : Prop :=
  (((20) ≤ x4 → Q h) ∧
  (¬ (20) ≤ x4 → (((h.1 1 2) = (2) → vp_in x4 20 ∧
  (((lg_cmp (h.2.1 3 (ix x4)) x1) = 0 → Lt (h_i h 1 2 ((100) + x4)) fun h24 =>
  Lt (x4 + (1) : Int32) fun v26 =>
  k83 v26 h24) ∧
  (¬ (lg_cmp (h.2.1 3 (ix x4)) x1) = 0 → Lt (x4 + (1) : Int32) fun v22 =>
  k83 v22 h))) ∧
  (¬ (h.1 1 2) = (2) → Q h))))
def KX10_readWord_60 (x1 : Int64) (x3 : Int32) (h : ob_H) (Q : ob_H → Prop)  : Prop :=
  Lt (h_l h 1 5 x1) fun h4 =>
  (((8) < x3 → Lt (h_i h4 1 2 (1)) fun h9 =>
  lo2 (FX10_readWord_83 x1 Q) (0) h9) ∧
  (¬ (8) < x3 → Lt (h_i h4 1 2 (2)) fun h29 =>
  lo2 (FX10_readWord_83 x1 Q) (0) h29))
def FX10_readWord_4 (Q : ob_H → Prop) (k4 : Int64 → Int32 → ob_H → Prop) (x1 : Int64) (x3 : Int32) (h : ob_H) : Prop :=
  (((h.1 1 1) ≤ (h.1 1 6) → KX10_readWord_60 x1 x3 h Q) ∧
  (¬ (h.1 1 1) ≤ (h.1 1 6) → vp_in (h.1 1 6) 1600 ∧
  MX10_isLetter (h.1 2 (ix (h.1 1 6))) h fun r34 =>
  ((r34 = 0 → KX10_readWord_60 x1 x3 h Q) ∧
  (¬ r34 = 0 → MX10_withLetter x1 (h.1 2 (ix (h.1 1 6))) h fun r41 =>
  Lt (x3 + (1) : Int32) fun v45 =>
  Lt (h_i h 1 6 ((h.1 1 6) + (1))) fun h47 =>
  k4 r41 v45 h47))))
def MX10_readWord  (h : ob_H) (Q : ob_H → Prop) : Prop :=
  lo3 (FX10_readWord_4 Q) 0 (0) h
-- Objections$Tape.isDigit(I)Z
def MX10_isDigit  (p0 : Int32) (h : ob_H) (Q : Int32 → Prop) : Prop :=
  ((p0 < (48) → Q (0)) ∧
  (¬ p0 < (48) → (((57) < p0 → Q (0)) ∧
  (¬ (57) < p0 → Q (1)))))
-- Objections$Tape.readNumber()V
def KX10_readNumber_104 (x1 : Int32) (s0 : Int32) (h : ob_H) (Q : ob_H → Prop)  : Prop :=
  (((4) < x1 → Lt (h_i h 1 2 (1)) fun h12 =>
  Q h12) ∧
  (¬ (4) < x1 → ((s0 = 0 → Lt (h_i h 1 2 (3)) fun h19 =>
  Q h19) ∧
  (¬ s0 = 0 → Lt (h_i h 1 2 (1)) fun h17 =>
  Q h17))))
def KX10_readNumber_73 (x1 : Int32) (h : ob_H) (Q : ob_H → Prop)  : Prop :=
  (((h.1 1 1) ≤ (h.1 1 6) → KX10_readNumber_104 x1 (0) h Q) ∧
  (¬ (h.1 1 1) ≤ (h.1 1 6) → vp_in (h.1 1 6) 1600 ∧
  MX10_isLetter (h.1 2 (ix (h.1 1 6))) h fun r23 =>
  ((r23 = 0 → KX10_readNumber_104 x1 (0) h Q) ∧
  (¬ r23 = 0 → KX10_readNumber_104 x1 (1) h Q))))
def FX10_readNumber_7 (Q : ob_H → Prop) (k7 : Int32 → ob_H → Prop) (x1 : Int32) (h : ob_H) : Prop :=
  (((h.1 1 1) ≤ (h.1 1 6) → KX10_readNumber_73 x1 h Q) ∧
  (¬ (h.1 1 1) ≤ (h.1 1 6) → vp_in (h.1 1 6) 1600 ∧
  MX10_isDigit (h.1 2 (ix (h.1 1 6))) h fun r32 =>
  ((r32 = 0 → KX10_readNumber_73 x1 h Q) ∧
  (¬ r32 = 0 → Lt (h_i h 1 4 ((((h.1 1 4) * (10)) + (h.1 2 (ix (h.1 1 6)))) - (48))) fun h39 =>
  Lt (x1 + (1) : Int32) fun v41 =>
  Lt (h_i h39 1 6 ((h39.1 1 6) + (1))) fun h43 =>
  k7 v41 h43))))
def MX10_readNumber  (h : ob_H) (Q : ob_H → Prop) : Prop :=
  Lt (h_i h 1 4 (0)) fun h1 =>
  lo2 (FX10_readNumber_7 Q) (0) h1
-- Objections$Tape.isSign(I)Z
def MX10_isSign  (p0 : Int32) (h : ob_H) (Q : Int32 → Prop) : Prop :=
  ((p0 = (37) → Q (1)) ∧
  (¬ p0 = (37) → ((p0 = (40) → Q (1)) ∧
  (¬ p0 = (40) → ((p0 = (41) → Q (1)) ∧
  (¬ p0 = (41) → ((p0 = (42) → Q (1)) ∧
  (¬ p0 = (42) → ((p0 = (43) → Q (1)) ∧
  (¬ p0 = (43) → ((p0 = (45) → Q (1)) ∧
  (¬ p0 = (45) → ((p0 = (47) → Q (1)) ∧
  (¬ p0 = (47) → ((p0 = (59) → Q (1)) ∧
  (¬ p0 = (59) → ((p0 = (60) → Q (1)) ∧
  (¬ p0 = (60) → ((p0 = (61) → Q (1)) ∧
  (¬ p0 = (61) → ((p0 = (62) → Q (1)) ∧
  (¬ p0 = (62) → Q (0)))))))))))))))))))))))
-- Objections$Tape.step()V
def KX10_step_52 (h : ob_H) (Q : ob_H → Prop)  : Prop :=
  Lt (h_i h 1 3 (h.1 1 6)) fun h4 =>
  (((h4.1 1 6) < (h4.1 1 1) → vp_in (h4.1 1 6) 1600 ∧
  Lt ((h4.1 2 (ix (h4.1 1 6))) : Int32) fun v11 =>
  MX10_isLetter v11 h4 fun r13 =>
  ((r13 = 0 → MX10_isDigit v11 h4 fun r20 =>
  ((r20 = 0 → MX10_isSign v11 h4 fun r27 =>
  ((r27 = 0 → Lt (h_i h4 1 2 (1)) fun h34 =>
  Lt (h_i h34 1 6 ((h34.1 1 6) + (1))) fun h36 =>
  Q h36) ∧
  (¬ r27 = 0 → Lt (h_i h4 1 2 v11) fun h38 =>
  Lt (h_i h38 1 6 ((h38.1 1 6) + (1))) fun h40 =>
  Q h40))) ∧
  (¬ r20 = 0 → MX10_readNumber  h4 fun h43 =>
  Q h43))) ∧
  (¬ r13 = 0 → MX10_readWord  h4 fun h47 =>
  Q h47))) ∧
  (¬ (h4.1 1 6) < (h4.1 1 1) → Lt (h_i h4 1 2 (0)) fun h50 =>
  Q h50))
def FX10_step_0 (Q : ob_H → Prop) (k0 : ob_H → Prop)  (h : ob_H) : Prop :=
  (((h.1 1 1) ≤ (h.1 1 6) → KX10_step_52 h Q) ∧
  (¬ (h.1 1 1) ≤ (h.1 1 6) → vp_in (h.1 1 6) 1600 ∧
  (((h.1 2 (ix (h.1 1 6))) = (32) → Lt (h_i h 1 6 ((h.1 1 6) + (1))) fun h57 =>
  k0 h57) ∧
  (¬ (h.1 2 (ix (h.1 1 6))) = (32) → (((h.1 2 (ix (h.1 1 6))) = (10) → Lt (h_i h 1 6 ((h.1 1 6) + (1))) fun h62 =>
  k0 h62) ∧
  (¬ (h.1 2 (ix (h.1 1 6))) = (10) → KX10_step_52 h Q))))))
def MX10_step  (h : ob_H) (Q : ob_H → Prop) : Prop :=
  lo1 (FX10_step_0 Q) h
-- Objections$Tape.rewind()V
def MX10_rewind  (h : ob_H) (Q : ob_H → Prop) : Prop :=
  Lt (h_i h 1 6 (0)) fun h1 =>
  MX10_step  h1 fun h4 =>
  Q h4
-- Objections$Reader.refuse(I)Z
def MX5_refuse  (p1 : Int32) (h : ob_H) (Q : Int32 → ob_H → Prop) : Prop :=
  Lt (h_i h 4 1 p1) fun h1 =>
  Lt (h_i h1 4 2 (h1.1 1 3)) fun h3 =>
  Q (0) h3
-- Objections$Reader.misplaced()Z
def KX5_misplaced_17 (s0 : Int32) (h : ob_H) (Q : Int32 → ob_H → Prop)  : Prop :=
  MX5_refuse s0 h fun r4 h5 =>
  Q r4 h5
def MX5_misplaced  (h : ob_H) (Q : Int32 → ob_H → Prop) : Prop :=
  (((h.1 1 2) = (1) → KX5_misplaced_17 (1) h Q) ∧
  (¬ (h.1 1 2) = (1) → KX5_misplaced_17 (2) h Q))
-- Objections$Reader.find()I
def FX5_find_2 (h : ob_H) (Q : Int32 → Prop) (k2 : Int32 → Prop) (x1 : Int32) : Prop :=
  (((h.1 5 0) ≤ x1 → Q (-1)) ∧
  (¬ (h.1 5 0) ≤ x1 → (((h.1 1 2) = (2) → vp_in x1 7 ∧
  (((lg_cmp (h.2.1 19 (ix x1)) (h.2.1 1 5)) = 0 → Q x1) ∧
  (¬ (lg_cmp (h.2.1 19 (ix x1)) (h.2.1 1 5)) = 0 → Lt (x1 + (1) : Int32) fun v14 =>
  k2 v14))) ∧
  (¬ (h.1 1 2) = (2) → Lt (x1 + (1) : Int32) fun v7 =>
  k2 v7))))
def MX5_find  (h : ob_H) (Q : Int32 → Prop) : Prop :=
  lo1 (FX5_find_2 h Q) (0)
-- Objections$Reader.readNewName(I)Z
def MX5_readNewName  (p1 : Int32) (h : ob_H) (Q : Int32 → ob_H → Prop) : Prop :=
  (((h.1 1 2) = (2) → MX5_find  h fun r4 =>
  ((r4 < 0 → vp_in p1 7 ∧
  Lt (h_l h 19 (ix p1) (h.2.1 1 5)) fun h13 =>
  MX10_step  h13 fun h16 =>
  Q (1) h16) ∧
  (¬ r4 < 0 → MX5_refuse (3) h fun r19 h20 =>
  Q r19 h20))) ∧
  (¬ (h.1 1 2) = (2) → MX5_misplaced  h fun r23 h24 =>
  Q r23 h24))
-- Objections$Reader.take(I)Z
def MX5_take  (p1 : Int32) (h : ob_H) (Q : Int32 → ob_H → Prop) : Prop :=
  (((h.1 1 2) = p1 → MX10_step  h fun h5 =>
  Q (1) h5) ∧
  (¬ (h.1 1 2) = p1 → MX5_misplaced  h fun r8 h9 =>
  Q r8 h9))
-- Objections$Reader.readAmount(II)Z
def KX5_readAmount_38 (h : ob_H) (Q : Int32 → ob_H → Prop)  : Prop :=
  MX5_refuse (4) h fun r7 h8 =>
  Q r7 h8
def MX5_readAmount  (p1 : Int32) (p2 : Int32) (h : ob_H) (Q : Int32 → ob_H → Prop) : Prop :=
  (((h.1 1 2) = (3) → (((h.1 1 4) < p1 → KX5_readAmount_38 h Q) ∧
  (¬ (h.1 1 4) < p1 → (((h.1 1 4) ≤ p2 → Lt (h_i h 4 7 (h.1 1 4)) fun h14 =>
  MX10_step  h14 fun h17 =>
  Q (1) h17) ∧
  (¬ (h.1 1 4) ≤ p2 → KX5_readAmount_38 h Q))))) ∧
  (¬ (h.1 1 2) = (3) → MX5_misplaced  h fun r20 h21 =>
  Q r20 h21))
-- Objections$Reader.readObjector()Z
def KX5_readObjector_241 (x1 : Int32) (h : ob_H) (Q : Int32 → ob_H → Prop)  : Prop :=
  Lt (h_i h 5 0 (x1 + (1))) fun h72 =>
  MX5_take (59) h72 fun r74 h75 =>
  Q r74 h75
def KX5_readObjector_194 (x1 : Int32) (h : ob_H) (Q : Int32 → ob_H → Prop)  : Prop :=
  vp_in x1 7 ∧
  Lt (h_i h 9 (ix x1) (h.1 4 7)) fun h67 =>
  (((h67.1 1 2) = (109) → Lt (h_i h67 5 8 ((h67.1 5 8) ||| ((1) <<< (x1 &&& 31)))) fun h78 =>
  MX10_step  h78 fun h81 =>
  KX5_readObjector_241 x1 h81 Q) ∧
  (¬ (h67.1 1 2) = (109) → KX5_readObjector_241 x1 h67 Q))
def KX5_readObjector_143 (x1 : Int32) (h : ob_H) (Q : Int32 → ob_H → Prop)  : Prop :=
  vp_in x1 7 ∧
  Lt (h_i h 8 (ix x1) (h.1 4 7)) fun h58 =>
  Lt (h_i h58 4 7 (0)) fun h60 =>
  (((h60.1 1 2) = (108) → MX5_take (108) h60 fun r84 h85 =>
  ((r84 = 0 → Q (0) h85) ∧
  (¬ r84 = 0 → MX5_readAmount (0) (99) h85 fun r91 h92 =>
  ((r91 = 0 → Q (0) h92) ∧
  (¬ r91 = 0 → KX5_readObjector_194 x1 h92 Q))))) ∧
  (¬ (h60.1 1 2) = (108) → KX5_readObjector_194 x1 h60 Q))
def MX5_readObjector  (h : ob_H) (Q : Int32 → ob_H → Prop) : Prop :=
  Lt ((h.1 5 0) : Int32) fun v1 =>
  ((v1 < (7) → MX10_step  h fun h7 =>
  MX5_readNewName v1 h7 fun r10 h11 =>
  ((r10 = 0 → Q (0) h11) ∧
  (¬ r10 = 0 → MX5_take (100) h11 fun r17 h18 =>
  ((r17 = 0 → Q (0) h18) ∧
  (¬ r17 = 0 → MX5_readAmount (0) (99) h18 fun r24 h25 =>
  ((r24 = 0 → Q (0) h25) ∧
  (¬ r24 = 0 → vp_in v1 7 ∧
  Lt (h_i h25 6 (ix v1) (h25.1 4 7)) fun h33 =>
  MX5_take (101) h33 fun r35 h36 =>
  ((r35 = 0 → Q (0) h36) ∧
  (¬ r35 = 0 → MX5_readAmount (1) (60) h36 fun r42 h43 =>
  ((r42 = 0 → Q (0) h43) ∧
  (¬ r42 = 0 → Lt (h_i h43 7 (ix v1) (h43.1 4 7)) fun h49 =>
  Lt (h_i h49 4 7 (999)) fun h51 =>
  (((h51.1 1 2) = (107) → MX5_take (107) h51 fun r98 h99 =>
  ((r98 = 0 → Q (0) h99) ∧
  (¬ r98 = 0 → MX5_readAmount (0) (999) h99 fun r105 h106 =>
  ((r105 = 0 → Q (0) h106) ∧
  (¬ r105 = 0 → KX5_readObjector_143 v1 h106 Q))))) ∧
  (¬ (h51.1 1 2) = (107) → KX5_readObjector_143 v1 h51 Q))))))))))))) ∧
  (¬ v1 < (7) → MX5_misplaced  h fun r112 h113 =>
  Q r112 h113))
-- java/lang/Integer.bitCount(I)I
def MJ6_bitCount_0f7a4  (p0 : Int32) (h : ob_H) (Q : Int32 → Prop) : Prop :=
  Lt ((p0 - ((ush p0 (1)) &&& (1431655765))) : Int32) fun v1 =>
  Lt (((v1 &&& (858993459)) + ((ush v1 (2)) &&& (858993459))) : Int32) fun v3 =>
  Lt (((v3 + (ush v3 (4))) &&& (252645135)) : Int32) fun v5 =>
  Lt ((v5 + (ush v5 (8))) : Int32) fun v7 =>
  Lt ((v7 + (ush v7 (16))) : Int32) fun v9 =>
  Q (v9 &&& (63))
-- Objections$Reader.readTwoNames()Z
def MX5_readTwoNames  (h : ob_H) (Q : Int32 → ob_H → Prop) : Prop :=
  MX10_step  h fun h2 =>
  MX5_find  h2 fun r5 =>
  Lt (h_i h2 4 8 r5) fun h9 =>
  ((0 ≤ (h9.1 4 8) → MX10_step  h9 fun h15 =>
  MX5_find  h15 fun r18 =>
  Lt (h_i h15 4 9 r18) fun h22 =>
  ((0 ≤ (h22.1 4 9) → (((h22.1 4 8) = (h22.1 4 9) → MX5_refuse (3) h22 fun r30 h31 =>
  ((r30 = 0 → Q (0) h31) ∧
  (¬ r30 = 0 → Q (1) h31))) ∧
  (¬ (h22.1 4 8) = (h22.1 4 9) → Q (1) h22))) ∧
  (¬ 0 ≤ (h22.1 4 9) → (((h22.1 1 2) = (2) → MX5_refuse (5) h22 fun r44 h45 =>
  Q r44 h45) ∧
  (¬ (h22.1 1 2) = (2) → MX5_misplaced  h22 fun r40 h41 =>
  Q r40 h41))))) ∧
  (¬ 0 ≤ (h9.1 4 8) → (((h9.1 1 2) = (2) → MX5_refuse (5) h9 fun r55 h56 =>
  Q r55 h56) ∧
  (¬ (h9.1 1 2) = (2) → MX5_misplaced  h9 fun r51 h52 =>
  Q r51 h52))))
-- Objections$Reader.readWhom([II)Z
def FX5_readWhom_5  (p1 : Nat) (x2 : Int32) (h : ob_H) (Q : Int32 → ob_H → Prop) (k5 : Int32 → Int32 → Prop) (x3 : Int32) (x4 : Int32) : Prop :=
  (((h.1 5 0) ≤ x4 → ((x3 < x2 → MX5_readTwoNames  h fun r7 h8 =>
  ((r7 = 0 → Q (0) h8) ∧
  (¬ r7 = 0 → vp_in (h8.1 4 8) 7 ∧
  (((((h8.1 p1 (ix (h8.1 4 8))) >>> ((h8.1 4 9) &&& 31)) &&& (1)) = 0 → Lt (h_i h8 p1 (ix (h8.1 4 8)) ((h8.1 p1 (ix (h8.1 4 8))) ||| ((1) <<< ((h8.1 4 9) &&& 31)))) fun h19 =>
  MX10_step  h19 fun h22 =>
  MX5_take (59) h22 fun r25 h26 =>
  Q r25 h26) ∧
  (¬ (((h8.1 p1 (ix (h8.1 4 8))) >>> ((h8.1 4 9) &&& 31)) &&& (1)) = 0 → MX5_refuse (3) h8 fun r29 h30 =>
  Q r29 h30))))) ∧
  (¬ x3 < x2 → MX5_misplaced  h fun r33 h34 =>
  Q r33 h34))) ∧
  (¬ (h.1 5 0) ≤ x4 → vp_in x4 7 ∧
  MJ6_bitCount_0f7a4 (h.1 p1 (ix x4)) h fun r39 =>
  Lt ((x3 + r39) : Int32) fun v43 =>
  Lt (x4 + (1) : Int32) fun v45 =>
  k5 v43 v45))
def MX5_readWhom  (p1 : Nat) (p2 : Int32) (h : ob_H) (Q : Int32 → ob_H → Prop) : Prop :=
  lo2 (FX5_readWhom_5 p1 p2 h Q) (0) (0)
-- Objections$Reader.readJoined()Z
def MX5_readJoined  (h : ob_H) (Q : Int32 → ob_H → Prop) : Prop :=
  (((h.1 4 6) < (6) → MX5_readTwoNames  h fun r4 h5 =>
  ((r4 = 0 → Q (0) h5) ∧
  (¬ r4 = 0 → vp_in (((h5.1 4 8) * (7)) + (h5.1 4 9)) 49 ∧
  (((h5.1 12 (ix (((h5.1 4 8) * (7)) + (h5.1 4 9)))) = 0 → MX10_step  h5 fun h17 =>
  MX5_readAmount (1) (99) h17 fun r20 h21 =>
  ((r20 = 0 → Q (0) h21) ∧
  (¬ r20 = 0 → vp_in (((h21.1 4 8) * (7)) + (h21.1 4 9)) 49 ∧
  Lt (h_i h21 12 (ix (((h21.1 4 8) * (7)) + (h21.1 4 9))) (h21.1 4 7)) fun h29 =>
  vp_in (((h29.1 4 9) * (7)) + (h29.1 4 8)) 49 ∧
  Lt (h_i h29 12 (ix (((h29.1 4 9) * (7)) + (h29.1 4 8))) (h29.1 4 7)) fun h33 =>
  Lt (h_i h33 4 6 ((h33.1 4 6) + (1))) fun h35 =>
  MX5_take (59) h35 fun r37 h38 =>
  Q r37 h38))) ∧
  (¬ (h5.1 12 (ix (((h5.1 4 8) * (7)) + (h5.1 4 9)))) = 0 → MX5_refuse (3) h5 fun r41 h42 =>
  Q r41 h42))))) ∧
  (¬ (h.1 4 6) < (6) → MX5_misplaced  h fun r45 h46 =>
  Q r45 h46))
-- Objections$Reader.beginOnce()Z
def MX5_beginOnce  (h : ob_H) (Q : Int32 → ob_H → Prop) : Prop :=
  Lt (((1) <<< (((h.1 1 2) - (113)) &&& 31)) : Int32) fun v1 =>
  ((((h.1 4 5) &&& v1) = 0 → Lt (h_i h 4 5 ((h.1 4 5) ||| v1)) fun h6 =>
  MX10_step  h6 fun h9 =>
  Q (1) h9) ∧
  (¬ ((h.1 4 5) &&& v1) = 0 → MX5_misplaced  h fun r12 h13 =>
  Q r12 h13))
-- Objections$Formula.isFact(I)Z
def MX4_isFact  (p0 : Int32) (h : ob_H) (Q : Int32 → Prop) : Prop :=
  ((p0 < (100) → Q (0)) ∧
  (¬ p0 < (100) → (((105) < p0 → Q (0)) ∧
  (¬ (105) < p0 → Q (1)))))
-- Objections$Reader.levelOf(I)I
def MX5_levelOf  (p0 : Int32) (h : ob_H) (Q : Int32 → Prop) : Prop :=
  ((p0 = (37) → Q (4)) ∧
  (¬ p0 = (37) → ((p0 = (42) → Q (4)) ∧
  (¬ p0 = (42) → ((p0 = (43) → Q (3)) ∧
  (¬ p0 = (43) → ((p0 = (45) → Q (3)) ∧
  (¬ p0 = (45) → ((p0 = (47) → Q (4)) ∧
  (¬ p0 = (47) → ((p0 = (60) → Q (2)) ∧
  (¬ p0 = (60) → ((p0 = (61) → Q (2)) ∧
  (¬ p0 = (61) → ((p0 = (62) → Q (2)) ∧
  (¬ p0 = (62) → ((p0 = (117) → Q (0)) ∧
  (¬ p0 = (117) → ((p0 = (118) → Q (1)) ∧
  (¬ p0 = (118) → Q (-1)))))))))))))))))))))
-- Objections$Reader.readNot(I)Z
def MX5_readNot (RP : Int32 → Int32 → ob_H → (Int32 → ob_H → Prop) → Prop) (p1 : Int32) (h : ob_H) (Q : Int32 → ob_H → Prop) : Prop :=
  ((p1 ≤ (6) → MX10_step  h fun h5 =>
  RP (2) (p1 + (1)) h5 fun r8 h9 =>
  ((r8 = 0 → Q (0) h9) ∧
  (¬ r8 = 0 → A4 h9.2.2 ∧
  MX4_add h9.2.2 (-119) h9 fun h18 =>
  Q (1) h18))) ∧
  (¬ p1 ≤ (6) → MX5_misplaced  h fun r21 h22 =>
  Q r21 h22))
-- Objections$Reader.readUnit(I)Z
def KX5_readUnit_69 (RP : Int32 → Int32 → ob_H → (Int32 → ob_H → Prop) → Prop) (h : ob_H) (Q : Int32 → ob_H → Prop)  : Prop :=
  MX5_misplaced  h fun r15 h16 =>
  Q r15 h16
def KX5_readUnit_123 (RP : Int32 → Int32 → ob_H → (Int32 → ob_H → Prop) → Prop) (t1 : Nat) (s0 : Int32) (h : ob_H) (Q : Int32 → ob_H → Prop)  : Prop :=
  MX4_add t1 s0 h fun h64 =>
  MX10_step  h64 fun h68 =>
  Q (1) h68
def KX5_readUnit_48 (RP : Int32 → Int32 → ob_H → (Int32 → ob_H → Prop) → Prop) (x1 : Int32) (x2 : Int32) (x4 : Int32) (h : ob_H) (Q : Int32 → ob_H → Prop)  : Prop :=
  (((30) ≤ (h.1 4 11) → KX5_readUnit_69 RP h Q) ∧
  (¬ (30) ≤ (h.1 4 11) → (((h.1 5 11) < (60) → Lt (h_i h 4 11 ((h.1 4 11) + (1))) fun h22 =>
  Lt (h_i h22 5 11 ((h22.1 5 11) + (1))) fun h24 =>
  ((x4 = 0 → ((x1 ≤ (6) → MX10_step  h24 fun h33 =>
  RP (0) (x1 + (1)) h33 fun r36 h37 =>
  ((r36 = 0 → Q (0) h37) ∧
  (¬ r36 = 0 → (((h37.1 1 2) = (41) → MX10_step  h37 fun h47 =>
  Q (1) h47) ∧
  (¬ (h37.1 1 2) = (41) → MX5_misplaced  h37 fun r50 h51 =>
  Q r50 h51))))) ∧
  (¬ x1 ≤ (6) → MX5_misplaced  h24 fun r54 h55 =>
  Q r54 h55))) ∧
  (¬ x4 = 0 → A4 h24.2.2 ∧
  ((x2 = (3) → KX5_readUnit_123 RP h24.2.2 (h24.1 1 4) h24 Q) ∧
  (¬ x2 = (3) → KX5_readUnit_123 RP h24.2.2 (-x2) h24 Q))))) ∧
  (¬ (h.1 5 11) < (60) → KX5_readUnit_69 RP h Q))))
def KX5_readUnit_37 (RP : Int32 → Int32 → ob_H → (Int32 → ob_H → Prop) → Prop) (x1 : Int32) (x2 : Int32) (x3 : Int32) (s0 : Int32) (h : ob_H) (Q : Int32 → ob_H → Prop)  : Prop :=
  ((x3 = 0 → ((s0 = 0 → KX5_readUnit_69 RP h Q) ∧
  (¬ s0 = 0 → KX5_readUnit_48 RP x1 x2 s0 h Q))) ∧
  (¬ x3 = 0 → KX5_readUnit_48 RP x1 x2 s0 h Q))
def KX5_readUnit_19 (RP : Int32 → Int32 → ob_H → (Int32 → ob_H → Prop) → Prop) (x1 : Int32) (x2 : Int32) (s0 : Int32) (h : ob_H) (Q : Int32 → ob_H → Prop)  : Prop :=
  ((x2 = (3) → KX5_readUnit_37 RP x1 x2 s0 (1) h Q) ∧
  (¬ x2 = (3) → MX4_isFact x2 h fun r74 =>
  ((r74 = 0 → KX5_readUnit_37 RP x1 x2 s0 (0) h Q) ∧
  (¬ r74 = 0 → KX5_readUnit_37 RP x1 x2 s0 (1) h Q))))
def MX5_readUnit (RP : Int32 → Int32 → ob_H → (Int32 → ob_H → Prop) → Prop) (p1 : Int32) (h : ob_H) (Q : Int32 → ob_H → Prop) : Prop :=
  Lt ((h.1 1 2) : Int32) fun v1 =>
  ((v1 = (40) → KX5_readUnit_19 RP p1 v1 (1) h Q) ∧
  (¬ v1 = (40) → KX5_readUnit_19 RP p1 v1 (0) h Q))
-- Objections$Reader.readPart(II)Z
def FX5_readPart_49 (RP : Int32 → Int32 → ob_H → (Int32 → ob_H → Prop) → Prop) (x1 : Int32) (x2 : Int32) (Q : Int32 → ob_H → Prop) (k49 : Int32 → ob_H → Prop) (x3 : Int32) (h : ob_H) : Prop :=
  (((1600) ≤ x3 → Q (1) h) ∧
  (¬ (1600) ≤ x3 → MX5_levelOf (h.1 1 2) h fun r17 =>
  ((r17 = x1 → Lt ((h.1 1 2) : Int32) fun v24 =>
  MX10_step  h fun h27 =>
  RP (x1 + (1)) x2 h27 fun r30 h31 =>
  ((r30 = 0 → Q (0) h31) ∧
  (¬ r30 = 0 → A4 h31.2.2 ∧
  MX4_add h31.2.2 (-v24) h31 fun h40 =>
  ((x1 = (2) → Q (1) h40) ∧
  (¬ x1 = (2) → Lt (x3 + (1) : Int32) fun v46 =>
  k49 v46 h40))))) ∧
  (¬ r17 = x1 → Q (1) h))))
def KX5_readPart_34 (RP : Int32 → Int32 → ob_H → (Int32 → ob_H → Prop) → Prop) (x1 : Int32) (x2 : Int32) (h : ob_H) (Q : Int32 → ob_H → Prop)  : Prop :=
  RP (x1 + (1)) x2 h fun r7 h8 =>
  ((r7 = 0 → Q (0) h8) ∧
  (¬ r7 = 0 → lo2 (FX5_readPart_49 RP x1 x2 Q) (0) h8))
def GX5_readPart (RP : Int32 → Int32 → ob_H → (Int32 → ob_H → Prop) → Prop) (p1 : Int32) (p2 : Int32) (h : ob_H) (Q : Int32 → ob_H → Prop) : Prop :=
  ((p1 < (5) → ((p1 = (2) → (((h.1 1 2) = (119) → MX5_readNot RP p2 h fun r52 h53 =>
  Q r52 h53) ∧
  (¬ (h.1 1 2) = (119) → KX5_readPart_34 RP p1 p2 h Q))) ∧
  (¬ p1 = (2) → KX5_readPart_34 RP p1 p2 h Q))) ∧
  (¬ p1 < (5) → MX5_readUnit RP p2 h fun r56 h57 =>
  Q r56 h57))
def MX5_readPart : Nat → Int32 → Int32 → ob_H → (Int32 → ob_H → Prop) → Prop
  | 0 => fun _ _ _ _ => False
  | d + 1 => GX5_readPart (MX5_readPart d)
-- Objections$Reader.readFormula(LObjections$Formula;)Z
def MX5_readFormula  (p1 : Nat) (h : ob_H) (Q : Int32 → ob_H → Prop) : Prop :=
  MX5_beginOnce  h fun r1 h2 =>
  ((r1 = 0 → Q (0) h2) ∧
  (¬ r1 = 0 → Lt (h_d h2 p1) fun h8 =>
  A4 h8.2.2 ∧
  MX4_clear h8.2.2 h8 fun h13 =>
  Lt (h_i h13 4 11 (0)) fun h16 =>
  MX5_readPart 120 (0) (0) h16 fun r18 h19 =>
  ((r18 = 0 → Q (0) h19) ∧
  (¬ r18 = 0 → MX5_take (59) h19 fun r25 h26 =>
  ((r25 = 0 → Q (0) h26) ∧
  (¬ r25 = 0 → Q (1) h26))))))
-- Objections$Reader.readBar()Z
def MX5_readBar  (h : ob_H) (Q : Int32 → ob_H → Prop) : Prop :=
  MX5_beginOnce  h fun r1 h2 =>
  ((r1 = 0 → Q (0) h2) ∧
  (¬ r1 = 0 → MX5_readAmount (1) (999) h2 fun r8 h9 =>
  ((r8 = 0 → Q (0) h9) ∧
  (¬ r8 = 0 → Lt (h_i h9 5 9 (h9.1 4 7)) fun h15 =>
  MX5_take (59) h15 fun r17 h18 =>
  Q r17 h18))))
-- Objections$Reader.readDraw()Z
def MX5_readDraw  (h : ob_H) (Q : Int32 → ob_H → Prop) : Prop :=
  MX5_beginOnce  h fun r1 h2 =>
  ((r1 = 0 → Q (0) h2) ∧
  (¬ r1 = 0 → MX5_readAmount (0) (999) h2 fun r8 h9 =>
  ((r8 = 0 → Q (0) h9) ∧
  (¬ r8 = 0 → Lt (h_i h9 5 10 (h9.1 4 7)) fun h15 =>
  MX5_take (59) h15 fun r17 h18 =>
  Q r17 h18))))
-- Objections$Reader.read()Z
def FX5_read_38 (Q : Int32 → ob_H → Prop) (k38 : Int32 → Int32 → ob_H → Prop) (x1 : Int32) (x2 : Int32) (h : ob_H) : Prop :=
  (((1600) < x2 → isB x1 ∧
  Q x1 h) ∧
  (¬ (1600) < x2 → ((x1 = 0 → isB x1 ∧
  Q x1 h) ∧
  (¬ x1 = 0 → (((h.1 1 2) = 0 → isB x1 ∧
  Q x1 h) ∧
  (¬ (h.1 1 2) = 0 → (((h.1 1 2) = (106) → MX5_readObjector  h fun r34 h35 =>
  Lt (x2 + (1) : Int32) fun v38 =>
  k38 r34 v38 h35) ∧
  (¬ (h.1 1 2) = (106) → (((h.1 1 2) = (110) → MX5_readWhom 10 (12) h fun r43 h44 =>
  Lt (x2 + (1) : Int32) fun v47 =>
  k38 r43 v47 h44) ∧
  (¬ (h.1 1 2) = (110) → (((h.1 1 2) = (111) → MX5_readWhom 11 (6) h fun r52 h53 =>
  Lt (x2 + (1) : Int32) fun v56 =>
  k38 r52 v56 h53) ∧
  (¬ (h.1 1 2) = (111) → (((h.1 1 2) = (112) → MX5_readJoined  h fun r61 h62 =>
  Lt (x2 + (1) : Int32) fun v65 =>
  k38 r61 v65 h62) ∧
  (¬ (h.1 1 2) = (112) → (((h.1 1 2) = (113) → MX5_readFormula 13 h fun r70 h71 =>
  Lt (x2 + (1) : Int32) fun v74 =>
  k38 r70 v74 h71) ∧
  (¬ (h.1 1 2) = (113) → (((h.1 1 2) = (114) → MX5_readFormula 16 h fun r79 h80 =>
  Lt (x2 + (1) : Int32) fun v83 =>
  k38 r79 v83 h80) ∧
  (¬ (h.1 1 2) = (114) → (((h.1 1 2) = (115) → MX5_readBar  h fun r88 h89 =>
  Lt (x2 + (1) : Int32) fun v92 =>
  k38 r88 v92 h89) ∧
  (¬ (h.1 1 2) = (115) → (((h.1 1 2) = (116) → MX5_readDraw  h fun r97 h98 =>
  Lt (x2 + (1) : Int32) fun v101 =>
  k38 r97 v101 h98) ∧
  (¬ (h.1 1 2) = (116) → MX5_misplaced  h fun r104 h105 =>
  Lt (x2 + (1) : Int32) fun v108 =>
  k38 r104 v108 h105))))))))))))))))))))))
def MX5_read  (h : ob_H) (Q : Int32 → ob_H → Prop) : Prop :=
  MX2_clear 5 h fun h2 =>
  Lt (h_i h2 4 1 (0)) fun h5 =>
  Lt (h_i h5 4 2 (-1)) fun h7 =>
  Lt (h_i h7 4 5 (0)) fun h9 =>
  Lt (h_i h9 4 6 (0)) fun h11 =>
  MX10_rewind  h11 fun h14 =>
  lo3 (FX5_read_38 Q) (1) (0) h14
-- Objections$Formula.copy(LObjections$Formula;)V
def MX4_copy  (o : Nat) (p1 : Nat) (h : ob_H) (Q : ob_H → Prop) : Prop :=
  Lt (h_i h o 1 (h.1 p1 1)) fun h1 =>
  ¬ (h1.1 o 1) < 0 ∧
  0 + (ix (h1.1 o 1)) ≤ 300 ∧
  0 + (ix (h1.1 o 1)) ≤ 300 ∧
  Lt (h_c h1 (p1 + 1) 0 (o + 1) 0 (ix (h1.1 o 1))) fun h9 =>
  Q h9
-- Objections$Book.copy(LObjections$Book;)V
def MX2_copy  (o : Nat) (p1 : Nat) (h : ob_H) (Q : ob_H → Prop) : Prop :=
  Lt (h_i h o 0 (h.1 p1 0)) fun h1 =>
  Lt (h_i h1 o 8 (h1.1 p1 8)) fun h3 =>
  Lt (h_i h3 o 9 (h3.1 p1 9)) fun h5 =>
  Lt (h_i h5 o 10 (h5.1 p1 10)) fun h7 =>
  Lt (h_i h7 o 11 (h7.1 p1 11)) fun h9 =>
  Lt (h_c h9 (p1 + 1) 0 (o + 1) 0 7) fun h11 =>
  Lt (h_c h11 (p1 + 2) 0 (o + 2) 0 7) fun h13 =>
  Lt (h_c h13 (p1 + 3) 0 (o + 3) 0 7) fun h15 =>
  Lt (h_c h15 (p1 + 4) 0 (o + 4) 0 7) fun h17 =>
  Lt (h_c h17 (p1 + 5) 0 (o + 5) 0 7) fun h19 =>
  Lt (h_c h19 (p1 + 6) 0 (o + 6) 0 7) fun h21 =>
  Lt (h_c h21 (p1 + 7) 0 (o + 7) 0 49) fun h23 =>
  MX4_copy (o + 8) (p1 + 8) h23 fun h26 =>
  MX4_copy (o + 11) (p1 + 11) h26 fun h30 =>
  Q h30
-- Objections$Room.begin()V
def FX6_begin_64  (o : Nat) (Q : ob_H → Prop) (k64 : Int32 → ob_H → Prop) (x1 : Int32) (h : ob_H) : Prop :=
  (((7) ≤ x1 → Lt (h_i h o 3 (0)) fun h11 =>
  Lt (h_i h11 o 4 (0)) fun h13 =>
  Lt (h_i h13 o 5 (h13.1 20 10)) fun h15 =>
  Q h15) ∧
  (¬ (7) ≤ x1 → vp_in x1 7 ∧
  Lt (h_i h (o + 2) (ix x1) x1) fun h19 =>
  Lt (h_i h19 (o + 3) (ix x1) (0)) fun h21 =>
  Lt (x1 + (1) : Int32) fun v23 =>
  k64 v23 h21))
def FX6_begin_2  (o : Nat) (Q : ob_H → Prop) (k2 : Int32 → ob_H → Prop) (x1 : Int32) (h : ob_H) : Prop :=
  (((7) ≤ x1 → Lt (h_i h (o + 1) 6 (h.1 20 8)) fun h4 =>
  Lt (h_i h4 (o + 1) 0 ((((1) <<< ((h4.1 20 0) &&& 31)) - (1)) &&& ((h4.1 20 8) ^^^ (-1)))) fun h6 =>
  lo2 (FX6_begin_64 o Q) (0) h6) ∧
  (¬ (7) ≤ x1 → vp_in x1 7 ∧
  Lt (h_i h (o + 1) (ix x1) (0)) fun h28 =>
  Lt (x1 + (1) : Int32) fun v30 =>
  k2 v30 h28))
def MX6_begin  (o : Nat) (h : ob_H) (Q : ob_H → Prop) : Prop :=
  lo2 (FX6_begin_2 o Q) (0) h
-- Objections$Archive.forgetActs()V
def MX1_forgetActs  (h : ob_H) (Q : ob_H → Prop) : Prop :=
  Lt (h_i h 95 4 (0)) fun h1 =>
  Lt (h_i h1 95 0 (0)) fun h3 =>
  Lt (h_i h3 95 1 (0)) fun h5 =>
  Q h5
-- Objections$Archive.emptyBoxes()V
def MX1_emptyBoxes  (h : ob_H) (Q : ob_H → Prop) : Prop :=
  Lt (h_i h 95 6 (0)) fun h1 =>
  Q h1
-- Objections$Sights.forget()V
def MX9_forget  (h : ob_H) (Q : ob_H → Prop) : Prop :=
  Lt (h_i h 98 0 (0)) fun h1 =>
  Lt (h_i h1 98 12 (0)) fun h3 =>
  Q h3
-- Objections.wedding()I
def MX11_wedding  (h : ob_H) (Q : Int32 → ob_H → Prop) : Prop :=
  MX5_read  h fun r1 h2 =>
  Lt (h_i h2 1 1 (0)) fun h5 =>
  ((r1 = 0 → Q (-1) h5) ∧
  (¬ r1 = 0 → MX2_copy 20 5 h5 fun h11 =>
  MX6_begin 34 h11 fun h15 =>
  MX1_forgetActs  h15 fun h19 =>
  MX1_emptyBoxes  h19 fun h23 =>
  MX9_forget  h23 fun h27 =>
  Lt (h_i h27 0 11 (0)) fun h30 =>
  Q (h30.1 20 0) h30))
-- Objections.fault(I)I
def MX11_fault  (p1 : Int32) (h : ob_H) (Q : Int32 → Prop) : Prop :=
  ((p1 = (0) → Q (h.1 4 1)) ∧
  (¬ p1 = (0) → ((p1 = (1) → Q (h.1 4 2)) ∧
  (¬ p1 = (1) → Q (-1)))))
-- Objections.isTold(I)Z
def MX11_isTold  (p1 : Int32) (h : ob_H) (Q : Int32 → Prop) : Prop :=
  ((p1 < 0 → Q (0)) ∧
  (¬ p1 < 0 → (((h.1 20 0) ≤ p1 → Q (0)) ∧
  (¬ (h.1 20 0) ≤ p1 → Q (1)))))
-- Objections$Room.sortOf(I)I
def FX6_sortOf_2  (o : Nat) (x1 : Int32) (h : ob_H) (Q : Int32 → Prop) (k2 : Int32 → Prop) (x2 : Int32) : Prop :=
  (((7) ≤ x2 → Q (-2)) ∧
  (¬ (7) ≤ x2 → vp_in x2 7 ∧
  (((((h.1 (o + 1) (ix x2)) >>> (x1 &&& 31)) &&& (1)) = 0 → Lt (x2 + (1) : Int32) fun v9 =>
  k2 v9) ∧
  (¬ (((h.1 (o + 1) (ix x2)) >>> (x1 &&& 31)) &&& (1)) = 0 → Q x2))))
def MX6_sortOf  (o : Nat) (p1 : Int32) (h : ob_H) (Q : Int32 → Prop) : Prop :=
  lo1 (FX6_sortOf_2 o p1 h Q) (0)
-- Objections$Room.waits(I)Z
def MX6_waits  (o : Nat) (p1 : Int32) (h : ob_H) (Q : Int32 → Prop) : Prop :=
  (((((h.1 (o + 1) 0) >>> (p1 &&& 31)) &&& (1)) = 0 → Q (0)) ∧
  (¬ (((h.1 (o + 1) 0) >>> (p1 &&& 31)) &&& (1)) = 0 → Q (1)))
-- Objections$Room.waited(I)I
def MX6_waited  (o : Nat) (p1 : Int32) (h : ob_H) (Q : Int32 → Prop) : Prop :=
  vp_in p1 7 ∧
  Q ((h.1 o 3) - (h.1 (o + 3) (ix p1)))
-- Objections.objector(II)I
def MX11_objector  (p1 : Int32) (p2 : Int32) (h : ob_H) (Q : Int32 → Prop) : Prop :=
  MX11_isTold p1 h fun r1 =>
  ((r1 = 0 → Q (-2)) ∧
  (¬ r1 = 0 → ((p2 = (0) → MX6_sortOf 34 p1 h fun r10 =>
  Q r10) ∧
  (¬ p2 = (0) → ((p2 = (1) → vp_in p1 7 ∧
  Q (h.1 21 (ix p1))) ∧
  (¬ p2 = (1) → ((p2 = (2) → vp_in p1 7 ∧
  Q (h.1 22 (ix p1))) ∧
  (¬ p2 = (2) → ((p2 = (3) → vp_in p1 7 ∧
  Q (h.1 36 (ix p1))) ∧
  (¬ p2 = (3) → ((p2 = (4) → MX6_waits 34 p1 h fun r32 =>
  ((r32 = 0 → Q (0)) ∧
  (¬ r32 = 0 → MX6_waited 34 p1 h fun r39 =>
  Q r39))) ∧
  (¬ p2 = (4) → ((p2 = (5) → vp_in p1 7 ∧
  Q (h.1 24 (ix p1))) ∧
  (¬ p2 = (5) → ((p2 = (6) → vp_in p1 7 ∧
  Q (h.1 25 (ix p1))) ∧
  (¬ p2 = (6) → ((p2 = (7) → vp_in p1 7 ∧
  Q (h.1 26 (ix p1))) ∧
  (¬ p2 = (7) → Q (-2)))))))))))))))))))
-- Objections.isWaiting(I)Z
def MX11_isWaiting  (p1 : Int32) (h : ob_H) (Q : Int32 → Prop) : Prop :=
  MX11_isTold p1 h fun r1 =>
  ((r1 = 0 → Q (0)) ∧
  (¬ r1 = 0 → MX6_waits 34 p1 h fun r8 =>
  ((r8 = 0 → Q (0)) ∧
  (¬ r8 = 0 → Q (1)))))
-- Objections$Room.gather(II)V
def MX6_gather  (o : Nat) (p1 : Int32) (p2 : Int32) (h : ob_H) (Q : ob_H → Prop) : Prop :=
  Lt (h_i h (o + 4) 0 p2) fun h1 =>
  vp_in p1 7 ∧
  Lt (h_i h1 (o + 4) 1 (h1.1 22 (ix p1))) fun h5 =>
  MX6_waited o p1 h5 fun r7 =>
  Lt (h_i h5 (o + 4) 2 r7) fun h11 =>
  Lt (h_i h11 (o + 4) 3 (h11.1 (o + 2) (ix p1))) fun h13 =>
  MJ6_bitCount_0f7a4 ((h13.1 (o + 1) 1) ||| (h13.1 (o + 1) 2)) h13 fun r15 =>
  Lt (h_i h13 (o + 4) 4 r15) fun h19 =>
  Lt (h_i h19 (o + 4) 5 (h19.1 o 3)) fun h21 =>
  Q h21
-- Objections$Formula.join(III)I
def MX4_join  (p0 : Int32) (p1 : Int32) (p2 : Int32) (h : ob_H) (Q : Int32 → Prop) : Prop :=
  ((p0 = (37) → ((p2 = 0 → Q (0)) ∧
  (¬ p2 = 0 → ¬ p2 = 0 ∧
  Q (irm p1 p2)))) ∧
  (¬ p0 = (37) → ((p0 = (42) → Q (p1 * p2)) ∧
  (¬ p0 = (42) → ((p0 = (43) → Q (p1 + p2)) ∧
  (¬ p0 = (43) → ((p0 = (45) → Q (p1 - p2)) ∧
  (¬ p0 = (45) → ((p0 = (47) → ((p2 = 0 → Q (0)) ∧
  (¬ p2 = 0 → ¬ p2 = 0 ∧
  Q (p1 / p2)))) ∧
  (¬ p0 = (47) → ((p0 = (60) → ((p2 ≤ p1 → Q (0)) ∧
  (¬ p2 ≤ p1 → Q (1)))) ∧
  (¬ p0 = (60) → ((p0 = (61) → ((p1 = p2 → Q (1)) ∧
  (¬ p1 = p2 → Q (0)))) ∧
  (¬ p0 = (61) → ((p0 = (62) → ((p1 ≤ p2 → Q (0)) ∧
  (¬ p1 ≤ p2 → Q (1)))) ∧
  (¬ p0 = (62) → ((p0 = (117) → ((p1 = 0 → ((p2 = 0 → Q (0)) ∧
  (¬ p2 = 0 → Q (1)))) ∧
  (¬ p1 = 0 → Q (1)))) ∧
  (¬ p0 = (117) → ((p0 = (118) → ((p1 = 0 → Q (0)) ∧
  (¬ p1 = 0 → ((p2 = 0 → Q (0)) ∧
  (¬ p2 = 0 → Q (1)))))) ∧
  (¬ p0 = (118) → Q (0)))))))))))))))))))))
-- Objections$Formula.value([I)I
def KX4_value_63  (o : Nat) (p1 : Nat) (x2 : Int32) (x3 : Int32) (s0 : Int32) (s1 : Int32) (h : ob_H) (Q : Int32 → ob_H → Prop) (k4 : Int32 → Int32 → ob_H → Prop)  : Prop :=
  vp_in s1 32 ∧
  Lt (h_i h (o + 2) (ix s1) s0) fun h26 =>
  Lt (x2 + (1) : Int32) fun v28 =>
  Lt (x3 + (1) : Int32) fun v30 =>
  k4 v28 v30 h26
def KX4_value_34  (o : Nat) (p1 : Nat) (x2 : Int32) (x3 : Int32) (x4 : Int32) (h : ob_H) (Q : Int32 → ob_H → Prop) (k4 : Int32 → Int32 → ob_H → Prop)  : Prop :=
  (((32) ≤ x2 → Lt (x3 + (1) : Int32) fun v17 =>
  k4 x2 v17 h) ∧
  (¬ (32) ≤ x2 → ((x4 < 0 → vp_in ((-x4) - (100)) 6 ∧
  KX4_value_63 o p1 x2 x3 (h.1 p1 (ix ((-x4) - (100)))) x2 h Q k4) ∧
  (¬ x4 < 0 → KX4_value_63 o p1 x2 x3 x4 x2 h Q k4))))
def KX4_value_104  (o : Nat) (p1 : Nat) (x2 : Int32) (x3 : Int32) (s0 : Int32) (s1 : Int32) (h : ob_H) (Q : Int32 → ob_H → Prop) (k4 : Int32 → Int32 → ob_H → Prop)  : Prop :=
  vp_in s1 32 ∧
  Lt (h_i h (o + 2) (ix s1) s0) fun h73 =>
  Lt (x3 + (1) : Int32) fun v75 =>
  k4 x2 v75 h73
def FX4_value_4  (o : Nat) (p1 : Nat) (Q : Int32 → ob_H → Prop) (k4 : Int32 → Int32 → ob_H → Prop) (x2 : Int32) (x3 : Int32) (h : ob_H) : Prop :=
  (((h.1 o 1) ≤ x3 → ((x2 ≤ 0 → Q (0) h) ∧
  (¬ x2 ≤ 0 → Q (h.1 (o + 2) 0) h))) ∧
  (¬ (h.1 o 1) ≤ x3 → vp_in x3 300 ∧
  Lt ((h.1 (o + 1) (ix x3)) : Int32) fun v9 =>
  ((0 ≤ v9 → KX4_value_34 o p1 x2 x3 v9 h Q k4) ∧
  (¬ 0 ≤ v9 → MX4_isFact (-v9) h fun r32 =>
  ((r32 = 0 → ((v9 = (-119) → ((x2 ≤ 0 → Lt (x3 + (1) : Int32) fun v64 =>
  k4 x2 v64 h) ∧
  (¬ x2 ≤ 0 → vp_in (x2 - (1)) 32 ∧
  (((h.1 (o + 2) (ix (x2 - (1)))) = 0 → KX4_value_104 o p1 x2 x3 (1) (x2 - (1)) h Q k4) ∧
  (¬ (h.1 (o + 2) (ix (x2 - (1)))) = 0 → KX4_value_104 o p1 x2 x3 (0) (x2 - (1)) h Q k4))))) ∧
  (¬ v9 = (-119) → ((x2 ≤ (1) → Lt (x3 + (1) : Int32) fun v45 =>
  k4 x2 v45 h) ∧
  (¬ x2 ≤ (1) → Lt (x2 + (-1) : Int32) fun v47 =>
  vp_in (v47 - (1)) 32 ∧
  vp_in v47 32 ∧
  MX4_join (-v9) (h.1 (o + 2) (ix (v47 - (1)))) (h.1 (o + 2) (ix v47)) h fun r53 =>
  Lt (h_i h (o + 2) (ix (v47 - (1))) r53) fun h57 =>
  Lt (x3 + (1) : Int32) fun v59 =>
  k4 v47 v59 h57))))) ∧
  (¬ r32 = 0 → KX4_value_34 o p1 x2 x3 v9 h Q k4))))))
def MX4_value  (o : Nat) (p1 : Nat) (h : ob_H) (Q : Int32 → ob_H → Prop) : Prop :=
  lo3 (FX4_value_4 o p1 Q) (0) (0) h
-- Objections$Room.orderOf(II)I
def MX6_orderOf  (o : Nat) (p1 : Int32) (p2 : Int32) (h : ob_H) (Q : Int32 → ob_H → Prop) : Prop :=
  MX6_gather o p1 p2 h fun h2 =>
  MX4_value 28 (o + 4) h2 fun r5 h6 =>
  Q r5 h6
-- Objections.ranks(I)I
def MX11_ranks  (p1 : Int32) (h : ob_H) (Q : Int32 → ob_H → Prop) : Prop :=
  MX11_isWaiting p1 h fun r1 =>
  ((r1 = 0 → Q (-1000000000) h) ∧
  (¬ r1 = 0 → vp_in p1 7 ∧
  MX6_orderOf 34 p1 (h.1 21 (ix p1)) h fun r10 h11 =>
  Q r10 h11))
-- Objections$Room.turn()I
def FX6_turn_6  (o : Nat) (Q : Int32 → ob_H → Prop) (k6 : Int32 → Int32 → Int32 → ob_H → Prop) (x1 : Int32) (x2 : Int32) (x3 : Int32) (h : ob_H) : Prop :=
  (((h.1 20 0) ≤ x3 → Q x1 h) ∧
  (¬ (h.1 20 0) ≤ x3 → MX6_waits o x3 h fun r4 =>
  ((r4 = 0 → Lt (x3 + (1) : Int32) fun v11 =>
  k6 x1 x2 v11 h) ∧
  (¬ r4 = 0 → vp_in x3 7 ∧
  MX6_gather o x3 (h.1 21 (ix x3)) h fun h16 =>
  MX4_value 28 (o + 4) h16 fun r19 h20 =>
  ((x1 < 0 → Lt (x3 + (1) : Int32) fun v26 =>
  k6 x3 r19 v26 h20) ∧
  (¬ x1 < 0 → ((x2 < r19 → Lt (x3 + (1) : Int32) fun v31 =>
  k6 x3 r19 v31 h20) ∧
  (¬ x2 < r19 → ((r19 = x2 → vp_in x1 7 ∧
  (((h20.1 (o + 2) (ix x1)) ≤ (h20.1 (o + 2) (ix x3)) → Lt (x3 + (1) : Int32) fun v43 =>
  k6 x1 x2 v43 h20) ∧
  (¬ (h20.1 (o + 2) (ix x1)) ≤ (h20.1 (o + 2) (ix x3)) → Lt (x3 + (1) : Int32) fun v45 =>
  k6 x3 r19 v45 h20))) ∧
  (¬ r19 = x2 → Lt (x3 + (1) : Int32) fun v36 =>
  k6 x1 x2 v36 h20))))))))))
def MX6_turn  (o : Nat) (h : ob_H) (Q : Int32 → ob_H → Prop) : Prop :=
  lo4 (FX6_turn_6 o Q) (-1) (0) (0) h
-- Objections$Archive.rowOf(I)I
def MX1_rowOf  (p1 : Int32) (h : ob_H) (Q : Int32 → Prop) : Prop :=
  Q ((irm ((h.1 95 4) + p1) (41)) * (24))
-- Objections$Room.write([II)V
def MX6_write  (o : Nat) (p1 p1N : Nat) (p2 : Int32) (h : ob_H) (Q : ob_H → Prop) : Prop :=
  ((p2 < 0 → Q h) ∧
  (¬ p2 < 0 → ((p2 ≤ ((Int32.ofNat p1N) - (24)) → ¬ p2 < 0 ∧
  (ix p2) + 7 ≤ p1N ∧
  Lt (h_c h (o + 1) 0 p1 (ix p2) 7) fun h11 =>
  ¬ (p2 + (7)) < 0 ∧
  (ix (p2 + (7))) + 7 ≤ p1N ∧
  Lt (h_c h11 (o + 2) 0 p1 (ix (p2 + (7))) 7) fun h17 =>
  ¬ ((p2 + (7)) + (7)) < 0 ∧
  (ix ((p2 + (7)) + (7))) + 7 ≤ p1N ∧
  Lt (h_c h17 (o + 3) 0 p1 (ix ((p2 + (7)) + (7))) 7) fun h23 =>
  vp_in ((p2 + (24)) - (3)) p1N ∧
  Lt (h_i h23 p1 (ix ((p2 + (24)) - (3))) (h23.1 o 3)) fun h27 =>
  vp_in ((p2 + (24)) - (2)) p1N ∧
  Lt (h_i h27 p1 (ix ((p2 + (24)) - (2))) (h27.1 o 4)) fun h31 =>
  vp_in ((p2 + (24)) - (1)) p1N ∧
  Lt (h_i h31 p1 (ix ((p2 + (24)) - (1))) (h31.1 o 5)) fun h35 =>
  Q h35) ∧
  (¬ p2 ≤ ((Int32.ofNat p1N) - (24)) → Q h))))
-- Objections$Archive.keepAct()V
def MX1_keepAct  (h : ob_H) (Q : ob_H → Prop) : Prop :=
  MX1_rowOf (h.1 95 0) h fun r1 =>
  MX6_write 34 96 984 r1 h fun h6 =>
  Lt (h_i h6 95 1 (0)) fun h9 =>
  (((40) ≤ (h9.1 95 0) → Lt (h_i h9 95 4 (irm ((h9.1 95 4) + (1)) (41))) fun h14 =>
  Q h14) ∧
  (¬ (40) ≤ (h9.1 95 0) → Lt (h_i h9 95 0 ((h9.1 95 0) + (1))) fun h16 =>
  Q h16))
-- Objections$Room.answerOf(I)I
def MX6_answerOf  (o : Nat) (p1 : Int32) (h : ob_H) (Q : Int32 → ob_H → Prop) : Prop :=
  vp_in p1 7 ∧
  MX6_gather o p1 (h.1 21 (ix p1)) h fun h4 =>
  MX4_value 31 (o + 4) h4 fun r7 h8 =>
  Q r7 h8
-- Objections$Room.move(III)V
def MX6_move  (o : Nat) (p1 : Int32) (p2 : Int32) (p3 : Int32) (h : ob_H) (Q : ob_H → Prop) : Prop :=
  vp_in p2 7 ∧
  Lt (h_i h (o + 1) (ix p2) ((h.1 (o + 1) (ix p2)) &&& (p1 ^^^ (-1)))) fun h3 =>
  vp_in p3 7 ∧
  Lt (h_i h3 (o + 1) (ix p3) ((h3.1 (o + 1) (ix p3)) ||| p1)) fun h7 =>
  Q h7
-- Objections$Room.dismiss()I
def FX6_dismiss_4  (o : Nat) (h : ob_H) (Q : Int32 → ob_H → Prop) (k4 : Int32 → Int32 → Prop) (x1 : Int32) (x2 : Int32) : Prop :=
  (((h.1 20 0) ≤ x2 → MX6_move o x1 (0) (4) h fun h5 =>
  MJ6_bitCount_0f7a4 x1 h5 fun r8 =>
  Q r8 h5) ∧
  (¬ (h.1 20 0) ≤ x2 → MX6_waits o x2 h fun r12 =>
  ((r12 = 0 → Lt (x2 + (1) : Int32) fun v19 =>
  k4 x1 v19) ∧
  (¬ r12 = 0 → MX6_waited o x2 h fun r21 =>
  vp_in x2 7 ∧
  ((r21 ≤ (h.1 23 (ix x2)) → Lt (x2 + (1) : Int32) fun v30 =>
  k4 x1 v30) ∧
  (¬ r21 ≤ (h.1 23 (ix x2)) → Lt ((x1 ||| ((1) <<< (x2 &&& 31))) : Int32) fun v32 =>
  Lt (x2 + (1) : Int32) fun v34 =>
  k4 v32 v34))))))
def MX6_dismiss  (o : Nat) (h : ob_H) (Q : Int32 → ob_H → Prop) : Prop :=
  lo2 (FX6_dismiss_4 o h Q) (0) (0)
-- Objections$Room.hearAs(II)V
def FX6_hearAs_78  (o : Nat) (x3 : Int32) (Q : ob_H → Prop) (k78 : Int32 → ob_H → Prop) (x4 : Int32) (h : ob_H) : Prop :=
  (((h.1 20 0) ≤ x4 → MX6_dismiss o h fun r22 h23 =>
  Q h23) ∧
  (¬ (h.1 20 0) ≤ x4 → ((((x3 >>> (x4 &&& 31)) &&& (1)) = 0 → Lt (x4 + (1) : Int32) fun v29 =>
  k78 v29 h) ∧
  (¬ ((x3 >>> (x4 &&& 31)) &&& (1)) = 0 → vp_in x4 7 ∧
  Lt (h_i h (o + 3) (ix x4) (h.1 o 3)) fun h33 =>
  Lt (x4 + (1) : Int32) fun v35 =>
  k78 v35 h33))))
def MX6_hearAs  (o : Nat) (p1 : Int32) (p2 : Int32) (h : ob_H) (Q : ob_H → Prop) : Prop :=
  MX6_move o ((1) <<< (p1 &&& 31)) (0) p2 h fun h2 =>
  vp_in p1 7 ∧
  Lt (h_i h2 o 3 ((h2.1 o 3) + (h2.1 22 (ix p1)))) fun h7 =>
  MX6_move o ((h7.1 25 (ix p1)) &&& (h7.1 (o + 1) 0)) (0) (3) h7 fun h10 =>
  Lt (((h10.1 26 (ix p1)) &&& (h10.1 (o + 1) 6)) : Int32) fun v13 =>
  MX6_move o v13 (6) (0) h10 fun h16 =>
  lo2 (FX6_hearAs_78 o v13 Q) (0) h16
-- Objections$Room.hearDrawn(I)V
def KX6_hearDrawn_43  (o : Nat) (s0 : Int32) (s1 : Int32) (h : ob_H) (Q : ob_H → Prop)  : Prop :=
  MX6_hearAs o s1 s0 h fun h11 =>
  Q h11
def MX6_hearDrawn  (o : Nat) (p1 : Int32) (h : ob_H) (Q : ob_H → Prop) : Prop :=
  MX6_answerOf o p1 h fun r1 h2 =>
  Lt (h_i h2 o 5 (irm (((h2.1 o 5) * (137)) + (71)) (1000))) fun h5 =>
  ((r1 ≤ (irm (h5.1 o 5) (100)) → KX6_hearDrawn_43 o (2) p1 h5 Q) ∧
  (¬ r1 ≤ (irm (h5.1 o 5) (100)) → KX6_hearDrawn_43 o (1) p1 h5 Q))
-- Objections.hear()I
def MX11_hear  (h : ob_H) (Q : Int32 → ob_H → Prop) : Prop :=
  MX6_turn 34 h fun r1 h2 =>
  ((0 ≤ r1 → MX1_keepAct  h2 fun h9 =>
  MX6_hearDrawn 34 r1 h9 fun h13 =>
  Q r1 h13) ∧
  (¬ 0 ≤ r1 → Q (-1) h2))
-- Objections.buy(I)I
def MX11_buy  (p1 : Int32) (h : ob_H) (Q : Int32 → ob_H → Prop) : Prop :=
  MX11_isWaiting p1 h fun r1 =>
  ((r1 = 0 → Q (-1) h) ∧
  (¬ r1 = 0 → MX1_keepAct  h fun h9 =>
  vp_in p1 7 ∧
  Lt (h_i h9 34 4 ((h9.1 34 4) + (h9.1 24 (ix p1)))) fun h14 =>
  MX6_move 34 ((1) <<< (p1 &&& 31)) (0) (5) h14 fun h17 =>
  Q (h17.1 34 4) h17))
-- Objections$Room.letPass(I)I
def MX6_letPass  (o : Nat) (p1 : Int32) (h : ob_H) (Q : Int32 → ob_H → Prop) : Prop :=
  Lt (h_i h o 3 ((h.1 o 3) + p1)) fun h1 =>
  MX6_dismiss o h1 fun r3 h4 =>
  Q r3 h4
-- Objections.pause(I)I
def MX11_pause  (p1 : Int32) (h : ob_H) (Q : Int32 → ob_H → Prop) : Prop :=
  ((p1 < (1) → Q (-1) h) ∧
  (¬ p1 < (1) → ((p1 ≤ (60) → MX1_keepAct  h fun h8 =>
  MX6_letPass 34 p1 h8 fun r11 h12 =>
  Q r11 h12) ∧
  (¬ p1 ≤ (60) → Q (-1) h))))
-- Objections$Room.exchange(II)V
def MX6_exchange  (o : Nat) (p1 : Int32) (p2 : Int32) (h : ob_H) (Q : ob_H → Prop) : Prop :=
  vp_in p1 7 ∧
  Lt ((h.1 (o + 2) (ix p1)) : Int32) fun v3 =>
  vp_in p2 7 ∧
  Lt (h_i h (o + 2) (ix p1) (h.1 (o + 2) (ix p2))) fun h7 =>
  Lt (h_i h7 (o + 2) (ix p2) v3) fun h9 =>
  Q h9
-- Objections.trade(II)I
def MX11_trade  (p1 : Int32) (p2 : Int32) (h : ob_H) (Q : Int32 → ob_H → Prop) : Prop :=
  MX11_isWaiting p1 h fun r1 =>
  ((r1 = 0 → Q (-1) h) ∧
  (¬ r1 = 0 → MX11_isWaiting p2 h fun r8 =>
  ((r8 = 0 → Q (-1) h) ∧
  (¬ r8 = 0 → ((p1 = p2 → Q (-1) h) ∧
  (¬ p1 = p2 → MX1_keepAct  h fun h19 =>
  MX6_exchange 34 p1 p2 h19 fun h23 =>
  vp_in p1 7 ∧
  Q (h23.1 36 (ix p1)) h23))))))
-- Objections$Room.restore([II)V
def MX6_restore  (o : Nat) (p1 p1N : Nat) (p2 : Int32) (h : ob_H) (Q : ob_H → Prop) : Prop :=
  ((p2 < 0 → Q h) ∧
  (¬ p2 < 0 → ((p2 ≤ ((Int32.ofNat p1N) - (24)) → ¬ p2 < 0 ∧
  (ix p2) + 7 ≤ p1N ∧
  Lt (h_c h p1 (ix p2) (o + 1) 0 7) fun h11 =>
  ¬ (p2 + (7)) < 0 ∧
  (ix (p2 + (7))) + 7 ≤ p1N ∧
  Lt (h_c h11 p1 (ix (p2 + (7))) (o + 2) 0 7) fun h17 =>
  ¬ ((p2 + (7)) + (7)) < 0 ∧
  (ix ((p2 + (7)) + (7))) + 7 ≤ p1N ∧
  Lt (h_c h17 p1 (ix ((p2 + (7)) + (7))) (o + 3) 0 7) fun h23 =>
  vp_in ((p2 + (24)) - (3)) p1N ∧
  Lt (h_i h23 o 3 (h23.1 p1 (ix ((p2 + (24)) - (3))))) fun h27 =>
  vp_in ((p2 + (24)) - (2)) p1N ∧
  Lt (h_i h27 o 4 (h27.1 p1 (ix ((p2 + (24)) - (2))))) fun h31 =>
  vp_in ((p2 + (24)) - (1)) p1N ∧
  Lt (h_i h31 o 5 (h31.1 p1 (ix ((p2 + (24)) - (1))))) fun h35 =>
  Q h35) ∧
  (¬ p2 ≤ ((Int32.ofNat p1N) - (24)) → Q h))))
-- Objections$Archive.takeBack()Z
def MX1_takeBack  (h : ob_H) (Q : Int32 → ob_H → Prop) : Prop :=
  (((h.1 95 0) = 0 → Q (0) h) ∧
  (¬ (h.1 95 0) = 0 → MX1_rowOf (h.1 95 0) h fun r4 =>
  MX6_write 34 96 984 r4 h fun h9 =>
  Lt (h_i h9 95 0 ((h9.1 95 0) - (1))) fun h12 =>
  Lt (h_i h12 95 1 ((h12.1 95 1) + (1))) fun h14 =>
  MX1_rowOf (h14.1 95 0) h14 fun r16 =>
  MX6_restore 34 96 984 r16 h14 fun h21 =>
  Q (1) h21))
-- Objections.undo()Z
def MX11_undo  (h : ob_H) (Q : Int32 → ob_H → Prop) : Prop :=
  MX1_takeBack  h fun r1 h2 =>
  Q r1 h2
-- Objections$Archive.doAgain()Z
def MX1_doAgain  (h : ob_H) (Q : Int32 → ob_H → Prop) : Prop :=
  (((h.1 95 1) = 0 → Q (0) h) ∧
  (¬ (h.1 95 1) = 0 → Lt (h_i h 95 0 ((h.1 95 0) + (1))) fun h4 =>
  Lt (h_i h4 95 1 ((h4.1 95 1) - (1))) fun h6 =>
  MX1_rowOf (h6.1 95 0) h6 fun r8 =>
  MX6_restore 34 96 984 r8 h6 fun h13 =>
  Q (1) h13))
-- Objections.redo()Z
def MX11_redo  (h : ob_H) (Q : Int32 → ob_H → Prop) : Prop :=
  MX1_doAgain  h fun r1 h2 =>
  Q r1 h2
-- Objections.next()I
def MX11_next  (h : ob_H) (Q : Int32 → ob_H → Prop) : Prop :=
  MX6_turn 34 h fun r1 h2 =>
  Q r1 h2
-- Objections$Room.copy(LObjections$Room;)V
def MX6_copy  (o : Nat) (p1 : Nat) (h : ob_H) (Q : ob_H → Prop) : Prop :=
  Lt (h_c h (p1 + 1) 0 (o + 1) 0 7) fun h1 =>
  Lt (h_c h1 (p1 + 2) 0 (o + 2) 0 7) fun h3 =>
  Lt (h_c h3 (p1 + 3) 0 (o + 3) 0 7) fun h5 =>
  Lt (h_i h5 o 3 (h5.1 p1 3)) fun h7 =>
  Lt (h_i h7 o 4 (h7.1 p1 4)) fun h9 =>
  Lt (h_i h9 o 5 (h9.1 p1 5)) fun h11 =>
  Q h11
-- Objections.queue()I
def FX11_queue_23 (Q : Int32 → ob_H → Prop) (k23 : Int32 → ob_H → Prop) (x2 : Int32) (h : ob_H) : Prop :=
  (((7) ≤ x2 → Q (h.1 0 11) h) ∧
  (¬ (7) ≤ x2 → MX6_turn 42 h fun r10 h11 =>
  ((0 ≤ r10 → vp_in x2 7 ∧
  Lt (h_i h11 107 (ix x2) r10) fun h19 =>
  Lt (h_i h19 0 11 (x2 + (1))) fun h21 =>
  MX6_move 42 ((1) <<< (r10 &&& 31)) (0) (5) h21 fun h24 =>
  Lt (x2 + (1) : Int32) fun v27 =>
  k23 v27 h24) ∧
  (¬ 0 ≤ r10 → Q (h11.1 0 11) h11))))
def MX11_queue  (h : ob_H) (Q : Int32 → ob_H → Prop) : Prop :=
  MX6_copy 42 34 h fun h2 =>
  Lt (h_i h2 0 11 (0)) fun h5 =>
  lo2 (FX11_queue_23 Q) (0) h5
-- Objections$Course.follow()I
def FX3_follow_7 (Q : Int32 → ob_H → Prop) (k7 : Int32 → ob_H → Prop) (x1 : Int32) (h : ob_H) : Prop :=
  (((7) ≤ x1 → Q (h.1 42 3) h) ∧
  (¬ (7) ≤ x1 → MX6_turn 42 h fun r6 h7 =>
  ((0 ≤ r6 → vp_in x1 7 ∧
  Lt (h_i h7 40 (ix x1) r6) fun h15 =>
  Lt (h_i h15 41 (ix x1) (h15.1 42 3)) fun h17 =>
  Lt (h_i h17 39 3 (x1 + (1))) fun h19 =>
  MX6_hearAs 42 r6 (1) h19 fun h22 =>
  Lt (x1 + (1) : Int32) fun v25 =>
  k7 v25 h22) ∧
  (¬ 0 ≤ r6 → Q (h7.1 42 3) h7))))
def MX3_follow  (h : ob_H) (Q : Int32 → ob_H → Prop) : Prop :=
  Lt (h_i h 39 3 (0)) fun h1 =>
  lo2 (FX3_follow_7 Q) (0) h1
-- Objections$Course.goOn(LObjections$Room;)I
def MX3_goOn  (p1 : Nat) (h : ob_H) (Q : Int32 → ob_H → Prop) : Prop :=
  MX6_copy 42 p1 h fun h2 =>
  MX3_follow  h2 fun r5 h6 =>
  Q r5 h6
-- Objections.dusk()I
def MX11_dusk  (h : ob_H) (Q : Int32 → ob_H → Prop) : Prop :=
  MX3_goOn 34 h fun r1 h2 =>
  Q r1 h2
-- Objections.when(I)I
def FX11_when_14 (x1 : Int32) (h : ob_H) (Q : Int32 → ob_H → Prop) (k14 : Int32 → Prop) (x2 : Int32) : Prop :=
  (((h.1 39 3) ≤ x2 → Q (-1) h) ∧
  (¬ (h.1 39 3) ≤ x2 → vp_in x2 7 ∧
  (((h.1 40 (ix x2)) = x1 → Q (h.1 41 (ix x2)) h) ∧
  (¬ (h.1 40 (ix x2)) = x1 → Lt (x2 + (1) : Int32) fun v13 =>
  k14 v13))))
def MX11_when  (p1 : Int32) (h : ob_H) (Q : Int32 → ob_H → Prop) : Prop :=
  MX3_goOn 34 h fun r1 h2 =>
  lo1 (FX11_when_14 p1 h2 Q) (0)
-- Objections.lay([II)V
def MX11_lay  (p1 : Nat) (p2 : Int32) (h : ob_H) (Q : ob_H → Prop) : Prop :=
  Lt (h_i h 0 11 p2) fun h1 =>
  ¬ p2 < 0 ∧
  0 + (ix p2) ≤ 7 ∧
  0 + (ix p2) ≤ 7 ∧
  Lt (h_c h1 p1 0 107 0 (ix p2)) fun h9 =>
  Q h9
-- Objections.course()I
def MX11_course  (h : ob_H) (Q : Int32 → ob_H → Prop) : Prop :=
  MX3_goOn 34 h fun r1 h2 =>
  MX11_lay 40 (h2.1 39 3) h2 fun h6 =>
  Q (h6.1 0 11) h6
-- Objections.leavers()I
def MX11_leavers  (h : ob_H) (Q : Int32 → ob_H → Prop) : Prop :=
  MX3_goOn 34 h fun r1 h2 =>
  Q ((h2.1 35 0) &&& (h2.1 43 4)) h2
-- Objections$Search.keep(II)V
def MX8_keep  (p1 : Int32) (p2 : Int32) (h : ob_H) (Q : ob_H → Prop) : Prop :=
  Lt (h_i h 47 2 p1) fun h1 =>
  Lt (h_i h1 47 1 p2) fun h3 =>
  ¬ p2 < 0 ∧
  0 + (ix p2) ≤ 7 ∧
  0 + (ix p2) ≤ 7 ∧
  Lt (h_c h3 50 0 48 0 (ix p2)) fun h11 =>
  Q h11
-- Objections$Search.wasHere(LObjections$Room;)Z
def KX8_wasHere_94  (p1 : Nat) (x2 : Int32) (x3 : Int32) (x5 : Int32) (s0 : Int32) (h : ob_H) (Q : Int32 → ob_H → Prop) (k47 : Int32 → Int32 → ob_H → Prop)  : Prop :=
  vp_in x5 7 ∧
  vp_in ((x2 + (1)) + x5) 1024 ∧
  Lt (h_i h 51 (ix ((x2 + (1)) + x5)) (h.1 (p1 + 3) (ix x5))) fun h31 =>
  Lt (x5 + (1) : Int32) fun v33 =>
  k47 s0 v33 h31
def FX8_wasHere_47  (p1 : Nat) (x2 : Int32) (x3 : Int32) (Q : Int32 → ob_H → Prop) (k47 : Int32 → Int32 → ob_H → Prop) (x4 : Int32) (x5 : Int32) (h : ob_H) : Prop :=
  (((7) ≤ x5 → isB x4 ∧
  Q x4 h) ∧
  (¬ (7) ≤ x5 → ((((x3 >>> (x5 &&& 31)) &&& (1)) = 0 → Lt (x5 + (1) : Int32) fun v22 =>
  k47 x4 v22 h) ∧
  (¬ ((x3 >>> (x5 &&& 31)) &&& (1)) = 0 → ((x4 = 0 → KX8_wasHere_94 p1 x2 x3 x5 (0) h Q k47) ∧
  (¬ x4 = 0 → vp_in ((x2 + (1)) + x5) 1024 ∧
  vp_in x5 7 ∧
  (((h.1 51 (ix ((x2 + (1)) + x5))) = (h.1 (p1 + 3) (ix x5)) → KX8_wasHere_94 p1 x2 x3 x5 (1) h Q k47) ∧
  (¬ (h.1 51 (ix ((x2 + (1)) + x5))) = (h.1 (p1 + 3) (ix x5)) → KX8_wasHere_94 p1 x2 x3 x5 (0) h Q k47))))))))
def KX8_wasHere_35  (p1 : Nat) (x2 : Int32) (x3 : Int32) (s0 : Int32) (h : ob_H) (Q : Int32 → ob_H → Prop)  : Prop :=
  vp_in x2 1024 ∧
  Lt (h_i h 51 (ix x2) x3) fun h12 =>
  lo3 (FX8_wasHere_47 p1 x2 x3 Q) s0 (0) h12
def MX8_wasHere  (p1 : Nat) (h : ob_H) (Q : Int32 → ob_H → Prop) : Prop :=
  Lt ((((h.1 (p1 + 1) 1) &&& (127)) * (8)) : Int32) fun v1 =>
  Lt ((h.1 (p1 + 1) 0) : Int32) fun v3 =>
  vp_in v1 1024 ∧
  (((h.1 51 (ix v1)) = v3 → KX8_wasHere_35 p1 v1 v3 (1) h Q) ∧
  (¬ (h.1 51 (ix v1)) = v3 → KX8_wasHere_35 p1 v1 v3 (0) h Q))
-- Objections$Search.explore(LObjections$Search;I)V
def FX8_explore_76 (RP : Int32 → ob_H → (ob_H → Prop) → Prop) (q2 : Nat) (q3 : Nat) (x1 : Int32) (Q : ob_H → Prop) (k76 : Int32 → ob_H → Prop) (x4 : Int32) (h : ob_H) : Prop :=
  (((h.1 20 0) ≤ x4 → Q h) ∧
  (¬ (h.1 20 0) ≤ x4 → MX6_waits q2 x4 h fun r32 =>
  ((r32 = 0 → Lt (x4 + (1) : Int32) fun v39 =>
  k76 v39 h) ∧
  (¬ r32 = 0 → MX6_copy q3 q2 h fun h42 =>
  MX6_hearAs q3 x4 (1) h42 fun h46 =>
  vp_in x1 7 ∧
  Lt (h_i h46 50 (ix x1) x4) fun h51 =>
  RP (x1 + (1)) h51 fun h54 =>
  Lt (x4 + (1) : Int32) fun v57 =>
  k76 v57 h54))))
def GX8_explore (RP : Int32 → ob_H → (ob_H → Prop) → Prop) (p1 : Int32) (h : ob_H) (Q : ob_H → Prop) : Prop :=
  ((p1 < 0 → Q h) ∧
  (¬ p1 < 0 → ((p1 ≤ (7) → vp_in p1 8 ∧
  (((h.1 (rmI p1) 3) < (h.1 47 2) → (((h.1 ((rmI p1) + 1) 0) = 0 → MX8_keep (h.1 (rmI p1) 3) p1 h fun h61 =>
  Q h61) ∧
  (¬ (h.1 ((rmI p1) + 1) 0) = 0 → ((p1 = (7) → Q h) ∧
  (¬ p1 = (7) → MX8_wasHere (rmI p1) h fun r19 h20 =>
  ((r19 = 0 → vp_in (p1 + (1)) 8 ∧
  lo2 (FX8_explore_76 RP (rmI p1) (rmI (p1 + (1))) p1 Q) (0) h20) ∧
  (¬ r19 = 0 → Q h20))))))) ∧
  (¬ (h.1 (rmI p1) 3) < (h.1 47 2) → Q h))) ∧
  (¬ p1 ≤ (7) → Q h))))
def MX8_explore : Nat → Int32 → ob_H → (ob_H → Prop) → Prop
  | 0 => fun _ _ _ => False
  | d + 1 => GX8_explore (MX8_explore d)
-- Objections$Search.run(LObjections$Room;)V
def FX8_run_13  (p1 : Nat) (Q : ob_H → Prop) (k13 : Int32 → ob_H → Prop) (x2 : Int32) (h : ob_H) : Prop :=
  (((128) ≤ x2 → MX6_copy 52 p1 h fun h9 =>
  MX8_explore 12 (0) h9 fun h13 =>
  Q h13) ∧
  (¬ (128) ≤ x2 → vp_in (x2 * (8)) 1024 ∧
  Lt (h_i h 51 (ix (x2 * (8))) (-1)) fun h18 =>
  Lt (x2 + (1) : Int32) fun v20 =>
  k13 v20 h18))
def MX8_run  (p1 : Nat) (h : ob_H) (Q : ob_H → Prop) : Prop :=
  Lt (h_i h 47 2 (2147483647)) fun h1 =>
  Lt (h_i h1 47 1 (0)) fun h3 =>
  lo2 (FX8_run_13 p1 Q) (0) h3
-- Objections.soonest()I
def MX11_soonest  (h : ob_H) (Q : Int32 → ob_H → Prop) : Prop :=
  MX8_run 34 h fun h2 =>
  MX11_lay 48 (h2.1 47 1) h2 fun h6 =>
  Q (h6.1 47 2) h6
-- Objections$Advice.findFirst()Z
def KX0_findFirst_72 (x2 : Int32) (x3 : Int32) (h : ob_H) (Q : Int32 → ob_H → Prop) (k4 : Int32 → Int32 → ob_H → Prop)  : Prop :=
  Lt (h_i h 92 0 x2) fun h30 =>
  Lt (h_i h30 92 4 x3) fun h32 =>
  Lt (x2 + (1) : Int32) fun v34 =>
  k4 (1) v34 h32
def FX0_findFirst_4 (Q : Int32 → ob_H → Prop) (k4 : Int32 → Int32 → ob_H → Prop) (x1 : Int32) (x2 : Int32) (h : ob_H) : Prop :=
  (((h.1 20 0) ≤ x2 → isB x1 ∧
  Q x1 h) ∧
  (¬ (h.1 20 0) ≤ x2 → MX6_waits 34 x2 h fun r6 =>
  ((r6 = 0 → Lt (x2 + (1) : Int32) fun v13 =>
  k4 x1 v13 h) ∧
  (¬ r6 = 0 → MX6_copy 42 34 h fun h16 =>
  MX6_hearAs 42 x2 (1) h16 fun h20 =>
  MX3_follow  h20 fun r23 h24 =>
  ((x1 = 0 → KX0_findFirst_72 x2 r23 h24 Q k4) ∧
  (¬ x1 = 0 → (((h24.1 92 4) ≤ r23 → Lt (x2 + (1) : Int32) fun v39 =>
  k4 x1 v39 h24) ∧
  (¬ (h24.1 92 4) ≤ r23 → KX0_findFirst_72 x2 r23 h24 Q k4))))))))
def MX0_findFirst  (h : ob_H) (Q : Int32 → ob_H → Prop) : Prop :=
  lo3 (FX0_findFirst_4 Q) (0) (0) h
-- Objections.first(I)I
def MX11_first  (p1 : Int32) (h : ob_H) (Q : Int32 → ob_H → Prop) : Prop :=
  ((p1 < 0 → Q (-1) h) ∧
  (¬ p1 < 0 → (((1) < p1 → Q (-1) h) ∧
  (¬ (1) < p1 → MX0_findFirst  h fun r7 h8 =>
  ((r7 = 0 → Q (-1) h8) ∧
  (¬ r7 = 0 → ((p1 = 0 → Q (h8.1 92 0) h8) ∧
  (¬ p1 = 0 → Q (h8.1 92 4) h8))))))))
-- Objections$Advice.priceOf(I)I
def FX0_priceOf_4 (x1 : Int32) (h : ob_H) (Q : Int32 → Prop) (k4 : Int32 → Int32 → Prop) (x2 : Int32) (x3 : Int32) : Prop :=
  (((h.1 20 0) ≤ x3 → Q x2) ∧
  (¬ (h.1 20 0) ≤ x3 → ((((x1 >>> (x3 &&& 31)) &&& (1)) = 0 → Lt ((x2 + (0)) : Int32) fun v7 =>
  Lt (x3 + (1) : Int32) fun v9 =>
  k4 v7 v9) ∧
  (¬ ((x1 >>> (x3 &&& 31)) &&& (1)) = 0 → vp_in x3 7 ∧
  Lt ((x2 + (h.1 24 (ix x3))) : Int32) fun v13 =>
  Lt (x3 + (1) : Int32) fun v15 =>
  k4 v13 v15))))
def MX0_priceOf  (p1 : Int32) (h : ob_H) (Q : Int32 → Prop) : Prop :=
  lo2 (FX0_priceOf_4 p1 h Q) (0) (0)
-- Objections$Advice.isCheaper(I)Z
def MX0_isCheaper  (p1 : Int32) (h : ob_H) (Q : Int32 → Prop) : Prop :=
  MX0_priceOf p1 h fun r1 =>
  ((r1 < (h.1 92 2) → Q (1)) ∧
  (¬ r1 < (h.1 92 2) → ((r1 = (h.1 92 2) → MJ6_bitCount_0f7a4 p1 h fun r11 =>
  MJ6_bitCount_0f7a4 (h.1 92 0) h fun r15 =>
  ((r15 ≤ r11 → Q (0)) ∧
  (¬ r15 ≤ r11 → Q (1)))) ∧
  (¬ r1 = (h.1 92 2) → Q (0)))))
-- Objections$Advice.duskWithout(I)I
def MX0_duskWithout  (p1 : Int32) (h : ob_H) (Q : Int32 → ob_H → Prop) : Prop :=
  MX6_copy 42 34 h fun h2 =>
  MX6_move 42 p1 (0) (5) h2 fun h6 =>
  MX3_follow  h6 fun r9 h10 =>
  Q r9 h10
-- Objections$Advice.findPurchase(I)Z
def FX0_findPurchase_39 (x1 : Int32) (x2 : Int32) (Q : Int32 → ob_H → Prop) (k39 : Int32 → ob_H → Prop) (x3 : Int32) (h : ob_H) : Prop :=
  ((x2 ≤ x3 → Q (1) h) ∧
  (¬ x2 ≤ x3 → (((x3 &&& (x2 ^^^ (-1))) = 0 → MX0_isCheaper x3 h fun r22 =>
  ((r22 = 0 → Lt (x3 + (1) : Int32) fun v29 =>
  k39 v29 h) ∧
  (¬ r22 = 0 → MX0_duskWithout x3 h fun r31 h32 =>
  ((x1 < r31 → Lt (x3 + (1) : Int32) fun v38 =>
  k39 v38 h32) ∧
  (¬ x1 < r31 → Lt (h_i h32 92 0 x3) fun h40 =>
  MX0_priceOf x3 h40 fun r42 =>
  Lt (h_i h40 92 2 r42) fun h46 =>
  Lt (x3 + (1) : Int32) fun v48 =>
  k39 v48 h46))))) ∧
  (¬ (x3 &&& (x2 ^^^ (-1))) = 0 → Lt (x3 + (1) : Int32) fun v20 =>
  k39 v20 h))))
def MX0_findPurchase  (p1 : Int32) (h : ob_H) (Q : Int32 → ob_H → Prop) : Prop :=
  (((h.1 34 3) ≤ p1 → Lt ((h.1 35 0) : Int32) fun v4 =>
  Lt (h_i h 92 0 v4) fun h6 =>
  MX0_priceOf v4 h6 fun r8 =>
  Lt (h_i h6 92 2 r8) fun h12 =>
  lo2 (FX0_findPurchase_39 p1 v4 Q) (0) h12) ∧
  (¬ (h.1 34 3) ≤ p1 → Q (0) h))
-- Objections.purchase(II)I
def KX11_purchase_25 (x1 : Int32) (x2 : Int32) (s0 : Int32) (h : ob_H) (Q : Int32 → ob_H → Prop)  : Prop :=
  ((s0 = 0 → Q (-1) h) ∧
  (¬ s0 = 0 → MX0_findPurchase x1 h fun r7 h8 =>
  ((r7 = 0 → Q (-1) h8) ∧
  (¬ r7 = 0 → ((x2 = 0 → Q (h8.1 92 2) h8) ∧
  (¬ x2 = 0 → Q (h8.1 92 0) h8))))))
def MX11_purchase  (p1 : Int32) (p2 : Int32) (h : ob_H) (Q : Int32 → ob_H → Prop) : Prop :=
  ((p1 < 0 → KX11_purchase_25 p1 p2 (0) h Q) ∧
  (¬ p1 < 0 → (((9999) < p1 → KX11_purchase_25 p1 p2 (0) h Q) ∧
  (¬ (9999) < p1 → ((p2 = 0 → KX11_purchase_25 p1 p2 (1) h Q) ∧
  (¬ p2 = 0 → ((p2 = (1) → KX11_purchase_25 p1 p2 (1) h Q) ∧
  (¬ p2 = (1) → KX11_purchase_25 p1 p2 (0) h Q))))))))
-- Objections$Advice.leastGrave(I)I
def FX0_leastGrave_101 (x1 : Int32) (x2 : Int32) (x3 : Int32) (x4 : Int32) (Q : Int32 → ob_H → Prop) (k101 : Int32 → ob_H → Prop) (x5 : Int32) (h : ob_H) : Prop :=
  (((100) ≤ x5 → Q (-1) h) ∧
  (¬ (100) ≤ x5 → MX6_orderOf 34 x1 x5 h fun r28 h29 =>
  ((x2 < 0 → Q x5 h29) ∧
  (¬ x2 < 0 → ((x3 < r28 → Q x5 h29) ∧
  (¬ x3 < r28 → ((r28 = x3 → ((x4 = 0 → Lt (x5 + (1) : Int32) fun v46 =>
  k101 v46 h29) ∧
  (¬ x4 = 0 → Q x5 h29))) ∧
  (¬ r28 = x3 → Lt (x5 + (1) : Int32) fun v41 =>
  k101 v41 h29))))))))
def KX0_leastGrave_65 (x1 : Int32) (x2 : Int32) (s0 : Int32) (h : ob_H) (Q : Int32 → ob_H → Prop)  : Prop :=
  ((x2 < 0 → lo2 (FX0_leastGrave_101 x1 x2 s0 (1) Q) (0) h) ∧
  (¬ x2 < 0 → vp_in x1 7 ∧
  vp_in x2 7 ∧
  (((h.1 36 (ix x2)) ≤ (h.1 36 (ix x1)) → lo2 (FX0_leastGrave_101 x1 x2 s0 (0) Q) (0) h) ∧
  (¬ (h.1 36 (ix x2)) ≤ (h.1 36 (ix x1)) → lo2 (FX0_leastGrave_101 x1 x2 s0 (1) Q) (0) h))))
def MX0_leastGrave  (p1 : Int32) (h : ob_H) (Q : Int32 → ob_H → Prop) : Prop :=
  MX6_copy 42 34 h fun h2 =>
  MX6_move 42 ((1) <<< (p1 &&& 31)) (0) (5) h2 fun h6 =>
  MX6_turn 42 h6 fun r9 h10 =>
  ((0 ≤ r9 → vp_in r9 7 ∧
  MX6_orderOf 34 r9 (h10.1 21 (ix r9)) h10 fun r18 h19 =>
  KX0_leastGrave_65 p1 r9 r18 h19 Q) ∧
  (¬ 0 ≤ r9 → KX0_leastGrave_65 p1 r9 (0) h10 Q))
-- Objections.boast(I)I
def MX11_boast  (p1 : Int32) (h : ob_H) (Q : Int32 → ob_H → Prop) : Prop :=
  MX11_isWaiting p1 h fun r1 =>
  ((r1 = 0 → Q (-1) h) ∧
  (¬ r1 = 0 → MX0_leastGrave p1 h fun r8 h9 =>
  Q r8 h9))
-- Objections$Scales.weigh(I)I
def FX7_weigh_40 (x1 : Int32) (x3 : Int32) (h : ob_H) (Q : Int32 → Prop) (k4 : Int32 → Int32 → Prop) (k40 : Int32 → Int32 → Prop) (x2 : Int32) (x4 : Int32) : Prop :=
  (((h.1 20 0) ≤ x4 → Lt (x3 + (1) : Int32) fun v18 =>
  k4 x2 v18) ∧
  (¬ (h.1 20 0) ≤ x4 → ((((x1 >>> (x4 &&& 31)) &&& (1)) = 0 → Lt ((x2 + (0)) : Int32) fun v23 =>
  Lt (x4 + (1) : Int32) fun v25 =>
  k40 v23 v25) ∧
  (¬ ((x1 >>> (x4 &&& 31)) &&& (1)) = 0 → vp_in ((x3 * (7)) + x4) 49 ∧
  Lt ((x2 + (h.1 27 (ix ((x3 * (7)) + x4)))) : Int32) fun v29 =>
  Lt (x4 + (1) : Int32) fun v31 =>
  k40 v29 v31))))
def FX7_weigh_4 (x1 : Int32) (h : ob_H) (Q : Int32 → Prop) (k4 : Int32 → Int32 → Prop) (x2 : Int32) (x3 : Int32) : Prop :=
  (((h.1 20 0) ≤ x3 → Q x2) ∧
  (¬ (h.1 20 0) ≤ x3 → ((((x1 >>> (x3 &&& 31)) &&& (1)) = 0 → Lt (x3 + (1) : Int32) fun v7 =>
  k4 x2 v7) ∧
  (¬ ((x1 >>> (x3 &&& 31)) &&& (1)) = 0 → vp_in x3 7 ∧
  Lt ((x2 + (h.1 21 (ix x3))) : Int32) fun v11 =>
  Lt ((x3 + (1)) : Int32) fun v13 =>
  lo2 (FX7_weigh_40 x1 x3 h Q k4) v11 v13))))
def MX7_weigh  (p1 : Int32) (h : ob_H) (Q : Int32 → Prop) : Prop :=
  lo2 (FX7_weigh_4 p1 h Q) (0) (0)
-- Objections.weight()I
def MX11_weight  (h : ob_H) (Q : Int32 → Prop) : Prop :=
  MX7_weigh (h.1 35 2) h fun r1 =>
  Q r1
-- Objections$Scales.isBarredBy(I)Z
def MX7_isBarredBy  (p1 : Int32) (h : ob_H) (Q : Int32 → Prop) : Prop :=
  MX7_weigh p1 h fun r1 =>
  ((r1 < (h.1 20 9) → Q (0)) ∧
  (¬ r1 < (h.1 20 9) → Q (1)))
-- Objections$Scales.threatens(I)Z
def MX7_threatens  (p1 : Int32) (h : ob_H) (Q : Int32 → Prop) : Prop :=
  (((p1 &&& ((h.1 35 0) ^^^ (-1))) = 0 → MX7_isBarredBy ((h.1 35 2) ||| p1) h fun r4 =>
  ((r4 = 0 → Q (0)) ∧
  (¬ r4 = 0 → Q (1)))) ∧
  (¬ (p1 &&& ((h.1 35 0) ^^^ (-1))) = 0 → Q (0)))
-- Objections$Scales.findThreat()Z
def KX7_findThreat_34 (x1 : Int32) (x2 : Int32) (s0 : Int32) (h : ob_H) (Q : Int32 → ob_H → Prop) (k4 : Int32 → Int32 → ob_H → Prop)  : Prop :=
  ((s0 = 0 → Lt (x2 + (1) : Int32) fun v12 =>
  k4 x1 v12 h) ∧
  (¬ s0 = 0 → MX7_threatens x2 h fun r14 =>
  ((r14 = 0 → Lt (x2 + (1) : Int32) fun v21 =>
  k4 x1 v21 h) ∧
  (¬ r14 = 0 → Lt (h_i h 93 0 x2) fun h23 =>
  Lt (x2 + (1) : Int32) fun v25 =>
  k4 (1) v25 h23))))
def FX7_findThreat_4 (Q : Int32 → ob_H → Prop) (k4 : Int32 → Int32 → ob_H → Prop) (x1 : Int32) (x2 : Int32) (h : ob_H) : Prop :=
  (((128) ≤ x2 → isB x1 ∧
  Q x1 h) ∧
  (¬ (128) ≤ x2 → ((x1 = 0 → KX7_findThreat_34 x1 x2 (1) h Q k4) ∧
  (¬ x1 = 0 → MJ6_bitCount_0f7a4 x2 h fun r27 =>
  MJ6_bitCount_0f7a4 (h.1 93 0) h fun r31 =>
  ((r31 ≤ r27 → KX7_findThreat_34 x1 x2 (0) h Q k4) ∧
  (¬ r31 ≤ r27 → KX7_findThreat_34 x1 x2 (1) h Q k4))))))
def MX7_findThreat  (h : ob_H) (Q : Int32 → ob_H → Prop) : Prop :=
  lo3 (FX7_findThreat_4 Q) (0) (0) h
-- Objections.threat(I)I
def MX11_threat  (p1 : Int32) (h : ob_H) (Q : Int32 → ob_H → Prop) : Prop :=
  ((p1 < 0 → Q (-1) h) ∧
  (¬ p1 < 0 → (((1) < p1 → Q (-1) h) ∧
  (¬ (1) < p1 → MX7_findThreat  h fun r7 h8 =>
  ((r7 = 0 → Q (-1) h8) ∧
  (¬ r7 = 0 → ((p1 = 0 → MJ6_bitCount_0f7a4 (h8.1 93 0) h8 fun r17 =>
  Q r17 h8) ∧
  (¬ p1 = 0 → Q (h8.1 93 0) h8))))))))
-- Objections$Scales.countThreats()I
def FX7_countThreats_4 (h : ob_H) (Q : Int32 → Prop) (k4 : Int32 → Int32 → Prop) (x1 : Int32) (x2 : Int32) : Prop :=
  (((128) ≤ x2 → Q x1) ∧
  (¬ (128) ≤ x2 → MX7_threatens x2 h fun r4 =>
  ((r4 = 0 → Lt ((x1 + (0)) : Int32) fun v11 =>
  Lt (x2 + (1) : Int32) fun v13 =>
  k4 v11 v13) ∧
  (¬ r4 = 0 → Lt ((x1 + (1)) : Int32) fun v15 =>
  Lt (x2 + (1) : Int32) fun v17 =>
  k4 v15 v17))))
def MX7_countThreats  (h : ob_H) (Q : Int32 → Prop) : Prop :=
  lo2 (FX7_countThreats_4 h Q) (0) (0)
-- Objections.bars()I
def MX11_bars  (h : ob_H) (Q : Int32 → Prop) : Prop :=
  MX7_countThreats  h fun r1 =>
  Q r1
-- Objections.gain(I)I
def MX11_gain  (p1 : Int32) (h : ob_H) (Q : Int32 → ob_H → Prop) : Prop :=
  MX11_isWaiting p1 h fun r1 =>
  ((r1 = 0 → Q (-1000000000) h) ∧
  (¬ r1 = 0 → MX0_duskWithout (0) h fun r8 h9 =>
  MX0_duskWithout ((1) <<< (p1 &&& 31)) h9 fun r12 h13 =>
  Q (r8 - r12) h13))
-- Objections$Book.crowdOf(I)I
def FX2_crowdOf_17  (o : Nat) (x3 : Int32) (h : ob_H) (Q : Int32 → Prop) (k6 : Int32 → Int32 → Prop) (k17 : Int32 → Int32 → Prop) (x2 : Int32) (x4 : Int32) : Prop :=
  (((h.1 o 0) ≤ x4 → Lt (x3 + (1) : Int32) fun v9 =>
  k6 x2 v9) ∧
  (¬ (h.1 o 0) ≤ x4 → ((((x2 >>> (x4 &&& 31)) &&& (1)) = 0 → Lt ((x2 ||| (0)) : Int32) fun v14 =>
  Lt (x4 + (1) : Int32) fun v16 =>
  k17 v14 v16) ∧
  (¬ ((x2 >>> (x4 &&& 31)) &&& (1)) = 0 → vp_in x4 7 ∧
  Lt ((x2 ||| (h.1 (o + 6) (ix x4))) : Int32) fun v20 =>
  Lt (x4 + (1) : Int32) fun v22 =>
  k17 v20 v22))))
def FX2_crowdOf_6  (o : Nat) (h : ob_H) (Q : Int32 → Prop) (k6 : Int32 → Int32 → Prop) (x2 : Int32) (x3 : Int32) : Prop :=
  (((h.1 o 0) ≤ x3 → Q x2) ∧
  (¬ (h.1 o 0) ≤ x3 → lo2 (FX2_crowdOf_17 o x3 h Q k6) x2 (0)))
def MX2_crowdOf  (o : Nat) (p1 : Int32) (h : ob_H) (Q : Int32 → Prop) : Prop :=
  Lt (((1) <<< (p1 &&& 31)) : Int32) fun v1 =>
  lo2 (FX2_crowdOf_6 o h Q) v1 (0)
-- Objections.crowd(I)I
def MX11_crowd  (p1 : Int32) (h : ob_H) (Q : Int32 → Prop) : Prop :=
  MX11_isTold p1 h fun r1 =>
  ((r1 = 0 → Q (-1)) ∧
  (¬ r1 = 0 → MX2_crowdOf 20 p1 h fun r8 =>
  Q r8))
-- Objections.canBeDrawn(II)Z
def KX11_canBeDrawn_21 (x1 : Int32) (x2 : Int32) (s0 : Int32) (h : ob_H) (Q : Int32 → Prop)  : Prop :=
  ((s0 = 0 → Q (0)) ∧
  (¬ s0 = 0 → MJ6_bitCount_0f7a4 x1 h fun r7 =>
  (((4) < r7 → Q (0)) ∧
  (¬ (4) < r7 → ((x2 = 0 → Q (1)) ∧
  (¬ x2 = 0 → ((x2 = (1) → Q (1)) ∧
  (¬ x2 = (1) → Q (0)))))))))
def MX11_canBeDrawn  (p1 : Int32) (p2 : Int32) (h : ob_H) (Q : Int32 → Prop) : Prop :=
  (((p1 &&& ((h.1 35 0) ^^^ (-1))) = 0 → KX11_canBeDrawn_21 p1 p2 (1) h Q) ∧
  (¬ (p1 &&& ((h.1 35 0) ^^^ (-1))) = 0 → KX11_canBeDrawn_21 p1 p2 (0) h Q))
-- Objections$Scales.takeChances()V
def FX7_takeChances_2 (Q : ob_H → Prop) (k2 : Int32 → ob_H → Prop) (x1 : Int32) (h : ob_H) : Prop :=
  (((h.1 20 0) ≤ x1 → Q h) ∧
  (¬ (h.1 20 0) ≤ x1 → MX6_answerOf 34 x1 h fun r4 h5 =>
  vp_in x1 7 ∧
  Lt (h_i h5 94 (ix x1) (imx (0) (imn (100) r4))) fun h10 =>
  Lt (x1 + (1) : Int32) fun v12 =>
  k2 v12 h10))
def MX7_takeChances  (h : ob_H) (Q : ob_H → Prop) : Prop :=
  lo2 (FX7_takeChances_2 Q) (0) h
-- Objections$Scales.ways(II)I
def FX7_ways_5 (x1 : Int32) (x2 : Int32) (h : ob_H) (Q : Int32 → Prop) (k5 : Int32 → Int32 → Prop) (x3 : Int32) (x4 : Int32) : Prop :=
  (((h.1 20 0) ≤ x4 → Q x3) ∧
  (¬ (h.1 20 0) ≤ x4 → ((((x1 >>> (x4 &&& 31)) &&& (1)) = 0 → Lt (x4 + (1) : Int32) fun v7 =>
  k5 x3 v7) ∧
  (¬ ((x1 >>> (x4 &&& 31)) &&& (1)) = 0 → ((((x2 >>> (x4 &&& 31)) &&& (1)) = 0 → vp_in x4 7 ∧
  Lt ((x3 * (h.1 94 (ix x4))) : Int32) fun v14 =>
  Lt (x4 + (1) : Int32) fun v16 =>
  k5 v14 v16) ∧
  (¬ ((x2 >>> (x4 &&& 31)) &&& (1)) = 0 → vp_in x4 7 ∧
  Lt ((x3 * ((100) - (h.1 94 (ix x4)))) : Int32) fun v20 =>
  Lt (x4 + (1) : Int32) fun v22 =>
  k5 v20 v22))))))
def MX7_ways  (p1 : Int32) (p2 : Int32) (h : ob_H) (Q : Int32 → Prop) : Prop :=
  lo2 (FX7_ways_5 p1 p2 h Q) (1) (0)
-- Objections$Scales.whole(I)I
def FX7_whole_4 (x0 : Int32) (h : ob_H) (Q : Int32 → Prop) (k4 : Int32 → Int32 → Prop) (x1 : Int32) (x2 : Int32) : Prop :=
  MJ6_bitCount_0f7a4 x0 h fun r1 =>
  ((r1 ≤ x2 → Q x1) ∧
  (¬ r1 ≤ x2 → (((4) ≤ x2 → Q x1) ∧
  (¬ (4) ≤ x2 → Lt ((x1 * (100)) : Int32) fun v11 =>
  Lt (x2 + (1) : Int32) fun v13 =>
  k4 v11 v13))))
def MX7_whole  (p0 : Int32) (h : ob_H) (Q : Int32 → Prop) : Prop :=
  lo2 (FX7_whole_4 p0 h Q) (1) (0)
-- Objections$Scales.lowest(III)I
def KX7_lowest_48 (x3 : Int32) (s0 : Int32) (h : ob_H) (Q : Int32 → Prop)  : Prop :=
  ((x3 = 0 → Q s0) ∧
  (¬ x3 = 0 → ¬ x3 = 0 ∧
  Q (s0 / x3)))
def KX7_lowest_39 (x0 : Int32) (x1 : Int32) (x2 : Int32) (x3 : Int32) (h : ob_H) (Q : Int32 → Prop)  : Prop :=
  ((x2 = 0 → KX7_lowest_48 x3 x0 h Q) ∧
  (¬ x2 = 0 → KX7_lowest_48 x3 x1 h Q))
def FX7_lowest_8 (x0 : Int32) (x1 : Int32) (x2 : Int32) (h : ob_H) (Q : Int32 → Prop) (k8 : Int32 → Int32 → Int32 → Prop) (x3 : Int32) (x4 : Int32) (x5 : Int32) : Prop :=
  (((1000000) ≤ x5 → KX7_lowest_39 x0 x1 x2 x3 h Q) ∧
  (¬ (1000000) ≤ x5 → ((x4 = 0 → KX7_lowest_39 x0 x1 x2 x3 h Q) ∧
  (¬ x4 = 0 → ¬ x4 = 0 ∧
  Lt ((irm x3 x4) : Int32) fun v17 =>
  Lt (x5 + (1) : Int32) fun v19 =>
  k8 x4 v17 v19))))
def MX7_lowest  (p0 : Int32) (p1 : Int32) (p2 : Int32) (h : ob_H) (Q : Int32 → Prop) : Prop :=
  lo3 (FX7_lowest_8 p0 p1 p2 h Q) p1 p0 (0)
-- Objections$Scales.oddsOf(II)I
def MX7_oddsOf  (p1 : Int32) (p2 : Int32) (h : ob_H) (Q : Int32 → ob_H → Prop) : Prop :=
  MX7_takeChances  h fun h2 =>
  MX7_ways p1 (0) h2 fun r5 =>
  MX7_whole p1 h2 fun r9 =>
  MX7_lowest r5 r9 p2 h2 fun r13 =>
  Q r13 h2
-- Objections.odds(II)I
def MX11_odds  (p1 : Int32) (p2 : Int32) (h : ob_H) (Q : Int32 → ob_H → Prop) : Prop :=
  MX11_canBeDrawn p1 p2 h fun r1 =>
  ((r1 = 0 → Q (-1) h) ∧
  (¬ r1 = 0 → MX7_oddsOf p1 p2 h fun r8 h9 =>
  Q r8 h9))
-- Objections$Scales.perilOf(II)I
def FX7_perilOf_9 (x1 : Int32) (x2 : Int32) (h : ob_H) (Q : Int32 → ob_H → Prop) (k9 : Int32 → Int32 → Prop) (x3 : Int32) (x4 : Int32) : Prop :=
  (((128) ≤ x4 → MX7_whole x1 h fun r8 =>
  MX7_lowest x3 r8 x2 h fun r12 =>
  Q r12 h) ∧
  (¬ (128) ≤ x4 → (((x4 &&& (x1 ^^^ (-1))) = 0 → MX7_isBarredBy ((h.1 35 2) ||| x4) h fun r21 =>
  ((r21 = 0 → Lt (x4 + (1) : Int32) fun v28 =>
  k9 x3 v28) ∧
  (¬ r21 = 0 → MX7_ways x1 x4 h fun r30 =>
  Lt ((x3 + r30) : Int32) fun v34 =>
  Lt (x4 + (1) : Int32) fun v36 =>
  k9 v34 v36))) ∧
  (¬ (x4 &&& (x1 ^^^ (-1))) = 0 → Lt (x4 + (1) : Int32) fun v19 =>
  k9 x3 v19))))
def MX7_perilOf  (p1 : Int32) (p2 : Int32) (h : ob_H) (Q : Int32 → ob_H → Prop) : Prop :=
  MX7_takeChances  h fun h2 =>
  lo2 (FX7_perilOf_9 p1 p2 h2 Q) (0) (0)
-- Objections.peril(II)I
def MX11_peril  (p1 : Int32) (p2 : Int32) (h : ob_H) (Q : Int32 → ob_H → Prop) : Prop :=
  MX11_canBeDrawn p1 p2 h fun r1 =>
  ((r1 = 0 → Q (-1) h) ∧
  (¬ r1 = 0 → MX7_perilOf p1 p2 h fun r8 h9 =>
  Q r8 h9))
-- Objections$Advice.findTarry(I)V
def FX0_findTarry_2 (x1 : Int32) (Q : ob_H → Prop) (k2 : Int32 → ob_H → Prop) (x2 : Int32) (h : ob_H) : Prop :=
  ((x1 < x2 → Q h) ∧
  (¬ x1 < x2 → MX6_copy 42 34 h fun h5 =>
  MX6_letPass 42 x2 h5 fun r8 h9 =>
  MX3_follow  h9 fun r12 h13 =>
  ((x2 = 0 → Lt (h_i h13 92 3 x2) fun h19 =>
  Lt (h_i h19 92 4 r12) fun h21 =>
  Lt (x2 + (1) : Int32) fun v23 =>
  k2 v23 h21) ∧
  (¬ x2 = 0 → (((h13.1 92 4) ≤ r12 → Lt (x2 + (1) : Int32) fun v28 =>
  k2 v28 h13) ∧
  (¬ (h13.1 92 4) ≤ r12 → Lt (h_i h13 92 3 x2) fun h30 =>
  Lt (h_i h30 92 4 r12) fun h32 =>
  Lt (x2 + (1) : Int32) fun v34 =>
  k2 v34 h32))))))
def MX0_findTarry  (p1 : Int32) (h : ob_H) (Q : ob_H → Prop) : Prop :=
  lo2 (FX0_findTarry_2 p1 Q) (0) h
-- Objections.tarry(I)I
def MX11_tarry  (p1 : Int32) (h : ob_H) (Q : Int32 → ob_H → Prop) : Prop :=
  ((p1 < 0 → Q (-1) h) ∧
  (¬ p1 < 0 → ((p1 ≤ (1) → MX0_findTarry (60) h fun h8 =>
  ((p1 = 0 → Q (h8.1 92 3) h8) ∧
  (¬ p1 = 0 → Q (h8.1 92 4) h8))) ∧
  (¬ p1 ≤ (1) → Q (-1) h))))
-- Objections$Advice.duskExchanged(II)I
def MX0_duskExchanged  (p1 : Int32) (p2 : Int32) (h : ob_H) (Q : Int32 → ob_H → Prop) : Prop :=
  MX6_copy 42 34 h fun h2 =>
  MX6_exchange 42 p1 p2 h2 fun h6 =>
  MX3_follow  h6 fun r9 h10 =>
  Q r9 h10
-- Objections$Advice.findSwap()Z
def KX0_findSwap_74 (x1 : Int32) (x2 : Int32) (x3 : Int32) (s0 : Int32) (h : ob_H) (Q : Int32 → ob_H → Prop) (k13 : Int32 → Int32 → ob_H → Prop) (k28 : Int32 → Int32 → ob_H → Prop)  : Prop :=
  (((h.1 92 4) ≤ s0 → Lt (x3 + (1) : Int32) fun v29 =>
  k28 x1 v29 h) ∧
  (¬ (h.1 92 4) ≤ s0 → Lt (h_i h 92 0 x2) fun h31 =>
  Lt (h_i h31 92 1 x3) fun h33 =>
  Lt (h_i h33 92 4 s0) fun h35 =>
  Lt (x3 + (1) : Int32) fun v37 =>
  k28 (1) v37 h35))
def FX0_findSwap_28 (x2 : Int32) (Q : Int32 → ob_H → Prop) (k13 : Int32 → Int32 → ob_H → Prop) (k28 : Int32 → Int32 → ob_H → Prop) (x1 : Int32) (x3 : Int32) (h : ob_H) : Prop :=
  (((h.1 20 0) ≤ x3 → Lt (x2 + (1) : Int32) fun v17 =>
  k13 x1 v17 h) ∧
  (¬ (h.1 20 0) ≤ x3 → MX6_waits 34 x2 h fun r19 =>
  ((r19 = 0 → KX0_findSwap_74 x1 x2 x3 (h.1 92 4) h Q k13 k28) ∧
  (¬ r19 = 0 → MX6_waits 34 x3 h fun r39 =>
  ((r39 = 0 → KX0_findSwap_74 x1 x2 x3 (h.1 92 4) h Q k13 k28) ∧
  (¬ r39 = 0 → MX0_duskExchanged x2 x3 h fun r46 h47 =>
  KX0_findSwap_74 x1 x2 x3 r46 h47 Q k13 k28))))))
def FX0_findSwap_13 (Q : Int32 → ob_H → Prop) (k13 : Int32 → Int32 → ob_H → Prop) (x1 : Int32) (x2 : Int32) (h : ob_H) : Prop :=
  (((h.1 20 0) ≤ x2 → isB x1 ∧
  Q x1 h) ∧
  (¬ (h.1 20 0) ≤ x2 → Lt ((x2 + (1)) : Int32) fun v12 =>
  lo3 (FX0_findSwap_28 x2 Q k13) x1 v12 h))
def MX0_findSwap  (h : ob_H) (Q : Int32 → ob_H → Prop) : Prop :=
  MX0_duskWithout (0) h fun r1 h2 =>
  Lt (h_i h2 92 4 r1) fun h5 =>
  lo3 (FX0_findSwap_13 Q) (0) (0) h5
-- Objections.swap(I)I
def MX11_swap  (p1 : Int32) (h : ob_H) (Q : Int32 → ob_H → Prop) : Prop :=
  ((p1 < 0 → Q (-1) h) ∧
  (¬ p1 < 0 → (((2) < p1 → Q (-1) h) ∧
  (¬ (2) < p1 → MX0_findSwap  h fun r7 h8 =>
  ((r7 = 0 → Q (-1) h8) ∧
  (¬ r7 = 0 → ((p1 = (0) → Q (h8.1 92 0) h8) ∧
  (¬ p1 = (0) → ((p1 = (1) → Q (h8.1 92 1) h8) ∧
  (¬ p1 = (1) → Q (h8.1 92 4) h8))))))))))
-- Objections.by(I)I
def FX11_by_29 (x1 : Int32) (h : ob_H) (Q : Int32 → ob_H → Prop) (k29 : Int32 → Int32 → Prop) (x2 : Int32) (x3 : Int32) : Prop :=
  (((h.1 39 3) ≤ x3 → Q x2 h) ∧
  (¬ (h.1 39 3) ≤ x3 → vp_in x3 7 ∧
  ((x1 < (h.1 41 (ix x3)) → Lt (x3 + (1) : Int32) fun v19 =>
  k29 x2 v19) ∧
  (¬ x1 < (h.1 41 (ix x3)) → Lt (x2 + (1) : Int32) fun v21 =>
  Lt (x3 + (1) : Int32) fun v23 =>
  k29 v21 v23))))
def MX11_by  (p1 : Int32) (h : ob_H) (Q : Int32 → ob_H → Prop) : Prop :=
  ((p1 < 0 → Q (-1) h) ∧
  (¬ p1 < 0 → ((p1 ≤ (9999) → MX3_goOn 34 h fun r7 h8 =>
  lo2 (FX11_by_29 p1 h8 Q) (0) (0)) ∧
  (¬ p1 ≤ (9999) → Q (-1) h))))
-- Objections.upset()I
def FX11_upset_16 (h : ob_H) (Q : Int32 → ob_H → Prop) (k16 : Int32 → Int32 → Prop) (x1 : Int32) (x2 : Int32) : Prop :=
  (((h.1 39 3) ≤ x2 → Q x1 h) ∧
  (¬ (h.1 39 3) ≤ x2 → vp_in (x2 - (1)) 7 ∧
  vp_in (h.1 40 (ix (x2 - (1)))) 7 ∧
  vp_in x2 7 ∧
  vp_in (h.1 40 (ix x2)) 7 ∧
  (((h.1 21 (ix (h.1 40 (ix x2)))) ≤ (h.1 21 (ix (h.1 40 (ix (x2 - (1)))))) → Lt (x2 + (1) : Int32) fun v19 =>
  k16 x1 v19) ∧
  (¬ (h.1 21 (ix (h.1 40 (ix x2)))) ≤ (h.1 21 (ix (h.1 40 (ix (x2 - (1)))))) → Lt (x1 + (1) : Int32) fun v21 =>
  Lt (x2 + (1) : Int32) fun v23 =>
  k16 v21 v23))))
def MX11_upset  (h : ob_H) (Q : Int32 → ob_H → Prop) : Prop :=
  MX3_goOn 34 h fun r1 h2 =>
  lo2 (FX11_upset_16 h2 Q) (0) (1)
-- Objections.lies(I)I
def MX11_lies  (p1 : Int32) (h : ob_H) (Q : Int32 → Prop) : Prop :=
  ((p1 < 0 → Q (-1)) ∧
  (¬ p1 < 0 → (((h.1 0 11) ≤ p1 → Q (-1)) ∧
  (¬ (h.1 0 11) ≤ p1 → vp_in p1 7 ∧
  Q (h.1 107 (ix p1))))))
-- Objections$Sights.tell(IIZ)I
def MX9_tell  (p1 : Int32) (p2 : Int32) (p3 : Int32) (h : ob_H) (Q : Int32 → ob_H → Prop) : Prop :=
  (((h.1 98 0) < (30) → vp_in (h.1 98 0) 30 ∧
  Lt (h_i h 99 (ix (h.1 98 0)) p1) fun h6 =>
  vp_in (h6.1 98 0) 30 ∧
  Lt (h_i h6 100 (ix (h6.1 98 0)) p2) fun h10 =>
  vp_in (h10.1 98 0) 30 ∧
  Lt (h_i h10 101 (ix (h10.1 98 0)) (vp_nar .boolean p3)) fun h14 =>
  vp_in (h14.1 98 0) 30 ∧
  Lt (h_i h14 102 (ix (h14.1 98 0)) (h14.1 98 1)) fun h18 =>
  vp_in (h18.1 98 0) 30 ∧
  Lt (h_i h18 103 (ix (h18.1 98 0)) (-1)) fun h22 =>
  Lt (h_i h22 98 0 ((h22.1 98 0) + (1))) fun h24 =>
  Q ((h24.1 98 0) - (1)) h24) ∧
  (¬ (h.1 98 0) < (30) → Q (-1) h))
-- Objections.seen(IIZ)I
def KX11_seen_24 (x1 : Int32) (x2 : Int32) (x3 : Int32) (s0 : Int32) (h : ob_H) (Q : Int32 → ob_H → Prop)  : Prop :=
  ((s0 = 0 → Q (-1) h) ∧
  (¬ s0 = 0 → MX9_tell (x1 - (1)) x2 x3 h fun r7 h8 =>
  Q r7 h8))
def MX11_seen  (p1 : Int32) (p2 : Int32) (p3 : Int32) (h : ob_H) (Q : Int32 → ob_H → Prop) : Prop :=
  ((p1 < (1) → KX11_seen_24 p1 p2 p3 (0) h Q) ∧
  (¬ p1 < (1) → (((7) < p1 → KX11_seen_24 p1 p2 p3 (0) h Q) ∧
  (¬ (7) < p1 → MX11_isTold p2 h fun r14 =>
  ((r14 = 0 → KX11_seen_24 p1 p2 p3 (0) h Q) ∧
  (¬ r14 = 0 → KX11_seen_24 p1 p2 p3 (1) h Q))))))
-- Objections$Sights.takeBack(I)Z
def MX9_takeBack  (p1 : Int32) (h : ob_H) (Q : Int32 → ob_H → Prop) : Prop :=
  ((p1 < 0 → Q (0) h) ∧
  (¬ p1 < 0 → (((h.1 98 0) ≤ p1 → Q (0) h) ∧
  (¬ (h.1 98 0) ≤ p1 → vp_in p1 30 ∧
  (((h.1 103 (ix p1)) < 0 → Lt (h_i h 103 (ix p1) (h.1 98 1)) fun h12 =>
  Q (1) h12) ∧
  (¬ (h.1 103 (ix p1)) < 0 → Q (0) h))))))
-- Objections.untell(I)Z
def MX11_untell  (p1 : Int32) (h : ob_H) (Q : Int32 → ob_H → Prop) : Prop :=
  MX9_takeBack p1 h fun r1 h2 =>
  Q r1 h2
-- Objections$Sights.passTime(I)I
def MX9_passTime  (p1 : Int32) (h : ob_H) (Q : Int32 → ob_H → Prop) : Prop :=
  ((p1 < 0 → Q (-1) h) ∧
  (¬ p1 < 0 → (((1000) < p1 → Q (-1) h) ∧
  (¬ (1000) < p1 → ((((h.1 98 1) + p1) ≤ (100000) → Lt (h_i h 98 1 ((h.1 98 1) + p1)) fun h10 =>
  Q (h10.1 98 1) h10) ∧
  (¬ ((h.1 98 1) + p1) ≤ (100000) → Q (-1) h))))))
-- Objections.later(I)I
def MX11_later  (p1 : Int32) (h : ob_H) (Q : Int32 → ob_H → Prop) : Prop :=
  MX9_passTime p1 h fun r1 h2 =>
  Q r1 h2
-- Objections$Sights.findHeard(I)V
def KX9_findHeard_102 (x1 : Int32) (x2 : Int32) (x3 : Int32) (x4 : Int32) (s0 : Int32) (s1 : Int32) (h : ob_H) (Q : ob_H → Prop) (k20 : Int32 → ob_H → Prop) (k57 : Int32 → ob_H → Prop)  : Prop :=
  vp_in s1 700 ∧
  Lt (h_i h 104 (ix s1) s0) fun h39 =>
  Lt (x4 + (1) : Int32) fun v41 =>
  k57 v41 h39
def FX9_findHeard_57 (x1 : Int32) (x2 : Int32) (x3 : Int32) (Q : ob_H → Prop) (k20 : Int32 → ob_H → Prop) (k57 : Int32 → ob_H → Prop) (x4 : Int32) (h : ob_H) : Prop :=
  (((7) ≤ x4 → Lt (x3 + (1) : Int32) fun v32 =>
  k20 v32 h) ∧
  (¬ (7) ≤ x4 → (((h.1 39 3) ≤ x4 → KX9_findHeard_102 x1 x2 x3 x4 (7) ((x3 * (7)) + x4) h Q k20 k57) ∧
  (¬ (h.1 39 3) ≤ x4 → vp_in x4 7 ∧
  KX9_findHeard_102 x1 x2 x3 x4 (h.1 40 (ix x4)) ((x3 * (7)) + x4) h Q k20 k57))))
def FX9_findHeard_20 (x1 : Int32) (x2 : Int32) (Q : ob_H → Prop) (k20 : Int32 → ob_H → Prop) (x3 : Int32) (h : ob_H) : Prop :=
  (((100) ≤ x3 → vp_in x1 7 ∧
  Lt (h_i h 21 (ix x1) x2) fun h13 =>
  Lt (h_i h13 98 12 (1)) fun h15 =>
  Q h15) ∧
  (¬ (100) ≤ x3 → vp_in x1 7 ∧
  Lt (h_i h 21 (ix x1) x3) fun h19 =>
  MX6_begin 42 h19 fun h22 =>
  MX3_follow  h22 fun r25 h26 =>
  lo2 (FX9_findHeard_57 x1 x2 x3 Q k20) (0) h26))
def MX9_findHeard  (p1 : Int32) (h : ob_H) (Q : ob_H → Prop) : Prop :=
  (((h.1 98 12) = 0 → vp_in p1 7 ∧
  Lt ((h.1 21 (ix p1)) : Int32) fun v6 =>
  lo2 (FX9_findHeard_20 p1 v6 Q) (0) h) ∧
  (¬ (h.1 98 12) = 0 → Q h))
-- Objections$Sights.isSo(II)Z
def KX9_isSo_76 (x1 : Int32) (x2 : Int32) (x3 : Int32) (x4 : Int32) (s0 : Int32) (h : ob_H) (Q : Int32 → Prop) (k2 : Int32 → Prop)  : Prop :=
  ((x4 = 0 → Lt (x3 + (1) : Int32) fun v19 =>
  k2 v19) ∧
  (¬ x4 = 0 → vp_in x3 30 ∧
  ((s0 = (h.1 101 (ix x3)) → Lt (x3 + (1) : Int32) fun v26 =>
  k2 v26) ∧
  (¬ s0 = (h.1 101 (ix x3)) → Q (0)))))
def KX9_isSo_44 (x1 : Int32) (x2 : Int32) (x3 : Int32) (s0 : Int32) (h : ob_H) (Q : Int32 → Prop) (k2 : Int32 → Prop)  : Prop :=
  vp_in x3 30 ∧
  vp_in ((x1 * (7)) + (h.1 99 (ix x3))) 700 ∧
  (((h.1 104 (ix ((x1 * (7)) + (h.1 99 (ix x3))))) = (h.1 100 (ix x3)) → KX9_isSo_76 x1 x2 x3 s0 (1) h Q k2) ∧
  (¬ (h.1 104 (ix ((x1 * (7)) + (h.1 99 (ix x3))))) = (h.1 100 (ix x3)) → KX9_isSo_76 x1 x2 x3 s0 (0) h Q k2))
def FX9_isSo_2 (x1 : Int32) (x2 : Int32) (h : ob_H) (Q : Int32 → Prop) (k2 : Int32 → Prop) (x3 : Int32) : Prop :=
  (((h.1 98 0) ≤ x3 → Q (1)) ∧
  (¬ (h.1 98 0) ≤ x3 → vp_in x3 30 ∧
  ((x2 < (h.1 102 (ix x3)) → KX9_isSo_44 x1 x2 x3 (0) h Q k2) ∧
  (¬ x2 < (h.1 102 (ix x3)) → (((h.1 103 (ix x3)) < 0 → KX9_isSo_44 x1 x2 x3 (1) h Q k2) ∧
  (¬ (h.1 103 (ix x3)) < 0 → (((h.1 103 (ix x3)) ≤ x2 → KX9_isSo_44 x1 x2 x3 (0) h Q k2) ∧
  (¬ (h.1 103 (ix x3)) ≤ x2 → KX9_isSo_44 x1 x2 x3 (1) h Q k2))))))))
def MX9_isSo  (p1 : Int32) (p2 : Int32) (h : ob_H) (Q : Int32 → Prop) : Prop :=
  lo1 (FX9_isSo_2 p1 p2 h Q) (0)
-- Objections$Sights.mark(I)I
def FX9_mark_29 (x1 : Int32) (Q : Int32 → ob_H → Prop) (k29 : Int32 → Int32 → ob_H → Prop) (x2 : Int32) (x3 : Int32) (h : ob_H) : Prop :=
  (((100) ≤ x3 → Q x2 h) ∧
  (¬ (100) ≤ x3 → MX9_isSo x3 x1 h fun r11 =>
  vp_in x3 100 ∧
  Lt (h_i h 105 (ix x3) (vp_nar .boolean r11)) fun h17 =>
  (((h17.1 105 (ix x3)) = 0 → Lt ((x2 + (0)) : Int32) fun v22 =>
  Lt (x3 + (1) : Int32) fun v24 =>
  k29 v22 v24 h17) ∧
  (¬ (h17.1 105 (ix x3)) = 0 → Lt ((x2 + (1)) : Int32) fun v26 =>
  Lt (x3 + (1) : Int32) fun v28 =>
  k29 v26 v28 h17))))
def MX9_mark  (p1 : Int32) (h : ob_H) (Q : Int32 → ob_H → Prop) : Prop :=
  (((h.1 20 0) = 0 → Q (0) h) ∧
  (¬ (h.1 20 0) = 0 → MX9_findHeard ((h.1 20 0) - (1)) h fun h5 =>
  lo3 (FX9_mark_29 p1 Q) (0) (0) h5))
-- Objections.fits(I)I
def MX11_fits  (p1 : Int32) (h : ob_H) (Q : Int32 → ob_H → Prop) : Prop :=
  MX9_mark p1 h fun r1 h2 =>
  Q r1 h2
-- Objections$Sights.leastFitting()I
def FX9_leastFitting_2 (h : ob_H) (Q : Int32 → Prop) (k2 : Int32 → Prop) (x1 : Int32) : Prop :=
  (((100) ≤ x1 → Q (-1)) ∧
  (¬ (100) ≤ x1 → vp_in x1 100 ∧
  (((h.1 105 (ix x1)) = 0 → Lt (x1 + (1) : Int32) fun v9 =>
  k2 v9) ∧
  (¬ (h.1 105 (ix x1)) = 0 → Q x1))))
def MX9_leastFitting  (h : ob_H) (Q : Int32 → Prop) : Prop :=
  lo1 (FX9_leastFitting_2 h Q) (0)
-- Objections$Sights.greatestFitting()I
def FX9_greatestFitting_3 (h : ob_H) (Q : Int32 → Prop) (k3 : Int32 → Prop) (x1 : Int32) : Prop :=
  ((x1 < 0 → Q (-1)) ∧
  (¬ x1 < 0 → vp_in x1 100 ∧
  (((h.1 105 (ix x1)) = 0 → Lt (x1 + (-1) : Int32) fun v9 =>
  k3 v9) ∧
  (¬ (h.1 105 (ix x1)) = 0 → Q x1))))
def MX9_greatestFitting  (h : ob_H) (Q : Int32 → Prop) : Prop :=
  lo1 (FX9_greatestFitting_3 h Q) (99)
-- Objections.sure(II)I
def MX11_sure  (p1 : Int32) (p2 : Int32) (h : ob_H) (Q : Int32 → ob_H → Prop) : Prop :=
  ((p1 < 0 → Q (-1) h) ∧
  (¬ p1 < 0 → (((1) < p1 → Q (-1) h) ∧
  (¬ (1) < p1 → MX9_mark p2 h fun r7 h8 =>
  ((r7 = 0 → Q (-1) h8) ∧
  (¬ r7 = 0 → ((p1 = 0 → MX9_leastFitting  h8 fun r21 =>
  Q r21 h8) ∧
  (¬ p1 = 0 → MX9_greatestFitting  h8 fun r17 =>
  Q r17 h8))))))))
-- Objections$Sights.mostLeft(I)I
def FX9_mostLeft_28 (x1 : Int32) (Q : Int32 → ob_H → Prop) (k28 : Int32 → Int32 → ob_H → Prop) (x2 : Int32) (x3 : Int32) (h : ob_H) : Prop :=
  (((100) ≤ x3 → Q x2 h) ∧
  (¬ (100) ≤ x3 → vp_in x3 100 ∧
  (((h.1 105 (ix x3)) = 0 → Lt (x3 + (1) : Int32) fun v12 =>
  k28 x2 v12 h) ∧
  (¬ (h.1 105 (ix x3)) = 0 → vp_in ((x3 * (7)) + x1) 700 ∧
  Lt ((h.1 104 (ix ((x3 * (7)) + x1))) : Int32) fun v16 =>
  vp_in v16 8 ∧
  Lt (h_i h 106 (ix v16) ((h.1 106 (ix v16)) + (1))) fun h20 =>
  Lt ((imx x2 (h20.1 106 (ix v16))) : Int32) fun v22 =>
  Lt (x3 + (1) : Int32) fun v24 =>
  k28 v22 v24 h20))))
def FX9_mostLeft_2 (x1 : Int32) (Q : Int32 → ob_H → Prop) (k2 : Int32 → ob_H → Prop) (x2 : Int32) (h : ob_H) : Prop :=
  (((8) ≤ x2 → lo3 (FX9_mostLeft_28 x1 Q) (0) (0) h) ∧
  (¬ (8) ≤ x2 → vp_in x2 8 ∧
  Lt (h_i h 106 (ix x2) (0)) fun h29 =>
  Lt (x2 + (1) : Int32) fun v31 =>
  k2 v31 h29))
def MX9_mostLeft  (p1 : Int32) (h : ob_H) (Q : Int32 → ob_H → Prop) : Prop :=
  lo2 (FX9_mostLeft_2 p1 Q) (0) h
-- Objections$Sights.findPlace()V
def FX9_findPlace_2 (Q : ob_H → Prop) (k2 : Int32 → ob_H → Prop) (x1 : Int32) (h : ob_H) : Prop :=
  (((7) ≤ x1 → Q h) ∧
  (¬ (7) ≤ x1 → MX9_mostLeft x1 h fun r4 h5 =>
  ((x1 = 0 → Lt (h_i h5 98 2 x1) fun h11 =>
  Lt (h_i h11 98 3 r4) fun h13 =>
  Lt (x1 + (1) : Int32) fun v15 =>
  k2 v15 h13) ∧
  (¬ x1 = 0 → (((h5.1 98 3) ≤ r4 → Lt (x1 + (1) : Int32) fun v20 =>
  k2 v20 h5) ∧
  (¬ (h5.1 98 3) ≤ r4 → Lt (h_i h5 98 2 x1) fun h22 =>
  Lt (h_i h22 98 3 r4) fun h24 =>
  Lt (x1 + (1) : Int32) fun v26 =>
  k2 v26 h24))))))
def MX9_findPlace  (h : ob_H) (Q : ob_H → Prop) : Prop :=
  lo2 (FX9_findPlace_2 Q) (0) h
-- Objections.ask(II)I
def MX11_ask  (p1 : Int32) (p2 : Int32) (h : ob_H) (Q : Int32 → ob_H → Prop) : Prop :=
  ((p1 < 0 → Q (-1) h) ∧
  (¬ p1 < 0 → (((1) < p1 → Q (-1) h) ∧
  (¬ (1) < p1 → MX9_mark p2 h fun r7 h8 =>
  ((r7 = 0 → Q (-1) h8) ∧
  (¬ r7 = 0 → MX9_findPlace  h8 fun h15 =>
  ((p1 = 0 → Q ((h15.1 98 2) + (1)) h15) ∧
  (¬ p1 = 0 → Q (h15.1 98 3) h15))))))))
-- Objections$Archive.keepImage(I)V
def MX1_keepImage  (p1 : Int32) (h : ob_H) (Q : ob_H → Prop) : Prop :=
  MX6_write 34 97 72 (p1 * (24)) h fun h2 =>
  Lt (h_i h2 95 6 ((h2.1 95 6) ||| ((1) <<< (p1 &&& 31)))) fun h5 =>
  Q h5
-- Objections.image(I)I
def MX11_image  (p1 : Int32) (h : ob_H) (Q : Int32 → ob_H → Prop) : Prop :=
  ((p1 < 0 → Q (-1) h) ∧
  (¬ p1 < 0 → ((p1 < (3) → MX1_keepImage p1 h fun h8 =>
  Q (h8.1 34 3) h8) ∧
  (¬ p1 < (3) → Q (-1) h))))
-- Objections$Archive.goBack(I)Z
def MX1_goBack  (p1 : Int32) (h : ob_H) (Q : Int32 → ob_H → Prop) : Prop :=
  (((((h.1 95 6) >>> (p1 &&& 31)) &&& (1)) = 0 → Q (0) h) ∧
  (¬ (((h.1 95 6) >>> (p1 &&& 31)) &&& (1)) = 0 → MX6_restore 34 97 72 (p1 * (24)) h fun h5 =>
  MX1_forgetActs  h5 fun h9 =>
  Q (1) h9))
-- Objections.back(I)I
def MX11_back  (p1 : Int32) (h : ob_H) (Q : Int32 → ob_H → Prop) : Prop :=
  ((p1 < 0 → Q (-1) h) ∧
  (¬ p1 < 0 → (((3) ≤ p1 → Q (-1) h) ∧
  (¬ (3) ≤ p1 → MX1_goBack p1 h fun r7 h8 =>
  ((r7 = 0 → Q (-1) h8) ∧
  (¬ r7 = 0 → Q (h8.1 34 3) h8))))))
-- Objections.about(I)I
def MX11_about  (p1 : Int32) (h : ob_H) (Q : Int32 → Prop) : Prop :=
  ((p1 = (0) → Q (h.1 20 0)) ∧
  (¬ p1 = (0) → ((p1 = (1) → Q (h.1 34 3)) ∧
  (¬ p1 = (1) → ((p1 = (2) → Q (h.1 34 5)) ∧
  (¬ p1 = (2) → ((p1 = (3) → Q (h.1 34 4)) ∧
  (¬ p1 = (3) → ((p1 = (4) → Q (h.1 20 9)) ∧
  (¬ p1 = (4) → ((p1 = (5) → MX7_isBarredBy (h.1 35 2) h fun r18 =>
  ((r18 = 0 → Q (0)) ∧
  (¬ r18 = 0 → Q (1)))) ∧
  (¬ p1 = (5) → ((p1 = (6) → Q (h.1 35 0)) ∧
  (¬ p1 = (6) → ((p1 = (7) → Q (h.1 35 2)) ∧
  (¬ p1 = (7) → ((p1 = (8) → Q (h.1 95 0)) ∧
  (¬ p1 = (8) → ((p1 = (9) → Q (h.1 95 1)) ∧
  (¬ p1 = (9) → ((p1 = (10) → Q (h.1 98 0)) ∧
  (¬ p1 = (10) → ((p1 = (11) → Q (h.1 98 1)) ∧
  (¬ p1 = (11) → ((p1 = (12) → Q (h.1 1 1)) ∧
  (¬ p1 = (12) → ((p1 = (13) → Q (h.1 20 11)) ∧
  (¬ p1 = (13) → ((p1 = (14) → Q (h.1 0 11)) ∧
  (¬ p1 = (14) → Q (-1)))))))))))))))))))))))))))))))
-- ObjectionsModel.four(I)V
def FX12_four_3 (x1 : Int32) (Q : ob_H → Prop) (k3 : Int32 → ob_H → Prop) (x2 : Int32) (h : ob_H) : Prop :=
  ((x2 < 0 → Q h) ∧
  (¬ x2 < 0 → vp_in (h.1 108 1) 1600 ∧
  Lt (h_i h 109 (ix (h.1 108 1)) ((x1 >>> (x2 &&& 31)) &&& (255))) fun h6 =>
  Lt (h_i h6 108 1 ((h6.1 108 1) + (1))) fun h8 =>
  Lt (x2 + (-8) : Int32) fun v10 =>
  k3 v10 h8))
def MX12_four  (p1 : Int32) (h : ob_H) (Q : ob_H → Prop) : Prop :=
  lo2 (FX12_four_3 p1 Q) (24) h
-- ObjectionsModel.feed(IIIII)I
def MX12_feed  (p1 : Int32) (p2 : Int32) (p3 : Int32) (p4 : Int32) (p5 : Int32) (h : ob_H) (Q : Int32 → ob_H → Prop) : Prop :=
  ((((h.1 108 1) + (20)) ≤ (1600) → MX12_four p1 h fun h5 =>
  MX12_four p2 h5 fun h9 =>
  MX12_four p3 h9 fun h13 =>
  MX12_four p4 h13 fun h17 =>
  MX12_four p5 h17 fun h21 =>
  Q (h21.1 108 1) h21) ∧
  (¬ ((h.1 108 1) + (20)) ≤ (1600) → Q (-1) h))
-- ObjectionsModel.end(I)I
def MX12_end  (p1 : Int32) (h : ob_H) (Q : Int32 → ob_H → Prop) : Prop :=
  ((p1 < 0 → Q (-1) h) ∧
  (¬ p1 < 0 → ((p1 ≤ (h.1 108 1) → Lt (h_i h 108 1 p1) fun h7 =>
  Q p1 h7) ∧
  (¬ p1 ≤ (h.1 108 1) → Q (-1) h))))
-- ObjectionsModel.here(I)I
def MX12_here  (p1 : Int32) (h : ob_H) (Q : Int32 → Prop) : Prop :=
  (((h.1 108 5) ≤ ((h.1 108 4) + p1) → Q (-1)) ∧
  (¬ (h.1 108 5) ≤ ((h.1 108 4) + p1) → vp_in ((h.1 108 4) + p1) 1600 ∧
  Q (h.1 109 (ix ((h.1 108 4) + p1)))))
-- ObjectionsModel.isLetter(I)Z
def MX12_isLetter  (p0 : Int32) (h : ob_H) (Q : Int32 → Prop) : Prop :=
  ((p0 < (97) → Q (0)) ∧
  (¬ p0 < (97) → (((122) < p0 → Q (0)) ∧
  (¬ (122) < p0 → Q (1)))))
-- ObjectionsModel.isDigit(I)Z
def MX12_isDigit  (p0 : Int32) (h : ob_H) (Q : Int32 → Prop) : Prop :=
  ((p0 < (48) → Q (0)) ∧
  (¬ p0 < (48) → (((57) < p0 → Q (0)) ∧
  (¬ (57) < p0 → Q (1)))))
-- ObjectionsModel.isSign(I)Z
def MX12_isSign  (p0 : Int32) (h : ob_H) (Q : Int32 → Prop) : Prop :=
  ((p0 = (59) → Q (1)) ∧
  (¬ p0 = (59) → ((p0 = (40) → Q (1)) ∧
  (¬ p0 = (40) → ((p0 = (41) → Q (1)) ∧
  (¬ p0 = (41) → ((p0 = (60) → Q (1)) ∧
  (¬ p0 = (60) → ((p0 = (62) → Q (1)) ∧
  (¬ p0 = (62) → ((p0 = (61) → Q (1)) ∧
  (¬ p0 = (61) → ((p0 = (43) → Q (1)) ∧
  (¬ p0 = (43) → ((p0 = (45) → Q (1)) ∧
  (¬ p0 = (45) → ((p0 = (42) → Q (1)) ∧
  (¬ p0 = (42) → ((p0 = (47) → Q (1)) ∧
  (¬ p0 = (47) → ((p0 = (37) → Q (1)) ∧
  (¬ p0 = (37) → Q (0)))))))))))))))))))))))
-- ObjectionsModel.token()V
def KX12_token_232 (x2 : Int32) (h : ob_H) (Q : ob_H → Prop)  : Prop :=
  (((h.1 108 6) = (3) → Q h) ∧
  (¬ (h.1 108 6) = (3) → Lt (h_i h 108 4 ((h.1 108 4) + x2)) fun h56 =>
  Q h56))
def FX12_token_144 (Q : ob_H → Prop) (k144 : Int32 → ob_H → Prop) (x2 : Int32) (h : ob_H) : Prop :=
  MX12_here x2 h fun r60 =>
  MX12_isDigit r60 h fun r64 =>
  ((r64 = 0 → (((4) < x2 → Lt (h_i h 108 6 (3)) fun h74 =>
  KX12_token_232 x2 h74 Q) ∧
  (¬ (4) < x2 → MX12_here x2 h fun r76 =>
  MX12_isLetter r76 h fun r80 =>
  ((r80 = 0 → Lt (h_i h 108 6 (2)) fun h87 =>
  KX12_token_232 x2 h87 Q) ∧
  (¬ r80 = 0 → Lt (h_i h 108 6 (3)) fun h89 =>
  KX12_token_232 x2 h89 Q))))) ∧
  (¬ r64 = 0 → (((4) ≤ x2 → Lt (x2 + (1) : Int32) fun v94 =>
  k144 v94 h) ∧
  (¬ (4) ≤ x2 → MX12_here x2 h fun r96 =>
  Lt (h_i h 108 8 ((((10) * (h.1 108 8)) + r96) - (48))) fun h100 =>
  Lt (x2 + (1) : Int32) fun v102 =>
  k144 v102 h100))))
def FX12_token_78 (Q : ob_H → Prop) (k78 : Int32 → ob_H → Prop) (x2 : Int32) (h : ob_H) : Prop :=
  MX12_here x2 h fun r105 =>
  MX12_isLetter r105 h fun r109 =>
  ((r109 = 0 → ((x2 ≤ (8) → Lt (h_i h 108 6 (1)) fun h119 =>
  KX12_token_232 x2 h119 Q) ∧
  (¬ x2 ≤ (8) → Lt (h_i h 108 6 (3)) fun h121 =>
  KX12_token_232 x2 h121 Q))) ∧
  (¬ r109 = 0 → (((8) ≤ x2 → Lt (x2 + (1) : Int32) fun v126 =>
  k78 v126 h) ∧
  (¬ (8) ≤ x2 → MX12_here x2 h fun r128 =>
  Lt (h_l h 108 9 (((h.2.1 108 9) <<< (((8) : Int32).toInt64 &&& 63)) ||| (r128).toInt64)) fun h132 =>
  Lt (x2 + (1) : Int32) fun v134 =>
  k78 v134 h132))))
def FX12_token_0 (Q : ob_H → Prop) (k0 : ob_H → Prop)  (h : ob_H) : Prop :=
  MX12_here (0) h fun r1 =>
  ((r1 = (32) → Lt (h_i h 108 4 ((h.1 108 4) + (1))) fun h8 =>
  k0 h8) ∧
  (¬ r1 = (32) → MX12_here (0) h fun r10 =>
  ((r10 = (10) → Lt (h_i h 108 4 ((h.1 108 4) + (1))) fun h139 =>
  k0 h139) ∧
  (¬ r10 = (10) → Lt (h_i h 108 7 (h.1 108 4)) fun h17 =>
  MX12_here (0) h17 fun r19 =>
  Lt (h_l h17 108 9 0) fun h23 =>
  Lt (h_i h23 108 8 (0)) fun h25 =>
  ((0 ≤ r19 → MX12_isLetter r19 h25 fun r30 =>
  ((r30 = 0 → MX12_isDigit r19 h25 fun r37 =>
  ((r37 = 0 → MX12_isSign r19 h25 fun r44 =>
  ((r44 = 0 → Lt (h_i h25 108 6 (3)) fun h51 =>
  KX12_token_232 (1) h51 Q) ∧
  (¬ r44 = 0 → Lt (h_i h25 108 6 r19) fun h58 =>
  KX12_token_232 (1) h58 Q))) ∧
  (¬ r37 = 0 → lo2 (FX12_token_144 Q) (0) h25))) ∧
  (¬ r30 = 0 → lo2 (FX12_token_78 Q) (0) h25))) ∧
  (¬ 0 ≤ r19 → Lt (h_i h25 108 6 (0)) fun h137 =>
  KX12_token_232 (0) h137 Q))))))
def MX12_token  (h : ob_H) (Q : ob_H → Prop) : Prop :=
  lo1 (FX12_token_0 Q) h
-- ObjectionsModel.wrong(I)V
def MX12_wrong  (p1 : Int32) (h : ob_H) (Q : ob_H → Prop) : Prop :=
  (((h.1 108 2) ≤ 0 → (((h.1 108 6) = (3) → Lt (h_i h 108 2 (1)) fun h11 =>
  Lt (h_i h11 108 3 (h11.1 108 7)) fun h13 =>
  Q h13) ∧
  (¬ (h.1 108 6) = (3) → Lt (h_i h 108 2 p1) fun h7 =>
  Lt (h_i h7 108 3 (h7.1 108 7)) fun h9 =>
  Q h9))) ∧
  (¬ (h.1 108 2) ≤ 0 → Q h))
-- ObjectionsModel.isWord(J)Z
def MX12_isWord  (p1 : Int64) (h : ob_H) (Q : Int32 → Prop) : Prop :=
  (((h.1 108 6) = (1) → (((lg_cmp (h.2.1 108 9) p1) = 0 → Q (1)) ∧
  (¬ (lg_cmp (h.2.1 108 9) p1) = 0 → Q (0)))) ∧
  (¬ (h.1 108 6) = (1) → Q (0)))
-- ObjectionsModel.isOwn()Z
def MX12_isOwn  (h : ob_H) (Q : Int32 → Prop) : Prop :=
  (((lg_cmp (h.2.1 108 9) (8026094469620461426)) = 0 → Q (1)) ∧
  (¬ (lg_cmp (h.2.1 108 9) (8026094469620461426)) = 0 → (((lg_cmp (h.2.1 108 9) (444300621413)) = 0 → Q (1)) ∧
  (¬ (lg_cmp (h.2.1 108 9) (444300621413)) = 0 → (((lg_cmp (h.2.1 108 9) (30796695599342963)) = 0 → Q (1)) ∧
  (¬ (lg_cmp (h.2.1 108 9) (30796695599342963)) = 0 → (((lg_cmp (h.2.1 108 9) (495873784179)) = 0 → Q (1)) ∧
  (¬ (lg_cmp (h.2.1 108 9) (495873784179)) = 0 → (((lg_cmp (h.2.1 108 9) (482955846501)) = 0 → Q (1)) ∧
  (¬ (lg_cmp (h.2.1 108 9) (482955846501)) = 0 → (((lg_cmp (h.2.1 108 9) (1818326117)) = 0 → Q (1)) ∧
  (¬ (lg_cmp (h.2.1 108 9) (1818326117)) = 0 → (((lg_cmp (h.2.1 108 9) (32481173165598067)) = 0 → Q (1)) ∧
  (¬ (lg_cmp (h.2.1 108 9) (32481173165598067)) = 0 → (((lg_cmp (h.2.1 108 9) (108243534636915)) = 0 → Q (1)) ∧
  (¬ (lg_cmp (h.2.1 108 9) (108243534636915)) = 0 → (((lg_cmp (h.2.1 108 9) (117026742756708)) = 0 → Q (1)) ∧
  (¬ (lg_cmp (h.2.1 108 9) (117026742756708)) = 0 → (((lg_cmp (h.2.1 108 9) (478660552050)) = 0 → Q (1)) ∧
  (¬ (lg_cmp (h.2.1 108 9) (478660552050)) = 0 → (((lg_cmp (h.2.1 108 9) (107127011501426)) = 0 → Q (1)) ∧
  (¬ (lg_cmp (h.2.1 108 9) (107127011501426)) = 0 → (((lg_cmp (h.2.1 108 9) (6447474)) = 0 → Q (1)) ∧
  (¬ (lg_cmp (h.2.1 108 9) (6447474)) = 0 → (((lg_cmp (h.2.1 108 9) (1685217655)) = 0 → Q (1)) ∧
  (¬ (lg_cmp (h.2.1 108 9) (1685217655)) = 0 → (((lg_cmp (h.2.1 108 9) (131260264768868)) = 0 → Q (1)) ∧
  (¬ (lg_cmp (h.2.1 108 9) (131260264768868)) = 0 → (((lg_cmp (h.2.1 108 9) (121450625394034)) = 0 → Q (1)) ∧
  (¬ (lg_cmp (h.2.1 108 9) (121450625394034)) = 0 → (((lg_cmp (h.2.1 108 9) (448377483876)) = 0 → Q (1)) ∧
  (¬ (lg_cmp (h.2.1 108 9) (448377483876)) = 0 → (((lg_cmp (h.2.1 108 9) (120299592184933)) = 0 → Q (1)) ∧
  (¬ (lg_cmp (h.2.1 108 9) (120299592184933)) = 0 → (((lg_cmp (h.2.1 108 9) (6385252)) = 0 → Q (1)) ∧
  (¬ (lg_cmp (h.2.1 108 9) (6385252)) = 0 → (((lg_cmp (h.2.1 108 9) (28530)) = 0 → Q (1)) ∧
  (¬ (lg_cmp (h.2.1 108 9) (28530)) = 0 → (((lg_cmp (h.2.1 108 9) (7237492)) = 0 → Q (1)) ∧
  (¬ (lg_cmp (h.2.1 108 9) (7237492)) = 0 → Q (0)))))))))))))))))))))))))))))))))))))))))
-- ObjectionsModel.isName()Z
def MX12_isName  (h : ob_H) (Q : Int32 → Prop) : Prop :=
  (((h.1 108 6) = (1) → MX12_isOwn  h fun r4 =>
  ((r4 = 0 → Q (1)) ∧
  (¬ r4 = 0 → Q (0)))) ∧
  (¬ (h.1 108 6) = (1) → Q (0)))
-- ObjectionsModel.want(J)V
def MX12_want  (p1 : Int64) (h : ob_H) (Q : ob_H → Prop) : Prop :=
  (((h.1 108 2) ≤ 0 → MX12_isWord p1 h fun r4 =>
  ((r4 = 0 → MX12_wrong (2) h fun h16 =>
  Q h16) ∧
  (¬ r4 = 0 → MX12_token  h fun h12 =>
  Q h12))) ∧
  (¬ (h.1 108 2) ≤ 0 → Q h))
-- ObjectionsModel.toldNumber(II)I
def KX12_toldNumber_46 (h : ob_H) (Q : Int32 → ob_H → Prop)  : Prop :=
  Lt ((h.1 108 8) : Int32) fun v14 =>
  (((h.1 108 2) = 0 → MX12_token  h fun h20 =>
  Q v14 h20) ∧
  (¬ (h.1 108 2) = 0 → Q v14 h))
def KX12_toldNumber_41 (h : ob_H) (Q : Int32 → ob_H → Prop)  : Prop :=
  MX12_wrong (4) h fun h11 =>
  KX12_toldNumber_46 h11 Q
def MX12_toldNumber  (p1 : Int32) (p2 : Int32) (h : ob_H) (Q : Int32 → ob_H → Prop) : Prop :=
  (((h.1 108 2) ≤ 0 → (((h.1 108 6) = (2) → (((h.1 108 8) < p1 → KX12_toldNumber_41 h Q) ∧
  (¬ (h.1 108 8) < p1 → (((h.1 108 8) ≤ p2 → KX12_toldNumber_46 h Q) ∧
  (¬ (h.1 108 8) ≤ p2 → KX12_toldNumber_41 h Q))))) ∧
  (¬ (h.1 108 6) = (2) → MX12_wrong (2) h fun h27 =>
  KX12_toldNumber_46 h27 Q))) ∧
  (¬ (h.1 108 2) ≤ 0 → Q (0) h))
-- ObjectionsModel.told(JII)I
def MX12_told  (p1 : Int64) (p3 : Int32) (p4 : Int32) (h : ob_H) (Q : Int32 → ob_H → Prop) : Prop :=
  MX12_want p1 h fun h2 =>
  MX12_toldNumber p3 p4 h2 fun r5 h6 =>
  Q r5 h6
-- ObjectionsModel.option(JII)I
def MX12_option  (p1 : Int64) (p3 : Int32) (p4 : Int32) (h : ob_H) (Q : Int32 → ob_H → Prop) : Prop :=
  (((h.1 108 2) = 0 → MX12_isWord p1 h fun r4 =>
  ((r4 = 0 → Q p4 h) ∧
  (¬ r4 = 0 → MX12_told p1 (0) p3 h fun r11 h12 =>
  Q r11 h12))) ∧
  (¬ (h.1 108 2) = 0 → Q p4 h))
-- ObjectionsModel.takes(J)Z
def KX12_takes_20 (s0 : Int32) (h : ob_H) (Q : Int32 → ob_H → Prop)  : Prop :=
  ((s0 = 0 → isB s0 ∧
  Q s0 h) ∧
  (¬ s0 = 0 → MX12_token  h fun h10 =>
  isB s0 ∧
  Q s0 h10))
def MX12_takes  (p1 : Int64) (h : ob_H) (Q : Int32 → ob_H → Prop) : Prop :=
  (((h.1 108 2) = 0 → MX12_isWord p1 h fun r15 =>
  ((r15 = 0 → KX12_takes_20 (0) h Q) ∧
  (¬ r15 = 0 → KX12_takes_20 (1) h Q))) ∧
  (¬ (h.1 108 2) = 0 → KX12_takes_20 (0) h Q))
-- ObjectionsModel.find()I
def FX12_find_4 (h : ob_H) (Q : Int32 → Prop) (k4 : Int32 → Int32 → Prop) (x1 : Int32) (x2 : Int32) : Prop :=
  (((h.1 108 41) ≤ x2 → Q x1) ∧
  (¬ (h.1 108 41) ≤ x2 → vp_in x2 7 ∧
  (((lg_cmp (h.2.1 110 (ix x2)) (h.2.1 108 9)) = 0 → Lt (x2 + (1) : Int32) fun v11 =>
  k4 x2 v11) ∧
  (¬ (lg_cmp (h.2.1 110 (ix x2)) (h.2.1 108 9)) = 0 → Lt (x2 + (1) : Int32) fun v9 =>
  k4 x1 v9))))
def MX12_find  (h : ob_H) (Q : Int32 → Prop) : Prop :=
  lo2 (FX12_find_4 h Q) (-1) (0)
-- ObjectionsModel.oldOne()I
def KX12_oldOne_36 (h : ob_H) (Q : Int32 → ob_H → Prop)  : Prop :=
  (((h.1 108 2) ≤ 0 → MX12_find  h fun r21 =>
  Q r21 h) ∧
  (¬ (h.1 108 2) ≤ 0 → Q (0) h))
def MX12_oldOne  (h : ob_H) (Q : Int32 → ob_H → Prop) : Prop :=
  (((h.1 108 2) ≤ 0 → MX12_isName  h fun r4 =>
  ((r4 = 0 → MX12_wrong (2) h fun h30 =>
  KX12_oldOne_36 h30 Q) ∧
  (¬ r4 = 0 → MX12_find  h fun r11 =>
  ((0 ≤ r11 → KX12_oldOne_36 h Q) ∧
  (¬ 0 ≤ r11 → MX12_wrong (5) h fun h26 =>
  KX12_oldOne_36 h26 Q))))) ∧
  (¬ (h.1 108 2) ≤ 0 → Q (0) h))
-- ObjectionsModel.add(II)V
def MX12_add  (p1 : Int32) (p2 : Int32) (h : ob_H) (Q : ob_H → Prop) : Prop :=
  vp_in (h.1 108 20) 2 ∧
  vp_in (((320) * (h.1 108 20)) + (h.1 113 (ix (h.1 108 20)))) 640 ∧
  Lt (h_i h 111 (ix (((320) * (h.1 108 20)) + (h.1 113 (ix (h.1 108 20))))) p1) fun h5 =>
  vp_in (h5.1 108 20) 2 ∧
  vp_in (((320) * (h5.1 108 20)) + (h5.1 113 (ix (h5.1 108 20)))) 640 ∧
  Lt (h_i h5 112 (ix (((320) * (h5.1 108 20)) + (h5.1 113 (ix (h5.1 108 20))))) p2) fun h11 =>
  vp_in (h11.1 108 20) 2 ∧
  Lt (h_i h11 113 (ix (h11.1 108 20)) ((h11.1 113 (ix (h11.1 108 20))) + (1))) fun h15 =>
  Q h15
-- ObjectionsModel.tight(I)I
def MX12_tight  (p0 : Int32) (h : ob_H) (Q : Int32 → Prop) : Prop :=
  ((p0 = (21) → Q (3)) ∧
  (¬ p0 = (21) → ((p0 = (38) → Q (2)) ∧
  (¬ p0 = (38) → ((p0 = (43) → Q (5)) ∧
  (¬ p0 = (43) → ((p0 = (45) → Q (5)) ∧
  (¬ p0 = (45) → ((p0 = (60) → Q (4)) ∧
  (¬ p0 = (60) → ((p0 = (61) → Q (4)) ∧
  (¬ p0 = (61) → ((p0 = (62) → Q (4)) ∧
  (¬ p0 = (62) → ((p0 = (124) → Q (1)) ∧
  (¬ p0 = (124) → Q (6)))))))))))))))))
-- ObjectionsModel.close(I)V
def FX12_close_0 (x1 : Int32) (Q : ob_H → Prop) (k0 : ob_H → Prop)  (h : ob_H) : Prop :=
  (((h.1 108 21) ≤ 0 → Q h) ∧
  (¬ (h.1 108 21) ≤ 0 → vp_in ((h.1 108 21) - (1)) 160 ∧
  (((h.1 117 (ix ((h.1 108 21) - (1)))) = (20) → Q h) ∧
  (¬ (h.1 117 (ix ((h.1 108 21) - (1)))) = (20) → MX12_tight (h.1 117 (ix ((h.1 108 21) - (1)))) h fun r9 =>
  ((r9 < x1 → Q h) ∧
  (¬ r9 < x1 → Lt (h_i h 108 21 ((h.1 108 21) - (1))) fun h16 =>
  vp_in (h16.1 108 21) 160 ∧
  (((h16.1 117 (ix (h16.1 108 21))) = (21) → MX12_add (2) (0) h16 fun h28 =>
  Lt (h_i h28 108 25 ((h28.1 108 25) - (1))) fun h31 =>
  k0 h31) ∧
  (¬ (h16.1 117 (ix (h16.1 108 21))) = (21) → MX12_add (3) (h16.1 117 (ix (h16.1 108 21))) h16 fun h24 =>
  k0 h24))))))))
def MX12_close  (p1 : Int32) (h : ob_H) (Q : ob_H → Prop) : Prop :=
  lo1 (FX12_close_0 p1 Q) h
-- ObjectionsModel.hasRelation()Z
def KX12_hasRelation_41 (x1 : Int32) (h : ob_H) (Q : Int32 → Prop)  : Prop :=
  ((x1 < 0 → Q (0)) ∧
  (¬ x1 < 0 → vp_in x1 160 ∧
  (((h.1 117 (ix x1)) = (20) → Q (0)) ∧
  (¬ (h.1 117 (ix x1)) = (20) → MX12_tight (h.1 117 (ix x1)) h fun r14 =>
  ((r14 = (4) → Q (1)) ∧
  (¬ r14 = (4) → Q (0)))))))
def FX12_hasRelation_7 (h : ob_H) (Q : Int32 → Prop) (k7 : Int32 → Prop) (x1 : Int32) : Prop :=
  ((x1 < 0 → KX12_hasRelation_41 x1 h Q) ∧
  (¬ x1 < 0 → vp_in x1 160 ∧
  (((h.1 117 (ix x1)) = (20) → KX12_hasRelation_41 x1 h Q) ∧
  (¬ (h.1 117 (ix x1)) = (20) → MX12_tight (h.1 117 (ix x1)) h fun r26 =>
  ((r26 ≤ (4) → KX12_hasRelation_41 x1 h Q) ∧
  (¬ r26 ≤ (4) → Lt (x1 + (-1) : Int32) fun v33 =>
  k7 v33))))))
def MX12_hasRelation  (h : ob_H) (Q : Int32 → Prop) : Prop :=
  Lt (((h.1 108 21) - (1)) : Int32) fun v1 =>
  lo1 (FX12_hasRelation_7 h Q) v1
-- ObjectionsModel.mayNot()Z
def MX12_mayNot  (h : ob_H) (Q : Int32 → Prop) : Prop :=
  (((h.1 108 21) = 0 → Q (1)) ∧
  (¬ (h.1 108 21) = 0 → vp_in ((h.1 108 21) - (1)) 160 ∧
  (((h.1 117 (ix ((h.1 108 21) - (1)))) = (20) → Q (1)) ∧
  (¬ (h.1 117 (ix ((h.1 108 21) - (1)))) = (20) → MX12_tight (h.1 117 (ix ((h.1 108 21) - (1)))) h fun r9 =>
  (((4) ≤ r9 → Q (0)) ∧
  (¬ (4) ≤ r9 → Q (1)))))))
-- ObjectionsModel.asked()I
def MX12_asked  (h : ob_H) (Q : Int32 → Prop) : Prop :=
  (((h.1 108 6) = (1) → (((lg_cmp (h.2.1 108 9) (444300621413)) = 0 → Q (0)) ∧
  (¬ (lg_cmp (h.2.1 108 9) (444300621413)) = 0 → (((lg_cmp (h.2.1 108 9) (30796695599342963)) = 0 → Q (1)) ∧
  (¬ (lg_cmp (h.2.1 108 9) (30796695599342963)) = 0 → (((lg_cmp (h.2.1 108 9) (131260264768868)) = 0 → Q (2)) ∧
  (¬ (lg_cmp (h.2.1 108 9) (131260264768868)) = 0 → (((lg_cmp (h.2.1 108 9) (121450625394034)) = 0 → Q (3)) ∧
  (¬ (lg_cmp (h.2.1 108 9) (121450625394034)) = 0 → (((lg_cmp (h.2.1 108 9) (448377483876)) = 0 → Q (4)) ∧
  (¬ (lg_cmp (h.2.1 108 9) (448377483876)) = 0 → (((lg_cmp (h.2.1 108 9) (120299592184933)) = 0 → Q (5)) ∧
  (¬ (lg_cmp (h.2.1 108 9) (120299592184933)) = 0 → Q (-1)))))))))))))) ∧
  (¬ (h.1 108 6) = (1) → Q (-1)))
-- ObjectionsModel.isFull()Z
def MX12_isFull  (h : ob_H) (Q : Int32 → Prop) : Prop :=
  (((h.1 108 22) = (60) → Q (1)) ∧
  (¬ (h.1 108 22) = (60) → (((h.1 108 24) = (30) → Q (1)) ∧
  (¬ (h.1 108 24) = (30) → Q (0)))))
-- ObjectionsModel.countUnit()V
def MX12_countUnit  (h : ob_H) (Q : ob_H → Prop) : Prop :=
  Lt (h_i h 108 22 ((h.1 108 22) + (1))) fun h1 =>
  Lt (h_i h1 108 24 ((h1.1 108 24) + (1))) fun h3 =>
  Q h3
-- ObjectionsModel.openUp(I)V
def MX12_openUp  (p1 : Int32) (h : ob_H) (Q : ob_H → Prop) : Prop :=
  vp_in (h.1 108 21) 160 ∧
  Lt (h_i h 117 (ix (h.1 108 21)) p1) fun h3 =>
  Lt (h_i h3 108 21 ((h3.1 108 21) + (1))) fun h5 =>
  Lt (h_i h5 108 25 ((h5.1 108 25) + (1))) fun h7 =>
  (((h7.1 108 2) = 0 → MX12_token  h7 fun h13 =>
  Q h13) ∧
  (¬ (h7.1 108 2) = 0 → Q h7))
-- ObjectionsModel.unit()V
def KX12_unit_172 (s0 : Int32) (s1 : Int32) (h : ob_H) (Q : ob_H → Prop)  : Prop :=
  MX12_add s1 s0 h fun h35 =>
  MX12_token  h35 fun h39 =>
  Q h39
def KX12_unit_160 (x2 : Int32) (s0 : Int32) (h : ob_H) (Q : ob_H → Prop)  : Prop :=
  ((0 ≤ x2 → KX12_unit_172 x2 s0 h Q) ∧
  (¬ 0 ≤ x2 → KX12_unit_172 (h.1 108 8) s0 h Q))
def KX12_unit_138 (x2 : Int32) (h : ob_H) (Q : ob_H → Prop)  : Prop :=
  (((h.1 108 2) ≤ 0 → MX12_countUnit  h fun h25 =>
  ((0 ≤ x2 → KX12_unit_160 x2 (1) h25 Q) ∧
  (¬ 0 ≤ x2 → KX12_unit_160 x2 (0) h25 Q))) ∧
  (¬ (h.1 108 2) ≤ 0 → Q h))
def KX12_unit_133 (x2 : Int32) (h : ob_H) (Q : ob_H → Prop)  : Prop :=
  MX12_wrong (2) h fun h43 =>
  KX12_unit_138 x2 h43 Q
def KX12_unit_126 (x2 : Int32) (h : ob_H) (Q : ob_H → Prop)  : Prop :=
  MX12_isFull  h fun r14 =>
  ((r14 = 0 → KX12_unit_138 x2 h Q) ∧
  (¬ r14 = 0 → KX12_unit_133 x2 h Q))
def KX12_unit_101 (h : ob_H) (Q : ob_H → Prop)  : Prop :=
  (((h.1 108 2) ≤ 0 → MX12_asked  h fun r7 =>
  (((h.1 108 6) = (2) → KX12_unit_126 r7 h Q) ∧
  (¬ (h.1 108 6) = (2) → ((r7 < 0 → KX12_unit_133 r7 h Q) ∧
  (¬ r7 < 0 → KX12_unit_126 r7 h Q))))) ∧
  (¬ (h.1 108 2) ≤ 0 → Q h))
def KX12_unit_83 (x1 : Int32) (h : ob_H) (Q : ob_H → Prop) (k2 : Int32 → ob_H → Prop)  : Prop :=
  MX12_countUnit  h fun h74 =>
  MX12_openUp (20) h74 fun h78 =>
  k2 x1 h78
def KX12_unit_78 (x1 : Int32) (h : ob_H) (Q : ob_H → Prop) (k2 : Int32 → ob_H → Prop)  : Prop :=
  MX12_wrong (2) h fun h70 =>
  KX12_unit_83 x1 h70 Q k2
def KX12_unit_53 (x1 : Int32) (h : ob_H) (Q : ob_H → Prop) (k2 : Int32 → ob_H → Prop)  : Prop :=
  (((h.1 108 6) = (40) → MX12_isFull  h fun r62 =>
  ((r62 = 0 → (((h.1 108 25) ≤ (6) → KX12_unit_83 x1 h Q k2) ∧
  (¬ (h.1 108 25) ≤ (6) → KX12_unit_78 x1 h Q k2))) ∧
  (¬ r62 = 0 → KX12_unit_78 x1 h Q k2))) ∧
  (¬ (h.1 108 6) = (40) → k2 (0) h))
def KX12_unit_44 (x1 : Int32) (h : ob_H) (Q : ob_H → Prop) (k2 : Int32 → ob_H → Prop)  : Prop :=
  MX12_openUp (21) h fun h95 =>
  k2 x1 h95
def FX12_unit_2 (Q : ob_H → Prop) (k2 : Int32 → ob_H → Prop) (x1 : Int32) (h : ob_H) : Prop :=
  ((x1 = 0 → KX12_unit_101 h Q) ∧
  (¬ x1 = 0 → (((h.1 108 2) = 0 → MX12_isWord (7237492) h fun r52 =>
  ((r52 = 0 → KX12_unit_53 x1 h Q k2) ∧
  (¬ r52 = 0 → MX12_mayNot  h fun r84 =>
  ((r84 = 0 → KX12_unit_53 x1 h Q k2) ∧
  (¬ r84 = 0 → (((h.1 108 25) ≤ (6) → KX12_unit_44 x1 h Q k2) ∧
  (¬ (h.1 108 25) ≤ (6) → MX12_wrong (2) h fun h99 =>
  KX12_unit_44 x1 h99 Q k2))))))) ∧
  (¬ (h.1 108 2) = 0 → KX12_unit_101 h Q))))
def MX12_unit  (h : ob_H) (Q : ob_H → Prop) : Prop :=
  lo2 (FX12_unit_2 Q) (1) h
-- ObjectionsModel.sign()I
def MX12_sign  (h : ob_H) (Q : Int32 → Prop) : Prop :=
  MX12_isWord (6385252) h fun r1 =>
  ((r1 = 0 → MX12_isWord (28530) h fun r8 =>
  ((r8 = 0 → (((h.1 108 6) = (60) → Q (h.1 108 6)) ∧
  (¬ (h.1 108 6) = (60) → (((h.1 108 6) = (62) → Q (h.1 108 6)) ∧
  (¬ (h.1 108 6) = (62) → (((h.1 108 6) = (61) → Q (h.1 108 6)) ∧
  (¬ (h.1 108 6) = (61) → (((h.1 108 6) = (43) → Q (h.1 108 6)) ∧
  (¬ (h.1 108 6) = (43) → (((h.1 108 6) = (45) → Q (h.1 108 6)) ∧
  (¬ (h.1 108 6) = (45) → (((h.1 108 6) = (42) → Q (h.1 108 6)) ∧
  (¬ (h.1 108 6) = (42) → (((h.1 108 6) = (47) → Q (h.1 108 6)) ∧
  (¬ (h.1 108 6) = (47) → (((h.1 108 6) = (37) → Q (h.1 108 6)) ∧
  (¬ (h.1 108 6) = (37) → Q (0)))))))))))))))))) ∧
  (¬ r8 = 0 → Q (124)))) ∧
  (¬ r1 = 0 → Q (38)))
-- ObjectionsModel.hasBracket()Z
def FX12_hasBracket_4 (h : ob_H) (Q : Int32 → Prop) (k4 : Int32 → Int32 → Prop) (x1 : Int32) (x2 : Int32) : Prop :=
  (((h.1 108 21) ≤ x2 → isB x1 ∧
  Q x1) ∧
  (¬ (h.1 108 21) ≤ x2 → ((x1 = 0 → vp_in x2 160 ∧
  (((h.1 117 (ix x2)) = (20) → Lt (x2 + (1) : Int32) fun v18 =>
  k4 (1) v18) ∧
  (¬ (h.1 117 (ix x2)) = (20) → Lt (x2 + (1) : Int32) fun v16 =>
  k4 (0) v16))) ∧
  (¬ x1 = 0 → Lt (x2 + (1) : Int32) fun v9 =>
  k4 (1) v9))))
def MX12_hasBracket  (h : ob_H) (Q : Int32 → Prop) : Prop :=
  lo2 (FX12_hasBracket_4 h Q) (0) (0)
-- ObjectionsModel.formula(I)V
def KX12_formula_196 (h : ob_H) (Q : ob_H → Prop)  : Prop :=
  (((h.1 108 2) = 0 → MX12_close (0) h fun h35 =>
  Q h35) ∧
  (¬ (h.1 108 2) = 0 → Q h))
def KX12_formula_177 (h : ob_H) (Q : ob_H → Prop)  : Prop :=
  (((h.1 108 2) = 0 → MX12_hasBracket  h fun r38 =>
  ((r38 = 0 → KX12_formula_196 h Q) ∧
  (¬ r38 = 0 → MX12_wrong (2) h fun h46 =>
  KX12_formula_196 h46 Q))) ∧
  (¬ (h.1 108 2) = 0 → KX12_formula_196 h Q))
def KX12_formula_133 (x2 : Int32) (x3 : Int32) (h : ob_H) (Q : ob_H → Prop) (k50 : Int32 → ob_H → Prop)  : Prop :=
  MX12_tight x3 h fun r69 =>
  MX12_close r69 h fun h74 =>
  vp_in (h74.1 108 21) 160 ∧
  Lt (h_i h74 117 (ix (h74.1 108 21)) x3) fun h79 =>
  Lt (h_i h79 108 21 ((h79.1 108 21) + (1))) fun h81 =>
  MX12_token  h81 fun h84 =>
  MX12_unit  h84 fun h88 =>
  k50 x2 h88
def KX12_formula_114 (x2 : Int32) (x3 : Int32) (h : ob_H) (Q : ob_H → Prop) (k50 : Int32 → ob_H → Prop)  : Prop :=
  ((x3 = 0 → k50 (0) h) ∧
  (¬ x3 = 0 → MX12_tight x3 h fun r62 =>
  ((r62 = (4) → MX12_hasRelation  h fun r91 =>
  ((r91 = 0 → KX12_formula_133 x2 x3 h Q k50) ∧
  (¬ r91 = 0 → k50 (0) h))) ∧
  (¬ r62 = (4) → KX12_formula_133 x2 x3 h Q k50))))
def FX12_formula_50 (Q : ob_H → Prop) (k50 : Int32 → ob_H → Prop) (x2 : Int32) (h : ob_H) : Prop :=
  ((x2 = 0 → KX12_formula_177 h Q) ∧
  (¬ x2 = 0 → (((h.1 108 2) = 0 → MX12_sign  h fun r52 =>
  (((h.1 108 6) = (41) → MX12_hasBracket  h fun r98 =>
  ((r98 = 0 → KX12_formula_114 x2 r52 h Q k50) ∧
  (¬ r98 = 0 → MX12_close (0) h fun h106 =>
  Lt (h_i h106 108 21 ((h106.1 108 21) - (1))) fun h109 =>
  Lt (h_i h109 108 25 ((h109.1 108 25) - (1))) fun h111 =>
  MX12_token  h111 fun h114 =>
  k50 x2 h114))) ∧
  (¬ (h.1 108 6) = (41) → KX12_formula_114 x2 r52 h Q k50))) ∧
  (¬ (h.1 108 2) = 0 → KX12_formula_177 h Q))))
def MX12_formula  (p1 : Int32) (h : ob_H) (Q : ob_H → Prop) : Prop :=
  MX12_token  h fun h2 =>
  Lt (h_i h2 108 20 p1) fun h5 =>
  vp_in (h5.1 108 20) 2 ∧
  Lt (h_i h5 119 (ix (h5.1 108 20)) (vp_nar .boolean (1))) fun h9 =>
  vp_in (h9.1 108 20) 2 ∧
  Lt (h_i h9 113 (ix (h9.1 108 20)) (0)) fun h13 =>
  Lt (h_i h13 108 21 (0)) fun h15 =>
  Lt (h_i h15 108 25 (0)) fun h17 =>
  Lt (h_i h17 108 24 (0)) fun h19 =>
  MX12_unit  h19 fun h22 =>
  lo2 (FX12_formula_50 Q) (1) h22
-- ObjectionsModel.truth(Z)I
def MX12_truth  (p0 : Int32) (h : ob_H) (Q : Int32 → Prop) : Prop :=
  ((p0 = 0 → Q (0)) ∧
  (¬ p0 = 0 → Q (1)))
-- ObjectionsModel.done(III)I
def KX12_done_211 (s0 : Int32) (h : ob_H) (Q : Int32 → Prop)  : Prop :=
  MX12_truth s0 h fun r14 =>
  Q r14
def KX12_done_166 (s0 : Int32) (h : ob_H) (Q : Int32 → Prop)  : Prop :=
  MX12_truth s0 h fun r44 =>
  Q r44
def KX12_done_194 (s0 : Int32) (h : ob_H) (Q : Int32 → Prop)  : Prop :=
  MX12_truth s0 h fun r54 =>
  Q r54
def KX12_done_180 (s0 : Int32) (h : ob_H) (Q : Int32 → Prop)  : Prop :=
  MX12_truth s0 h fun r64 =>
  Q r64
def KX12_done_228 (s0 : Int32) (h : ob_H) (Q : Int32 → Prop)  : Prop :=
  MX12_truth s0 h fun r72 =>
  Q r72
def MX12_done  (p0 : Int32) (p1 : Int32) (p2 : Int32) (h : ob_H) (Q : Int32 → Prop) : Prop :=
  ((p0 = (37) → ((p2 = 0 → Q (0)) ∧
  (¬ p2 = 0 → ¬ p2 = 0 ∧
  Q (irm p1 p2)))) ∧
  (¬ p0 = (37) → ((p0 = (38) → ((p1 = 0 → KX12_done_211 (0) h Q) ∧
  (¬ p1 = 0 → ((p2 = 0 → KX12_done_211 (0) h Q) ∧
  (¬ p2 = 0 → KX12_done_211 (1) h Q))))) ∧
  (¬ p0 = (38) → ((p0 = (42) → Q (p1 * p2)) ∧
  (¬ p0 = (42) → ((p0 = (43) → Q (p1 + p2)) ∧
  (¬ p0 = (43) → ((p0 = (45) → Q (p1 - p2)) ∧
  (¬ p0 = (45) → ((p0 = (47) → ((p2 = 0 → Q (0)) ∧
  (¬ p2 = 0 → ¬ p2 = 0 ∧
  Q (p1 / p2)))) ∧
  (¬ p0 = (47) → ((p0 = (60) → ((p2 ≤ p1 → KX12_done_166 (0) h Q) ∧
  (¬ p2 ≤ p1 → KX12_done_166 (1) h Q))) ∧
  (¬ p0 = (60) → ((p0 = (61) → ((p1 = p2 → KX12_done_194 (1) h Q) ∧
  (¬ p1 = p2 → KX12_done_194 (0) h Q))) ∧
  (¬ p0 = (61) → ((p0 = (62) → ((p1 ≤ p2 → KX12_done_180 (0) h Q) ∧
  (¬ p1 ≤ p2 → KX12_done_180 (1) h Q))) ∧
  (¬ p0 = (62) → ((p1 = 0 → ((p2 = 0 → KX12_done_228 (0) h Q) ∧
  (¬ p2 = 0 → KX12_done_228 (1) h Q))) ∧
  (¬ p1 = 0 → KX12_done_228 (1) h Q))))))))))))))))))))
-- ObjectionsModel.heardOnes()I
def KX12_heardOnes_38 (x2 : Int32) (s0 : Int32) (s1 : Int32) (h : ob_H) (Q : Int32 → Prop) (k4 : Int32 → Int32 → Prop)  : Prop :=
  MX12_truth s0 h fun r9 =>
  Lt ((s1 + r9) : Int32) fun v13 =>
  Lt (x2 + (1) : Int32) fun v15 =>
  k4 v13 v15
def FX12_heardOnes_4 (h : ob_H) (Q : Int32 → Prop) (k4 : Int32 → Int32 → Prop) (x1 : Int32) (x2 : Int32) : Prop :=
  (((h.1 108 48) ≤ x2 → Q x1) ∧
  (¬ (h.1 108 48) ≤ x2 → vp_in x2 24 ∧
  (((h.1 136 (ix x2)) = (1) → KX12_heardOnes_38 x2 (1) x1 h Q k4) ∧
  (¬ (h.1 136 (ix x2)) = (1) → (((h.1 136 (ix x2)) = (2) → KX12_heardOnes_38 x2 (1) x1 h Q k4) ∧
  (¬ (h.1 136 (ix x2)) = (2) → KX12_heardOnes_38 x2 (0) x1 h Q k4))))))
def MX12_heardOnes  (h : ob_H) (Q : Int32 → Prop) : Prop :=
  lo2 (FX12_heardOnes_4 h Q) (0) (0)
-- ObjectionsModel.worked(IIII)I
def KX12_worked_174 (x1 : Int32) (x5 : Int32) (x6 : Int32) (s0 : Int32) (s1 : Int32) (h : ob_H) (Q : Int32 → ob_H → Prop) (k98 : Int32 → Int32 → ob_H → Prop)  : Prop :=
  vp_in s1 64 ∧
  Lt (h_i h 118 (ix s1) s0) fun h46 =>
  Lt (x5 + (1) : Int32) fun v48 =>
  Lt (x6 + (1) : Int32) fun v50 =>
  k98 v48 v50 h46
def KX12_worked_136 (x1 : Int32) (x5 : Int32) (x6 : Int32) (h : ob_H) (Q : Int32 → ob_H → Prop) (k98 : Int32 → Int32 → ob_H → Prop)  : Prop :=
  vp_in x6 640 ∧
  (((h.1 114 (ix x6)) = 0 → KX12_worked_174 x1 x5 x6 (h.1 115 (ix x6)) x5 h Q k98) ∧
  (¬ (h.1 114 (ix x6)) = 0 → vp_in (h.1 115 (ix x6)) 6 ∧
  KX12_worked_174 x1 x5 x6 (h.1 120 (ix (h.1 115 (ix x6)))) x5 h Q k98))
def KX12_worked_217 (x1 : Int32) (x5 : Int32) (x6 : Int32) (s0 : Int32) (s1 : Int32) (h : ob_H) (Q : Int32 → ob_H → Prop) (k98 : Int32 → Int32 → ob_H → Prop)  : Prop :=
  MX12_truth s0 h fun r77 =>
  vp_in s1 64 ∧
  Lt (h_i h 118 (ix s1) r77) fun h83 =>
  Lt (x6 + (1) : Int32) fun v85 =>
  k98 x5 v85 h83
def FX12_worked_98 (x1 : Int32) (Q : Int32 → ob_H → Prop) (k98 : Int32 → Int32 → ob_H → Prop) (x5 : Int32) (x6 : Int32) (h : ob_H) : Prop :=
  vp_in x1 2 ∧
  (((((320) * x1) + (h.1 116 (ix x1))) ≤ x6 → Q (h.1 118 0) h) ∧
  (¬ (((320) * x1) + (h.1 116 (ix x1))) ≤ x6 → vp_in x6 640 ∧
  (((h.1 114 (ix x6)) = 0 → KX12_worked_136 x1 x5 x6 h Q k98) ∧
  (¬ (h.1 114 (ix x6)) = 0 → (((h.1 114 (ix x6)) = (1) → KX12_worked_136 x1 x5 x6 h Q k98) ∧
  (¬ (h.1 114 (ix x6)) = (1) → (((h.1 114 (ix x6)) = (2) → vp_in (x5 - (1)) 64 ∧
  (((h.1 118 (ix (x5 - (1)))) = 0 → KX12_worked_217 x1 x5 x6 (1) (x5 - (1)) h Q k98) ∧
  (¬ (h.1 118 (ix (x5 - (1)))) = 0 → KX12_worked_217 x1 x5 x6 (0) (x5 - (1)) h Q k98))) ∧
  (¬ (h.1 114 (ix x6)) = (2) → Lt (x5 + (-1) : Int32) fun v58 =>
  vp_in (v58 - (1)) 64 ∧
  vp_in v58 64 ∧
  MX12_done (h.1 115 (ix x6)) (h.1 118 (ix (v58 - (1)))) (h.1 118 (ix v58)) h fun r64 =>
  Lt (h_i h 118 (ix (v58 - (1))) r64) fun h68 =>
  Lt (x6 + (1) : Int32) fun v70 =>
  k98 v58 v70 h68))))))))
def MX12_worked  (p1 : Int32) (p2 : Int32) (p3 : Int32) (p4 : Int32) (h : ob_H) (Q : Int32 → ob_H → Prop) : Prop :=
  Lt (h_i h 120 0 p3) fun h1 =>
  vp_in p2 7 ∧
  Lt (h_i h1 120 1 (h1.1 129 (ix p2))) fun h5 =>
  vp_in ((7) + p2) 24 ∧
  Lt (h_i h5 120 2 ((h5.1 136 21) - (h5.1 136 (ix ((7) + p2))))) fun h9 =>
  vp_in ((14) + p2) 24 ∧
  Lt (h_i h9 120 3 (h9.1 136 (ix ((14) + p2)))) fun h13 =>
  MX12_heardOnes  h13 fun r15 =>
  Lt (h_i h13 120 4 r15) fun h19 =>
  Lt (h_i h19 120 5 (h19.1 136 21)) fun h21 =>
  Lt (h_i h21 118 0 p4) fun h23 =>
  Lt (((320) * p1) : Int32) fun v25 =>
  lo3 (FX12_worked_98 p1 Q) (0) v25 h23
-- ObjectionsModel.readObjector()V
def FX12_readObjector_162 (x1 : Int32) (Q : ob_H → Prop) (k162 : Int32 → ob_H → Prop) (x2 : Int32) (h : ob_H) : Prop :=
  (((7) ≤ x2 → (((h.1 108 2) = 0 → Lt (h_i h 108 41 ((h.1 108 41) + (1))) fun h76 =>
  Q h76) ∧
  (¬ (h.1 108 2) = 0 → Q h))) ∧
  (¬ (7) ≤ x2 → vp_in (((7) * x1) + x2) 49 ∧
  Lt (h_i h 127 (ix (((7) * x1) + x2)) (0)) fun h80 =>
  vp_in (((7) * x2) + x1) 49 ∧
  Lt (h_i h80 127 (ix (((7) * x2) + x1)) (0)) fun h84 =>
  Lt (x2 + (1) : Int32) fun v86 =>
  k162 v86 h84))
def KX12_readObjector_31 (h : ob_H) (Q : ob_H → Prop)  : Prop :=
  (((h.1 108 2) ≤ 0 → Lt ((h.1 108 41) : Int32) fun v22 =>
  vp_in v22 7 ∧
  Lt (h_l h 110 (ix v22) (h.2.1 108 9)) fun h26 =>
  MX12_token  h26 fun h29 =>
  MX12_told (444300621413) (0) (99) h29 fun r32 h33 =>
  Lt (h_i h33 121 (ix v22) r32) fun h36 =>
  MX12_told (30796695599342963) (1) (60) h36 fun r38 h39 =>
  Lt (h_i h39 122 (ix v22) r38) fun h42 =>
  MX12_option (495873784179) (999) (999) h42 fun r44 h45 =>
  Lt (h_i h45 123 (ix v22) r44) fun h48 =>
  MX12_option (482955846501) (99) (0) h48 fun r50 h51 =>
  Lt (h_i h51 124 (ix v22) r50) fun h54 =>
  MX12_takes (1818326117) h54 fun r56 h57 =>
  MX12_truth r56 h57 fun r60 =>
  Lt (h_i h57 108 47 ((h54.1 108 47) ||| (r60 <<< (v22 &&& 31)))) fun h64 =>
  Lt (h_i h64 125 (ix v22) (0)) fun h66 =>
  Lt (h_i h66 126 (ix v22) (0)) fun h68 =>
  lo2 (FX12_readObjector_162 v22 Q) (0) h68) ∧
  (¬ (h.1 108 2) ≤ 0 → Q h))
def MX12_readObjector  (h : ob_H) (Q : ob_H → Prop) : Prop :=
  MX12_token  h fun h2 =>
  MX12_isName  h2 fun r5 =>
  ((r5 = 0 → MX12_wrong (2) h2 fun h94 =>
  KX12_readObjector_31 h94 Q) ∧
  (¬ r5 = 0 → MX12_find  h2 fun r12 =>
  ((r12 < 0 → KX12_readObjector_31 h2 Q) ∧
  (¬ r12 < 0 → MX12_wrong (3) h2 fun h90 =>
  KX12_readObjector_31 h90 Q))))
-- ObjectionsModel.readFirst()I
def MX12_readFirst  (h : ob_H) (Q : Int32 → ob_H → Prop) : Prop :=
  MX12_token  h fun h2 =>
  MX12_oldOne  h2 fun r5 h6 =>
  (((h6.1 108 2) = 0 → MX12_token  h6 fun h13 =>
  Q r5 h13) ∧
  (¬ (h6.1 108 2) = 0 → Q r5 h6))
-- ObjectionsModel.readSecond(II)I
def KX12_readSecond_31 (x3 : Int32) (h : ob_H) (Q : Int32 → ob_H → Prop)  : Prop :=
  (((h.1 108 2) = 0 → MX12_token  h fun h12 =>
  Q x3 h12) ∧
  (¬ (h.1 108 2) = 0 → Q x3 h))
def KX12_readSecond_26 (x3 : Int32) (h : ob_H) (Q : Int32 → ob_H → Prop)  : Prop :=
  MX12_wrong (3) h fun h19 =>
  KX12_readSecond_31 x3 h19 Q
def MX12_readSecond  (p1 : Int32) (p2 : Int32) (h : ob_H) (Q : Int32 → ob_H → Prop) : Prop :=
  MX12_oldOne  h fun r1 h2 =>
  (((h2.1 108 2) = 0 → ((p1 = r1 → KX12_readSecond_26 r1 h2 Q) ∧
  (¬ p1 = r1 → ((((p2 >>> (r1 &&& 31)) &&& (1)) = (1) → KX12_readSecond_26 r1 h2 Q) ∧
  (¬ ((p2 >>> (r1 &&& 31)) &&& (1)) = (1) → KX12_readSecond_31 r1 h2 Q))))) ∧
  (¬ (h2.1 108 2) = 0 → KX12_readSecond_31 r1 h2 Q))
-- ObjectionsModel.readSettles()V
def MX12_readSettles  (h : ob_H) (Q : ob_H → Prop) : Prop :=
  MX12_readFirst  h fun r1 h2 =>
  vp_in r1 7 ∧
  MX12_readSecond r1 (h2.1 125 (ix r1)) h2 fun r7 h8 =>
  (((h8.1 108 2) ≤ 0 → Lt (h_i h8 125 (ix r1) ((h8.1 125 (ix r1)) ||| ((1) <<< (r7 &&& 31)))) fun h14 =>
  Lt (h_i h14 108 42 ((h14.1 108 42) + (1))) fun h16 =>
  Q h16) ∧
  (¬ (h8.1 108 2) ≤ 0 → Q h8))
-- ObjectionsModel.readBrings()V
def MX12_readBrings  (h : ob_H) (Q : ob_H → Prop) : Prop :=
  MX12_readFirst  h fun r1 h2 =>
  vp_in r1 7 ∧
  MX12_readSecond r1 (h2.1 126 (ix r1)) h2 fun r7 h8 =>
  (((h8.1 108 2) ≤ 0 → Lt (h_i h8 126 (ix r1) ((h8.1 126 (ix r1)) ||| ((1) <<< (r7 &&& 31)))) fun h14 =>
  Lt (h_i h14 108 43 ((h14.1 108 43) + (1))) fun h16 =>
  Q h16) ∧
  (¬ (h8.1 108 2) ≤ 0 → Q h8))
-- ObjectionsModel.readJoined()V
def KX12_readJoined_37 (x1 : Int32) (x3 : Int32) (s0 : Int32) (s1 : Int32) (h : ob_H) (Q : ob_H → Prop) (k9 : Int32 → Int32 → Prop)  : Prop :=
  MX12_truth s0 h fun r34 =>
  Lt ((s1 ||| (r34 <<< (x3 &&& 31))) : Int32) fun v38 =>
  Lt (x3 + (1) : Int32) fun v40 =>
  k9 v38 v40
def FX12_readJoined_9 (x1 : Int32) (h : ob_H) (Q : ob_H → Prop) (k9 : Int32 → Int32 → Prop) (x2 : Int32) (x3 : Int32) : Prop :=
  (((h.1 108 41) ≤ x3 → MX12_readSecond x1 x2 h fun r8 h9 =>
  MX12_toldNumber (1) (99) h9 fun r12 h13 =>
  (((h13.1 108 2) ≤ 0 → vp_in (((7) * x1) + r8) 49 ∧
  Lt (h_i h13 127 (ix (((7) * x1) + r8)) r12) fun h21 =>
  vp_in (((7) * r8) + x1) 49 ∧
  Lt (h_i h21 127 (ix (((7) * r8) + x1)) r12) fun h25 =>
  Lt (h_i h25 108 44 ((h25.1 108 44) + (1))) fun h27 =>
  Q h27) ∧
  (¬ (h13.1 108 2) ≤ 0 → Q h13))) ∧
  (¬ (h.1 108 41) ≤ x3 → vp_in (((7) * x1) + x3) 49 ∧
  (((h.1 127 (ix (((7) * x1) + x3))) ≤ 0 → KX12_readJoined_37 x1 x3 (0) x2 h Q k9) ∧
  (¬ (h.1 127 (ix (((7) * x1) + x3))) ≤ 0 → KX12_readJoined_37 x1 x3 (1) x2 h Q k9))))
def MX12_readJoined  (h : ob_H) (Q : ob_H → Prop) : Prop :=
  MX12_readFirst  h fun r1 h2 =>
  lo2 (FX12_readJoined_9 r1 h2 Q) (0) (0)
-- ObjectionsModel.readLine()V
def KX12_readLine_264 (h : ob_H) (Q : ob_H → Prop)  : Prop :=
  (((h.1 108 2) = 0 → MX12_token  h fun h68 =>
  Q h68) ∧
  (¬ (h.1 108 2) = 0 → Q h))
def KX12_readLine_243 (h : ob_H) (Q : ob_H → Prop)  : Prop :=
  (((h.1 108 2) = 0 → (((h.1 108 6) = (59) → KX12_readLine_264 h Q) ∧
  (¬ (h.1 108 6) = (59) → MX12_wrong (2) h fun h75 =>
  KX12_readLine_264 h75 Q))) ∧
  (¬ (h.1 108 2) = 0 → KX12_readLine_264 h Q))
def KX12_readLine_238 (h : ob_H) (Q : ob_H → Prop)  : Prop :=
  MX12_wrong (2) h fun h58 =>
  KX12_readLine_243 h58 Q
def KX12_readLine_198 (h : ob_H) (Q : ob_H → Prop)  : Prop :=
  MX12_isWord (1685217655) h fun r50 =>
  ((r50 = 0 → KX12_readLine_238 h Q) ∧
  (¬ r50 = 0 → (((h.1 108 52) = 0 → Lt (h_i h 108 52 (1)) fun h81 =>
  MX12_told (1685217655) (0) (999) h81 fun r83 h84 =>
  Lt (h_i h84 108 46 r83) fun h87 =>
  KX12_readLine_243 h87 Q) ∧
  (¬ (h.1 108 52) = 0 → KX12_readLine_238 h Q))))
def KX12_readLine_158 (h : ob_H) (Q : ob_H → Prop)  : Prop :=
  MX12_isWord (6447474) h fun r43 =>
  ((r43 = 0 → KX12_readLine_198 h Q) ∧
  (¬ r43 = 0 → (((h.1 108 51) = 0 → Lt (h_i h 108 51 (1)) fun h92 =>
  MX12_told (6447474) (1) (999) h92 fun r94 h95 =>
  Lt (h_i h95 108 45 r94) fun h98 =>
  KX12_readLine_243 h98 Q) ∧
  (¬ (h.1 108 51) = 0 → KX12_readLine_198 h Q))))
def KX12_readLine_131 (h : ob_H) (Q : ob_H → Prop)  : Prop :=
  MX12_isWord (107127011501426) h fun r36 =>
  ((r36 = 0 → KX12_readLine_158 h Q) ∧
  (¬ r36 = 0 → (((h.1 119 1) = 0 → MX12_formula (1) h fun h104 =>
  KX12_readLine_243 h104 Q) ∧
  (¬ (h.1 119 1) = 0 → KX12_readLine_158 h Q))))
def KX12_readLine_104 (h : ob_H) (Q : ob_H → Prop)  : Prop :=
  MX12_isWord (478660552050) h fun r29 =>
  ((r29 = 0 → KX12_readLine_131 h Q) ∧
  (¬ r29 = 0 → (((h.1 119 0) = 0 → MX12_formula (0) h fun h111 =>
  KX12_readLine_243 h111 Q) ∧
  (¬ (h.1 119 0) = 0 → KX12_readLine_131 h Q))))
def KX12_readLine_78 (h : ob_H) (Q : ob_H → Prop)  : Prop :=
  MX12_isWord (117026742756708) h fun r22 =>
  ((r22 = 0 → KX12_readLine_104 h Q) ∧
  (¬ r22 = 0 → (((6) ≤ (h.1 108 44) → KX12_readLine_104 h Q) ∧
  (¬ (6) ≤ (h.1 108 44) → MX12_readJoined  h fun h118 =>
  KX12_readLine_243 h118 Q))))
def KX12_readLine_52 (h : ob_H) (Q : ob_H → Prop)  : Prop :=
  MX12_isWord (108243534636915) h fun r15 =>
  ((r15 = 0 → KX12_readLine_78 h Q) ∧
  (¬ r15 = 0 → (((6) ≤ (h.1 108 43) → KX12_readLine_78 h Q) ∧
  (¬ (6) ≤ (h.1 108 43) → MX12_readBrings  h fun h125 =>
  KX12_readLine_243 h125 Q))))
def KX12_readLine_26 (h : ob_H) (Q : ob_H → Prop)  : Prop :=
  MX12_isWord (32481173165598067) h fun r8 =>
  ((r8 = 0 → KX12_readLine_52 h Q) ∧
  (¬ r8 = 0 → (((12) ≤ (h.1 108 42) → KX12_readLine_52 h Q) ∧
  (¬ (12) ≤ (h.1 108 42) → MX12_readSettles  h fun h132 =>
  KX12_readLine_243 h132 Q))))
def MX12_readLine  (h : ob_H) (Q : ob_H → Prop) : Prop :=
  MX12_isWord (8026094469620461426) h fun r1 =>
  ((r1 = 0 → KX12_readLine_26 h Q) ∧
  (¬ r1 = 0 → (((7) ≤ (h.1 108 41) → KX12_readLine_26 h Q) ∧
  (¬ (7) ≤ (h.1 108 41) → MX12_readObjector  h fun h139 =>
  KX12_readLine_243 h139 Q))))
-- ObjectionsModel.readAll()V
def FX12_readAll_97 (Q : ob_H → Prop) (k97 : ob_H → Prop)  (h : ob_H) : Prop :=
  (((h.1 108 2) = 0 → (((h.1 108 6) = 0 → Q h) ∧
  (¬ (h.1 108 6) = 0 → MX12_readLine  h fun h46 =>
  k97 h46))) ∧
  (¬ (h.1 108 2) = 0 → Q h))
def MX12_readAll  (h : ob_H) (Q : ob_H → Prop) : Prop :=
  Lt (h_i h 108 5 (h.1 108 1)) fun h1 =>
  Lt (h_i h1 108 1 (0)) fun h3 =>
  Lt (h_i h3 108 4 (0)) fun h5 =>
  Lt (h_i h5 108 2 (0)) fun h7 =>
  Lt (h_i h7 108 3 (-1)) fun h9 =>
  Lt (h_i h9 108 41 (0)) fun h11 =>
  Lt (h_i h11 108 42 (0)) fun h13 =>
  Lt (h_i h13 108 43 (0)) fun h15 =>
  Lt (h_i h15 108 44 (0)) fun h17 =>
  Lt (h_i h17 108 47 (0)) fun h19 =>
  Lt (h_i h19 108 45 (100)) fun h21 =>
  Lt (h_i h21 108 46 (0)) fun h23 =>
  Lt (h_i h23 108 51 (0)) fun h25 =>
  Lt (h_i h25 108 52 (0)) fun h27 =>
  Lt (h_i h27 119 0 (vp_nar .boolean (0))) fun h29 =>
  Lt (h_i h29 119 1 (vp_nar .boolean (0))) fun h31 =>
  Lt (h_i h31 108 22 (0)) fun h33 =>
  MX12_token  h33 fun h36 =>
  lo1 (FX12_readAll_97 Q) h36
-- ObjectionsModel.begin()V
def KX12_begin_54 (x1 : Int32) (s0 : Int32) (s1 : Int32) (h : ob_H) (Q : ob_H → Prop) (k23 : Int32 → ob_H → Prop)  : Prop :=
  vp_in s1 24 ∧
  Lt (h_i h 136 (ix s1) s0) fun h12 =>
  vp_in ((14) + x1) 24 ∧
  Lt (h_i h12 136 (ix ((14) + x1)) x1) fun h16 =>
  Lt (x1 + (1) : Int32) fun v18 =>
  k23 v18 h16
def FX12_begin_23 (Q : ob_H → Prop) (k23 : Int32 → ob_H → Prop) (x1 : Int32) (h : ob_H) : Prop :=
  (((h.1 108 48) ≤ x1 → Q h) ∧
  (¬ (h.1 108 48) ≤ x1 → (((((h.1 108 49) >>> (x1 &&& 31)) &&& (1)) = (1) → KX12_begin_54 x1 (6) x1 h Q k23) ∧
  (¬ (((h.1 108 49) >>> (x1 &&& 31)) &&& (1)) = (1) → KX12_begin_54 x1 (0) x1 h Q k23))))
def FX12_begin_2 (Q : ob_H → Prop) (k2 : Int32 → ob_H → Prop) (x1 : Int32) (h : ob_H) : Prop :=
  (((24) ≤ x1 → lo2 (FX12_begin_23 Q) (0) h) ∧
  (¬ (24) ≤ x1 → vp_in x1 24 ∧
  Lt (h_i h 136 (ix x1) (0)) fun h23 =>
  Lt (x1 + (1) : Int32) fun v25 =>
  k2 v25 h23))
def MX12_begin  (h : ob_H) (Q : ob_H → Prop) : Prop :=
  lo2 (FX12_begin_2 Q) (0) h
-- ObjectionsModel.keepAir()V
def FX12_keepAir_2 (Q : ob_H → Prop) (k2 : Int32 → ob_H → Prop) (x1 : Int32) (h : ob_H) : Prop :=
  (((24) ≤ x1 → Q h) ∧
  (¬ (24) ≤ x1 → vp_in x1 24 ∧
  Lt (h_i h 135 (ix x1) (h.1 136 (ix x1))) fun h6 =>
  Lt (x1 + (1) : Int32) fun v8 =>
  k2 v8 h6))
def MX12_keepAir  (h : ob_H) (Q : ob_H → Prop) : Prop :=
  lo2 (FX12_keepAir_2 Q) (0) h
-- ObjectionsModel.wedding()I
def FX12_wedding_295 (Q : Int32 → ob_H → Prop) (k295 : Int32 → ob_H → Prop) (x1 : Int32) (h : ob_H) : Prop :=
  (((3) ≤ x1 → Q (h.1 108 48) h) ∧
  (¬ (3) ≤ x1 → vp_in x1 3 ∧
  Lt (h_i h 150 (ix x1) (vp_nar .boolean (0))) fun h48 =>
  Lt (x1 + (1) : Int32) fun v50 =>
  k295 v50 h48))
def FX12_wedding_225 (Q : Int32 → ob_H → Prop) (k225 : Int32 → ob_H → Prop) (x1 : Int32) (h : ob_H) : Prop :=
  ((((7) * (h.1 108 48)) ≤ x1 → MX12_begin  h fun h26 =>
  Lt (h_i h26 136 23 (h26.1 108 46)) fun h29 =>
  MX12_keepAir  h29 fun h32 =>
  Lt (h_i h32 108 59 (0)) fun h35 =>
  Lt (h_i h35 108 60 (0)) fun h37 =>
  Lt (h_i h37 108 70 (0)) fun h39 =>
  Lt (h_i h39 108 62 (0)) fun h41 =>
  lo2 (FX12_wedding_295 Q) (0) h41) ∧
  (¬ ((7) * (h.1 108 48)) ≤ x1 → vp_in x1 49 ∧
  Lt (h_i h 134 (ix x1) (h.1 127 (ix x1))) fun h55 =>
  Lt (x1 + (1) : Int32) fun v57 =>
  k225 v57 h55))
def FX12_wedding_137 (Q : Int32 → ob_H → Prop) (k137 : Int32 → ob_H → Prop) (x1 : Int32) (h : ob_H) : Prop :=
  (((h.1 108 48) ≤ x1 → lo2 (FX12_wedding_225 Q) (0) h) ∧
  (¬ (h.1 108 48) ≤ x1 → vp_in x1 7 ∧
  Lt (h_i h 128 (ix x1) (h.1 121 (ix x1))) fun h62 =>
  Lt (h_i h62 129 (ix x1) (h62.1 122 (ix x1))) fun h64 =>
  Lt (h_i h64 130 (ix x1) (h64.1 123 (ix x1))) fun h66 =>
  Lt (h_i h66 131 (ix x1) (h66.1 124 (ix x1))) fun h68 =>
  Lt (h_i h68 132 (ix x1) (h68.1 125 (ix x1))) fun h70 =>
  Lt (h_i h70 133 (ix x1) (h70.1 126 (ix x1))) fun h72 =>
  Lt (x1 + (1) : Int32) fun v74 =>
  k137 v74 h72))
def FX12_wedding_83 (x1 : Int32) (Q : Int32 → ob_H → Prop) (k47 : Int32 → ob_H → Prop) (k83 : Int32 → ob_H → Prop) (x2 : Int32) (h : ob_H) : Prop :=
  vp_in x1 2 ∧
  (((((320) * x1) + (h.1 116 (ix x1))) ≤ x2 → Lt (x1 + (1) : Int32) fun v93 =>
  k47 v93 h) ∧
  (¬ (((320) * x1) + (h.1 116 (ix x1))) ≤ x2 → vp_in x2 640 ∧
  Lt (h_i h 114 (ix x2) (h.1 111 (ix x2))) fun h97 =>
  Lt (h_i h97 115 (ix x2) (h97.1 112 (ix x2))) fun h99 =>
  Lt (x2 + (1) : Int32) fun v101 =>
  k83 v101 h99))
def KX12_wedding_76 (x1 : Int32) (s0 : Int32) (s1 : Int32) (h : ob_H) (Q : Int32 → ob_H → Prop) (k47 : Int32 → ob_H → Prop)  : Prop :=
  vp_in s1 2 ∧
  Lt (h_i h 116 (ix s1) s0) fun h84 =>
  Lt (((320) * x1) : Int32) fun v86 =>
  lo2 (FX12_wedding_83 x1 Q k47) v86 h84
def FX12_wedding_47 (Q : Int32 → ob_H → Prop) (k47 : Int32 → ob_H → Prop) (x1 : Int32) (h : ob_H) : Prop :=
  (((2) ≤ x1 → lo2 (FX12_wedding_137 Q) (0) h) ∧
  (¬ (2) ≤ x1 → vp_in x1 2 ∧
  (((h.1 119 (ix x1)) = 0 → KX12_wedding_76 x1 (0) x1 h Q k47) ∧
  (¬ (h.1 119 (ix x1)) = 0 → KX12_wedding_76 x1 (h.1 113 (ix x1)) x1 h Q k47))))
def MX12_wedding  (h : ob_H) (Q : Int32 → ob_H → Prop) : Prop :=
  MX12_readAll  h fun h2 =>
  (((h2.1 108 2) ≤ 0 → Lt (h_i h2 108 48 (h2.1 108 41)) fun h8 =>
  Lt (h_i h8 108 49 (h8.1 108 47)) fun h10 =>
  Lt (h_i h10 108 50 (h10.1 108 45)) fun h12 =>
  Lt (h_i h12 108 23 (h12.1 108 22)) fun h14 =>
  lo2 (FX12_wedding_47 Q) (0) h14) ∧
  (¬ (h2.1 108 2) ≤ 0 → Q (-1) h2))
-- ObjectionsModel.fault(I)I
def MX12_fault  (p1 : Int32) (h : ob_H) (Q : Int32 → Prop) : Prop :=
  ((p1 = 0 → Q (h.1 108 2)) ∧
  (¬ p1 = 0 → ((p1 = (1) → Q (h.1 108 3)) ∧
  (¬ p1 = (1) → Q (-1)))))
-- ObjectionsModel.isIn(III)Z
def MX12_isIn  (p0 : Int32) (p1 : Int32) (p2 : Int32) (h : ob_H) (Q : Int32 → Prop) : Prop :=
  ((p0 < p1 → Q (0)) ∧
  (¬ p0 < p1 → ((p2 < p0 → Q (0)) ∧
  (¬ p2 < p0 → Q (1)))))
-- ObjectionsModel.isOne(I)Z
def MX12_isOne  (p1 : Int32) (h : ob_H) (Q : Int32 → Prop) : Prop :=
  MX12_isIn p1 (0) ((h.1 108 48) - (1)) h fun r1 =>
  Q r1
-- ObjectionsModel.all()I
def MX12_all  (h : ob_H) (Q : Int32 → Prop) : Prop :=
  Q (((1) <<< ((h.1 108 48) &&& 31)) - (1))
-- ObjectionsModel.members(I)I
def FX12_members_4 (x0 : Int32) (h : ob_H) (Q : Int32 → Prop) (k4 : Int32 → Int32 → Prop) (x1 : Int32) (x2 : Int32) : Prop :=
  (((7) ≤ x2 → Q x1) ∧
  (¬ (7) ≤ x2 → Lt ((x1 + ((x0 >>> (x2 &&& 31)) &&& (1))) : Int32) fun v4 =>
  Lt (x2 + (1) : Int32) fun v6 =>
  k4 v4 v6))
def MX12_members  (p0 : Int32) (h : ob_H) (Q : Int32 → Prop) : Prop :=
  lo2 (FX12_members_4 p0 h Q) (0) (0)
-- ObjectionsModel.load()V
def FX12_load_2 (Q : ob_H → Prop) (k2 : Int32 → ob_H → Prop) (x1 : Int32) (h : ob_H) : Prop :=
  (((24) ≤ x1 → Q h) ∧
  (¬ (24) ≤ x1 → vp_in x1 24 ∧
  Lt (h_i h 136 (ix x1) (h.1 135 (ix x1))) fun h6 =>
  Lt (x1 + (1) : Int32) fun v8 =>
  k2 v8 h6))
def MX12_load  (h : ob_H) (Q : ob_H → Prop) : Prop :=
  lo2 (FX12_load_2 Q) (0) h
-- ObjectionsModel.thatAre(I)I
def KX12_thatAre_28 (x1 : Int32) (x3 : Int32) (s0 : Int32) (s1 : Int32) (h : ob_H) (Q : Int32 → Prop) (k4 : Int32 → Int32 → Prop)  : Prop :=
  MX12_truth s0 h fun r9 =>
  Lt ((s1 ||| (r9 <<< (x3 &&& 31))) : Int32) fun v13 =>
  Lt (x3 + (1) : Int32) fun v15 =>
  k4 v13 v15
def FX12_thatAre_4 (x1 : Int32) (h : ob_H) (Q : Int32 → Prop) (k4 : Int32 → Int32 → Prop) (x2 : Int32) (x3 : Int32) : Prop :=
  (((h.1 108 48) ≤ x3 → Q x2) ∧
  (¬ (h.1 108 48) ≤ x3 → vp_in x3 24 ∧
  (((h.1 136 (ix x3)) = x1 → KX12_thatAre_28 x1 x3 (1) x2 h Q k4) ∧
  (¬ (h.1 136 (ix x3)) = x1 → KX12_thatAre_28 x1 x3 (0) x2 h Q k4))))
def MX12_thatAre  (p1 : Int32) (h : ob_H) (Q : Int32 → Prop) : Prop :=
  lo2 (FX12_thatAre_4 p1 h Q) (0) (0)
-- ObjectionsModel.rankOf(I)I
def MX12_rankOf  (p1 : Int32) (h : ob_H) (Q : Int32 → ob_H → Prop) : Prop :=
  vp_in p1 7 ∧
  MX12_worked (0) p1 (h.1 128 (ix p1)) (h.1 128 (ix p1)) h fun r3 h4 =>
  Q r3 h4
-- ObjectionsModel.isAhead(IIII)Z
def MX12_isAhead  (p1 : Int32) (p2 : Int32) (p3 : Int32) (p4 : Int32) (h : ob_H) (Q : Int32 → Prop) : Prop :=
  ((p4 < p2 → Q (1)) ∧
  (¬ p4 < p2 → ((p2 = p4 → vp_in ((14) + p1) 24 ∧
  vp_in ((14) + p3) 24 ∧
  (((h.1 136 (ix ((14) + p3))) ≤ (h.1 136 (ix ((14) + p1))) → Q (0)) ∧
  (¬ (h.1 136 (ix ((14) + p3))) ≤ (h.1 136 (ix ((14) + p1))) → Q (1)))) ∧
  (¬ p2 = p4 → Q (0)))))
-- ObjectionsModel.turnOf()I
def FX12_turnOf_4 (Q : Int32 → ob_H → Prop) (k4 : Int32 → Int32 → ob_H → Prop) (x1 : Int32) (x2 : Int32) (h : ob_H) : Prop :=
  (((h.1 108 48) ≤ x2 → Q x1 h) ∧
  (¬ (h.1 108 48) ≤ x2 → vp_in x2 24 ∧
  (((h.1 136 (ix x2)) = 0 → ((x1 < 0 → Lt (x2 + (1) : Int32) fun v14 =>
  k4 x2 v14 h) ∧
  (¬ x1 < 0 → MX12_rankOf x2 h fun r16 h17 =>
  MX12_rankOf x1 h17 fun r20 h21 =>
  MX12_isAhead x2 r16 x1 r20 h21 fun r24 =>
  ((r24 = 0 → Lt (x2 + (1) : Int32) fun v31 =>
  k4 x1 v31 h21) ∧
  (¬ r24 = 0 → Lt (x2 + (1) : Int32) fun v33 =>
  k4 x2 v33 h21))))) ∧
  (¬ (h.1 136 (ix x2)) = 0 → Lt (x2 + (1) : Int32) fun v9 =>
  k4 x1 v9 h))))
def MX12_turnOf  (h : ob_H) (Q : Int32 → ob_H → Prop) : Prop :=
  lo3 (FX12_turnOf_4 Q) (-1) (0) h
-- ObjectionsModel.leave()I
def FX12_leave_4 (Q : Int32 → ob_H → Prop) (k4 : Int32 → Int32 → ob_H → Prop) (x1 : Int32) (x2 : Int32) (h : ob_H) : Prop :=
  (((h.1 108 48) ≤ x2 → Q x1 h) ∧
  (¬ (h.1 108 48) ≤ x2 → vp_in x2 24 ∧
  (((h.1 136 (ix x2)) = 0 → vp_in ((7) + x2) 24 ∧
  vp_in x2 7 ∧
  (((h.1 130 (ix x2)) < ((h.1 136 21) - (h.1 136 (ix ((7) + x2)))) → Lt (h_i h 136 (ix x2) (4)) fun h18 =>
  Lt (x1 + (1) : Int32) fun v20 =>
  Lt (x2 + (1) : Int32) fun v22 =>
  k4 v20 v22 h18) ∧
  (¬ (h.1 130 (ix x2)) < ((h.1 136 21) - (h.1 136 (ix ((7) + x2)))) → Lt (x2 + (1) : Int32) fun v24 =>
  k4 x1 v24 h))) ∧
  (¬ (h.1 136 (ix x2)) = 0 → Lt (x2 + (1) : Int32) fun v9 =>
  k4 x1 v9 h))))
def MX12_leave  (h : ob_H) (Q : Int32 → ob_H → Prop) : Prop :=
  lo3 (FX12_leave_4 Q) (0) (0) h
-- ObjectionsModel.goHear(II)V
def FX12_goHear_71 (x1 : Int32) (Q : ob_H → Prop) (k71 : Int32 → ob_H → Prop) (x3 : Int32) (h : ob_H) : Prop :=
  (((h.1 108 48) ≤ x3 → MX12_leave  h fun r15 h16 =>
  Q h16) ∧
  (¬ (h.1 108 48) ≤ x3 → vp_in x1 7 ∧
  (((((h.1 133 (ix x1)) >>> (x3 &&& 31)) &&& (1)) = 0 → Lt (x3 + (1) : Int32) fun v24 =>
  k71 v24 h) ∧
  (¬ (((h.1 133 (ix x1)) >>> (x3 &&& 31)) &&& (1)) = 0 → vp_in x3 24 ∧
  (((h.1 136 (ix x3)) = (6) → Lt (h_i h 136 (ix x3) (0)) fun h31 =>
  vp_in ((7) + x3) 24 ∧
  Lt (h_i h31 136 (ix ((7) + x3)) (h31.1 136 21)) fun h35 =>
  Lt (x3 + (1) : Int32) fun v37 =>
  k71 v37 h35) ∧
  (¬ (h.1 136 (ix x3)) = (6) → Lt (x3 + (1) : Int32) fun v39 =>
  k71 v39 h))))))
def FX12_goHear_25 (x1 : Int32) (Q : ob_H → Prop) (k25 : Int32 → ob_H → Prop) (x3 : Int32) (h : ob_H) : Prop :=
  (((h.1 108 48) ≤ x3 → lo2 (FX12_goHear_71 x1 Q) (0) h) ∧
  (¬ (h.1 108 48) ≤ x3 → vp_in x1 7 ∧
  (((((h.1 132 (ix x1)) >>> (x3 &&& 31)) &&& (1)) = (1) → vp_in x3 24 ∧
  (((h.1 136 (ix x3)) = 0 → Lt (h_i h 136 (ix x3) (3)) fun h56 =>
  Lt (x3 + (1) : Int32) fun v58 =>
  k25 v58 h56) ∧
  (¬ (h.1 136 (ix x3)) = 0 → Lt (x3 + (1) : Int32) fun v54 =>
  k25 v54 h))) ∧
  (¬ (((h.1 132 (ix x1)) >>> (x3 &&& 31)) &&& (1)) = (1) → Lt (x3 + (1) : Int32) fun v47 =>
  k25 v47 h))))
def MX12_goHear  (p1 : Int32) (p2 : Int32) (h : ob_H) (Q : ob_H → Prop) : Prop :=
  vp_in p1 7 ∧
  Lt (h_i h 136 21 ((h.1 136 21) + (h.1 129 (ix p1)))) fun h3 =>
  vp_in p1 24 ∧
  Lt (h_i h3 136 (ix p1) p2) fun h7 =>
  lo2 (FX12_goHear_25 p1 Q) (0) h7
-- ObjectionsModel.goOn()I
def FX12_goOn_10 (Q : Int32 → ob_H → Prop) (k10 : Int32 → ob_H → Prop) (x1 : Int32) (h : ob_H) : Prop :=
  ((x1 < 0 → Q (h.1 136 21) h) ∧
  (¬ x1 < 0 → vp_in (h.1 108 57) 7 ∧
  Lt (h_i h 137 (ix (h.1 108 57)) x1) fun h12 =>
  vp_in (h12.1 108 57) 7 ∧
  Lt (h_i h12 138 (ix (h12.1 108 57)) (h12.1 136 21)) fun h16 =>
  Lt (h_i h16 108 57 ((h16.1 108 57) + (1))) fun h18 =>
  MX12_goHear x1 (1) h18 fun h21 =>
  MX12_turnOf  h21 fun r24 h25 =>
  k10 r24 h25))
def MX12_goOn  (h : ob_H) (Q : Int32 → ob_H → Prop) : Prop :=
  Lt (h_i h 108 57 (0)) fun h1 =>
  MX12_turnOf  h1 fun r3 h4 =>
  lo2 (FX12_goOn_10 Q) r3 h4
-- ObjectionsModel.duskNow()I
def MX12_duskNow  (h : ob_H) (Q : Int32 → ob_H → Prop) : Prop :=
  MX12_load  h fun h2 =>
  MX12_goOn  h2 fun r5 h6 =>
  Q r5 h6
-- ObjectionsModel.objector(II)I
def MX12_objector  (p1 : Int32) (p2 : Int32) (h : ob_H) (Q : Int32 → Prop) : Prop :=
  MX12_isOne p1 h fun r1 =>
  ((r1 = 0 → Q (-2)) ∧
  (¬ r1 = 0 → ((p2 = (0) → vp_in p1 24 ∧
  Q (h.1 135 (ix p1))) ∧
  (¬ p2 = (0) → ((p2 = (1) → vp_in p1 7 ∧
  Q (h.1 128 (ix p1))) ∧
  (¬ p2 = (1) → ((p2 = (2) → vp_in p1 7 ∧
  Q (h.1 129 (ix p1))) ∧
  (¬ p2 = (2) → ((p2 = (3) → vp_in ((14) + p1) 24 ∧
  Q (h.1 135 (ix ((14) + p1)))) ∧
  (¬ p2 = (3) → ((p2 = (4) → vp_in p1 24 ∧
  (((h.1 135 (ix p1)) = 0 → vp_in ((7) + p1) 24 ∧
  Q ((h.1 135 21) - (h.1 135 (ix ((7) + p1))))) ∧
  (¬ (h.1 135 (ix p1)) = 0 → Q (0)))) ∧
  (¬ p2 = (4) → ((p2 = (5) → vp_in p1 7 ∧
  Q (h.1 131 (ix p1))) ∧
  (¬ p2 = (5) → ((p2 = (6) → vp_in p1 7 ∧
  Q (h.1 132 (ix p1))) ∧
  (¬ p2 = (6) → ((p2 = (7) → vp_in p1 7 ∧
  Q (h.1 133 (ix p1))) ∧
  (¬ p2 = (7) → Q (-2)))))))))))))))))))
-- ObjectionsModel.isWaiting(I)Z
def MX12_isWaiting  (p1 : Int32) (h : ob_H) (Q : Int32 → Prop) : Prop :=
  MX12_isOne p1 h fun r1 =>
  ((r1 = 0 → Q (0)) ∧
  (¬ r1 = 0 → vp_in p1 24 ∧
  (((h.1 135 (ix p1)) = 0 → Q (1)) ∧
  (¬ (h.1 135 (ix p1)) = 0 → Q (0)))))
-- ObjectionsModel.ranks(I)I
def MX12_ranks  (p1 : Int32) (h : ob_H) (Q : Int32 → ob_H → Prop) : Prop :=
  MX12_load  h fun h2 =>
  MX12_isWaiting p1 h2 fun r5 =>
  ((r5 = 0 → Q (-1000000000) h2) ∧
  (¬ r5 = 0 → MX12_rankOf p1 h2 fun r12 h13 =>
  Q r12 h13))
-- ObjectionsModel.act()V
def FX12_act_51 (Q : ob_H → Prop) (k51 : Int32 → ob_H → Prop) (x1 : Int32) (h : ob_H) : Prop :=
  (((24) ≤ x1 → Lt (h_i h 108 59 ((h.1 108 59) + (1))) fun h7 =>
  Lt (h_i h7 108 60 (0)) fun h9 =>
  MX12_load  h9 fun h12 =>
  Q h12) ∧
  (¬ (24) ≤ x1 → vp_in x1 24 ∧
  vp_in (((24) * (h.1 108 59)) + x1) 960 ∧
  Lt (h_i h 139 (ix (((24) * (h.1 108 59)) + x1)) (h.1 135 (ix x1))) fun h19 =>
  Lt (x1 + (1) : Int32) fun v21 =>
  k51 v21 h19))
def FX12_act_11 (Q : ob_H → Prop) (k11 : Int32 → ob_H → Prop) (x1 : Int32) (h : ob_H) : Prop :=
  (((936) ≤ x1 → Lt (h_i h 108 59 ((h.1 108 59) - (1))) fun h27 =>
  lo2 (FX12_act_51 Q) (0) h27) ∧
  (¬ (936) ≤ x1 → vp_in ((24) + x1) 960 ∧
  vp_in x1 960 ∧
  Lt (h_i h 139 (ix x1) (h.1 139 (ix ((24) + x1)))) fun h34 =>
  Lt (x1 + (1) : Int32) fun v36 =>
  k11 v36 h34))
def MX12_act  (h : ob_H) (Q : ob_H → Prop) : Prop :=
  (((h.1 108 59) = (40) → lo2 (FX12_act_11 Q) (0) h) ∧
  (¬ (h.1 108 59) = (40) → lo2 (FX12_act_51 Q) (0) h))
-- ObjectionsModel.exchange(I)V
def FX12_exchange_2 (x1 : Int32) (Q : ob_H → Prop) (k2 : Int32 → ob_H → Prop) (x2 : Int32) (h : ob_H) : Prop :=
  (((24) ≤ x2 → Q h) ∧
  (¬ (24) ≤ x2 → vp_in (x1 + x2) 960 ∧
  Lt ((h.1 139 (ix (x1 + x2))) : Int32) fun v6 =>
  vp_in x2 24 ∧
  Lt (h_i h 139 (ix (x1 + x2)) (h.1 135 (ix x2))) fun h10 =>
  Lt (h_i h10 135 (ix x2) v6) fun h12 =>
  Lt (x2 + (1) : Int32) fun v14 =>
  k2 v14 h12))
def MX12_exchange  (p1 : Int32) (h : ob_H) (Q : ob_H → Prop) : Prop :=
  lo2 (FX12_exchange_2 p1 Q) (0) h
-- ObjectionsModel.answerOf(I)I
def MX12_answerOf  (p1 : Int32) (h : ob_H) (Q : Int32 → ob_H → Prop) : Prop :=
  vp_in p1 7 ∧
  MX12_worked (1) p1 (h.1 128 (ix p1)) (100) h fun r3 h4 =>
  Q r3 h4
-- ObjectionsModel.hear()I
def KX12_hear_71 (x1 : Int32) (s0 : Int32) (s1 : Int32) (h : ob_H) (Q : Int32 → ob_H → Prop)  : Prop :=
  MX12_goHear s1 s0 h fun h26 =>
  MX12_keepAir  h26 fun h30 =>
  Q x1 h30
def MX12_hear  (h : ob_H) (Q : Int32 → ob_H → Prop) : Prop :=
  MX12_load  h fun h2 =>
  MX12_turnOf  h2 fun r5 h6 =>
  ((0 ≤ r5 → MX12_act  h6 fun h13 =>
  MX12_answerOf r5 h13 fun r16 h17 =>
  Lt (h_i h17 136 23 (irm (((h17.1 136 23) * (137)) + (71)) (1000))) fun h20 =>
  ((r16 ≤ (irm (h20.1 136 23) (100)) → KX12_hear_71 r5 (2) r5 h20 Q) ∧
  (¬ r16 ≤ (irm (h20.1 136 23) (100)) → KX12_hear_71 r5 (1) r5 h20 Q))) ∧
  (¬ 0 ≤ r5 → Q (-1) h6))
-- ObjectionsModel.buy(I)I
def MX12_buy  (p1 : Int32) (h : ob_H) (Q : Int32 → ob_H → Prop) : Prop :=
  MX12_isWaiting p1 h fun r1 =>
  ((r1 = 0 → Q (-1) h) ∧
  (¬ r1 = 0 → MX12_act  h fun h9 =>
  vp_in p1 24 ∧
  Lt (h_i h9 135 (ix p1) (5)) fun h14 =>
  vp_in p1 7 ∧
  Lt (h_i h14 135 22 ((h14.1 135 22) + (h14.1 131 (ix p1)))) fun h18 =>
  Q (h18.1 135 22) h18))
-- ObjectionsModel.pause(I)I
def MX12_pause  (p1 : Int32) (h : ob_H) (Q : Int32 → ob_H → Prop) : Prop :=
  MX12_isIn p1 (1) (60) h fun r1 =>
  ((r1 = 0 → Q (-1) h) ∧
  (¬ r1 = 0 → MX12_act  h fun h9 =>
  Lt (h_i h9 136 21 ((h9.1 136 21) + p1)) fun h12 =>
  MX12_leave  h12 fun r14 h15 =>
  MX12_keepAir  h15 fun h19 =>
  Q r14 h19))
-- ObjectionsModel.changeNumbers(II)V
def MX12_changeNumbers  (p1 : Int32) (p2 : Int32) (h : ob_H) (Q : ob_H → Prop) : Prop :=
  vp_in ((14) + p1) 24 ∧
  Lt ((h.1 136 (ix ((14) + p1))) : Int32) fun v3 =>
  vp_in ((14) + p2) 24 ∧
  Lt (h_i h 136 (ix ((14) + p1)) (h.1 136 (ix ((14) + p2)))) fun h7 =>
  Lt (h_i h7 136 (ix ((14) + p2)) v3) fun h9 =>
  Q h9
-- ObjectionsModel.trade(II)I
def MX12_trade  (p1 : Int32) (p2 : Int32) (h : ob_H) (Q : Int32 → ob_H → Prop) : Prop :=
  MX12_isWaiting p1 h fun r1 =>
  ((r1 = 0 → Q (-1) h) ∧
  (¬ r1 = 0 → MX12_isWaiting p2 h fun r8 =>
  ((r8 = 0 → Q (-1) h) ∧
  (¬ r8 = 0 → ((p1 = p2 → Q (-1) h) ∧
  (¬ p1 = p2 → MX12_act  h fun h19 =>
  MX12_changeNumbers p1 p2 h19 fun h23 =>
  MX12_keepAir  h23 fun h27 =>
  vp_in ((14) + p1) 24 ∧
  Q (h27.1 135 (ix ((14) + p1))) h27))))))
-- ObjectionsModel.undo()Z
def MX12_undo  (h : ob_H) (Q : Int32 → ob_H → Prop) : Prop :=
  (((h.1 108 59) = 0 → Q (0) h) ∧
  (¬ (h.1 108 59) = 0 → Lt (h_i h 108 59 ((h.1 108 59) - (1))) fun h4 =>
  Lt (h_i h4 108 60 ((h4.1 108 60) + (1))) fun h6 =>
  MX12_exchange ((24) * (h6.1 108 59)) h6 fun h9 =>
  Q (1) h9))
-- ObjectionsModel.redo()Z
def MX12_redo  (h : ob_H) (Q : Int32 → ob_H → Prop) : Prop :=
  (((h.1 108 60) = 0 → Q (0) h) ∧
  (¬ (h.1 108 60) = 0 → MX12_exchange ((24) * (h.1 108 59)) h fun h5 =>
  Lt (h_i h5 108 59 ((h5.1 108 59) + (1))) fun h8 =>
  Lt (h_i h8 108 60 ((h8.1 108 60) - (1))) fun h10 =>
  Q (1) h10))
-- ObjectionsModel.next()I
def MX12_next  (h : ob_H) (Q : Int32 → ob_H → Prop) : Prop :=
  MX12_load  h fun h2 =>
  MX12_turnOf  h2 fun r5 h6 =>
  Q r5 h6
-- ObjectionsModel.queue()I
def FX12_queue_23 (x1 : Int32) (Q : Int32 → ob_H → Prop) (k15 : Int32 → ob_H → Prop) (k23 : Int32 → Int32 → ob_H → Prop) (x2 : Int32) (x3 : Int32) (h : ob_H) : Prop :=
  (((h.1 108 48) ≤ x3 → vp_in (h.1 108 62) 7 ∧
  Lt (h_i h 140 (ix (h.1 108 62)) x2) fun h19 =>
  Lt (h_i h19 108 62 ((h19.1 108 62) + (1))) fun h21 =>
  Lt ((x1 &&& (((1) <<< (x2 &&& 31)) ^^^ (-1))) : Int32) fun v23 =>
  k15 v23 h21) ∧
  (¬ (h.1 108 48) ≤ x3 → ((((x1 >>> (x3 &&& 31)) &&& (1)) = (1) → ((x2 < 0 → Lt (x3 + (1) : Int32) fun v33 =>
  k23 x3 v33 h) ∧
  (¬ x2 < 0 → MX12_rankOf x3 h fun r35 h36 =>
  MX12_rankOf x2 h36 fun r39 h40 =>
  MX12_isAhead x3 r35 x2 r39 h40 fun r43 =>
  ((r43 = 0 → Lt (x3 + (1) : Int32) fun v50 =>
  k23 x2 v50 h40) ∧
  (¬ r43 = 0 → Lt (x3 + (1) : Int32) fun v52 =>
  k23 x3 v52 h40))))) ∧
  (¬ ((x1 >>> (x3 &&& 31)) &&& (1)) = (1) → Lt (x3 + (1) : Int32) fun v28 =>
  k23 x2 v28 h))))
def FX12_queue_15 (Q : Int32 → ob_H → Prop) (k15 : Int32 → ob_H → Prop) (x1 : Int32) (h : ob_H) : Prop :=
  ((x1 = 0 → Q (h.1 108 62) h) ∧
  (¬ x1 = 0 → lo3 (FX12_queue_23 x1 Q k15) (-1) (0) h))
def MX12_queue  (h : ob_H) (Q : Int32 → ob_H → Prop) : Prop :=
  MX12_load  h fun h2 =>
  MX12_thatAre (0) h2 fun r5 =>
  Lt (h_i h2 108 62 (0)) fun h9 =>
  lo2 (FX12_queue_15 Q) r5 h9
-- ObjectionsModel.dusk()I
def MX12_dusk  (h : ob_H) (Q : Int32 → ob_H → Prop) : Prop :=
  MX12_duskNow  h fun r1 h2 =>
  Q r1 h2
-- ObjectionsModel.when(I)I
def FX12_when_17 (x1 : Int32) (h : ob_H) (Q : Int32 → ob_H → Prop) (k17 : Int32 → Prop) (x2 : Int32) : Prop :=
  (((h.1 108 57) ≤ x2 → Q (-1) h) ∧
  (¬ (h.1 108 57) ≤ x2 → vp_in x2 7 ∧
  (((h.1 137 (ix x2)) = x1 → Q (h.1 138 (ix x2)) h) ∧
  (¬ (h.1 137 (ix x2)) = x1 → Lt (x2 + (1) : Int32) fun v20 =>
  k17 v20))))
def MX12_when  (p1 : Int32) (h : ob_H) (Q : Int32 → ob_H → Prop) : Prop :=
  MX12_isOne p1 h fun r1 =>
  ((r1 = 0 → Q (-1) h) ∧
  (¬ r1 = 0 → MX12_duskNow  h fun r8 h9 =>
  lo1 (FX12_when_17 p1 h9 Q) (0)))
-- ObjectionsModel.course()I
def FX12_course_7 (Q : Int32 → ob_H → Prop) (k7 : Int32 → ob_H → Prop) (x1 : Int32) (h : ob_H) : Prop :=
  (((h.1 108 57) ≤ x1 → Lt (h_i h 108 62 (h.1 108 57)) fun h8 =>
  Q (h8.1 108 57) h8) ∧
  (¬ (h.1 108 57) ≤ x1 → vp_in x1 7 ∧
  Lt (h_i h 140 (ix x1) (h.1 137 (ix x1))) fun h12 =>
  Lt (x1 + (1) : Int32) fun v14 =>
  k7 v14 h12))
def MX12_course  (h : ob_H) (Q : Int32 → ob_H → Prop) : Prop :=
  MX12_duskNow  h fun r1 h2 =>
  lo2 (FX12_course_7 Q) (0) h2
-- ObjectionsModel.leavers()I
def MX12_leavers  (h : ob_H) (Q : Int32 → ob_H → Prop) : Prop :=
  MX12_load  h fun h2 =>
  MX12_thatAre (0) h2 fun r5 =>
  MX12_goOn  h2 fun r9 h10 =>
  MX12_thatAre (4) h10 fun r13 =>
  Q (r5 &&& r13) h10
-- ObjectionsModel.putAhead(I)V
def FX12_putAhead_2 (x1 : Int32) (Q : ob_H → Prop) (k2 : Int32 → ob_H → Prop) (x2 : Int32) (h : ob_H) : Prop :=
  (((24) ≤ x2 → Q h) ∧
  (¬ (24) ≤ x2 → vp_in x2 24 ∧
  vp_in (((24) * x1) + x2) 192 ∧
  Lt (h_i h 142 (ix (((24) * x1) + x2)) (h.1 136 (ix x2))) fun h8 =>
  Lt (x2 + (1) : Int32) fun v10 =>
  k2 v10 h8))
def MX12_putAhead  (p1 : Int32) (h : ob_H) (Q : ob_H → Prop) : Prop :=
  lo2 (FX12_putAhead_2 p1 Q) (0) h
-- ObjectionsModel.takeAhead(I)V
def FX12_takeAhead_2 (x1 : Int32) (Q : ob_H → Prop) (k2 : Int32 → ob_H → Prop) (x2 : Int32) (h : ob_H) : Prop :=
  (((24) ≤ x2 → Q h) ∧
  (¬ (24) ≤ x2 → vp_in (((24) * x1) + x2) 192 ∧
  vp_in x2 24 ∧
  Lt (h_i h 136 (ix x2) (h.1 142 (ix (((24) * x1) + x2)))) fun h8 =>
  Lt (x2 + (1) : Int32) fun v10 =>
  k2 v10 h8))
def MX12_takeAhead  (p1 : Int32) (h : ob_H) (Q : ob_H → Prop) : Prop :=
  lo2 (FX12_takeAhead_2 p1 Q) (0) h
-- ObjectionsModel.soonest()I
def KX12_soonest_133 (x1 : Int32) (x2 : Int32) (x3 : Int32) (h : ob_H) (Q : Int32 → ob_H → Prop) (k27 : Int32 → Int32 → ob_H → Prop)  : Prop :=
  vp_in x2 8 ∧
  Lt (h_i h 141 (ix x2) x3) fun h36 =>
  ((x3 < (h36.1 108 48) → MX12_goHear x3 (1) h36 fun h42 =>
  Lt (x2 + (1) : Int32) fun v45 =>
  MX12_putAhead v45 h42 fun h48 =>
  vp_in v45 8 ∧
  Lt (h_i h48 141 (ix v45) (-1)) fun h53 =>
  k27 x1 v45 h53) ∧
  (¬ x3 < (h36.1 108 48) → Lt (x2 + (-1) : Int32) fun v55 =>
  k27 x1 v55 h36))
def FX12_soonest_110 (x1 : Int32) (x2 : Int32) (h : ob_H) (Q : Int32 → ob_H → Prop) (k27 : Int32 → Int32 → ob_H → Prop) (k110 : Int32 → Prop) (x3 : Int32) : Prop :=
  (((h.1 108 48) ≤ x3 → KX12_soonest_133 x1 x2 x3 h Q k27) ∧
  (¬ (h.1 108 48) ≤ x3 → vp_in x3 24 ∧
  (((h.1 136 (ix x3)) = 0 → KX12_soonest_133 x1 x2 x3 h Q k27) ∧
  (¬ (h.1 136 (ix x3)) = 0 → Lt (x3 + (1) : Int32) fun v62 =>
  k110 v62))))
def FX12_soonest_79 (x1 : Int32) (x2 : Int32) (x3 : Int32) (Q : Int32 → ob_H → Prop) (k27 : Int32 → Int32 → ob_H → Prop) (k79 : Int32 → ob_H → Prop) (x4 : Int32) (h : ob_H) : Prop :=
  ((x2 ≤ x4 → Lt (h_i h 108 62 x2) fun h78 =>
  lo1 (FX12_soonest_110 x1 x2 h78 Q k27) x3) ∧
  (¬ x2 ≤ x4 → vp_in x4 8 ∧
  vp_in x4 7 ∧
  Lt (h_i h 140 (ix x4) (h.1 141 (ix x4))) fun h85 =>
  Lt (x4 + (1) : Int32) fun v87 =>
  k79 v87 h85))
def FX12_soonest_27 (Q : Int32 → ob_H → Prop) (k27 : Int32 → Int32 → ob_H → Prop) (x1 : Int32) (x2 : Int32) (h : ob_H) : Prop :=
  ((x2 < 0 → Q x1 h) ∧
  (¬ x2 < 0 → MX12_takeAhead x2 h fun h17 =>
  vp_in x2 8 ∧
  Lt (((h17.1 141 (ix x2)) + (1)) : Int32) fun v22 =>
  MX12_thatAre (0) h17 fun r24 =>
  ((r24 = 0 → ((v22 = 0 → ((x1 ≤ (h17.1 136 21) → lo1 (FX12_soonest_110 x1 x2 h17 Q k27) v22) ∧
  (¬ x1 ≤ (h17.1 136 21) → Lt ((h17.1 136 21) : Int32) fun v73 =>
  lo2 (FX12_soonest_79 v73 x2 v22 Q k27) (0) h17))) ∧
  (¬ v22 = 0 → lo1 (FX12_soonest_110 x1 x2 h17 Q k27) v22))) ∧
  (¬ r24 = 0 → lo1 (FX12_soonest_110 x1 x2 h17 Q k27) v22))))
def MX12_soonest  (h : ob_H) (Q : Int32 → ob_H → Prop) : Prop :=
  MX12_load  h fun h2 =>
  Lt (h_i h2 108 62 (0)) fun h5 =>
  MX12_putAhead (0) h5 fun h8 =>
  Lt (h_i h8 141 0 (-1)) fun h11 =>
  lo3 (FX12_soonest_27 Q) (1000000000) (0) h11
-- ObjectionsModel.first(I)I
def FX12_first_20 (x1 : Int32) (Q : Int32 → ob_H → Prop) (k20 : Int32 → Int32 → Int32 → ob_H → Prop) (x2 : Int32) (x3 : Int32) (x4 : Int32) (h : ob_H) : Prop :=
  (((h.1 108 48) ≤ x4 → ((0 ≤ x2 → ((x1 = 0 → Q x2 h) ∧
  (¬ x1 = 0 → Q x3 h))) ∧
  (¬ 0 ≤ x2 → Q (-1) h))) ∧
  (¬ (h.1 108 48) ≤ x4 → vp_in x4 24 ∧
  (((h.1 135 (ix x4)) = 0 → MX12_load  h fun h23 =>
  MX12_goHear x4 (1) h23 fun h27 =>
  MX12_goOn  h27 fun r30 h31 =>
  ((r30 < x3 → Lt (x4 + (1) : Int32) fun v37 =>
  k20 x4 r30 v37 h31) ∧
  (¬ r30 < x3 → Lt (x4 + (1) : Int32) fun v39 =>
  k20 x2 x3 v39 h31))) ∧
  (¬ (h.1 135 (ix x4)) = 0 → Lt (x4 + (1) : Int32) fun v41 =>
  k20 x2 x3 v41 h))))
def MX12_first  (p1 : Int32) (h : ob_H) (Q : Int32 → ob_H → Prop) : Prop :=
  MX12_isIn p1 (0) (1) h fun r1 =>
  ((r1 = 0 → Q (-1) h) ∧
  (¬ r1 = 0 → lo4 (FX12_first_20 p1 Q) (-1) (1000000000) (0) h))
-- ObjectionsModel.duskWithout(I)I
def FX12_duskWithout_6 (x1 : Int32) (Q : Int32 → ob_H → Prop) (k6 : Int32 → ob_H → Prop) (x2 : Int32) (h : ob_H) : Prop :=
  (((h.1 108 48) ≤ x2 → MX12_goOn  h fun r8 h9 =>
  Q r8 h9) ∧
  (¬ (h.1 108 48) ≤ x2 → ((((x1 >>> (x2 &&& 31)) &&& (1)) = (1) → vp_in x2 24 ∧
  Lt (h_i h 136 (ix x2) (5)) fun h19 =>
  Lt (x2 + (1) : Int32) fun v21 =>
  k6 v21 h19) ∧
  (¬ ((x1 >>> (x2 &&& 31)) &&& (1)) = (1) → Lt (x2 + (1) : Int32) fun v15 =>
  k6 v15 h))))
def MX12_duskWithout  (p1 : Int32) (h : ob_H) (Q : Int32 → ob_H → Prop) : Prop :=
  MX12_load  h fun h2 =>
  lo2 (FX12_duskWithout_6 p1 Q) (0) h2
-- ObjectionsModel.priceOf(I)I
def FX12_priceOf_4 (x1 : Int32) (h : ob_H) (Q : Int32 → Prop) (k4 : Int32 → Int32 → Prop) (x2 : Int32) (x3 : Int32) : Prop :=
  (((h.1 108 48) ≤ x3 → Q x2) ∧
  (¬ (h.1 108 48) ≤ x3 → ((((x1 >>> (x3 &&& 31)) &&& (1)) = (1) → vp_in x3 7 ∧
  Lt ((x2 + (h.1 131 (ix x3))) : Int32) fun v13 =>
  Lt (x3 + (1) : Int32) fun v15 =>
  k4 v13 v15) ∧
  (¬ ((x1 >>> (x3 &&& 31)) &&& (1)) = (1) → Lt ((x2 + (0)) : Int32) fun v7 =>
  Lt (x3 + (1) : Int32) fun v9 =>
  k4 v7 v9))))
def MX12_priceOf  (p1 : Int32) (h : ob_H) (Q : Int32 → Prop) : Prop :=
  lo2 (FX12_priceOf_4 p1 h Q) (0) (0)
-- ObjectionsModel.waitingNow()I
def MX12_waitingNow  (h : ob_H) (Q : Int32 → ob_H → Prop) : Prop :=
  MX12_load  h fun h2 =>
  MX12_thatAre (0) h2 fun r5 =>
  Q r5 h2
-- ObjectionsModel.purchase(II)I
def KX12_purchase_104 (x1 : Int32) (x2 : Int32) (x3 : Int32) (x4 : Int32) (x5 : Int32) (s0 : Int32) (h : ob_H) (Q : Int32 → ob_H → Prop) (k33 : Int32 → Int32 → ob_H → Prop)  : Prop :=
  ((s0 = 0 → Lt (x5 + (1) : Int32) fun v41 =>
  k33 x4 v41 h) ∧
  (¬ s0 = 0 → MX12_duskWithout x5 h fun r43 h44 =>
  ((x1 < r43 → Lt (x5 + (1) : Int32) fun v50 =>
  k33 x4 v50 h44) ∧
  (¬ x1 < r43 → Lt (x5 + (1) : Int32) fun v52 =>
  k33 x5 v52 h44))))
def FX12_purchase_33 (x1 : Int32) (x2 : Int32) (x3 : Int32) (Q : Int32 → ob_H → Prop) (k33 : Int32 → Int32 → ob_H → Prop) (x4 : Int32) (x5 : Int32) (h : ob_H) : Prop :=
  ((x3 < x5 → ((0 ≤ x4 → ((x2 = 0 → MX12_priceOf x4 h fun r28 =>
  Q r28 h) ∧
  (¬ x2 = 0 → Q x4 h))) ∧
  (¬ 0 ≤ x4 → Q (-1) h))) ∧
  (¬ x3 < x5 → (((x5 &&& (x3 ^^^ (-1))) = 0 → ((x4 < 0 → KX12_purchase_104 x1 x2 x3 x4 x5 (1) h Q k33) ∧
  (¬ x4 < 0 → MX12_priceOf x5 h fun r54 =>
  MX12_priceOf x4 h fun r58 =>
  ((r54 < r58 → KX12_purchase_104 x1 x2 x3 x4 x5 (1) h Q k33) ∧
  (¬ r54 < r58 → MX12_priceOf x5 h fun r65 =>
  MX12_priceOf x4 h fun r69 =>
  ((r65 = r69 → MX12_members x5 h fun r76 =>
  MX12_members x4 h fun r80 =>
  ((r80 ≤ r76 → KX12_purchase_104 x1 x2 x3 x4 x5 (0) h Q k33) ∧
  (¬ r80 ≤ r76 → KX12_purchase_104 x1 x2 x3 x4 x5 (1) h Q k33))) ∧
  (¬ r65 = r69 → KX12_purchase_104 x1 x2 x3 x4 x5 (0) h Q k33))))))) ∧
  (¬ (x5 &&& (x3 ^^^ (-1))) = 0 → Lt (x5 + (1) : Int32) fun v87 =>
  k33 x4 v87 h))))
def MX12_purchase  (p1 : Int32) (p2 : Int32) (h : ob_H) (Q : Int32 → ob_H → Prop) : Prop :=
  MX12_isIn p1 (0) (9999) h fun r1 =>
  ((r1 = 0 → Q (-1) h) ∧
  (¬ r1 = 0 → MX12_isIn p2 (0) (1) h fun r8 =>
  ((r8 = 0 → Q (-1) h) ∧
  (¬ r8 = 0 → MX12_waitingNow  h fun r15 h16 =>
  lo3 (FX12_purchase_33 p1 p2 r15 Q) (-1) (0) h16))))
-- ObjectionsModel.boast(I)I
def KX12_boast_97 (x1 : Int32) (x2 : Int32) (x4 : Int32) (h : ob_H) (Q : Int32 → ob_H → Prop) (k16 : Int32 → ob_H → Prop)  : Prop :=
  ((x4 = 0 → Lt (x2 + (1) : Int32) fun v25 =>
  k16 v25 h) ∧
  (¬ x4 = 0 → Q x2 h))
def FX12_boast_37 (x1 : Int32) (x2 : Int32) (x3 : Int32) (Q : Int32 → ob_H → Prop) (k16 : Int32 → ob_H → Prop) (k37 : Int32 → Int32 → ob_H → Prop) (x4 : Int32) (x5 : Int32) (h : ob_H) : Prop :=
  (((h.1 108 48) ≤ x5 → KX12_boast_97 x1 x2 x4 h Q k16) ∧
  (¬ (h.1 108 48) ≤ x5 → ((x4 = 0 → KX12_boast_97 x1 x2 x4 h Q k16) ∧
  (¬ x4 = 0 → ((x5 = x1 → Lt (x5 + (1) : Int32) fun v33 =>
  k37 (1) v33 h) ∧
  (¬ x5 = x1 → vp_in x5 24 ∧
  (((h.1 136 (ix x5)) = 0 → MX12_rankOf x5 h fun r42 h43 =>
  MX12_isAhead x1 x3 x5 r42 h43 fun r46 =>
  ((r46 = 0 → Lt (x5 + (1) : Int32) fun v53 =>
  k37 (0) v53 h43) ∧
  (¬ r46 = 0 → Lt (x5 + (1) : Int32) fun v55 =>
  k37 (1) v55 h43))) ∧
  (¬ (h.1 136 (ix x5)) = 0 → Lt (x5 + (1) : Int32) fun v40 =>
  k37 (1) v40 h))))))))
def FX12_boast_16 (x1 : Int32) (Q : Int32 → ob_H → Prop) (k16 : Int32 → ob_H → Prop) (x2 : Int32) (h : ob_H) : Prop :=
  (((99) < x2 → Q (-1) h) ∧
  (¬ (99) < x2 → MX12_worked (0) x1 x2 x2 h fun r15 h16 =>
  lo3 (FX12_boast_37 x1 x2 r15 Q k16) (1) (0) h16))
def MX12_boast  (p1 : Int32) (h : ob_H) (Q : Int32 → ob_H → Prop) : Prop :=
  MX12_isWaiting p1 h fun r1 =>
  ((r1 = 0 → Q (-1) h) ∧
  (¬ r1 = 0 → MX12_load  h fun h9 =>
  lo2 (FX12_boast_16 p1 Q) (0) h9))
-- ObjectionsModel.weightOf(I)I
def FX12_weightOf_35 (x1 : Int32) (x3 : Int32) (h : ob_H) (Q : Int32 → Prop) (k4 : Int32 → Int32 → Prop) (k35 : Int32 → Int32 → Prop) (x2 : Int32) (x4 : Int32) : Prop :=
  ((x3 ≤ x4 → Lt (x3 + (1) : Int32) fun v14 =>
  k4 x2 v14) ∧
  (¬ x3 ≤ x4 → ((((x1 >>> (x4 &&& 31)) &&& (1)) = (1) → vp_in (((7) * x3) + x4) 49 ∧
  Lt ((x2 + (h.1 134 (ix (((7) * x3) + x4)))) : Int32) fun v25 =>
  Lt (x4 + (1) : Int32) fun v27 =>
  k35 v25 v27) ∧
  (¬ ((x1 >>> (x4 &&& 31)) &&& (1)) = (1) → Lt ((x2 + (0)) : Int32) fun v19 =>
  Lt (x4 + (1) : Int32) fun v21 =>
  k35 v19 v21))))
def FX12_weightOf_4 (x1 : Int32) (h : ob_H) (Q : Int32 → Prop) (k4 : Int32 → Int32 → Prop) (x2 : Int32) (x3 : Int32) : Prop :=
  (((h.1 108 48) ≤ x3 → Q x2) ∧
  (¬ (h.1 108 48) ≤ x3 → ((((x1 >>> (x3 &&& 31)) &&& (1)) = 0 → Lt (x3 + (1) : Int32) fun v30 =>
  k4 x2 v30) ∧
  (¬ ((x1 >>> (x3 &&& 31)) &&& (1)) = 0 → vp_in x3 7 ∧
  Lt ((x2 + (h.1 128 (ix x3))) : Int32) fun v9 =>
  lo2 (FX12_weightOf_35 x1 x3 h Q k4) v9 (0)))))
def MX12_weightOf  (p1 : Int32) (h : ob_H) (Q : Int32 → Prop) : Prop :=
  lo2 (FX12_weightOf_4 p1 h Q) (0) (0)
-- ObjectionsModel.standing()I
def MX12_standing  (h : ob_H) (Q : Int32 → ob_H → Prop) : Prop :=
  MX12_load  h fun h2 =>
  MX12_thatAre (2) h2 fun r5 =>
  Q r5 h2
-- ObjectionsModel.isBarred(I)Z
def MX12_isBarred  (p1 : Int32) (h : ob_H) (Q : Int32 → Prop) : Prop :=
  MX12_weightOf p1 h fun r1 =>
  ((r1 < (h.1 108 50) → Q (0)) ∧
  (¬ r1 < (h.1 108 50) → Q (1)))
-- ObjectionsModel.weight()I
def MX12_weight  (h : ob_H) (Q : Int32 → ob_H → Prop) : Prop :=
  MX12_standing  h fun r1 h2 =>
  MX12_weightOf r1 h2 fun r5 =>
  Q r5 h2
-- ObjectionsModel.threat(I)I
def KX12_threat_60 (x1 : Int32) (x2 : Int32) (x3 : Int32) (x4 : Int32) (x5 : Int32) (h : ob_H) (Q : Int32 → ob_H → Prop) (k27 : Int32 → Int32 → Prop)  : Prop :=
  MX12_isBarred (x3 ||| x5) h fun r37 =>
  ((r37 = 0 → Lt (x5 + (1) : Int32) fun v44 =>
  k27 x4 v44) ∧
  (¬ r37 = 0 → Lt (x5 + (1) : Int32) fun v46 =>
  k27 x5 v46))
def FX12_threat_27 (x1 : Int32) (x2 : Int32) (x3 : Int32) (h : ob_H) (Q : Int32 → ob_H → Prop) (k27 : Int32 → Int32 → Prop) (x4 : Int32) (x5 : Int32) : Prop :=
  ((x2 < x5 → ((0 ≤ x4 → ((x1 = 0 → MX12_members x4 h fun r25 =>
  Q r25 h) ∧
  (¬ x1 = 0 → Q x4 h))) ∧
  (¬ 0 ≤ x4 → Q (-1) h))) ∧
  (¬ x2 < x5 → (((x5 &&& (x2 ^^^ (-1))) = 0 → ((x4 < 0 → KX12_threat_60 x1 x2 x3 x4 x5 h Q k27) ∧
  (¬ x4 < 0 → MX12_members x5 h fun r48 =>
  MX12_members x4 h fun r52 =>
  ((r52 ≤ r48 → Lt (x5 + (1) : Int32) fun v59 =>
  k27 x4 v59) ∧
  (¬ r52 ≤ r48 → KX12_threat_60 x1 x2 x3 x4 x5 h Q k27))))) ∧
  (¬ (x5 &&& (x2 ^^^ (-1))) = 0 → Lt (x5 + (1) : Int32) fun v32 =>
  k27 x4 v32))))
def MX12_threat  (p1 : Int32) (h : ob_H) (Q : Int32 → ob_H → Prop) : Prop :=
  MX12_isIn p1 (0) (1) h fun r1 =>
  ((r1 = 0 → Q (-1) h) ∧
  (¬ r1 = 0 → MX12_waitingNow  h fun r8 h9 =>
  MX12_standing  h9 fun r12 h13 =>
  lo2 (FX12_threat_27 p1 r8 r12 h13 Q) (-1) (0)))
-- ObjectionsModel.bars()I
def KX12_bars_47 (x1 : Int32) (x2 : Int32) (x4 : Int32) (s0 : Int32) (s1 : Int32) (h : ob_H) (Q : Int32 → ob_H → Prop) (k15 : Int32 → Int32 → Prop)  : Prop :=
  MX12_truth s0 h fun r15 =>
  Lt ((s1 + r15) : Int32) fun v19 =>
  Lt (x4 + (1) : Int32) fun v21 =>
  k15 v19 v21
def FX12_bars_15 (x1 : Int32) (x2 : Int32) (h : ob_H) (Q : Int32 → ob_H → Prop) (k15 : Int32 → Int32 → Prop) (x3 : Int32) (x4 : Int32) : Prop :=
  ((x1 < x4 → Q x3 h) ∧
  (¬ x1 < x4 → (((x4 &&& (x1 ^^^ (-1))) = 0 → MX12_isBarred (x2 ||| x4) h fun r23 =>
  ((r23 = 0 → KX12_bars_47 x1 x2 x4 (0) x3 h Q k15) ∧
  (¬ r23 = 0 → KX12_bars_47 x1 x2 x4 (1) x3 h Q k15))) ∧
  (¬ (x4 &&& (x1 ^^^ (-1))) = 0 → KX12_bars_47 x1 x2 x4 (0) x3 h Q k15))))
def MX12_bars  (h : ob_H) (Q : Int32 → ob_H → Prop) : Prop :=
  MX12_waitingNow  h fun r1 h2 =>
  MX12_standing  h2 fun r5 h6 =>
  lo2 (FX12_bars_15 r1 r5 h6 Q) (0) (0)
-- ObjectionsModel.gain(I)I
def MX12_gain  (p1 : Int32) (h : ob_H) (Q : Int32 → ob_H → Prop) : Prop :=
  MX12_isWaiting p1 h fun r1 =>
  ((r1 = 0 → Q (-1000000000) h) ∧
  (¬ r1 = 0 → MX12_duskNow  h fun r8 h9 =>
  MX12_duskWithout ((1) <<< (p1 &&& 31)) h9 fun r12 h13 =>
  Q (r8 - r12) h13))
-- ObjectionsModel.crowd(I)I
def FX12_crowd_25 (x3 : Int32) (h : ob_H) (Q : Int32 → Prop) (k16 : Int32 → Int32 → Prop) (k25 : Int32 → Int32 → Prop) (x2 : Int32) (x4 : Int32) : Prop :=
  (((h.1 108 48) ≤ x4 → Lt (x3 + (1) : Int32) fun v16 =>
  k16 x2 v16) ∧
  (¬ (h.1 108 48) ≤ x4 → ((((x2 >>> (x4 &&& 31)) &&& (1)) = (1) → vp_in x4 7 ∧
  Lt ((x2 ||| (h.1 133 (ix x4))) : Int32) fun v27 =>
  Lt (x4 + (1) : Int32) fun v29 =>
  k25 v27 v29) ∧
  (¬ ((x2 >>> (x4 &&& 31)) &&& (1)) = (1) → Lt ((x2 ||| (0)) : Int32) fun v21 =>
  Lt (x4 + (1) : Int32) fun v23 =>
  k25 v21 v23))))
def FX12_crowd_16 (h : ob_H) (Q : Int32 → Prop) (k16 : Int32 → Int32 → Prop) (x2 : Int32) (x3 : Int32) : Prop :=
  (((7) ≤ x3 → Q x2) ∧
  (¬ (7) ≤ x3 → lo2 (FX12_crowd_25 x3 h Q k16) x2 (0)))
def MX12_crowd  (p1 : Int32) (h : ob_H) (Q : Int32 → Prop) : Prop :=
  MX12_isOne p1 h fun r1 =>
  ((r1 = 0 → Q (-1)) ∧
  (¬ r1 = 0 → Lt (((1) <<< (p1 &&& 31)) : Int32) fun v8 =>
  lo2 (FX12_crowd_16 h Q) v8 (0)))
-- ObjectionsModel.divisor(II)I
def FX12_divisor_4 (h : ob_H) (Q : Int32 → Prop) (k4 : Int32 → Int32 → Prop) (x2 : Int32) (x3 : Int32) : Prop :=
  ((x3 ≤ 0 → Q x2) ∧
  (¬ x3 ≤ 0 → ¬ x3 = 0 ∧
  Lt ((irm x2 x3) : Int32) fun v6 =>
  k4 x3 v6))
def MX12_divisor  (p0 : Int32) (p1 : Int32) (h : ob_H) (Q : Int32 → Prop) : Prop :=
  lo2 (FX12_divisor_4 h Q) p0 p1
-- ObjectionsModel.power(II)I
def FX12_power_4 (x0 : Int32) (x1 : Int32) (h : ob_H) (Q : Int32 → Prop) (k4 : Int32 → Int32 → Prop) (x2 : Int32) (x3 : Int32) : Prop :=
  ((x1 ≤ x3 → Q x2) ∧
  (¬ x1 ≤ x3 → Lt ((x2 * x0) : Int32) fun v4 =>
  Lt (x3 + (1) : Int32) fun v6 =>
  k4 v4 v6))
def MX12_power  (p0 : Int32) (p1 : Int32) (h : ob_H) (Q : Int32 → Prop) : Prop :=
  lo2 (FX12_power_4 p0 p1 h Q) (1) (0)
-- ObjectionsModel.hundredths(I)I
def MX12_hundredths  (p1 : Int32) (h : ob_H) (Q : Int32 → ob_H → Prop) : Prop :=
  MX12_answerOf p1 h fun r1 h2 =>
  ((0 ≤ r1 → ((r1 ≤ (100) → Q r1 h2) ∧
  (¬ r1 ≤ (100) → Q (100) h2))) ∧
  (¬ 0 ≤ r1 → Q (0) h2))
-- ObjectionsModel.shareOf(II)I
def FX12_shareOf_5 (x1 : Int32) (x2 : Int32) (Q : Int32 → ob_H → Prop) (k5 : Int32 → Int32 → ob_H → Prop) (x3 : Int32) (x4 : Int32) (h : ob_H) : Prop :=
  (((h.1 108 48) ≤ x4 → Q x3 h) ∧
  (¬ (h.1 108 48) ≤ x4 → ((((x1 >>> (x4 &&& 31)) &&& (1)) = (1) → ((((x2 >>> (x4 &&& 31)) &&& (1)) = (1) → MX12_hundredths x4 h fun r20 h21 =>
  Lt ((x3 * r20) : Int32) fun v24 =>
  Lt (x4 + (1) : Int32) fun v26 =>
  k5 v24 v26 h21) ∧
  (¬ ((x2 >>> (x4 &&& 31)) &&& (1)) = (1) → MX12_hundredths x4 h fun r12 h13 =>
  Lt ((x3 * ((100) - r12)) : Int32) fun v16 =>
  Lt (x4 + (1) : Int32) fun v18 =>
  k5 v16 v18 h13))) ∧
  (¬ ((x1 >>> (x4 &&& 31)) &&& (1)) = (1) → Lt (x4 + (1) : Int32) fun v7 =>
  k5 x3 v7 h))))
def MX12_shareOf  (p1 : Int32) (p2 : Int32) (h : ob_H) (Q : Int32 → ob_H → Prop) : Prop :=
  lo3 (FX12_shareOf_5 p1 p2 Q) (1) (0) h
-- ObjectionsModel.canAsk(II)Z
def MX12_canAsk  (p1 : Int32) (p2 : Int32) (h : ob_H) (Q : Int32 → ob_H → Prop) : Prop :=
  MX12_all  h fun r1 =>
  MX12_isIn p1 (0) r1 h fun r5 =>
  ((r5 = 0 → Q (0) h) ∧
  (¬ r5 = 0 → MX12_waitingNow  h fun r12 h13 =>
  (((p1 &&& (r12 ^^^ (-1))) = 0 → MX12_members p1 h13 fun r19 =>
  (((4) < r19 → Q (0) h13) ∧
  (¬ (4) < r19 → MX12_isIn p2 (0) (1) h13 fun r26 =>
  ((r26 = 0 → Q (0) h13) ∧
  (¬ r26 = 0 → Q (1) h13))))) ∧
  (¬ (p1 &&& (r12 ^^^ (-1))) = 0 → Q (0) h13))))
-- ObjectionsModel.partOf(III)I
def MX12_partOf  (p0 : Int32) (p1 : Int32) (p2 : Int32) (h : ob_H) (Q : Int32 → Prop) : Prop :=
  MX12_divisor p1 p0 h fun r1 =>
  ((p2 = 0 → ¬ r1 = 0 ∧
  Q (p0 / r1)) ∧
  (¬ p2 = 0 → ¬ r1 = 0 ∧
  Q (p1 / r1)))
-- ObjectionsModel.odds(II)I
def MX12_odds  (p1 : Int32) (p2 : Int32) (h : ob_H) (Q : Int32 → ob_H → Prop) : Prop :=
  MX12_canAsk p1 p2 h fun r1 h2 =>
  ((r1 = 0 → Q (-1) h2) ∧
  (¬ r1 = 0 → MX12_load  h2 fun h9 =>
  MX12_shareOf p1 p1 h9 fun r12 h13 =>
  MX12_members p1 h13 fun r16 =>
  MX12_power (100) r16 h13 fun r20 =>
  MX12_partOf r12 r20 p2 h13 fun r24 =>
  Q r24 h13))
-- ObjectionsModel.peril(II)I
def FX12_peril_22 (x1 : Int32) (x2 : Int32) (x3 : Int32) (Q : Int32 → ob_H → Prop) (k22 : Int32 → Int32 → ob_H → Prop) (x4 : Int32) (x5 : Int32) (h : ob_H) : Prop :=
  ((x1 < x5 → MX12_members x1 h fun r15 =>
  MX12_power (100) r15 h fun r19 =>
  MX12_partOf x4 r19 x2 h fun r23 =>
  Q r23 h) ∧
  (¬ x1 < x5 → (((x5 &&& (x1 ^^^ (-1))) = 0 → MX12_isBarred (x3 ||| (x1 &&& (x5 ^^^ (-1)))) h fun r32 =>
  ((r32 = 0 → Lt (x5 + (1) : Int32) fun v39 =>
  k22 x4 v39 h) ∧
  (¬ r32 = 0 → MX12_shareOf x1 x5 h fun r41 h42 =>
  Lt ((x4 + r41) : Int32) fun v45 =>
  Lt (x5 + (1) : Int32) fun v47 =>
  k22 v45 v47 h42))) ∧
  (¬ (x5 &&& (x1 ^^^ (-1))) = 0 → Lt (x5 + (1) : Int32) fun v30 =>
  k22 x4 v30 h))))
def MX12_peril  (p1 : Int32) (p2 : Int32) (h : ob_H) (Q : Int32 → ob_H → Prop) : Prop :=
  MX12_canAsk p1 p2 h fun r1 h2 =>
  ((r1 = 0 → Q (-1) h2) ∧
  (¬ r1 = 0 → MX12_standing  h2 fun r8 h9 =>
  lo3 (FX12_peril_22 p1 p2 r8 Q) (0) (0) h9))
-- ObjectionsModel.tarry(I)I
def FX12_tarry_21 (x1 : Int32) (Q : Int32 → ob_H → Prop) (k21 : Int32 → Int32 → Int32 → ob_H → Prop) (x2 : Int32) (x3 : Int32) (x4 : Int32) (h : ob_H) : Prop :=
  (((60) < x4 → ((x1 = 0 → Q x2 h) ∧
  (¬ x1 = 0 → Q x3 h))) ∧
  (¬ (60) < x4 → MX12_load  h fun h19 =>
  Lt (h_i h19 136 21 ((h19.1 136 21) + x4)) fun h22 =>
  MX12_leave  h22 fun r24 h25 =>
  MX12_goOn  h25 fun r28 h29 =>
  ((r28 < x3 → Lt (x4 + (1) : Int32) fun v35 =>
  k21 x4 r28 v35 h29) ∧
  (¬ r28 < x3 → Lt (x4 + (1) : Int32) fun v37 =>
  k21 x2 x3 v37 h29))))
def MX12_tarry  (p1 : Int32) (h : ob_H) (Q : Int32 → ob_H → Prop) : Prop :=
  MX12_isIn p1 (0) (1) h fun r1 =>
  ((r1 = 0 → Q (-1) h) ∧
  (¬ r1 = 0 → MX12_duskNow  h fun r8 h9 =>
  lo4 (FX12_tarry_21 p1 Q) (0) r8 (1) h9))
-- ObjectionsModel.swap(I)I
def FX12_swap_36 (x1 : Int32) (x4 : Int32) (Q : Int32 → ob_H → Prop) (k21 : Int32 → Int32 → Int32 → ob_H → Prop) (k36 : Int32 → Int32 → Int32 → ob_H → Prop) (x2 : Int32) (x3 : Int32) (x5 : Int32) (h : ob_H) : Prop :=
  (((h.1 108 48) ≤ x5 → Lt (x4 + (1) : Int32) fun v29 =>
  k21 x2 x3 v29 h) ∧
  (¬ (h.1 108 48) ≤ x5 → vp_in x4 24 ∧
  (((h.1 135 (ix x4)) = 0 → vp_in x5 24 ∧
  (((h.1 135 (ix x5)) = 0 → MX12_load  h fun h44 =>
  MX12_changeNumbers x4 x5 h44 fun h48 =>
  MX12_goOn  h48 fun r51 h52 =>
  ((r51 < x2 → Lt ((((7) * x4) + x5) : Int32) fun v58 =>
  Lt (x5 + (1) : Int32) fun v60 =>
  k36 r51 v58 v60 h52) ∧
  (¬ r51 < x2 → Lt (x5 + (1) : Int32) fun v62 =>
  k36 x2 x3 v62 h52))) ∧
  (¬ (h.1 135 (ix x5)) = 0 → Lt (x5 + (1) : Int32) fun v64 =>
  k36 x2 x3 v64 h))) ∧
  (¬ (h.1 135 (ix x4)) = 0 → Lt (x5 + (1) : Int32) fun v36 =>
  k36 x2 x3 v36 h))))
def FX12_swap_21 (x1 : Int32) (Q : Int32 → ob_H → Prop) (k21 : Int32 → Int32 → Int32 → ob_H → Prop) (x2 : Int32) (x3 : Int32) (x4 : Int32) (h : ob_H) : Prop :=
  (((h.1 108 48) ≤ x4 → ((0 ≤ x3 → ((x1 = 0 → Q (x3 / (7)) h) ∧
  (¬ x1 = 0 → ((x1 = (1) → Q (irm x3 (7)) h) ∧
  (¬ x1 = (1) → Q x2 h))))) ∧
  (¬ 0 ≤ x3 → Q (-1) h))) ∧
  (¬ (h.1 108 48) ≤ x4 → Lt ((x4 + (1)) : Int32) fun v24 =>
  lo4 (FX12_swap_36 x1 x4 Q k21) x2 x3 v24 h))
def MX12_swap  (p1 : Int32) (h : ob_H) (Q : Int32 → ob_H → Prop) : Prop :=
  MX12_isIn p1 (0) (2) h fun r1 =>
  ((r1 = 0 → Q (-1) h) ∧
  (¬ r1 = 0 → MX12_duskNow  h fun r8 h9 =>
  lo4 (FX12_swap_21 p1 Q) r8 (-1) (0) h9))
-- ObjectionsModel.by(I)I
def KX12_by_46 (x1 : Int32) (x3 : Int32) (s0 : Int32) (s1 : Int32) (h : ob_H) (Q : Int32 → ob_H → Prop) (k22 : Int32 → Int32 → Prop)  : Prop :=
  MX12_truth s0 h fun r20 =>
  Lt ((s1 + r20) : Int32) fun v24 =>
  Lt (x3 + (1) : Int32) fun v26 =>
  k22 v24 v26
def FX12_by_22 (x1 : Int32) (h : ob_H) (Q : Int32 → ob_H → Prop) (k22 : Int32 → Int32 → Prop) (x2 : Int32) (x3 : Int32) : Prop :=
  (((h.1 108 57) ≤ x3 → Q x2 h) ∧
  (¬ (h.1 108 57) ≤ x3 → vp_in x3 7 ∧
  ((x1 < (h.1 138 (ix x3)) → KX12_by_46 x1 x3 (0) x2 h Q k22) ∧
  (¬ x1 < (h.1 138 (ix x3)) → KX12_by_46 x1 x3 (1) x2 h Q k22))))
def MX12_by  (p1 : Int32) (h : ob_H) (Q : Int32 → ob_H → Prop) : Prop :=
  MX12_isIn p1 (0) (9999) h fun r1 =>
  ((r1 = 0 → Q (-1) h) ∧
  (¬ r1 = 0 → MX12_duskNow  h fun r8 h9 =>
  lo2 (FX12_by_22 p1 h9 Q) (0) (0)))
-- ObjectionsModel.upset()I
def KX12_upset_50 (x2 : Int32) (s0 : Int32) (s1 : Int32) (h : ob_H) (Q : Int32 → ob_H → Prop) (k9 : Int32 → Int32 → Prop)  : Prop :=
  MX12_truth s0 h fun r19 =>
  Lt ((s1 + r19) : Int32) fun v23 =>
  Lt (x2 + (1) : Int32) fun v25 =>
  k9 v23 v25
def FX12_upset_9 (h : ob_H) (Q : Int32 → ob_H → Prop) (k9 : Int32 → Int32 → Prop) (x1 : Int32) (x2 : Int32) : Prop :=
  (((h.1 108 57) ≤ x2 → Q x1 h) ∧
  (¬ (h.1 108 57) ≤ x2 → vp_in (x2 - (1)) 7 ∧
  vp_in (h.1 137 (ix (x2 - (1)))) 7 ∧
  vp_in x2 7 ∧
  vp_in (h.1 137 (ix x2)) 7 ∧
  (((h.1 128 (ix (h.1 137 (ix x2)))) ≤ (h.1 128 (ix (h.1 137 (ix (x2 - (1)))))) → KX12_upset_50 x2 (0) x1 h Q k9) ∧
  (¬ (h.1 128 (ix (h.1 137 (ix x2)))) ≤ (h.1 128 (ix (h.1 137 (ix (x2 - (1)))))) → KX12_upset_50 x2 (1) x1 h Q k9))))
def MX12_upset  (h : ob_H) (Q : Int32 → ob_H → Prop) : Prop :=
  MX12_duskNow  h fun r1 h2 =>
  lo2 (FX12_upset_9 h2 Q) (0) (1)
-- ObjectionsModel.lies(I)I
def MX12_lies  (p1 : Int32) (h : ob_H) (Q : Int32 → Prop) : Prop :=
  MX12_isIn p1 (0) ((h.1 108 62) - (1)) h fun r1 =>
  ((r1 = 0 → Q (-1)) ∧
  (¬ r1 = 0 → vp_in p1 7 ∧
  Q (h.1 140 (ix p1))))
-- ObjectionsModel.seen(IIZ)I
def MX12_seen  (p1 : Int32) (p2 : Int32) (p3 : Int32) (h : ob_H) (Q : Int32 → ob_H → Prop) : Prop :=
  MX12_isIn p1 (1) (7) h fun r1 =>
  ((r1 = 0 → Q (-1) h) ∧
  (¬ r1 = 0 → MX12_isOne p2 h fun r8 =>
  ((r8 = 0 → Q (-1) h) ∧
  (¬ r8 = 0 → (((h.1 108 70) = (30) → Q (-1) h) ∧
  (¬ (h.1 108 70) = (30) → vp_in (h.1 108 70) 30 ∧
  Lt (h_i h 143 (ix (h.1 108 70)) p1) fun h20 =>
  vp_in (h20.1 108 70) 30 ∧
  Lt (h_i h20 144 (ix (h20.1 108 70)) p2) fun h24 =>
  vp_in (h24.1 108 70) 30 ∧
  Lt (h_i h24 147 (ix (h24.1 108 70)) (vp_nar .boolean p3)) fun h28 =>
  vp_in (h28.1 108 70) 30 ∧
  Lt (h_i h28 145 (ix (h28.1 108 70)) (h28.1 108 71)) fun h32 =>
  vp_in (h32.1 108 70) 30 ∧
  Lt (h_i h32 146 (ix (h32.1 108 70)) (-1)) fun h36 =>
  Lt (h_i h36 108 70 ((h36.1 108 70) + (1))) fun h38 =>
  Q ((h38.1 108 70) - (1)) h38))))))
-- ObjectionsModel.untell(I)Z
def MX12_untell  (p1 : Int32) (h : ob_H) (Q : Int32 → ob_H → Prop) : Prop :=
  MX12_isIn p1 (0) ((h.1 108 70) - (1)) h fun r1 =>
  ((r1 = 0 → Q (0) h) ∧
  (¬ r1 = 0 → vp_in p1 30 ∧
  (((h.1 146 (ix p1)) < 0 → Lt (h_i h 146 (ix p1) (h.1 108 71)) fun h13 =>
  Q (1) h13) ∧
  (¬ (h.1 146 (ix p1)) < 0 → Q (0) h))))
-- ObjectionsModel.later(I)I
def MX12_later  (p1 : Int32) (h : ob_H) (Q : Int32 → ob_H → Prop) : Prop :=
  ((p1 < 0 → Q (-1) h) ∧
  (¬ p1 < 0 → (((1000) < p1 → Q (-1) h) ∧
  (¬ (1000) < p1 → ((((h.1 108 71) + p1) ≤ (100000) → Lt (h_i h 108 71 ((h.1 108 71) + p1)) fun h10 =>
  Q (h10.1 108 71) h10) ∧
  (¬ ((h.1 108 71) + p1) ≤ (100000) → Q (-1) h))))))
-- ObjectionsModel.fitsGrave(II)Z
def KX12_fitsGrave_87 (x1 : Int32) (x2 : Int32) (x4 : Int32) (s0 : Int32) (h : ob_H) (Q : Int32 → Prop) (k5 : Int32 → Int32 → Prop)  : Prop :=
  vp_in x4 30 ∧
  ((s0 = (h.1 147 (ix x4)) → Lt (x4 + (1) : Int32) fun v35 =>
  k5 (1) v35) ∧
  (¬ s0 = (h.1 147 (ix x4)) → Lt (x4 + (1) : Int32) fun v33 =>
  k5 (0) v33))
def KX12_fitsGrave_53 (x1 : Int32) (x2 : Int32) (x4 : Int32) (h : ob_H) (Q : Int32 → Prop) (k5 : Int32 → Int32 → Prop)  : Prop :=
  vp_in x4 30 ∧
  vp_in ((((7) * x1) + (h.1 143 (ix x4))) - (1)) 700 ∧
  (((h.1 148 (ix ((((7) * x1) + (h.1 143 (ix x4))) - (1)))) = (h.1 144 (ix x4)) → KX12_fitsGrave_87 x1 x2 x4 (1) h Q k5) ∧
  (¬ (h.1 148 (ix ((((7) * x1) + (h.1 143 (ix x4))) - (1)))) = (h.1 144 (ix x4)) → KX12_fitsGrave_87 x1 x2 x4 (0) h Q k5))
def FX12_fitsGrave_5 (x1 : Int32) (x2 : Int32) (h : ob_H) (Q : Int32 → Prop) (k5 : Int32 → Int32 → Prop) (x3 : Int32) (x4 : Int32) : Prop :=
  (((h.1 108 70) ≤ x4 → isB x3 ∧
  Q x3) ∧
  (¬ (h.1 108 70) ≤ x4 → ((x3 = 0 → isB x3 ∧
  Q x3) ∧
  (¬ x3 = 0 → vp_in x4 30 ∧
  ((x2 < (h.1 145 (ix x4)) → Lt (x4 + (1) : Int32) fun v16 =>
  k5 x3 v16) ∧
  (¬ x2 < (h.1 145 (ix x4)) → (((h.1 146 (ix x4)) < 0 → KX12_fitsGrave_53 x1 x2 x4 h Q k5) ∧
  (¬ (h.1 146 (ix x4)) < 0 → ((x2 < (h.1 146 (ix x4)) → KX12_fitsGrave_53 x1 x2 x4 h Q k5) ∧
  (¬ x2 < (h.1 146 (ix x4)) → Lt (x4 + (1) : Int32) fun v40 =>
  k5 x3 v40))))))))))
def MX12_fitsGrave  (p1 : Int32) (p2 : Int32) (h : ob_H) (Q : Int32 → Prop) : Prop :=
  lo2 (FX12_fitsGrave_5 p1 p2 h Q) (1) (0)
-- ObjectionsModel.layFits(I)I
def KX12_layFits_95 (x1 : Int32) (x2 : Int32) (x3 : Int32) (x4 : Int32) (x5 : Int32) (x6 : Int32) (s0 : Int32) (s1 : Int32) (h : ob_H) (Q : Int32 → ob_H → Prop) (k29 : Int32 → Int32 → ob_H → Prop) (k56 : Int32 → ob_H → Prop)  : Prop :=
  vp_in s1 700 ∧
  Lt (h_i h 148 (ix s1) s0) fun h53 =>
  Lt (x6 + (1) : Int32) fun v55 =>
  k56 v55 h53
def FX12_layFits_56 (x1 : Int32) (x2 : Int32) (x3 : Int32) (x4 : Int32) (x5 : Int32) (Q : Int32 → ob_H → Prop) (k29 : Int32 → Int32 → ob_H → Prop) (k56 : Int32 → ob_H → Prop) (x6 : Int32) (h : ob_H) : Prop :=
  (((7) ≤ x6 → MX12_fitsGrave x5 x1 h fun r32 =>
  vp_in x5 100 ∧
  Lt (h_i h 149 (ix x5) (vp_nar .boolean r32)) fun h38 =>
  MX12_truth (h38.1 149 (ix x5)) h38 fun r40 =>
  Lt ((x4 + r40) : Int32) fun v44 =>
  Lt (x5 + (1) : Int32) fun v46 =>
  k29 v44 v46 h38) ∧
  (¬ (7) ≤ x6 → (((h.1 108 57) ≤ x6 → KX12_layFits_95 x1 x2 x3 x4 x5 x6 (-1) (((7) * x5) + x6) h Q k29 k56) ∧
  (¬ (h.1 108 57) ≤ x6 → vp_in x6 7 ∧
  KX12_layFits_95 x1 x2 x3 x4 x5 x6 (h.1 137 (ix x6)) (((7) * x5) + x6) h Q k29 k56))))
def FX12_layFits_29 (x1 : Int32) (x2 : Int32) (x3 : Int32) (Q : Int32 → ob_H → Prop) (k29 : Int32 → Int32 → ob_H → Prop) (x4 : Int32) (x5 : Int32) (h : ob_H) : Prop :=
  (((99) < x5 → vp_in x2 7 ∧
  Lt (h_i h 128 (ix x2) x3) fun h15 =>
  Q x4 h15) ∧
  (¬ (99) < x5 → vp_in x2 7 ∧
  Lt (h_i h 128 (ix x2) x5) fun h19 =>
  MX12_begin  h19 fun h22 =>
  MX12_goOn  h22 fun r25 h26 =>
  lo2 (FX12_layFits_56 x1 x2 x3 x4 x5 Q k29) (0) h26))
def MX12_layFits  (p1 : Int32) (h : ob_H) (Q : Int32 → ob_H → Prop) : Prop :=
  (((h.1 108 48) = 0 → Q (0) h) ∧
  (¬ (h.1 108 48) = 0 → Lt (((h.1 108 48) - (1)) : Int32) fun v4 =>
  vp_in v4 7 ∧
  Lt ((h.1 128 (ix v4)) : Int32) fun v8 =>
  lo3 (FX12_layFits_29 p1 v4 v8 Q) (0) (0) h))
-- ObjectionsModel.fits(I)I
def MX12_fits  (p1 : Int32) (h : ob_H) (Q : Int32 → ob_H → Prop) : Prop :=
  MX12_layFits p1 h fun r1 h2 =>
  Q r1 h2
-- ObjectionsModel.sure(II)I
def FX12_sure_24 (x1 : Int32) (h : ob_H) (Q : Int32 → ob_H → Prop) (k24 : Int32 → Int32 → Prop) (x3 : Int32) (x4 : Int32) : Prop :=
  (((99) < x4 → Q x3 h) ∧
  (¬ (99) < x4 → vp_in x4 100 ∧
  (((h.1 149 (ix x4)) = 0 → Lt (x4 + (1) : Int32) fun v23 =>
  k24 x3 v23) ∧
  (¬ (h.1 149 (ix x4)) = 0 → ((x3 < 0 → Lt (x4 + (1) : Int32) fun v28 =>
  k24 x4 v28) ∧
  (¬ x3 < 0 → ((x1 = (1) → Lt (x4 + (1) : Int32) fun v35 =>
  k24 x4 v35) ∧
  (¬ x1 = (1) → Lt (x4 + (1) : Int32) fun v33 =>
  k24 x3 v33))))))))
def MX12_sure  (p1 : Int32) (p2 : Int32) (h : ob_H) (Q : Int32 → ob_H → Prop) : Prop :=
  MX12_isIn p1 (0) (1) h fun r1 =>
  ((r1 = 0 → Q (-1) h) ∧
  (¬ r1 = 0 → MX12_layFits p2 h fun r8 h9 =>
  ((r8 = 0 → Q (-1) h9) ∧
  (¬ r8 = 0 → lo2 (FX12_sure_24 p1 h9 Q) (-1) (0)))))
-- ObjectionsModel.leftBy(I)I
def KX12_leftBy_58 (x1 : Int32) (x2 : Int32) (x3 : Int32) (x5 : Int32) (s0 : Int32) (s1 : Int32) (h : ob_H) (Q : Int32 → Prop) (k4 : Int32 → Int32 → Prop) (k18 : Int32 → Int32 → Prop)  : Prop :=
  MX12_truth s0 h fun r19 =>
  Lt ((s1 + r19) : Int32) fun v23 =>
  Lt (x5 + (1) : Int32) fun v25 =>
  k18 v23 v25
def FX12_leftBy_18 (x1 : Int32) (x2 : Int32) (x3 : Int32) (h : ob_H) (Q : Int32 → Prop) (k4 : Int32 → Int32 → Prop) (k18 : Int32 → Int32 → Prop) (x4 : Int32) (x5 : Int32) : Prop :=
  (((99) < x5 → ((x4 ≤ x2 → Lt (x3 + (1) : Int32) fun v10 =>
  k4 x2 v10) ∧
  (¬ x4 ≤ x2 → Lt (x3 + (1) : Int32) fun v12 =>
  k4 x4 v12))) ∧
  (¬ (99) < x5 → vp_in x5 100 ∧
  (((h.1 149 (ix x5)) = 0 → KX12_leftBy_58 x1 x2 x3 x5 (0) x4 h Q k4 k18) ∧
  (¬ (h.1 149 (ix x5)) = 0 → vp_in (((7) * x5) + x1) 700 ∧
  (((h.1 148 (ix (((7) * x5) + x1))) = x3 → KX12_leftBy_58 x1 x2 x3 x5 (1) x4 h Q k4 k18) ∧
  (¬ (h.1 148 (ix (((7) * x5) + x1))) = x3 → KX12_leftBy_58 x1 x2 x3 x5 (0) x4 h Q k4 k18))))))
def FX12_leftBy_4 (x1 : Int32) (h : ob_H) (Q : Int32 → Prop) (k4 : Int32 → Int32 → Prop) (x2 : Int32) (x3 : Int32) : Prop :=
  (((h.1 108 48) ≤ x3 → Q x2) ∧
  (¬ (h.1 108 48) ≤ x3 → lo2 (FX12_leftBy_18 x1 x2 x3 h Q k4) (0) (0)))
def MX12_leftBy  (p1 : Int32) (h : ob_H) (Q : Int32 → Prop) : Prop :=
  lo2 (FX12_leftBy_4 p1 h Q) (0) (-1)
-- ObjectionsModel.ask(II)I
def FX12_ask_24 (x1 : Int32) (h : ob_H) (Q : Int32 → ob_H → Prop) (k24 : Int32 → Int32 → Prop) (x3 : Int32) (x4 : Int32) : Prop :=
  (((7) ≤ x4 → ((x1 = 0 → Q (x3 + (1)) h) ∧
  (¬ x1 = 0 → MX12_leftBy x3 h fun r21 =>
  Q r21 h))) ∧
  (¬ (7) ≤ x4 → MX12_leftBy x4 h fun r25 =>
  MX12_leftBy x3 h fun r29 =>
  ((r29 ≤ r25 → Lt (x4 + (1) : Int32) fun v36 =>
  k24 x3 v36) ∧
  (¬ r29 ≤ r25 → Lt (x4 + (1) : Int32) fun v38 =>
  k24 x4 v38))))
def MX12_ask  (p1 : Int32) (p2 : Int32) (h : ob_H) (Q : Int32 → ob_H → Prop) : Prop :=
  MX12_isIn p1 (0) (1) h fun r1 =>
  ((r1 = 0 → Q (-1) h) ∧
  (¬ r1 = 0 → MX12_layFits p2 h fun r8 h9 =>
  ((r8 = 0 → Q (-1) h9) ∧
  (¬ r8 = 0 → lo2 (FX12_ask_24 p1 h9 Q) (0) (1)))))
-- ObjectionsModel.isBox(I)Z
def MX12_isBox  (p0 : Int32) (h : ob_H) (Q : Int32 → Prop) : Prop :=
  ((p0 < 0 → Q (0)) ∧
  (¬ p0 < 0 → (((3) ≤ p0 → Q (0)) ∧
  (¬ (3) ≤ p0 → Q (1)))))
-- ObjectionsModel.image(I)I
def FX12_image_18 (x1 : Int32) (Q : Int32 → ob_H → Prop) (k18 : Int32 → ob_H → Prop) (x2 : Int32) (h : ob_H) : Prop :=
  (((24) ≤ x2 → Q (h.1 135 21) h) ∧
  (¬ (24) ≤ x2 → vp_in x2 24 ∧
  vp_in (((24) * x1) + x2) 72 ∧
  Lt (h_i h 151 (ix (((24) * x1) + x2)) (h.1 135 (ix x2))) fun h19 =>
  Lt (x2 + (1) : Int32) fun v21 =>
  k18 v21 h19))
def MX12_image  (p1 : Int32) (h : ob_H) (Q : Int32 → ob_H → Prop) : Prop :=
  MX12_isBox p1 h fun r1 =>
  ((r1 = 0 → Q (-1) h) ∧
  (¬ r1 = 0 → vp_in p1 3 ∧
  Lt (h_i h 150 (ix p1) (vp_nar .boolean (1))) fun h10 =>
  lo2 (FX12_image_18 p1 Q) (0) h10))
-- ObjectionsModel.back(I)I
def FX12_back_20 (x1 : Int32) (Q : Int32 → ob_H → Prop) (k20 : Int32 → ob_H → Prop) (x2 : Int32) (h : ob_H) : Prop :=
  (((24) ≤ x2 → Lt (h_i h 108 59 (0)) fun h16 =>
  Lt (h_i h16 108 60 (0)) fun h18 =>
  Q (h18.1 135 21) h18) ∧
  (¬ (24) ≤ x2 → vp_in (((24) * x1) + x2) 72 ∧
  vp_in x2 24 ∧
  Lt (h_i h 135 (ix x2) (h.1 151 (ix (((24) * x1) + x2)))) fun h24 =>
  Lt (x2 + (1) : Int32) fun v26 =>
  k20 v26 h24))
def MX12_back  (p1 : Int32) (h : ob_H) (Q : Int32 → ob_H → Prop) : Prop :=
  MX12_isBox p1 h fun r1 =>
  ((r1 = 0 → Q (-1) h) ∧
  (¬ r1 = 0 → vp_in p1 3 ∧
  (((h.1 150 (ix p1)) = 0 → Q (-1) h) ∧
  (¬ (h.1 150 (ix p1)) = 0 → lo2 (FX12_back_20 p1 Q) (0) h))))
-- ObjectionsModel.about(I)I
def MX12_about  (p1 : Int32) (h : ob_H) (Q : Int32 → ob_H → Prop) : Prop :=
  ((p1 = (0) → Q (h.1 108 48) h) ∧
  (¬ p1 = (0) → ((p1 = (1) → Q (h.1 135 21) h) ∧
  (¬ p1 = (1) → ((p1 = (2) → Q (h.1 135 23) h) ∧
  (¬ p1 = (2) → ((p1 = (3) → Q (h.1 135 22) h) ∧
  (¬ p1 = (3) → ((p1 = (4) → Q (h.1 108 50) h) ∧
  (¬ p1 = (4) → ((p1 = (5) → MX12_standing  h fun r18 h19 =>
  MX12_isBarred r18 h19 fun r22 =>
  MX12_truth r22 h19 fun r26 =>
  Q r26 h19) ∧
  (¬ p1 = (5) → ((p1 = (6) → MX12_waitingNow  h fun r33 h34 =>
  Q r33 h34) ∧
  (¬ p1 = (6) → ((p1 = (7) → MX12_standing  h fun r40 h41 =>
  Q r40 h41) ∧
  (¬ p1 = (7) → ((p1 = (8) → Q (h.1 108 59) h) ∧
  (¬ p1 = (8) → ((p1 = (9) → Q (h.1 108 60) h) ∧
  (¬ p1 = (9) → ((p1 = (10) → Q (h.1 108 70) h) ∧
  (¬ p1 = (10) → ((p1 = (11) → Q (h.1 108 71) h) ∧
  (¬ p1 = (11) → ((p1 = (12) → Q (h.1 108 1) h) ∧
  (¬ p1 = (12) → ((p1 = (13) → Q (h.1 108 23) h) ∧
  (¬ p1 = (13) → ((p1 = (14) → Q (h.1 108 62) h) ∧
  (¬ p1 = (14) → Q (-1) h))))))))))))))))))))))))))))))
