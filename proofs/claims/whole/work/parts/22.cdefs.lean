/-! X0_isOne -/
def C_X0_isOne (X : cc_X) (fu : Nat) (x0 : Nat) (st : cc_S) : Option (Int32 × cc_S) :=
  fc_gd (cc_go X x0 [2]) <|
  fc_gd (fc_zb (cc_I st x0 1)) <|
  some ((cc_I st x0 1), st)
/-! X0_place -/
def C_X0_place (X : cc_X) (fu : Nat) (x0 : Nat) (st : cc_S) : Option (Int32 × cc_S) :=
  fc_gd (cc_go X x0 [2]) <|
  some ((cc_I st x0 2), st)
/-! X0_passes -/
def C_X0_passes_b101 (X : cc_X) (fu : Nat) (x0 : Int32) (x6 : Int32) (st : cc_S) : Option (Int32 × cc_S) :=
  fc_nm (x0 &&& (255 : Int32)) fun v9 =>
  fc_nm ((x0 >>> ((8 : Int32) &&& 31)) &&& (255 : Int32)) fun v10 =>
  if v10 = (60 : Int32) then (
  if v9 ≤ x6 then (
  some ((0 : Int32), st))
  else (
  some ((1 : Int32), st)))
  else (
  if v10 = (61 : Int32) then (
  if x6 = v9 then (
  some ((1 : Int32), st))
  else (
  some ((0 : Int32), st)))
  else (
  if x6 ≤ v9 then (
  some ((0 : Int32), st))
  else (
  some ((1 : Int32), st))))
def C_X0_passes (X : cc_X) (fu : Nat) (x0 : Int32) (x1 : Int32) (x2 : Int32) (x3 : Int32) (x4 : Int32) (x5 : Int32) (st : cc_S) : Option (Int32 × cc_S) :=
  fc_nm (x0 >>> ((16 : Int32) &&& 31)) fun v1 =>
  if v1 = (99 : Int32) then (
  fc_nm ((x4 / (10 : Int32)) - (x4 / (10 : Int32)) / (10 : Int32) * (10 : Int32)) fun v3 =>
  C_X0_passes_b101 X fu x0 v3 st)
  else (
  if v1 = (105 : Int32) then (
  C_X0_passes_b101 X fu x0 x1 st)
  else (
  if v1 = (107 : Int32) then (
  C_X0_passes_b101 X fu x0 x2 st)
  else (
  if v1 = (118 : Int32) then (
  C_X0_passes_b101 X fu x0 x3 st)
  else (
  if v1 = (121 : Int32) then (
  fc_nm (x4 - x4 / (10 : Int32) * (10 : Int32)) fun v8 =>
  C_X0_passes_b101 X fu x0 v8 st)
  else (
  C_X0_passes_b101 X fu x0 x5 st)))))
/-! X0_holdsFor -/
def C_X0_holdsFor_b140 (X : cc_X) (fu : Nat) (K11 : Nat → Int32 → Int32 → Int32 → Int32 → Int32 → Int32 → Int32 → Int32 → cc_S → Option (Int32 × cc_S)) (x0 : Nat) (x1 : Int32) (x2 : Int32) (x3 : Int32) (x4 : Int32) (x5 : Int32) (x6 : Int32) (x7 : Int32) (x8 : Int32) (st : cc_S) : Option (Int32 × cc_S) :=
  fc_nm (x8 + (1 : Int32)) fun v21 =>
  K11 x0 x1 x2 x3 x4 x5 x6 x7 v21 st
def C_X0_holdsFor_b137 (X : cc_X) (fu : Nat) (K11 : Nat → Int32 → Int32 → Int32 → Int32 → Int32 → Int32 → Int32 → Int32 → cc_S → Option (Int32 × cc_S)) (x0 : Nat) (x1 : Int32) (x2 : Int32) (x3 : Int32) (x4 : Int32) (x5 : Int32) (x6 : Int32) (x8 : Int32) (s0 : Int32) (s1 : Int32) (st : cc_S) : Option (Int32 × cc_S) :=
  fc_nm (s1 ||| s0) fun v22 =>
  C_X0_holdsFor_b140 X fu K11 x0 x1 x2 x3 x4 x5 x6 v22 x8 st
def C_X0_holdsFor_b11F (X : cc_X) (fu : Nat) (K11 : Nat → Int32 → Int32 → Int32 → Int32 → Int32 → Int32 → Int32 → Int32 → cc_S → Option (Int32 × cc_S)) (x0 : Nat) (x1 : Int32) (x2 : Int32) (x3 : Int32) (x4 : Int32) (x5 : Int32) (x6 : Int32) (x7 : Int32) (x8 : Int32) (st : cc_S) : Option (Int32 × cc_S) :=
  fc_gd (cc_go X x0 [2]) <|
  fc_gd (cc_ga X x0 5 1 (x1 + (1 : Int32))) <|
  if (cc_G st x0 5 (x1 + (1 : Int32)).toNatClampNeg) ≤ x8 then (
  if (x7 &&& (1 : Int32)) = (1 : Int32) then (
  some ((1 : Int32), st))
  else (
  some ((0 : Int32), st)))
  else (
  fc_gd (cc_ga X x0 6 1 x8) <|
  fc_nm (cc_G st x0 6 x8.toNatClampNeg) fun v9 =>
  fc_nm (x7 &&& (1 : Int32)) fun v10 =>
  if v9 = (33 : Int32) then (
  fc_nm (x7 ^^^ (1 : Int32)) fun v12 =>
  C_X0_holdsFor_b140 X fu K11 x0 x1 x2 x3 x4 x5 x6 v12 x8 st)
  else (
  if v9 = (38 : Int32) then (
  fc_nm ((x7 >>> ((1 : Int32) &&& 31)) &&& (v10 ||| (-2 : Int32))) fun v14 =>
  C_X0_holdsFor_b140 X fu K11 x0 x1 x2 x3 x4 x5 x6 v14 x8 st)
  else (
  if v9 = (124 : Int32) then (
  fc_nm ((x7 >>> ((1 : Int32) &&& 31)) ||| v10) fun v16 =>
  C_X0_holdsFor_b140 X fu K11 x0 x1 x2 x3 x4 x5 x6 v16 x8 st)
  else (
  fc_bn (C_X0_passes X fu v9 x2 x3 x4 x5 x6 st) fun r19 st17 =>
  if r19 = 0 then (
  C_X0_holdsFor_b137 X fu K11 x0 x1 x2 x3 x4 x5 x6 x8 (0 : Int32) (x7 <<< ((1 : Int32) &&& 31)) st17)
  else (
  C_X0_holdsFor_b137 X fu K11 x0 x1 x2 x3 x4 x5 x6 x8 (1 : Int32) (x7 <<< ((1 : Int32) &&& 31)) st17)))))
def C_X0_holdsFor_b11 (X : cc_X) (fu : Nat) (n : Nat) (x0 : Nat) (x1 : Int32) (x2 : Int32) (x3 : Int32) (x4 : Int32) (x5 : Int32) (x6 : Int32) (x7 : Int32) (x8 : Int32) (st : cc_S) : Option (Int32 × cc_S) :=
  fc_lp (fun (K : Nat × Int32 × Int32 × Int32 × Int32 × Int32 × Int32 × Int32 × Int32 × cc_S → Option (Int32 × cc_S)) a => C_X0_holdsFor_b11F X fu (fun x0 x1 x2 x3 x4 x5 x6 x7 x8 st => K (x0, x1, x2, x3, x4, x5, x6, x7, x8, st)) a.1 a.2.1 a.2.2.1 a.2.2.2.1 a.2.2.2.2.1 a.2.2.2.2.2.1 a.2.2.2.2.2.2.1 a.2.2.2.2.2.2.2.1 a.2.2.2.2.2.2.2.2.1 a.2.2.2.2.2.2.2.2.2) n (x0, x1, x2, x3, x4, x5, x6, x7, x8, st)
def C_X0_holdsFor (X : cc_X) (fu : Nat) (x0 : Nat) (x1 : Int32) (x2 : Int32) (x3 : Int32) (x4 : Int32) (x5 : Int32) (x6 : Int32) (st : cc_S) : Option (Int32 × cc_S) :=
  fc_gd (cc_go X x0 [2]) <|
  fc_gd (cc_ga X x0 5 1 x1) <|
  fc_nm (cc_G st x0 5 x1.toNatClampNeg) fun v3 =>
  C_X0_holdsFor_b11 X fu fu x0 x1 x2 x3 x4 x5 x6 (0 : Int32) v3 st
/-! X0_baseOf -/
def C_X0_baseOf_b62 (X : cc_X) (fu : Nat) (K7 : Nat → Int32 → Int32 → Int32 → Int32 → Int32 → Int32 → Int32 → cc_S → Option (Int32 × cc_S)) (x0 : Nat) (x1 : Int32) (x2 : Int32) (x3 : Int32) (x4 : Int32) (x5 : Int32) (x6 : Int32) (x7 : Int32) (st : cc_S) : Option (Int32 × cc_S) :=
  fc_nm (x7 + (1 : Int32)) fun v12 =>
  K7 x0 x1 x2 x3 x4 x5 x6 v12 st
def C_X0_baseOf_b7F (X : cc_X) (fu : Nat) (K7 : Nat → Int32 → Int32 → Int32 → Int32 → Int32 → Int32 → Int32 → cc_S → Option (Int32 × cc_S)) (x0 : Nat) (x1 : Int32) (x2 : Int32) (x3 : Int32) (x4 : Int32) (x5 : Int32) (x6 : Int32) (x7 : Int32) (st : cc_S) : Option (Int32 × cc_S) :=
  fc_gd (cc_go X x0 [2]) <|
  if (cc_I st x0 7) ≤ x7 then (
  some (x6, st))
  else (
  fc_gd (cc_ga X x0 3 1 x7) <|
  if (cc_G st x0 3 x7.toNatClampNeg) = 0 then (
  C_X0_baseOf_b62 X fu K7 x0 x1 x2 x3 x4 x5 x6 x7 st)
  else (
  fc_bn (C_X0_holdsFor X fu x0 x7 x1 x2 x3 x4 x5 st) fun r7 st5 =>
  if r7 = 0 then (
  C_X0_baseOf_b62 X fu K7 x0 x1 x2 x3 x4 x5 x6 x7 st5)
  else (
  fc_gd (cc_ga X x0 3 1 x7) <|
  fc_gd (cc_ga X x0 4 1 x7) <|
  fc_nm (x6 + ((cc_G st5 x0 3 x7.toNatClampNeg) * (cc_G st5 x0 4 x7.toNatClampNeg))) fun v11 =>
  C_X0_baseOf_b62 X fu K7 x0 x1 x2 x3 x4 x5 v11 x7 st5)))
def C_X0_baseOf_b7 (X : cc_X) (fu : Nat) (n : Nat) (x0 : Nat) (x1 : Int32) (x2 : Int32) (x3 : Int32) (x4 : Int32) (x5 : Int32) (x6 : Int32) (x7 : Int32) (st : cc_S) : Option (Int32 × cc_S) :=
  fc_lp (fun (K : Nat × Int32 × Int32 × Int32 × Int32 × Int32 × Int32 × Int32 × cc_S → Option (Int32 × cc_S)) a => C_X0_baseOf_b7F X fu (fun x0 x1 x2 x3 x4 x5 x6 x7 st => K (x0, x1, x2, x3, x4, x5, x6, x7, st)) a.1 a.2.1 a.2.2.1 a.2.2.2.1 a.2.2.2.2.1 a.2.2.2.2.2.1 a.2.2.2.2.2.2.1 a.2.2.2.2.2.2.2.1 a.2.2.2.2.2.2.2.2) n (x0, x1, x2, x3, x4, x5, x6, x7, st)
def C_X0_baseOf (X : cc_X) (fu : Nat) (x0 : Nat) (x1 : Int32) (x2 : Int32) (x3 : Int32) (x4 : Int32) (x5 : Int32) (st : cc_S) : Option (Int32 × cc_S) :=
  C_X0_baseOf_b7 X fu fu x0 x1 x2 x3 x4 x5 (10 : Int32) (0 : Int32) st
/-! X3_gives -/
def C_X3_gives (X : cc_X) (fu : Nat) (x0 : Nat) (x1 : Int32) (x2 : Int32) (x3 : Int32) (x4 : Int32) (x5 : Int32) (st : cc_S) : Option (Int32 × cc_S) :=
  if (x3 - x3 / (2 : Int32) * (2 : Int32)) = 0 then (
  some (x1, st))
  else (
  some ((0 : Int32), st))
/-! X1_gives -/
def C_X1_gives (X : cc_X) (fu : Nat) (x0 : Nat) (x1 : Int32) (x2 : Int32) (x3 : Int32) (x4 : Int32) (x5 : Int32) (st : cc_S) : Option (Int32 × cc_S) :=
  fc_gd (cc_go X x0 [3]) <|
  fc_bn (C_X3_gives X fu x0 x1 x2 x3 x4 x5 st) fun r4 st2 =>
  some ((r4 + x2), st2)
/-! X4_began -/
def C_X4_began (X : cc_X) (fu : Nat) (x0 : Nat) (x1 : Int32) (st : cc_S) : Option cc_S :=
  fc_gd (cc_go X x0 [3, 4, 5, 6, 7, 8, 11]) <|
  fc_gd (cc_ga X 0 5 1 (0 : Int32)) <|
  fc_nm ((cc_G st 0 5 (0 : Int32).toNatClampNeg) + (1 : Int32)) fun v3 =>
  fc_gd (cc_ga X 0 5 1 (0 : Int32)) <|
  fc_nm (cc_sG st 0 5 (0 : Int32).toNatClampNeg v3) fun st5 =>
  if v3 ≤ 0 then (
  some st5)
  else (
  fc_gd (cc_ga X 0 5 1 (0 : Int32)) <|
  if (Int32.ofNat (cc_al (cx_K X 0) 5)) ≤ v3 then (
  some st5)
  else (
  fc_gd (cc_ga X 0 5 1 v3) <|
  fc_nm (cc_sG st5 0 5 v3.toNatClampNeg x1) fun st10 =>
  some st10))
/-! X4_darkens -/
def C_X4_darkens (X : cc_X) (fu : Nat) (x0 : Nat) (x1 : Int32) (st : cc_S) : Option (Int32 × cc_S) :=
  fc_gd (cc_go X x0 [3, 4, 5, 6, 7, 8, 11]) <|
  fc_bv (C_X4_began X fu x0 (10 : Int32) st) fun st2 =>
  some ((x1 + (cc_I st2 x0 1)), st2)
/-! X2_darkens -/
def C_X2_darkens (X : cc_X) (fu : Nat) (x0 : Nat) (x1 : Int32) (st : cc_S) : Option (Int32 × cc_S) :=
  fc_gd (cc_go X x0 [4]) <|
  fc_bv (C_X4_began X fu x0 (50 : Int32) st) fun st2 =>
  fc_bn (C_X4_darkens X fu x0 x1 st2) fun r6 st4 =>
  some ((-r6), st4)
/-! X3_darkens -/
def C_X3_darkens (X : cc_X) (fu : Nat) (x0 : Nat) (x1 : Int32) (st : cc_S) : Option (Int32 × cc_S) :=
  fc_gd (cc_go X x0 [3, 5]) <|
  fc_bv (C_X4_began X fu x0 (30 : Int32) st) fun st2 =>
  fc_bn (C_X4_darkens X fu x0 (x1 * (3 : Int32)) st2) fun r6 st4 =>
  some (r6, st4)
/-! X9_darkens -/
def C_X9_darkens (X : cc_X) (fu : Nat) (x0 : Nat) (x1 : Int32) (st : cc_S) : Option (Int32 × cc_S) :=
  fc_gd (cc_go X x0 [11]) <|
  fc_bv (C_X4_began X fu x0 (71 : Int32) st) fun st2 =>
  fc_bn (C_X4_darkens X fu x0 x1 st2) fun r6 st4 =>
  some ((r6 ^^^ (cc_I st4 x0 2)), st4)
def D_darkens_3_4_5_6_7_8_11 (X : cc_X) (fu i : Nat) (a0 : Int32) (st : cc_S) : Option (Int32 × cc_S) := if cx_K X i = 3 then C_X3_darkens X fu i a0 st else if cx_K X i = 4 then C_X2_darkens X fu i a0 st else if cx_K X i = 5 then C_X3_darkens X fu i a0 st else if cx_K X i = 6 then C_X4_darkens X fu i a0 st else if cx_K X i = 7 then C_X4_darkens X fu i a0 st else if cx_K X i = 8 then C_X4_darkens X fu i a0 st else if cx_K X i = 11 then C_X9_darkens X fu i a0 st else none
/-! X4_pleads -/
def C_X4_pleads (X : cc_X) (fu : Nat) (x0 : Nat) (x1 : Int32) (st : cc_S) : Option (Int32 × cc_S) :=
  fc_gd (cc_go X x0 [3, 4, 5, 6, 7, 8, 11]) <|
  fc_bv (C_X4_began X fu x0 (11 : Int32) st) fun st2 =>
  fc_bn (D_darkens_3_4_5_6_7_8_11 X fu x0 x1 st2) fun r6 st4 =>
  some ((r6 - (cc_I st4 x0 2)), st4)
/-! X6_pleads -/
def C_X6_pleads (X : cc_X) (fu : Nat) (x0 : Nat) (x1 : Int32) (st : cc_S) : Option (Int32 × cc_S) :=
  fc_gd (cc_go X x0 [4, 8]) <|
  fc_bv (C_X4_began X fu x0 (20 : Int32) st) fun st2 =>
  fc_bn (C_X4_pleads X fu x0 x1 st2) fun r6 st4 =>
  some ((r6 ^^^ (6 : Int32)), st4)
/-! X2_pleads -/
def C_X2_pleads (X : cc_X) (fu : Nat) (x0 : Nat) (x1 : Int32) (st : cc_S) : Option (Int32 × cc_S) :=
  fc_gd (cc_go X x0 [4]) <|
  fc_bv (C_X4_began X fu x0 (51 : Int32) st) fun st2 =>
  fc_bn (C_X6_pleads X fu x0 (x1 + (1 : Int32)) st2) fun r6 st4 =>
  some (r6, st4)
/-! X9_pleads -/
def C_X9_pleads (X : cc_X) (fu : Nat) (x0 : Nat) (x1 : Int32) (st : cc_S) : Option (Int32 × cc_S) :=
  fc_gd (cc_go X x0 [11]) <|
  fc_bv (C_X4_began X fu x0 (70 : Int32) st) fun st2 =>
  fc_bn (C_X4_pleads X fu x0 x1 st2) fun r6 st4 =>
  fc_bn (C_X4_darkens X fu x0 (2 : Int32) st4) fun r9 st7 =>
  some ((r6 + r9), st7)
def D_pleads_3_4_5_6_7_8_11 (X : cc_X) (fu i : Nat) (a0 : Int32) (st : cc_S) : Option (Int32 × cc_S) := if cx_K X i = 3 then C_X4_pleads X fu i a0 st else if cx_K X i = 4 then C_X2_pleads X fu i a0 st else if cx_K X i = 5 then C_X4_pleads X fu i a0 st else if cx_K X i = 6 then C_X4_pleads X fu i a0 st else if cx_K X i = 7 then C_X4_pleads X fu i a0 st else if cx_K X i = 8 then C_X6_pleads X fu i a0 st else if cx_K X i = 11 then C_X9_pleads X fu i a0 st else none
/-! X4_tells -/
def C_X4_tells (X : cc_X) (fu : Nat) (x0 : Nat) (x1 : Int32) (st : cc_S) : Option (Int32 × cc_S) :=
  fc_gd (cc_go X x0 [3, 4, 5, 6, 7, 8, 11]) <|
  fc_bv (C_X4_began X fu x0 (12 : Int32) st) fun st2 =>
  fc_bn (D_pleads_3_4_5_6_7_8_11 X fu x0 x1 st2) fun r6 st4 =>
  some ((r6 * (2 : Int32)), st4)
/-! X1_tells -/
def C_X1_tells (X : cc_X) (fu : Nat) (x0 : Nat) (x1 : Int32) (st : cc_S) : Option (Int32 × cc_S) :=
  fc_gd (cc_go X x0 [3]) <|
  fc_bv (C_X4_began X fu x0 (60 : Int32) st) fun st2 =>
  fc_bn (C_X4_tells X fu x0 (x1 - (cc_I st2 x0 1)) st2) fun r6 st4 =>
  some (r6, st4)
/-! X6_gives -/
def C_X6_gives (X : cc_X) (fu : Nat) (x0 : Nat) (x1 : Int32) (x2 : Int32) (x3 : Int32) (x4 : Int32) (x5 : Int32) (st : cc_S) : Option (Int32 × cc_S) :=
  some ((x1 + (x3 - x3 / (8 : Int32) * (8 : Int32))), st)
/-! X2_gives -/
def C_X2_gives (X : cc_X) (fu : Nat) (x0 : Nat) (x1 : Int32) (x2 : Int32) (x3 : Int32) (x4 : Int32) (x5 : Int32) (st : cc_S) : Option (Int32 × cc_S) :=
  fc_gd (cc_go X x0 [4]) <|
  fc_bn (C_X6_gives X fu x0 x1 x2 x3 x4 x5 st) fun r4 st2 =>
  if x4 = (1 : Int32) then (
  some ((r4 * (2 : Int32)), st2))
  else (
  some (r4, st2))
/-! X4_gives -/
def C_X4_gives (X : cc_X) (fu : Nat) (x0 : Nat) (x1 : Int32) (x2 : Int32) (x3 : Int32) (x4 : Int32) (x5 : Int32) (st : cc_S) : Option (Int32 × cc_S) :=
  some (x1, st)
/-! X5_gives -/
def C_X5_gives (X : cc_X) (fu : Nat) (x0 : Nat) (x1 : Int32) (x2 : Int32) (x3 : Int32) (x4 : Int32) (x5 : Int32) (st : cc_S) : Option (Int32 × cc_S) :=
  some ((x1 / (2 : Int32)), st)
def D_pleads_7_11 (X : cc_X) (fu i : Nat) (a0 : Int32) (st : cc_S) : Option (Int32 × cc_S) := if cx_K X i = 7 then C_X4_pleads X fu i a0 st else if cx_K X i = 11 then C_X9_pleads X fu i a0 st else none
/-! X5_tells -/
def C_X5_tells (X : cc_X) (fu : Nat) (x0 : Nat) (x1 : Int32) (st : cc_S) : Option (Int32 × cc_S) :=
  fc_gd (cc_go X x0 [7, 11]) <|
  fc_bv (C_X4_began X fu x0 (40 : Int32) st) fun st2 =>
  fc_bn (C_X4_tells X fu x0 x1 st2) fun r6 st4 =>
  fc_bn (D_pleads_7_11 X fu x0 (1 : Int32) st4) fun r9 st7 =>
  some ((r6 + r9), st7)
/-! X7_has -/
def C_X7_has (X : cc_X) (fu : Nat) (x0 : Nat) (x1 : Int32) (st : cc_S) : Option (Int32 × cc_S) :=
  if x1 < 0 then (
  some ((0 : Int32), st))
  else (
  fc_gd (cc_go X x0 [9]) <|
  if (cc_I st x0 9) ≤ x1 then (
  some ((0 : Int32), st))
  else (
  some ((1 : Int32), st)))
/-! X7_needOf -/
def C_X7_needOf (X : cc_X) (fu : Nat) (x0 : Nat) (x1 : Int32) (st : cc_S) : Option (Option Nat × cc_S) :=
  fc_gd (cc_go X x0 [9]) <|
  fc_bn (C_X7_has X fu x0 x1 st) fun r4 st2 =>
  if r4 = 0 then (
  some ((none : Option Nat), st2))
  else (
  fc_gd (cc_ga X x0 0 3 x1) <|
  fc_mt (cc_P st2 x0 0 x1.toNatClampNeg) (
  some ((none : Option Nat), st2))
  (fun y7 =>
  some (some y7, st2)))
/-! X7_keepCost -/
def C_X7_keepCost (X : cc_X) (fu : Nat) (x0 : Nat) (st : cc_S) : Option (Int32 × cc_S) :=
  fc_gd (cc_go X x0 [9]) <|
  fc_mt (cc_P st x0 16 0) (
  some ((1 : Int32), st))
  (fun y2 =>
  fc_mt (cc_P st x0 16 0) (
  none)
  (fun y3 =>
  fc_gd (cc_go X y3 [2]) <|
  some ((cc_I st y3 9), st)))
/-! X7_endYear -/
def C_X7_endYear (X : cc_X) (fu : Nat) (x0 : Nat) (x1 : Int32) (st : cc_S) : Option (Int32 × cc_S) :=
  fc_gd (cc_go X x0 [9]) <|
  fc_bn (C_X7_keepCost X fu x0 st) fun r4 st2 =>
  fc_nm (((cc_I st x0 14) + x1) - (r4 * (cc_I st2 x0 13))) fun v5 =>
  fc_nm (cc_sI st2 x0 14 (if (-999999 : Int32) < (if v5 < (999999 : Int32) then v5 else (999999 : Int32)) then (if v5 < (999999 : Int32) then v5 else (999999 : Int32)) else (-999999 : Int32))) fun st6 =>
  fc_nm (cc_sI st6 x0 15 ((cc_I st6 x0 15) + (1 : Int32))) fun st7 =>
  some ((cc_I st7 x0 14), st7)
/-! J9_floorMod_7cf53 -/
def C_J9_floorMod_7cf53 (X : cc_X) (fu : Nat) (x0 : Int32) (x1 : Int32) (st : cc_S) : Option (Int32 × cc_S) :=
  fc_gd (fc_nz x1) <|
  fc_nm (x0 - x0 / x1 * x1) fun v2 =>
  if 0 ≤ (x0 ^^^ x1) then (
  some (v2, st))
  else (
  if v2 = 0 then (
  some (v2, st))
  else (
  some ((v2 + x1), st)))
/-! X9_gives -/
def C_X9_gives (X : cc_X) (fu : Nat) (x0 : Nat) (x1 : Int32) (x2 : Int32) (x3 : Int32) (x4 : Int32) (x5 : Int32) (st : cc_S) : Option (Int32 × cc_S) :=
  fc_gd (cc_go X x0 [11]) <|
  fc_bn (C_X5_gives X fu x0 x1 x2 x3 x4 x5 st) fun r4 st2 =>
  some ((r4 + x5), st2)
def D_gives_3_4_5_6_7_8_11 (X : cc_X) (fu i : Nat) (a0 : Int32) (a1 : Int32) (a2 : Int32) (a3 : Int32) (a4 : Int32) (st : cc_S) : Option (Int32 × cc_S) := if cx_K X i = 3 then C_X1_gives X fu i a0 a1 a2 a3 a4 st else if cx_K X i = 4 then C_X2_gives X fu i a0 a1 a2 a3 a4 st else if cx_K X i = 5 then C_X3_gives X fu i a0 a1 a2 a3 a4 st else if cx_K X i = 6 then C_X4_gives X fu i a0 a1 a2 a3 a4 st else if cx_K X i = 7 then C_X5_gives X fu i a0 a1 a2 a3 a4 st else if cx_K X i = 8 then C_X6_gives X fu i a0 a1 a2 a3 a4 st else if cx_K X i = 11 then C_X9_gives X fu i a0 a1 a2 a3 a4 st else none
/-! X7_worthBy -/
def C_X7_worthBy_b43 (X : cc_X) (fu : Nat) (x0 : Nat) (x1 : Int32) (x2 : Int32) (x3 : Int32) (x4 : Int32) (x5 : Nat) (s0 : Int32) (st : cc_S) : Option (Int32 × cc_S) :=
  fc_gd (cc_go X x0 [9]) <|
  fc_bn (C_J9_floorMod_7cf53 X fu x3 (4 : Int32) st) fun r17 st15 =>
  fc_gd (cc_ga X x0 2 1 ((x1 * (4 : Int32)) + r17)) <|
  fc_nm (cc_G st15 x0 2 ((x1 * (4 : Int32)) + r17).toNatClampNeg) fun v19 =>
  fc_gd (cc_go X x5 [3, 4, 5, 6, 7, 8, 11]) <|
  fc_bn (D_gives_3_4_5_6_7_8_11 X fu x5 s0 x2 x3 x4 v19 st15) fun r23 st21 =>
  some ((if (0 : Int32) < r23 then r23 else (0 : Int32)), st21)
def C_X7_worthBy (X : cc_X) (fu : Nat) (x0 : Nat) (x1 : Int32) (x2 : Int32) (x3 : Int32) (x4 : Int32) (st : cc_S) : Option (Int32 × cc_S) :=
  fc_gd (cc_go X x0 [9]) <|
  fc_bn (C_X7_needOf X fu x0 x1 st) fun r4 st2 =>
  fc_mt r4 (
  some ((0 : Int32), st2))
  (fun y5 =>
  fc_mt (cc_P st2 x0 16 0) (
  C_X7_worthBy_b43 X fu x0 x1 x2 x3 x4 y5 (10 : Int32) st2)
  (fun y6 =>
  fc_mt (cc_P st2 x0 16 0) (
  fc_gd (cc_go X y5 [3, 4, 5, 6, 7, 8, 11]) <|
  none)
  (fun y7 =>
  fc_gd (cc_go X y5 [3, 4, 5, 6, 7, 8, 11]) <|
  fc_gd (cc_go X y7 [2]) <|
  fc_bn (C_X0_baseOf X fu y7 x1 (cc_I st2 y5 0) x2 x3 x4 st2) fun r13 st11 =>
  C_X7_worthBy_b43 X fu x0 x1 x2 x3 x4 y5 r13 st11)))
/-! X7_worthOf -/
def C_X7_worthOf (X : cc_X) (fu : Nat) (x0 : Nat) (x1 : Int32) (x2 : Int32) (x3 : Int32) (st : cc_S) : Option (Int32 × cc_S) :=
  fc_gd (cc_go X x0 [9]) <|
  fc_bn (C_X7_needOf X fu x0 x1 st) fun r4 st2 =>
  fc_mt r4 (
  some ((0 : Int32), st2))
  (fun y5 =>
  fc_gd (cc_go X y5 [3, 4, 5, 6, 7, 8, 11]) <|
  fc_bn (C_X7_worthBy X fu x0 x1 (cc_I st2 y5 2) x2 x3 st2) fun r9 st7 =>
  some (r9, st7))
/-! X7_isAllSeen -/
def C_X7_isAllSeen_b63 (X : cc_X) (fu : Nat) (K3 : Nat → Int32 → Int32 → Int32 → Int32 → cc_S → Option (Int32 × cc_S)) (x0 : Nat) (x1 : Int32) (x2 : Int32) (x3 : Int32) (x4 : Int32) (s0 : Int32) (st : cc_S) : Option (Int32 × cc_S) :=
  fc_gd (cc_go X x0 [9]) <|
  fc_gd (cc_ga X x0 5 1 x4) <|
  if s0 = (cc_G st x0 5 x4.toNatClampNeg) then (
  fc_nm (x4 + (1 : Int32)) fun v17 =>
  K3 x0 x1 x2 x3 v17 st)
  else (
  some ((0 : Int32), st))
def C_X7_isAllSeen_b3F (X : cc_X) (fu : Nat) (K3 : Nat → Int32 → Int32 → Int32 → Int32 → cc_S → Option (Int32 × cc_S)) (x0 : Nat) (x1 : Int32) (x2 : Int32) (x3 : Int32) (x4 : Int32) (st : cc_S) : Option (Int32 × cc_S) :=
  fc_gd (cc_go X x0 [9]) <|
  if (cc_I st x0 11) ≤ x4 then (
  some ((1 : Int32), st))
  else (
  fc_gd (cc_ga X x0 4 1 x4) <|
  fc_nm (cc_G st x0 4 x4.toNatClampNeg) fun v4 =>
  fc_gd (cc_ga X x0 6 1 x4) <|
  fc_nm ((cc_I st x0 15) + (cc_G st x0 6 x4.toNatClampNeg)) fun v6 =>
  if v4 = x1 then (
  fc_bn (C_X7_worthBy X fu x0 v4 x2 v6 x3 st) fun r13 st11 =>
  C_X7_isAllSeen_b63 X fu K3 x0 x1 x2 x3 x4 r13 st11)
  else (
  fc_bn (C_X7_worthOf X fu x0 v4 v6 x3 st) fun r10 st8 =>
  C_X7_isAllSeen_b63 X fu K3 x0 x1 x2 x3 x4 r10 st8))
def C_X7_isAllSeen_b3 (X : cc_X) (fu : Nat) (n : Nat) (x0 : Nat) (x1 : Int32) (x2 : Int32) (x3 : Int32) (x4 : Int32) (st : cc_S) : Option (Int32 × cc_S) :=
  fc_lp (fun (K : Nat × Int32 × Int32 × Int32 × Int32 × cc_S → Option (Int32 × cc_S)) a => C_X7_isAllSeen_b3F X fu (fun x0 x1 x2 x3 x4 st => K (x0, x1, x2, x3, x4, st)) a.1 a.2.1 a.2.2.1 a.2.2.2.1 a.2.2.2.2.1 a.2.2.2.2.2) n (x0, x1, x2, x3, x4, st)
def C_X7_isAllSeen (X : cc_X) (fu : Nat) (x0 : Nat) (x1 : Int32) (x2 : Int32) (x3 : Int32) (st : cc_S) : Option (Int32 × cc_S) :=
  C_X7_isAllSeen_b3 X fu fu x0 x1 x2 x3 (0 : Int32) st
/-! X8_holds -/
def C_X8_holds (X : cc_X) (fu : Nat) (x0 : Nat) (st : cc_S) : Option (Int32 × cc_S) :=
  fc_gd (cc_go X x0 [10]) <|
  if (cc_I st x0 1) = (-1 : Int32) then (
  some ((0 : Int32), st))
  else (
  some ((1 : Int32), st))
/-! X8_become -/
def C_X8_become_b12F (X : cc_X) (fu : Nat) (K12 : Nat → Int32 → cc_S → Option cc_S) (x0 : Nat) (x3 : Int32) (st : cc_S) : Option cc_S :=
  if (60 : Int32) ≤ x3 then (
  some st)
  else (
  fc_gd (cc_go X x0 [10]) <|
  fc_gd (cc_ga X x0 0 2 x3) <|
  fc_nm (cc_sJ st x0 0 x3.toNatClampNeg (0 : Int64)) fun st7 =>
  fc_nm (x3 + (1 : Int32)) fun v8 =>
  K12 x0 v8 st7)
def C_X8_become_b12 (X : cc_X) (fu : Nat) (n : Nat) (x0 : Nat) (x3 : Int32) (st : cc_S) : Option cc_S :=
  fc_lp (fun (K : Nat × Int32 × cc_S → Option cc_S) a => C_X8_become_b12F X fu (fun x0 x3 st => K (x0, x3, st)) a.1 a.2.1 a.2.2) n (x0, x3, st)
def C_X8_become (X : cc_X) (fu : Nat) (x0 : Nat) (x1 : Int32) (x2 : Int32) (st : cc_S) : Option cc_S :=
  fc_gd (cc_go X x0 [10]) <|
  fc_nm (cc_sI st x0 1 x1) fun st2 =>
  fc_nm (cc_sI st2 x0 2 x2) fun st3 =>
  C_X8_become_b12 X fu fu x0 (0 : Int32) st3
/-! X8_hasPlace -/
def C_X8_hasPlace (X : cc_X) (fu : Nat) (x0 : Nat) (x1 : Int32) (st : cc_S) : Option (Int32 × cc_S) :=
  if x1 < 0 then (
  some ((0 : Int32), st))
  else (
  fc_gd (cc_go X x0 [10]) <|
  if (cc_I st x0 2) ≤ x1 then (
  some ((0 : Int32), st))
  else (
  some ((1 : Int32), st)))
/-! X8_hasRun -/
def C_X8_hasRun (X : cc_X) (fu : Nat) (x0 : Nat) (x1 : Int32) (x2 : Int32) (st : cc_S) : Option (Int32 × cc_S) :=
  if x2 < 0 then (
  some ((0 : Int32), st))
  else (
  if x1 < 0 then (
  some ((0 : Int32), st))
  else (
  fc_gd (cc_go X x0 [10]) <|
  if (cc_I st x0 2) < x2 then (
  some ((0 : Int32), st))
  else (
  if ((cc_I st x0 2) - x2) < x1 then (
  some ((0 : Int32), st))
  else (
  some ((1 : Int32), st)))))
/-! X8_narrowed -/
def C_X8_narrowed (X : cc_X) (fu : Nat) (x0 : Nat) (x1 : Int64) (st : cc_S) : Option (Int64 × cc_S) :=
  fc_gd (cc_go X x0 [10]) <|
  fc_nm (cc_I st x0 1) fun v2 =>
  if v2 = (0 : Int32) then (
  some (((((((x1).toInt32)).toInt8.toInt32)).toInt64), st))
  else (
  if v2 = (1 : Int32) then (
  some (((((((x1).toInt32)).toInt16.toInt32)).toInt64), st))
  else (
  if v2 = (2 : Int32) then (
  some (((((x1).toInt32)).toInt64), st))
  else (
  if v2 = (3 : Int32) then (
  some (x1, st))
  else (
  if v2 = (4 : Int32) then (
  if (lg_cmp x1 (0 : Int64)) = 0 then (
  some ((0 : Int64), st))
  else (
  some ((1 : Int64), st)))
  else (
  some (x1, st))))))
/-! X10_place -/
def C_X10_place (X : cc_X) (fu : Nat) (x0 : Int32) (x1 : Int32) (x2 : Int32) (st : cc_S) : Option (Int32 × cc_S) :=
  some (((((x0 * (9 : Int32)) + x1) * (6 : Int32)) + x2), st)
/-! X10_look -/
def C_X10_look_b91F (X : cc_X) (fu : Nat) (K73 : Nat → Nat → Int32 → Int32 → Int32 → cc_S → Option cc_S) (K82 : Nat → Nat → Int32 → Int32 → Int32 → Int32 → cc_S → Option cc_S) (K91 : Nat → Nat → Int32 → Int32 → Int32 → Int32 → Int32 → cc_S → Option cc_S) (x0 : Nat) (x1 : Nat) (x2 : Int32) (x3 : Int32) (x4 : Int32) (x5 : Int32) (x6 : Int32) (st : cc_S) : Option cc_S :=
  fc_gd (cc_go X x0 [12]) <|
  if (cc_I st x0 4) ≤ x6 then (
  fc_nm (x5 + (1 : Int32)) fun v23 =>
  K82 x0 x1 x2 x3 x4 v23 st)
  else (
  fc_bn (C_X10_place X fu x4 x5 x6 st) fun r26 st24 =>
  fc_gd (cc_go X x1 [9]) <|
  fc_bn (C_X7_worthOf X fu x1 x6 ((cc_I st24 x1 15) + x4) x5 st24) fun r30 st28 =>
  fc_gd (cc_ga X x0 0 1 r26) <|
  fc_nm (cc_sG st28 x0 0 r26.toNatClampNeg r30) fun st32 =>
  fc_nm (x6 + (1 : Int32)) fun v33 =>
  K91 x0 x1 x2 x3 x4 x5 v33 st32)
def C_X10_look_b91 (X : cc_X) (fu : Nat) (K73 : Nat → Nat → Int32 → Int32 → Int32 → cc_S → Option cc_S) (K82 : Nat → Nat → Int32 → Int32 → Int32 → Int32 → cc_S → Option cc_S) (n : Nat) (x0 : Nat) (x1 : Nat) (x2 : Int32) (x3 : Int32) (x4 : Int32) (x5 : Int32) (x6 : Int32) (st : cc_S) : Option cc_S :=
  fc_lp (fun (K : Nat × Nat × Int32 × Int32 × Int32 × Int32 × Int32 × cc_S → Option cc_S) a => C_X10_look_b91F X fu K73 K82 (fun x0 x1 x2 x3 x4 x5 x6 st => K (x0, x1, x2, x3, x4, x5, x6, st)) a.1 a.2.1 a.2.2.1 a.2.2.2.1 a.2.2.2.2.1 a.2.2.2.2.2.1 a.2.2.2.2.2.2.1 a.2.2.2.2.2.2.2) n (x0, x1, x2, x3, x4, x5, x6, st)
def C_X10_look_b82F (X : cc_X) (fu : Nat) (K73 : Nat → Nat → Int32 → Int32 → Int32 → cc_S → Option cc_S) (K82 : Nat → Nat → Int32 → Int32 → Int32 → Int32 → cc_S → Option cc_S) (x0 : Nat) (x1 : Nat) (x2 : Int32) (x3 : Int32) (x4 : Int32) (x5 : Int32) (st : cc_S) : Option cc_S :=
  if x3 < x5 then (
  fc_nm (x4 + (1 : Int32)) fun v20 =>
  K73 x0 x1 x2 x3 v20 st)
  else (
  C_X10_look_b91 X fu K73 K82 fu x0 x1 x2 x3 x4 x5 (0 : Int32) st)
def C_X10_look_b82 (X : cc_X) (fu : Nat) (K73 : Nat → Nat → Int32 → Int32 → Int32 → cc_S → Option cc_S) (n : Nat) (x0 : Nat) (x1 : Nat) (x2 : Int32) (x3 : Int32) (x4 : Int32) (x5 : Int32) (st : cc_S) : Option cc_S :=
  fc_lp (fun (K : Nat × Nat × Int32 × Int32 × Int32 × Int32 × cc_S → Option cc_S) a => C_X10_look_b82F X fu K73 (fun x0 x1 x2 x3 x4 x5 st => K (x0, x1, x2, x3, x4, x5, st)) a.1 a.2.1 a.2.2.1 a.2.2.2.1 a.2.2.2.2.1 a.2.2.2.2.2.1 a.2.2.2.2.2.2) n (x0, x1, x2, x3, x4, x5, st)
def C_X10_look_b73F (X : cc_X) (fu : Nat) (K73 : Nat → Nat → Int32 → Int32 → Int32 → cc_S → Option cc_S) (x0 : Nat) (x1 : Nat) (x2 : Int32) (x3 : Int32) (x4 : Int32) (st : cc_S) : Option cc_S :=
  if x2 ≤ x4 then (
  some st)
  else (
  C_X10_look_b82 X fu K73 fu x0 x1 x2 x3 x4 (1 : Int32) st)
def C_X10_look_b73 (X : cc_X) (fu : Nat) (n : Nat) (x0 : Nat) (x1 : Nat) (x2 : Int32) (x3 : Int32) (x4 : Int32) (st : cc_S) : Option cc_S :=
  fc_lp (fun (K : Nat × Nat × Int32 × Int32 × Int32 × cc_S → Option cc_S) a => C_X10_look_b73F X fu (fun x0 x1 x2 x3 x4 st => K (x0, x1, x2, x3, x4, st)) a.1 a.2.1 a.2.2.1 a.2.2.2.1 a.2.2.2.2.1 a.2.2.2.2.2) n (x0, x1, x2, x3, x4, st)
def C_X10_look_b36F (X : cc_X) (fu : Nat) (K36 : Nat → Nat → Int32 → Int32 → Int32 → cc_S → Option cc_S) (x0 : Nat) (x1 : Nat) (x2 : Int32) (x3 : Int32) (x4 : Int32) (st : cc_S) : Option cc_S :=
  if x2 < x4 then (
  C_X10_look_b73 X fu fu x0 x1 x2 x3 (0 : Int32) st)
  else (
  fc_gd (cc_go X x0 [12]) <|
  fc_gd (cc_ga X x0 1 2 (x4 - (1 : Int32))) <|
  fc_gd (cc_ga X x0 1 2 x4) <|
  fc_nm (cc_sJ st x0 1 x4.toNatClampNeg ((cc_J st x0 1 (x4 - (1 : Int32)).toNatClampNeg) * (((cc_I st x0 4)).toInt64))) fun st16 =>
  fc_nm (x4 + (1 : Int32)) fun v17 =>
  K36 x0 x1 x2 x3 v17 st16)
def C_X10_look_b36 (X : cc_X) (fu : Nat) (n : Nat) (x0 : Nat) (x1 : Nat) (x2 : Int32) (x3 : Int32) (x4 : Int32) (st : cc_S) : Option cc_S :=
  fc_lp (fun (K : Nat × Nat × Int32 × Int32 × Int32 × cc_S → Option cc_S) a => C_X10_look_b36F X fu (fun x0 x1 x2 x3 x4 st => K (x0, x1, x2, x3, x4, st)) a.1 a.2.1 a.2.2.1 a.2.2.2.1 a.2.2.2.2.1 a.2.2.2.2.2) n (x0, x1, x2, x3, x4, st)
def C_X10_look (X : cc_X) (fu : Nat) (x0 : Nat) (x1 : Nat) (x2 : Int32) (x3 : Int32) (st : cc_S) : Option cc_S :=
  fc_gd (cc_go X x1 [9]) <|
  fc_gd (cc_go X x0 [12]) <|
  fc_nm (cc_sI st x0 4 (cc_I st x1 9)) fun st3 =>
  fc_nm (cc_sI st3 x0 5 x3) fun st4 =>
  fc_bn (C_X7_keepCost X fu x1 st4) fun r7 st5 =>
  fc_nm (cc_sI st5 x0 6 r7) fun st8 =>
  fc_nm (cc_sI st8 x0 7 x2) fun st9 =>
  fc_gd (cc_ga X x0 1 2 (0 : Int32)) <|
  fc_nm (cc_sJ st9 x0 1 (0 : Int32).toNatClampNeg (1 : Int64)) fun st11 =>
  C_X10_look_b36 X fu fu x0 x1 x2 x3 (1 : Int32) st11
/-! X10_ifServed -/
def C_X10_ifServed (X : cc_X) (fu : Nat) (x0 : Nat) (x1 : Int32) (x2 : Int32) (x3 : Int32) (st : cc_S) : Option (Int64 × cc_S) :=
  fc_gd (cc_go X x0 [12]) <|
  fc_bn (C_X10_place X fu ((cc_I st x0 7) - x2) x3 x1 st) fun r4 st2 =>
  fc_gd (cc_ga X x0 0 1 r4) <|
  fc_nm ((((cc_G st2 x0 0 r4.toNatClampNeg) - ((cc_I st2 x0 6) * (x3 - (1 : Int32))))).toInt64) fun v6 =>
  fc_gd (cc_ga X x0 2 5 (x2 - (1 : Int32))) <|
  fc_gd (cc_ga X x0 (100 * 2 + (x2 - (1 : Int32)).toNatClampNeg) 2 (x3 - (1 : Int32))) <|
  fc_gd (cc_ga X x0 1 2 (x2 - (1 : Int32))) <|
  some (((cc_J st2 x0 (100 * 2 + (x2 - (1 : Int32)).toNatClampNeg) (x3 - (1 : Int32)).toNatClampNeg) + (v6 * (cc_J st2 x0 1 (x2 - (1 : Int32)).toNatClampNeg))), st2)
/-! X10_ifSpared -/
def C_X10_ifSpared (X : cc_X) (fu : Nat) (x0 : Nat) (x1 : Int32) (x2 : Int32) (st : cc_S) : Option (Int64 × cc_S) :=
  fc_gd (cc_go X x0 [12]) <|
  fc_gd (cc_ga X x0 2 5 (x1 - (1 : Int32))) <|
  fc_gd (cc_ga X x0 (100 * 2 + (x1 - (1 : Int32)).toNatClampNeg) 2 x2) <|
  fc_gd (cc_ga X x0 1 2 (x1 - (1 : Int32))) <|
  some (((cc_J st x0 (100 * 2 + (x1 - (1 : Int32)).toNatClampNeg) x2.toNatClampNeg) - (((((cc_I st x0 6) * x2)).toInt64) * (cc_J st x0 1 (x1 - (1 : Int32)).toNatClampNeg))), st)
/-! X10_serves -/
def C_X10_serves (X : cc_X) (fu : Nat) (x0 : Nat) (x1 : Int32) (x2 : Int32) (x3 : Int32) (x4 : Int32) (x5 : Int32) (st : cc_S) : Option (Int32 × cc_S) :=
  if (1 : Int32) ≤ x3 then (
  if x4 = (0 : Int32) then (
  fc_gd (cc_go X x0 [12]) <|
  fc_bn (C_X10_ifServed X fu x0 x1 x2 x3 st) fun r6 st4 =>
  fc_bn (C_X10_ifSpared X fu x0 x2 x3 st4) fun r9 st7 =>
  if (lg_cmp r6 r9) ≤ 0 then (
  some ((0 : Int32), st7))
  else (
  some ((1 : Int32), st7)))
  else (
  if x4 = (1 : Int32) then (
  fc_gd (cc_go X x0 [12]) <|
  fc_bn (C_X10_place X fu ((cc_I st x0 7) - x2) x3 x1 st) fun r15 st13 =>
  fc_gd (cc_ga X x0 0 1 r15) <|
  if (cc_G st13 x0 0 r15.toNatClampNeg) ≤ 0 then (
  some ((0 : Int32), st13))
  else (
  some ((1 : Int32), st13)))
  else (
  if ((x5 >>> (x1 &&& 31)) &&& (1 : Int32)) = (1 : Int32) then (
  some ((1 : Int32), st))
  else (
  some ((0 : Int32), st)))))
  else (
  some ((0 : Int32), st))
/-! X10_weighYear -/
def C_X10_weighYear_b48 (X : cc_X) (fu : Nat) (K6 : Nat → Int32 → Int32 → Int32 → Int32 → Int64 → Int32 → cc_S → Option (Int64 × cc_S)) (x0 : Nat) (x1 : Int32) (x2 : Int32) (x3 : Int32) (x4 : Int32) (x7 : Int32) (s0 : Int64) (s1 : Int64) (st : cc_S) : Option (Int64 × cc_S) :=
  fc_nm (s1 + s0) fun v13 =>
  fc_nm (x7 + (1 : Int32)) fun v14 =>
  K6 x0 x1 x2 x3 x4 v13 v14 st
def C_X10_weighYear_b6F (X : cc_X) (fu : Nat) (K6 : Nat → Int32 → Int32 → Int32 → Int32 → Int64 → Int32 → cc_S → Option (Int64 × cc_S)) (x0 : Nat) (x1 : Int32) (x2 : Int32) (x3 : Int32) (x4 : Int32) (x5 : Int64) (x7 : Int32) (st : cc_S) : Option (Int64 × cc_S) :=
  fc_gd (cc_go X x0 [12]) <|
  if (cc_I st x0 4) ≤ x7 then (
  some (x5, st))
  else (
  fc_bn (C_X10_serves X fu x0 x7 x1 x2 x3 x4 st) fun r5 st3 =>
  if r5 = 0 then (
  fc_bn (C_X10_ifSpared X fu x0 x1 x2 st3) fun r9 st7 =>
  C_X10_weighYear_b48 X fu K6 x0 x1 x2 x3 x4 x7 r9 x5 st7)
  else (
  fc_bn (C_X10_ifServed X fu x0 x7 x1 x2 st3) fun r12 st10 =>
  C_X10_weighYear_b48 X fu K6 x0 x1 x2 x3 x4 x7 r12 x5 st10))
def C_X10_weighYear_b6 (X : cc_X) (fu : Nat) (n : Nat) (x0 : Nat) (x1 : Int32) (x2 : Int32) (x3 : Int32) (x4 : Int32) (x5 : Int64) (x7 : Int32) (st : cc_S) : Option (Int64 × cc_S) :=
  fc_lp (fun (K : Nat × Int32 × Int32 × Int32 × Int32 × Int64 × Int32 × cc_S → Option (Int64 × cc_S)) a => C_X10_weighYear_b6F X fu (fun x0 x1 x2 x3 x4 x5 x7 st => K (x0, x1, x2, x3, x4, x5, x7, st)) a.1 a.2.1 a.2.2.1 a.2.2.2.1 a.2.2.2.2.1 a.2.2.2.2.2.1 a.2.2.2.2.2.2.1 a.2.2.2.2.2.2.2) n (x0, x1, x2, x3, x4, x5, x7, st)
def C_X10_weighYear (X : cc_X) (fu : Nat) (x0 : Nat) (x1 : Int32) (x2 : Int32) (x3 : Int32) (x4 : Int32) (st : cc_S) : Option (Int64 × cc_S) :=
  C_X10_weighYear_b6 X fu fu x0 x1 x2 x3 x4 (0 : Int64) (0 : Int32) st
/-! X10_weigh -/
def C_X10_weigh_b12F (X : cc_X) (fu : Nat) (K3 : Nat → Int32 → Int32 → Int32 → Int32 → cc_S → Option cc_S) (K12 : Nat → Int32 → Int32 → Int32 → Int32 → Int32 → cc_S → Option cc_S) (x0 : Nat) (x1 : Int32) (x2 : Int32) (x3 : Int32) (x4 : Int32) (x5 : Int32) (st : cc_S) : Option cc_S :=
  fc_gd (cc_go X x0 [12]) <|
  if (cc_I st x0 5) < x5 then (
  fc_nm (x4 + (1 : Int32)) fun v4 =>
  K3 x0 x1 x2 x3 v4 st)
  else (
  fc_gd (cc_ga X x0 2 5 x4) <|
  fc_bn (C_X10_weighYear X fu x0 x4 x5 x2 x3 st) fun r8 st6 =>
  fc_gd (cc_ga X x0 (100 * 2 + x4.toNatClampNeg) 2 x5) <|
  fc_nm (cc_sJ st6 x0 (100 * 2 + x4.toNatClampNeg) x5.toNatClampNeg r8) fun st10 =>
  fc_nm (x5 + (1 : Int32)) fun v11 =>
  K12 x0 x1 x2 x3 x4 v11 st10)
def C_X10_weigh_b12 (X : cc_X) (fu : Nat) (K3 : Nat → Int32 → Int32 → Int32 → Int32 → cc_S → Option cc_S) (n : Nat) (x0 : Nat) (x1 : Int32) (x2 : Int32) (x3 : Int32) (x4 : Int32) (x5 : Int32) (st : cc_S) : Option cc_S :=
  fc_lp (fun (K : Nat × Int32 × Int32 × Int32 × Int32 × Int32 × cc_S → Option cc_S) a => C_X10_weigh_b12F X fu K3 (fun x0 x1 x2 x3 x4 x5 st => K (x0, x1, x2, x3, x4, x5, st)) a.1 a.2.1 a.2.2.1 a.2.2.2.1 a.2.2.2.2.1 a.2.2.2.2.2.1 a.2.2.2.2.2.2) n (x0, x1, x2, x3, x4, x5, st)
def C_X10_weigh_b3F (X : cc_X) (fu : Nat) (K3 : Nat → Int32 → Int32 → Int32 → Int32 → cc_S → Option cc_S) (x0 : Nat) (x1 : Int32) (x2 : Int32) (x3 : Int32) (x4 : Int32) (st : cc_S) : Option cc_S :=
  if x1 < x4 then (
  some st)
  else (
  C_X10_weigh_b12 X fu K3 fu x0 x1 x2 x3 x4 (0 : Int32) st)
def C_X10_weigh_b3 (X : cc_X) (fu : Nat) (n : Nat) (x0 : Nat) (x1 : Int32) (x2 : Int32) (x3 : Int32) (x4 : Int32) (st : cc_S) : Option cc_S :=
  fc_lp (fun (K : Nat × Int32 × Int32 × Int32 × Int32 × cc_S → Option cc_S) a => C_X10_weigh_b3F X fu (fun x0 x1 x2 x3 x4 st => K (x0, x1, x2, x3, x4, st)) a.1 a.2.1 a.2.2.1 a.2.2.2.1 a.2.2.2.2.1 a.2.2.2.2.2) n (x0, x1, x2, x3, x4, st)
def C_X10_weigh (X : cc_X) (fu : Nat) (x0 : Nat) (x1 : Int32) (x2 : Int32) (x3 : Int32) (st : cc_S) : Option cc_S :=
  C_X10_weigh_b3 X fu fu x0 x1 x2 x3 (1 : Int32) st
/-! X10_bestSet -/
def C_X10_bestSet_b59 (X : cc_X) (fu : Nat) (K8 : Nat → Int32 → Int32 → Int32 → Int64 → Int32 → cc_S → Option (Int32 × cc_S)) (x0 : Nat) (x1 : Int32) (x2 : Int32) (x3 : Int32) (x4 : Int64) (x6 : Int32) (st : cc_S) : Option (Int32 × cc_S) :=
  fc_nm (x6 + (1 : Int32)) fun v13 =>
  K8 x0 x1 x2 x3 x4 v13 st
def C_X10_bestSet_b46 (X : cc_X) (fu : Nat) (K8 : Nat → Int32 → Int32 → Int32 → Int64 → Int32 → cc_S → Option (Int32 × cc_S)) (x0 : Nat) (x1 : Int32) (x2 : Int32) (x6 : Int32) (st : cc_S) : Option (Int32 × cc_S) :=
  fc_gd (cc_go X x0 [12]) <|
  fc_gd (cc_ga X x0 2 5 x1) <|
  fc_gd (cc_ga X x0 (100 * 2 + x1.toNatClampNeg) 2 x2) <|
  fc_nm (cc_J st x0 (100 * 2 + x1.toNatClampNeg) x2.toNatClampNeg) fun v12 =>
  C_X10_bestSet_b59 X fu K8 x0 x1 x2 x6 v12 x6 st
def C_X10_bestSet_b8F (X : cc_X) (fu : Nat) (K8 : Nat → Int32 → Int32 → Int32 → Int64 → Int32 → cc_S → Option (Int32 × cc_S)) (x0 : Nat) (x1 : Int32) (x2 : Int32) (x3 : Int32) (x4 : Int64) (x6 : Int32) (st : cc_S) : Option (Int32 × cc_S) :=
  fc_gd (cc_go X x0 [12]) <|
  if ((1 : Int32) <<< ((cc_I st x0 4) &&& 31)) ≤ x6 then (
  some (x3, st))
  else (
  fc_bv (C_X10_weigh X fu x0 x1 (2 : Int32) x6 st) fun st3 =>
  if x6 = 0 then (
  C_X10_bestSet_b46 X fu K8 x0 x1 x2 x6 st3)
  else (
  fc_gd (cc_ga X x0 2 5 x1) <|
  fc_gd (cc_ga X x0 (100 * 2 + x1.toNatClampNeg) 2 x2) <|
  if (lg_cmp (cc_J st3 x0 (100 * 2 + x1.toNatClampNeg) x2.toNatClampNeg) x4) ≤ 0 then (
  C_X10_bestSet_b59 X fu K8 x0 x1 x2 x3 x4 x6 st3)
  else (
  C_X10_bestSet_b46 X fu K8 x0 x1 x2 x6 st3)))
def C_X10_bestSet_b8 (X : cc_X) (fu : Nat) (n : Nat) (x0 : Nat) (x1 : Int32) (x2 : Int32) (x3 : Int32) (x4 : Int64) (x6 : Int32) (st : cc_S) : Option (Int32 × cc_S) :=
  fc_lp (fun (K : Nat × Int32 × Int32 × Int32 × Int64 × Int32 × cc_S → Option (Int32 × cc_S)) a => C_X10_bestSet_b8F X fu (fun x0 x1 x2 x3 x4 x6 st => K (x0, x1, x2, x3, x4, x6, st)) a.1 a.2.1 a.2.2.1 a.2.2.2.1 a.2.2.2.2.1 a.2.2.2.2.2.1 a.2.2.2.2.2.2) n (x0, x1, x2, x3, x4, x6, st)
def C_X10_bestSet (X : cc_X) (fu : Nat) (x0 : Nat) (x1 : Int32) (x2 : Int32) (st : cc_S) : Option (Int32 × cc_S) :=
  C_X10_bestSet_b8 X fu fu x0 x1 x2 (0 : Int32) (0 : Int64) (0 : Int32) st
/-! X10_waysToSpend -/
def C_X10_waysToSpend_b90 (X : cc_X) (fu : Nat) (K35 : Nat → Int32 → Int32 → Int32 → cc_S → Option (Int64 × cc_S)) (K43 : Nat → Int32 → Int32 → Int32 → Int32 → cc_S → Option (Int64 × cc_S)) (K58 : Nat → Int32 → Int32 → Int32 → Int32 → Int64 → Int32 → cc_S → Option (Int64 × cc_S)) (x0 : Nat) (x1 : Int32) (x2 : Int32) (x3 : Int32) (x4 : Int32) (x5 : Int64) (x7 : Int32) (s0 : Int32) (st : cc_S) : Option (Int64 × cc_S) :=
  fc_gd (cc_go X x0 [12]) <|
  fc_gd (cc_ga X x0 3 5 (x3 - (1 : Int32))) <|
  fc_gd (cc_ga X x0 (100 * 3 + (x3 - (1 : Int32)).toNatClampNeg) 2 s0) <|
  fc_nm (x5 + (cc_J st x0 (100 * 3 + (x3 - (1 : Int32)).toNatClampNeg) s0.toNatClampNeg)) fun v28 =>
  fc_nm (x7 + (1 : Int32)) fun v29 =>
  K58 x0 x1 x2 x3 x4 v28 v29 st
def C_X10_waysToSpend_b58F (X : cc_X) (fu : Nat) (K35 : Nat → Int32 → Int32 → Int32 → cc_S → Option (Int64 × cc_S)) (K43 : Nat → Int32 → Int32 → Int32 → Int32 → cc_S → Option (Int64 × cc_S)) (K58 : Nat → Int32 → Int32 → Int32 → Int32 → Int64 → Int32 → cc_S → Option (Int64 × cc_S)) (x0 : Nat) (x1 : Int32) (x2 : Int32) (x3 : Int32) (x4 : Int32) (x5 : Int64) (x7 : Int32) (st : cc_S) : Option (Int64 × cc_S) :=
  fc_gd (cc_go X x0 [12]) <|
  if (cc_I st x0 4) ≤ x7 then (
  fc_gd (cc_ga X x0 3 5 x3) <|
  fc_gd (cc_ga X x0 (100 * 3 + x3.toNatClampNeg) 2 x4) <|
  fc_nm (cc_sJ st x0 (100 * 3 + x3.toNatClampNeg) x4.toNatClampNeg x5) fun st19 =>
  fc_nm (x4 + (1 : Int32)) fun v20 =>
  K43 x0 x1 x2 x3 v20 st19)
  else (
  fc_bn (C_X10_serves X fu x0 x7 x3 x4 (0 : Int32) (0 : Int32) st) fun r23 st21 =>
  if r23 = 0 then (
  C_X10_waysToSpend_b90 X fu K35 K43 K58 x0 x1 x2 x3 x4 x5 x7 x4 st21)
  else (
  C_X10_waysToSpend_b90 X fu K35 K43 K58 x0 x1 x2 x3 x4 x5 x7 (x4 - (1 : Int32)) st21))
def C_X10_waysToSpend_b58 (X : cc_X) (fu : Nat) (K35 : Nat → Int32 → Int32 → Int32 → cc_S → Option (Int64 × cc_S)) (K43 : Nat → Int32 → Int32 → Int32 → Int32 → cc_S → Option (Int64 × cc_S)) (n : Nat) (x0 : Nat) (x1 : Int32) (x2 : Int32) (x3 : Int32) (x4 : Int32) (x5 : Int64) (x7 : Int32) (st : cc_S) : Option (Int64 × cc_S) :=
  fc_lp (fun (K : Nat × Int32 × Int32 × Int32 × Int32 × Int64 × Int32 × cc_S → Option (Int64 × cc_S)) a => C_X10_waysToSpend_b58F X fu K35 K43 (fun x0 x1 x2 x3 x4 x5 x7 st => K (x0, x1, x2, x3, x4, x5, x7, st)) a.1 a.2.1 a.2.2.1 a.2.2.2.1 a.2.2.2.2.1 a.2.2.2.2.2.1 a.2.2.2.2.2.2.1 a.2.2.2.2.2.2.2) n (x0, x1, x2, x3, x4, x5, x7, st)
def C_X10_waysToSpend_b43F (X : cc_X) (fu : Nat) (K35 : Nat → Int32 → Int32 → Int32 → cc_S → Option (Int64 × cc_S)) (K43 : Nat → Int32 → Int32 → Int32 → Int32 → cc_S → Option (Int64 × cc_S)) (x0 : Nat) (x1 : Int32) (x2 : Int32) (x3 : Int32) (x4 : Int32) (st : cc_S) : Option (Int64 × cc_S) :=
  fc_gd (cc_go X x0 [12]) <|
  if (cc_I st x0 5) < x4 then (
  fc_nm (x3 + (1 : Int32)) fun v14 =>
  K35 x0 x1 x2 v14 st)
  else (
  C_X10_waysToSpend_b58 X fu K35 K43 fu x0 x1 x2 x3 x4 (0 : Int64) (0 : Int32) st)
def C_X10_waysToSpend_b43 (X : cc_X) (fu : Nat) (K35 : Nat → Int32 → Int32 → Int32 → cc_S → Option (Int64 × cc_S)) (n : Nat) (x0 : Nat) (x1 : Int32) (x2 : Int32) (x3 : Int32) (x4 : Int32) (st : cc_S) : Option (Int64 × cc_S) :=
  fc_lp (fun (K : Nat × Int32 × Int32 × Int32 × Int32 × cc_S → Option (Int64 × cc_S)) a => C_X10_waysToSpend_b43F X fu K35 (fun x0 x1 x2 x3 x4 st => K (x0, x1, x2, x3, x4, st)) a.1 a.2.1 a.2.2.1 a.2.2.2.1 a.2.2.2.2.1 a.2.2.2.2.2) n (x0, x1, x2, x3, x4, st)
def C_X10_waysToSpend_b35F (X : cc_X) (fu : Nat) (K35 : Nat → Int32 → Int32 → Int32 → cc_S → Option (Int64 × cc_S)) (x0 : Nat) (x1 : Int32) (x2 : Int32) (x3 : Int32) (st : cc_S) : Option (Int64 × cc_S) :=
  if x1 < x3 then (
  fc_gd (cc_go X x0 [12]) <|
  fc_gd (cc_ga X x0 3 5 x1) <|
  fc_gd (cc_ga X x0 (100 * 3 + x1.toNatClampNeg) 2 x2) <|
  some ((cc_J st x0 (100 * 3 + x1.toNatClampNeg) x2.toNatClampNeg), st))
  else (
  C_X10_waysToSpend_b43 X fu K35 fu x0 x1 x2 x3 (0 : Int32) st)
def C_X10_waysToSpend_b35 (X : cc_X) (fu : Nat) (n : Nat) (x0 : Nat) (x1 : Int32) (x2 : Int32) (x3 : Int32) (st : cc_S) : Option (Int64 × cc_S) :=
  fc_lp (fun (K : Nat × Int32 × Int32 × Int32 × cc_S → Option (Int64 × cc_S)) a => C_X10_waysToSpend_b35F X fu (fun x0 x1 x2 x3 st => K (x0, x1, x2, x3, st)) a.1 a.2.1 a.2.2.1 a.2.2.2.1 a.2.2.2.2) n (x0, x1, x2, x3, st)
def C_X10_waysToSpend_b26 (X : cc_X) (fu : Nat) (K2 : Nat → Int32 → Int32 → Int32 → cc_S → Option (Int64 × cc_S)) (x0 : Nat) (x1 : Int32) (x2 : Int32) (x3 : Int32) (s0 : Int64) (s1 : Int32) (s2i : Nat) (s2k : Nat) (st : cc_S) : Option (Int64 × cc_S) :=
  fc_gd (cc_ga X s2i s2k 2 s1) <|
  fc_nm (cc_sJ st s2i s2k s1.toNatClampNeg s0) fun st10 =>
  fc_nm (x3 + (1 : Int32)) fun v11 =>
  K2 x0 x1 x2 v11 st10
def C_X10_waysToSpend_b2F (X : cc_X) (fu : Nat) (K2 : Nat → Int32 → Int32 → Int32 → cc_S → Option (Int64 × cc_S)) (x0 : Nat) (x1 : Int32) (x2 : Int32) (x3 : Int32) (st : cc_S) : Option (Int64 × cc_S) :=
  fc_gd (cc_go X x0 [12]) <|
  if (cc_I st x0 5) < x3 then (
  C_X10_waysToSpend_b35 X fu fu x0 x1 x2 (1 : Int32) st)
  else (
  fc_gd (cc_ga X x0 3 5 (0 : Int32)) <|
  if x3 = 0 then (
  C_X10_waysToSpend_b26 X fu K2 x0 x1 x2 x3 (1 : Int64) x3 x0 (100 * 3 + (0 : Int32).toNatClampNeg) st)
  else (
  C_X10_waysToSpend_b26 X fu K2 x0 x1 x2 x3 (0 : Int64) x3 x0 (100 * 3 + (0 : Int32).toNatClampNeg) st))
def C_X10_waysToSpend_b2 (X : cc_X) (fu : Nat) (n : Nat) (x0 : Nat) (x1 : Int32) (x2 : Int32) (x3 : Int32) (st : cc_S) : Option (Int64 × cc_S) :=
  fc_lp (fun (K : Nat × Int32 × Int32 × Int32 × cc_S → Option (Int64 × cc_S)) a => C_X10_waysToSpend_b2F X fu (fun x0 x1 x2 x3 st => K (x0, x1, x2, x3, st)) a.1 a.2.1 a.2.2.1 a.2.2.2.1 a.2.2.2.2) n (x0, x1, x2, x3, st)
def C_X10_waysToSpend (X : cc_X) (fu : Nat) (x0 : Nat) (x1 : Int32) (x2 : Int32) (st : cc_S) : Option (Int64 × cc_S) :=
  C_X10_waysToSpend_b2 X fu fu x0 x1 x2 (0 : Int32) st
/-! J9_floorDiv_f86c9 -/
def C_J9_floorDiv_f86c9 (X : cc_X) (fu : Nat) (x0 : Int64) (x2 : Int64) (st : cc_S) : Option (Int64 × cc_S) :=
  fc_gd (fc_nzl x2) <|
  fc_nm (x0 / x2) fun v2 =>
  if 0 ≤ (lg_cmp (x0 ^^^ x2) (0 : Int64)) then (
  some (v2, st))
  else (
  if (lg_cmp (v2 * x2) x0) = 0 then (
  some (v2, st))
  else (
  some ((v2 - (1 : Int64)), st)))
/-! X10_leastWise -/
def C_X10_leastWise (X : cc_X) (fu : Nat) (x0 : Nat) (x1 : Int32) (x2 : Int32) (st : cc_S) : Option (Int64 × cc_S) :=
  fc_gd (cc_go X x0 [12]) <|
  fc_gd (cc_ga X x0 1 2 (x1 - (1 : Int32))) <|
  fc_nm (if (cc_J st x0 1 (x1 - (1 : Int32)).toNatClampNeg) < (1 : Int64) then (1 : Int64) else (cc_J st x0 1 (x1 - (1 : Int32)).toNatClampNeg)) fun v3 =>
  fc_gd (cc_ga X x0 2 5 (x1 - (1 : Int32))) <|
  fc_gd (cc_ga X x0 (100 * 2 + (x1 - (1 : Int32)).toNatClampNeg) 2 x2) <|
  fc_gd (cc_ga X x0 2 5 (x1 - (1 : Int32))) <|
  fc_gd (cc_ga X x0 (100 * 2 + (x1 - (1 : Int32)).toNatClampNeg) 2 (x2 - (1 : Int32))) <|
  fc_nm (((cc_J st x0 (100 * 2 + (x1 - (1 : Int32)).toNatClampNeg) x2.toNatClampNeg) - (cc_J st x0 (100 * 2 + (x1 - (1 : Int32)).toNatClampNeg) (x2 - (1 : Int32)).toNatClampNeg)) - ((((cc_I st x0 6)).toInt64) * v3)) fun v8 =>
  fc_bn (C_J9_floorDiv_f86c9 X fu v8 v3 st) fun r11 st9 =>
  some ((if (r11 + (1 : Int64)) < (0 : Int64) then (0 : Int64) else (r11 + (1 : Int64))), st9)
/-! J6_bitCount_0f7a4 -/
def C_J6_bitCount_0f7a4 (X : cc_X) (fu : Nat) (x0 : Int32) (st : cc_S) : Option (Int32 × cc_S) :=
  fc_nm (x0 - (((x0).toUInt32 >>> (((1 : Int32)).toUInt32 &&& Int32.toUInt32 31)).toInt32 &&& (1431655765 : Int32))) fun v1 =>
  fc_nm ((v1 &&& (858993459 : Int32)) + (((v1).toUInt32 >>> (((2 : Int32)).toUInt32 &&& Int32.toUInt32 31)).toInt32 &&& (858993459 : Int32))) fun v2 =>
  fc_nm ((v2 + ((v2).toUInt32 >>> (((4 : Int32)).toUInt32 &&& Int32.toUInt32 31)).toInt32) &&& (252645135 : Int32)) fun v3 =>
  fc_nm (v3 + ((v3).toUInt32 >>> (((8 : Int32)).toUInt32 &&& Int32.toUInt32 31)).toInt32) fun v4 =>
  fc_nm (v4 + ((v4).toUInt32 >>> (((16 : Int32)).toUInt32 &&& Int32.toUInt32 31)).toInt32) fun v5 =>
  some ((v5 &&& (63 : Int32)), st)
/-! X10_gain -/
def C_X10_gain_b60 (X : cc_X) (fu : Nat) (K11 : Nat → Nat → Int32 → Int32 → Int32 → Int32 → cc_S → Option (Int32 × cc_S)) (x0 : Nat) (x1 : Nat) (x2 : Int32) (x3 : Int32) (x4 : Int32) (x5 : Int32) (st : cc_S) : Option (Int32 × cc_S) :=
  fc_gd (cc_go X x0 [12]) <|
  fc_nm (x4 - ((cc_I st x0 6) * x3)) fun v16 =>
  fc_nm (x5 + (1 : Int32)) fun v17 =>
  K11 x0 x1 x2 x3 v16 v17 st
def C_X10_gain_b11F (X : cc_X) (fu : Nat) (K11 : Nat → Nat → Int32 → Int32 → Int32 → Int32 → cc_S → Option (Int32 × cc_S)) (x0 : Nat) (x1 : Nat) (x2 : Int32) (x3 : Int32) (x4 : Int32) (x5 : Int32) (st : cc_S) : Option (Int32 × cc_S) :=
  fc_gd (cc_go X x1 [9]) <|
  if (cc_I st x1 10) ≤ x5 then (
  some (x4, st))
  else (
  if ((x2 >>> (x5 &&& 31)) &&& (1 : Int32)) = (1 : Int32) then (
  if x3 ≤ 0 then (
  C_X10_gain_b60 X fu K11 x0 x1 x2 x3 x4 x5 st)
  else (
  fc_gd (cc_go X x0 [12]) <|
  fc_gd (cc_ga X x1 3 1 x5) <|
  fc_bn (C_X10_place X fu x5 x3 (cc_G st x1 3 x5.toNatClampNeg) st) fun r11 st9 =>
  fc_gd (cc_ga X x0 0 1 r11) <|
  fc_nm (x4 + (cc_G st9 x0 0 r11.toNatClampNeg)) fun v13 =>
  fc_nm (x3 + (-1 : Int32)) fun v14 =>
  C_X10_gain_b60 X fu K11 x0 x1 x2 v14 v13 x5 st9))
  else (
  C_X10_gain_b60 X fu K11 x0 x1 x2 x3 x4 x5 st))
def C_X10_gain_b11 (X : cc_X) (fu : Nat) (n : Nat) (x0 : Nat) (x1 : Nat) (x2 : Int32) (x3 : Int32) (x4 : Int32) (x5 : Int32) (st : cc_S) : Option (Int32 × cc_S) :=
  fc_lp (fun (K : Nat × Nat × Int32 × Int32 × Int32 × Int32 × cc_S → Option (Int32 × cc_S)) a => C_X10_gain_b11F X fu (fun x0 x1 x2 x3 x4 x5 st => K (x0, x1, x2, x3, x4, x5, st)) a.1 a.2.1 a.2.2.1 a.2.2.2.1 a.2.2.2.2.1 a.2.2.2.2.2.1 a.2.2.2.2.2.2) n (x0, x1, x2, x3, x4, x5, st)
def C_X10_gain (X : cc_X) (fu : Nat) (x0 : Nat) (x1 : Nat) (x2 : Int32) (st : cc_S) : Option (Int32 × cc_S) :=
  fc_gd (cc_go X x1 [9]) <|
  fc_nm (cc_I st x1 13) fun v2 =>
  C_X10_gain_b11 X fu fu x0 x1 x2 v2 (0 : Int32) (0 : Int32) st
/-! X10_bestPlan -/
def C_X10_bestPlan_b56 (X : cc_X) (fu : Nat) (K12 : Nat → Nat → Int32 → Int32 → Int32 → cc_S → Option (Int32 × cc_S)) (x0 : Nat) (x1 : Nat) (x2 : Int32) (x3 : Int32) (x4 : Int32) (st : cc_S) : Option (Int32 × cc_S) :=
  fc_nm (x4 + (1 : Int32)) fun v16 =>
  K12 x0 x1 x2 x3 v16 st
def C_X10_bestPlan_b12F (X : cc_X) (fu : Nat) (K12 : Nat → Nat → Int32 → Int32 → Int32 → cc_S → Option (Int32 × cc_S)) (x0 : Nat) (x1 : Nat) (x2 : Int32) (x3 : Int32) (x4 : Int32) (st : cc_S) : Option (Int32 × cc_S) :=
  fc_gd (cc_go X x1 [9]) <|
  if ((1 : Int32) <<< ((cc_I st x1 10) &&& 31)) ≤ x4 then (
  some (x2, st))
  else (
  fc_bn (C_J6_bitCount_0f7a4 X fu x4 st) fun r9 st7 =>
  if (cc_I st7 x1 13) < r9 then (
  C_X10_bestPlan_b56 X fu K12 x0 x1 x2 x3 x4 st7)
  else (
  fc_gd (cc_go X x0 [12]) <|
  fc_bn (C_X10_gain X fu x0 x1 x4 st7) fun r14 st12 =>
  if r14 ≤ x3 then (
  C_X10_bestPlan_b56 X fu K12 x0 x1 x2 x3 x4 st12)
  else (
  C_X10_bestPlan_b56 X fu K12 x0 x1 x4 r14 x4 st12)))
def C_X10_bestPlan_b12 (X : cc_X) (fu : Nat) (n : Nat) (x0 : Nat) (x1 : Nat) (x2 : Int32) (x3 : Int32) (x4 : Int32) (st : cc_S) : Option (Int32 × cc_S) :=
  fc_lp (fun (K : Nat × Nat × Int32 × Int32 × Int32 × cc_S → Option (Int32 × cc_S)) a => C_X10_bestPlan_b12F X fu (fun x0 x1 x2 x3 x4 st => K (x0, x1, x2, x3, x4, st)) a.1 a.2.1 a.2.2.1 a.2.2.2.1 a.2.2.2.2.1 a.2.2.2.2.2) n (x0, x1, x2, x3, x4, st)
def C_X10_bestPlan (X : cc_X) (fu : Nat) (x0 : Nat) (x1 : Nat) (st : cc_S) : Option (Int32 × cc_S) :=
  fc_gd (cc_go X x0 [12]) <|
  fc_bn (C_X10_gain X fu x0 x1 (0 : Int32) st) fun r4 st2 =>
  C_X10_bestPlan_b12 X fu fu x0 x1 (0 : Int32) r4 (1 : Int32) st2
/-! X11_of -/
def C_X11_of (X : cc_X) (fu : Nat) (x0 : Nat) (x1 : Int32) (x2 : Int32) (st : cc_S) : Option (Int32 × cc_S) :=
  fc_gd (cc_go X x0 [13]) <|
  fc_gd (cc_go X 1 [9]) <|
  fc_bn (C_X7_needOf X fu 1 x1 st) fun r5 st3 =>
  fc_mt r5 (
  some ((-1 : Int32), st3))
  (fun y6 =>
  if x2 = (0 : Int32) then (
  fc_gd (cc_go X y6 [3, 4, 5, 6, 7, 8, 11]) <|
  some ((cc_I st3 y6 0), st3))
  else (
  if x2 = (1 : Int32) then (
  fc_gd (cc_go X y6 [3, 4, 5, 6, 7, 8, 11]) <|
  some ((cc_I st3 y6 2), st3))
  else (
  if x2 = (2 : Int32) then (
  fc_gd (cc_ga X 1 1 1 x1) <|
  some ((cc_G st3 1 1 x1.toNatClampNeg), st3))
  else (
  if x2 = (3 : Int32) then (
  fc_bn (C_X7_worthOf X fu 1 x1 (cc_I st3 1 15) (cc_I st3 1 13) st3) fun r16 st14 =>
  some (r16, st14))
  else (
  some ((-1 : Int32), st3))))))
/-! X11_isWithin -/
def C_X11_isWithin (X : cc_X) (fu : Nat) (x0 : Int32) (x1 : Int32) (st : cc_S) : Option (Int32 × cc_S) :=
  if x0 < 0 then (
  some ((0 : Int32), st))
  else (
  if x1 < x0 then (
  some ((0 : Int32), st))
  else (
  some ((1 : Int32), st)))
/-! X11_worth -/
def C_X11_worth (X : cc_X) (fu : Nat) (x0 : Nat) (x1 : Int32) (x2 : Int32) (x3 : Int32) (st : cc_S) : Option (Int32 × cc_S) :=
  fc_gd (cc_go X x0 [13]) <|
  fc_gd (cc_go X 1 [9]) <|
  fc_bn (C_X7_has X fu 1 x1 st) fun r5 st3 =>
  if r5 = 0 then (
  some ((-1 : Int32), st3))
  else (
  fc_bn (C_X11_isWithin X fu x2 (60 : Int32) st3) fun r9 st7 =>
  if r9 = 0 then (
  some ((-2 : Int32), st7))
  else (
  fc_bn (C_X11_isWithin X fu x3 (8 : Int32) st7) fun r13 st11 =>
  if r13 = 0 then (
  some ((-2 : Int32), st11))
  else (
  fc_bn (C_X7_worthOf X fu 1 x1 ((cc_I st11 1 15) + x2) x3 st11) fun r17 st15 =>
  some (r17, st15))))
/-! X11_serve -/
def C_X11_serve (X : cc_X) (fu : Nat) (x0 : Nat) (x1 : Int32) (st : cc_S) : Option (Int32 × cc_S) :=
  fc_gd (cc_go X x0 [13]) <|
  fc_gd (cc_go X 1 [9]) <|
  fc_bn (C_X7_has X fu 1 x1 st) fun r5 st3 =>
  if r5 = 0 then (
  some ((-10000001 : Int32), st3))
  else (
  if (cc_I st3 1 13) < (1 : Int32) then (
  some ((-10000002 : Int32), st3))
  else (
  if (9999 : Int32) ≤ (cc_I st3 1 15) then (
  some ((-10000002 : Int32), st3))
  else (
  fc_gd (cc_ga X 1 1 1 x1) <|
  if (cc_G st3 1 1 x1.toNatClampNeg) < (9999 : Int32) then (
  fc_bn (C_X7_worthOf X fu 1 x1 (cc_I st3 1 15) (cc_I st3 1 13) st3) fun r13 st11 =>
  fc_nm (cc_sI st11 1 13 ((cc_I st11 1 13) - (1 : Int32))) fun st14 =>
  fc_gd (cc_ga X 1 1 1 x1) <|
  fc_gd (cc_ga X 1 1 1 x1) <|
  fc_nm (cc_sG st14 1 1 x1.toNatClampNeg ((cc_G st14 1 1 x1.toNatClampNeg) + (1 : Int32))) fun st17 =>
  fc_bn (C_X7_endYear X fu 1 r13 st17) fun r20 st18 =>
  some (r20, st18))
  else (
  some ((-10000002 : Int32), st3)))))
/-! X11_spare -/
def C_X11_spare (X : cc_X) (fu : Nat) (x0 : Nat) (x1 : Int32) (st : cc_S) : Option (Int32 × cc_S) :=
  fc_gd (cc_go X x0 [13]) <|
  fc_gd (cc_go X 1 [9]) <|
  fc_bn (C_X7_has X fu 1 x1 st) fun r5 st3 =>
  if r5 = 0 then (
  some ((-10000001 : Int32), st3))
  else (
  if (cc_I st3 1 15) < (9999 : Int32) then (
  fc_bn (C_X7_endYear X fu 1 (0 : Int32) st3) fun r10 st8 =>
  some (r10, st8))
  else (
  some ((-10000002 : Int32), st3)))
/-! X11_darks -/
def C_X11_darks (X : cc_X) (fu : Nat) (x0 : Nat) (x1 : Int32) (st : cc_S) : Option (Int32 × cc_S) :=
  fc_bn (C_X11_isWithin X fu x1 (8 : Int32) st) fun r3 st1 =>
  if r3 = 0 then (
  some ((-2 : Int32), st1))
  else (
  fc_gd (cc_go X x0 [13]) <|
  fc_gd (cc_go X 1 [9]) <|
  fc_nm (cc_I st1 1 13) fun v7 =>
  fc_nm (cc_sI st1 1 13 x1) fun st8 =>
  some (v7, st8))
/-! X11_row -/
def C_X11_row (X : cc_X) (fu : Nat) (x0 : Nat) (x1 : Int32) (x2 : Int32) (x3 : Int32) (st : cc_S) : Option (Int32 × cc_S) :=
  fc_gd (cc_go X x0 [13]) <|
  fc_gd (cc_go X 1 [9]) <|
  fc_bn (C_X7_needOf X fu 1 x1 st) fun r5 st3 =>
  fc_mt r5 (
  some ((-1 : Int32), st3))
  (fun y6 =>
  fc_bn (C_X11_isWithin X fu x2 (3 : Int32) st3) fun r9 st7 =>
  if r9 = 0 then (
  some ((-1 : Int32), st7))
  else (
  fc_bn (C_X11_isWithin X fu x3 (9 : Int32) st7) fun r13 st11 =>
  if r13 = 0 then (
  some ((-2 : Int32), st11))
  else (
  fc_gd (cc_go X y6 [3, 4, 5, 6, 7, 8, 11]) <|
  if (cc_io (cx_K X y6) 11) = 0 then (
  some ((-3 : Int32), st11))
  else (
  fc_gd (cc_ga X 1 2 1 ((x1 * (4 : Int32)) + x2)) <|
  fc_nm (cc_G st11 1 2 ((x1 * (4 : Int32)) + x2).toNatClampNeg) fun v18 =>
  fc_gd (cc_ga X 1 2 1 ((x1 * (4 : Int32)) + x2)) <|
  fc_nm (cc_sG st11 1 2 ((x1 * (4 : Int32)) + x2).toNatClampNeg x3) fun st20 =>
  some (v18, st20)))))
/-! X11_told -/
def C_X11_told (X : cc_X) (fu : Nat) (x0 : Nat) (x1 : Int32) (st : cc_S) : Option (Int32 × cc_S) :=
  if x1 = (0 : Int32) then (
  fc_gd (cc_go X x0 [13]) <|
  fc_gd (cc_go X 1 [9]) <|
  some ((cc_I st 1 15), st))
  else (
  if x1 = (1 : Int32) then (
  fc_gd (cc_go X x0 [13]) <|
  fc_gd (cc_go X 1 [9]) <|
  some ((cc_I st 1 13), st))
  else (
  if x1 = (2 : Int32) then (
  fc_gd (cc_go X x0 [13]) <|
  fc_gd (cc_go X 1 [9]) <|
  some ((cc_I st 1 14), st))
  else (
  if x1 = (3 : Int32) then (
  fc_gd (cc_go X x0 [13]) <|
  fc_gd (cc_go X 1 [9]) <|
  fc_bn (C_X7_keepCost X fu 1 st) fun r15 st13 =>
  some (r15, st13))
  else (
  some ((-10000001 : Int32), st)))))
/-! X11_commonOf -/
def C_X11_commonOf_b9F (X : cc_X) (fu : Nat) (K9 : Int64 → Int64 → Int32 → cc_S → Option (Int64 × cc_S)) (x4 : Int64) (x6 : Int64) (x8 : Int32) (st : cc_S) : Option (Int64 × cc_S) :=
  if (1000 : Int32) ≤ x8 then (
  some (x4, st))
  else (
  if (lg_cmp x6 (0 : Int64)) = 0 then (
  some (x4, st))
  else (
  fc_gd (fc_nzl x6) <|
  fc_nm (x4 - x4 / x6 * x6) fun v4 =>
  fc_nm (x8 + (1 : Int32)) fun v5 =>
  K9 x6 v4 v5 st))
def C_X11_commonOf_b9 (X : cc_X) (fu : Nat) (n : Nat) (x4 : Int64) (x6 : Int64) (x8 : Int32) (st : cc_S) : Option (Int64 × cc_S) :=
  fc_lp (fun (K : Int64 × Int64 × Int32 × cc_S → Option (Int64 × cc_S)) a => C_X11_commonOf_b9F X fu (fun x4 x6 x8 st => K (x4, x6, x8, st)) a.1 a.2.1 a.2.2.1 a.2.2.2) n (x4, x6, x8, st)
def C_X11_commonOf (X : cc_X) (fu : Nat) (x0 : Int64) (x2 : Int64) (st : cc_S) : Option (Int64 × cc_S) :=
  C_X11_commonOf_b9 X fu fu x0 x2 (0 : Int32) st
/-! X11_fraction -/
def C_X11_fraction (X : cc_X) (fu : Nat) (x0 : Int64) (x2 : Int64) (x4 : Int32) (st : cc_S) : Option (Int64 × cc_S) :=
  fc_bn (C_X11_commonOf X fu (if 0 < x0 then x0 else -x0) x2 st) fun r3 st1 =>
  fc_nm (if r3 < (1 : Int64) then (1 : Int64) else r3) fun v4 =>
  if x4 = 0 then (
  fc_gd (fc_nzl v4) <|
  some ((x0 / v4), st1))
  else (
  fc_gd (fc_nzl v4) <|
  some ((x2 / v4), st1))
/-! X11_isAsked -/
def C_X11_isAsked (X : cc_X) (fu : Nat) (x0 : Nat) (x1 : Int32) (x2 : Int32) (st : cc_S) : Option (Int32 × cc_S) :=
  fc_bn (C_X11_isWithin X fu x1 (8 : Int32) st) fun r3 st1 =>
  if r3 = 0 then (
  some ((0 : Int32), st1))
  else (
  fc_bn (C_X11_isWithin X fu x2 (1 : Int32) st1) fun r7 st5 =>
  if r7 = 0 then (
  some ((0 : Int32), st5))
  else (
  fc_gd (cc_go X x0 [13]) <|
  fc_gd (cc_go X 1 [9]) <|
  if (cc_I st5 1 9) ≤ 0 then (
  some ((0 : Int32), st5))
  else (
  some ((1 : Int32), st5))))
/-! X11_onTheMean -/
def C_X11_onTheMean (X : cc_X) (fu : Nat) (x0 : Nat) (x1 : Int32) (x2 : Int32) (x3 : Int32) (x4 : Int32) (st : cc_S) : Option (Int64 × cc_S) :=
  fc_gd (cc_go X x0 [13]) <|
  fc_bn (C_X11_isAsked X fu x0 x1 x4 st) fun r4 st2 =>
  if r4 = 0 then (
  some ((-9223372036854775808 : Int64), st2))
  else (
  fc_gd (cc_go X 1 [9]) <|
  fc_gd (cc_go X 3 [12]) <|
  fc_bv (C_X10_look X fu 3 1 x1 (cc_I st2 1 13) st2) fun st8 =>
  fc_bv (C_X10_weigh X fu 3 x1 x2 x3 st8) fun st10 =>
  fc_gd (cc_ga X 3 2 5 x1) <|
  fc_gd (cc_ga X 3 (100 * 2 + x1.toNatClampNeg) 2 (cc_I st10 1 13)) <|
  fc_gd (cc_ga X 3 1 2 x1) <|
  fc_bn (C_X11_fraction X fu (cc_J st10 3 (100 * 2 + x1.toNatClampNeg) (cc_I st10 1 13).toNatClampNeg) (cc_J st10 3 1 x1.toNatClampNeg) x4 st10) fun r17 st15 =>
  some (r17, st15))
/-! X11_mean -/
def C_X11_mean (X : cc_X) (fu : Nat) (x0 : Nat) (x1 : Int32) (x2 : Int32) (st : cc_S) : Option (Int64 × cc_S) :=
  fc_gd (cc_go X x0 [13]) <|
  fc_bn (C_X11_onTheMean X fu x0 x1 (0 : Int32) (0 : Int32) x2 st) fun r4 st2 =>
  some (r4, st2)
/-! X11_wise -/
def C_X11_wise (X : cc_X) (fu : Nat) (x0 : Nat) (x1 : Int32) (x2 : Int32) (st : cc_S) : Option (Int32 × cc_S) :=
  fc_gd (cc_go X x0 [13]) <|
  fc_gd (cc_go X 1 [9]) <|
  fc_bn (C_X7_has X fu 1 x1 st) fun r5 st3 =>
  if r5 = 0 then (
  some ((-1 : Int32), st3))
  else (
  if x2 < (1 : Int32) then (
  some ((-2 : Int32), st3))
  else (
  if x2 ≤ (8 : Int32) then (
  fc_gd (cc_go X 3 [12]) <|
  fc_bv (C_X10_look X fu 3 1 x2 (cc_I st3 1 13) st3) fun st10 =>
  fc_bv (C_X10_weigh X fu 3 x2 (0 : Int32) (0 : Int32) st10) fun st12 =>
  fc_bn (C_X10_serves X fu 3 x1 x2 (cc_I st12 1 13) (0 : Int32) (0 : Int32) st12) fun r16 st14 =>
  if r16 = 0 then (
  some ((0 : Int32), st14))
  else (
  some ((1 : Int32), st14)))
  else (
  some ((-2 : Int32), st3))))
/-! X11_price -/
def C_X11_price (X : cc_X) (fu : Nat) (x0 : Nat) (x1 : Int32) (x2 : Int32) (st : cc_S) : Option (Int64 × cc_S) :=
  fc_gd (cc_go X x0 [13]) <|
  fc_bn (C_X11_isAsked X fu x0 x1 x2 st) fun r4 st2 =>
  if r4 = 0 then (
  some ((-9223372036854775808 : Int64), st2))
  else (
  fc_gd (cc_go X 1 [9]) <|
  if (cc_I st2 1 13) < (8 : Int32) then (
  fc_nm ((cc_I st2 1 13) + (1 : Int32)) fun v8 =>
  fc_gd (cc_go X 3 [12]) <|
  fc_bv (C_X10_look X fu 3 1 x1 v8 st2) fun st10 =>
  fc_bv (C_X10_weigh X fu 3 x1 (0 : Int32) (0 : Int32) st10) fun st12 =>
  fc_gd (cc_ga X 3 2 5 x1) <|
  fc_gd (cc_ga X 3 (100 * 2 + x1.toNatClampNeg) 2 v8) <|
  fc_gd (cc_ga X 3 2 5 x1) <|
  fc_gd (cc_ga X 3 (100 * 2 + x1.toNatClampNeg) 2 (cc_I st12 1 13)) <|
  fc_gd (cc_ga X 3 1 2 x1) <|
  fc_bn (C_X11_fraction X fu ((cc_J st12 3 (100 * 2 + x1.toNatClampNeg) v8.toNatClampNeg) - (cc_J st12 3 (100 * 2 + x1.toNatClampNeg) (cc_I st12 1 13).toNatClampNeg)) (cc_J st12 3 1 x1.toNatClampNeg) x2 st12) fun r21 st19 =>
  some (r21, st19))
  else (
  some ((-9223372036854775808 : Int64), st2)))
/-! X11_greedy -/
def C_X11_greedy (X : cc_X) (fu : Nat) (x0 : Nat) (x1 : Int32) (x2 : Int32) (st : cc_S) : Option (Int64 × cc_S) :=
  fc_gd (cc_go X x0 [13]) <|
  fc_bn (C_X11_onTheMean X fu x0 x1 (1 : Int32) (0 : Int32) x2 st) fun r4 st2 =>
  some (r4, st2)
/-! X11_only -/
def C_X11_only (X : cc_X) (fu : Nat) (x0 : Nat) (x1 : Int32) (x2 : Int32) (x3 : Int32) (st : cc_S) : Option (Int64 × cc_S) :=
  fc_bn (C_X11_isWithin X fu x1 (63 : Int32) st) fun r3 st1 =>
  if r3 = 0 then (
  some ((-9223372036854775808 : Int64), st1))
  else (
  fc_gd (cc_go X x0 [13]) <|
  fc_bn (C_X11_onTheMean X fu x0 x2 (2 : Int32) x1 x3 st1) fun r8 st6 =>
  some (r8, st6))
/-! X11_chosen -/
def C_X11_chosen (X : cc_X) (fu : Nat) (x0 : Nat) (x1 : Int32) (st : cc_S) : Option (Int32 × cc_S) :=
  fc_bn (C_X11_isWithin X fu x1 (8 : Int32) st) fun r3 st1 =>
  if r3 = 0 then (
  some ((-2 : Int32), st1))
  else (
  fc_gd (cc_go X x0 [13]) <|
  fc_gd (cc_go X 1 [9]) <|
  if (cc_I st1 1 9) = 0 then (
  some ((-5 : Int32), st1))
  else (
  fc_gd (cc_go X 3 [12]) <|
  fc_bv (C_X10_look X fu 3 1 x1 (cc_I st1 1 13) st1) fun st9 =>
  fc_bn (C_X10_bestSet X fu 3 x1 (cc_I st9 1 13) st9) fun r13 st11 =>
  some (r13, st11)))
/-! X11_spent -/
def C_X11_spent (X : cc_X) (fu : Nat) (x0 : Nat) (x1 : Int32) (x2 : Int32) (st : cc_S) : Option (Int64 × cc_S) :=
  fc_gd (cc_go X x0 [13]) <|
  fc_bn (C_X11_isAsked X fu x0 x1 x2 st) fun r4 st2 =>
  if r4 = 0 then (
  some ((-9223372036854775808 : Int64), st2))
  else (
  fc_gd (cc_go X 1 [9]) <|
  fc_gd (cc_go X 3 [12]) <|
  fc_bv (C_X10_look X fu 3 1 x1 (cc_I st2 1 13) st2) fun st8 =>
  fc_bv (C_X10_weigh X fu 3 x1 (0 : Int32) (0 : Int32) st8) fun st10 =>
  fc_bn (C_X10_waysToSpend X fu 3 x1 (cc_I st10 1 13) st10) fun r14 st12 =>
  fc_gd (cc_ga X 3 1 2 x1) <|
  fc_bn (C_X11_fraction X fu r14 (cc_J st12 3 1 x1.toNatClampNeg) x2 st12) fun r18 st16 =>
  some (r18, st16))
/-! X11_threshold -/
def C_X11_threshold (X : cc_X) (fu : Nat) (x0 : Nat) (x1 : Int32) (st : cc_S) : Option (Int32 × cc_S) :=
  if x1 < (1 : Int32) then (
  some ((-2 : Int32), st))
  else (
  if x1 ≤ (8 : Int32) then (
  fc_gd (cc_go X x0 [13]) <|
  fc_gd (cc_go X 1 [9]) <|
  if (cc_I st 1 9) = 0 then (
  some ((-5 : Int32), st))
  else (
  if (cc_I st 1 13) = 0 then (
  some ((-5 : Int32), st))
  else (
  fc_gd (cc_go X 3 [12]) <|
  fc_bv (C_X10_look X fu 3 1 x1 (cc_I st 1 13) st) fun st8 =>
  fc_bv (C_X10_weigh X fu 3 x1 (0 : Int32) (0 : Int32) st8) fun st10 =>
  fc_bn (C_X10_leastWise X fu 3 x1 (cc_I st10 1 13) st10) fun r14 st12 =>
  if (lg_cmp r14 (999 : Int64)) ≤ 0 then (
  some (((r14).toInt32), st12))
  else (
  some ((-5 : Int32), st12)))))
  else (
  some ((-2 : Int32), st)))
/-! X11_century -/
def C_X11_century (X : cc_X) (fu : Nat) (x0 : Nat) (x1 : Int32) (st : cc_S) : Option (Int32 × cc_S) :=
  if x1 = (-1 : Int32) then (
  fc_gd (cc_go X x0 [13]) <|
  fc_gd (cc_go X 1 [9]) <|
  fc_nm (cc_sI st 1 10 (0 : Int32)) fun st14 =>
  some ((0 : Int32), st14))
  else (
  fc_gd (cc_go X x0 [13]) <|
  fc_gd (cc_go X 1 [9]) <|
  fc_bn (C_X7_has X fu 1 x1 st) fun r6 st4 =>
  if r6 = 0 then (
  some ((-1 : Int32), st4))
  else (
  if (cc_I st4 1 10) < (8 : Int32) then (
  fc_gd (cc_ga X 1 3 1 (cc_I st4 1 10)) <|
  fc_nm (cc_sG st4 1 3 (cc_I st4 1 10).toNatClampNeg x1) fun st10 =>
  fc_nm (cc_sI st10 1 10 ((cc_I st10 1 10) + (1 : Int32))) fun st11 =>
  some ((cc_I st11 1 10), st11))
  else (
  some ((-4 : Int32), st4))))
/-! X11_plan -/
def C_X11_plan (X : cc_X) (fu : Nat) (x0 : Nat) (x1 : Int32) (st : cc_S) : Option (Int32 × cc_S) :=
  fc_bn (C_X11_isWithin X fu x1 (1 : Int32) st) fun r3 st1 =>
  if r3 = 0 then (
  some ((-10000001 : Int32), st1))
  else (
  fc_gd (cc_go X x0 [13]) <|
  fc_gd (cc_go X 1 [9]) <|
  fc_gd (cc_go X 3 [12]) <|
  fc_bv (C_X10_look X fu 3 1 (cc_I st1 1 10) (cc_I st1 1 13) st1) fun st8 =>
  fc_bn (C_X10_bestPlan X fu 3 1 st8) fun r12 st10 =>
  if x1 = 0 then (
  some (r12, st10))
  else (
  fc_bn (C_X10_gain X fu 3 1 r12 st10) fun r16 st14 =>
  some (r16, st14)))
/-! X11_ends -/
def C_X11_ends_b55 (X : cc_X) (fu : Nat) (x0 : Nat) (s0 : Int32) (st : cc_S) : Option (Int32 × cc_S) :=
  fc_gd (cc_go X 3 [12]) <|
  fc_bn (C_X10_gain X fu 3 1 s0 st) fun r14 st12 =>
  some (r14, st12)
def C_X11_ends (X : cc_X) (fu : Nat) (x0 : Nat) (x1 : Int32) (st : cc_S) : Option (Int32 × cc_S) :=
  fc_bn (C_X11_isWithin X fu x1 (1 : Int32) st) fun r3 st1 =>
  if r3 = 0 then (
  some ((-10000001 : Int32), st1))
  else (
  fc_gd (cc_go X x0 [13]) <|
  fc_gd (cc_go X 1 [9]) <|
  fc_gd (cc_go X 3 [12]) <|
  fc_bv (C_X10_look X fu 3 1 (cc_I st1 1 10) (cc_I st1 1 13) st1) fun st8 =>
  if x1 = 0 then (
  C_X11_ends_b55 X fu x0 (0 : Int32) st8)
  else (
  C_X11_ends_b55 X fu x0 (255 : Int32) st8))
/-! X11_see -/
def C_X11_see (X : cc_X) (fu : Nat) (x0 : Nat) (x1 : Int32) (x2 : Int32) (x3 : Int32) (st : cc_S) : Option (Int32 × cc_S) :=
  if x1 = (-1 : Int32) then (
  fc_gd (cc_go X x0 [13]) <|
  fc_gd (cc_go X 1 [9]) <|
  fc_nm (cc_sI st 1 11 (0 : Int32)) fun st27 =>
  some ((0 : Int32), st27))
  else (
  fc_gd (cc_go X x0 [13]) <|
  fc_gd (cc_go X 1 [9]) <|
  fc_bn (C_X7_has X fu 1 x1 st) fun r6 st4 =>
  if r6 = 0 then (
  some ((-1 : Int32), st4))
  else (
  fc_bn (C_X11_isWithin X fu x2 (999 : Int32) st4) fun r10 st8 =>
  if r10 = 0 then (
  some ((-2 : Int32), st8))
  else (
  fc_bn (C_X11_isWithin X fu x3 (20 : Int32) st8) fun r14 st12 =>
  if r14 = 0 then (
  some ((-2 : Int32), st12))
  else (
  if (cc_I st12 1 11) < (5 : Int32) then (
  fc_nm (cc_I st12 1 11) fun v17 =>
  fc_gd (cc_ga X 1 4 1 v17) <|
  fc_nm (cc_sG st12 1 4 v17.toNatClampNeg x1) fun st19 =>
  fc_gd (cc_ga X 1 5 1 v17) <|
  fc_nm (cc_sG st19 1 5 v17.toNatClampNeg x2) fun st21 =>
  fc_gd (cc_ga X 1 6 1 v17) <|
  fc_nm (cc_sG st21 1 6 v17.toNatClampNeg x3) fun st23 =>
  fc_nm (cc_sI st23 1 11 ((cc_I st23 1 11) + (1 : Int32))) fun st24 =>
  some ((cc_I st24 1 11), st24))
  else (
  some ((-4 : Int32), st12))))))
/-! X11_can -/
def C_X11_can_b63 (X : cc_X) (fu : Nat) (K31 : Nat → Int32 → Int32 → Int32 → Int32 → Int32 → cc_S → Option (Int32 × cc_S)) (x0 : Nat) (x1 : Int32) (x2 : Int32) (x3 : Int32) (x4 : Int32) (x5 : Int32) (st : cc_S) : Option (Int32 × cc_S) :=
  fc_nm (x5 + (-1 : Int32)) fun v20 =>
  K31 x0 x1 x2 x3 x4 v20 st
def C_X11_can_b31F (X : cc_X) (fu : Nat) (K31 : Nat → Int32 → Int32 → Int32 → Int32 → Int32 → cc_S → Option (Int32 × cc_S)) (x0 : Nat) (x1 : Int32) (x2 : Int32) (x3 : Int32) (x4 : Int32) (x5 : Int32) (st : cc_S) : Option (Int32 × cc_S) :=
  if x5 < 0 then (
  if x2 = 0 then (
  some (x3, st))
  else (
  some (x4, st)))
  else (
  fc_gd (cc_go X x0 [13]) <|
  fc_gd (cc_go X 1 [9]) <|
  fc_bn (C_X7_isAllSeen X fu 1 x1 x5 (cc_I st 1 13) st) fun r17 st15 =>
  if r17 = 0 then (
  C_X11_can_b63 X fu K31 x0 x1 x2 x3 x4 x5 st15)
  else (
  fc_nm (x3 + (1 : Int32)) fun v19 =>
  C_X11_can_b63 X fu K31 x0 x1 x2 v19 x5 x5 st15))
def C_X11_can_b31 (X : cc_X) (fu : Nat) (n : Nat) (x0 : Nat) (x1 : Int32) (x2 : Int32) (x3 : Int32) (x4 : Int32) (x5 : Int32) (st : cc_S) : Option (Int32 × cc_S) :=
  fc_lp (fun (K : Nat × Int32 × Int32 × Int32 × Int32 × Int32 × cc_S → Option (Int32 × cc_S)) a => C_X11_can_b31F X fu (fun x0 x1 x2 x3 x4 x5 st => K (x0, x1, x2, x3, x4, x5, st)) a.1 a.2.1 a.2.2.1 a.2.2.2.1 a.2.2.2.2.1 a.2.2.2.2.2.1 a.2.2.2.2.2.2) n (x0, x1, x2, x3, x4, x5, st)
def C_X11_can (X : cc_X) (fu : Nat) (x0 : Nat) (x1 : Int32) (x2 : Int32) (st : cc_S) : Option (Int32 × cc_S) :=
  fc_gd (cc_go X x0 [13]) <|
  fc_gd (cc_go X 1 [9]) <|
  fc_bn (C_X7_has X fu 1 x1 st) fun r5 st3 =>
  if r5 = 0 then (
  some ((-1 : Int32), st3))
  else (
  fc_bn (C_X11_isWithin X fu x2 (1 : Int32) st3) fun r9 st7 =>
  if r9 = 0 then (
  some ((-1 : Int32), st7))
  else (
  C_X11_can_b31 X fu fu x0 x1 x2 (0 : Int32) (-5 : Int32) (9 : Int32) st7))
/-! X11_darked -/
def C_X11_darked_b44 (X : cc_X) (fu : Nat) (K19 : Nat → Int32 → Int32 → Int32 → Int32 → cc_S → Option (Int32 × cc_S)) (x0 : Nat) (x1 : Int32) (x2 : Int32) (x3 : Int32) (x4 : Int32) (st : cc_S) : Option (Int32 × cc_S) :=
  fc_nm (x4 + (-1 : Int32)) fun v14 =>
  K19 x0 x1 x2 x3 v14 st
def C_X11_darked_b19F (X : cc_X) (fu : Nat) (K19 : Nat → Int32 → Int32 → Int32 → Int32 → cc_S → Option (Int32 × cc_S)) (x0 : Nat) (x1 : Int32) (x2 : Int32) (x3 : Int32) (x4 : Int32) (st : cc_S) : Option (Int32 × cc_S) :=
  if x4 < 0 then (
  if x1 = 0 then (
  some (x2, st))
  else (
  some (x3, st)))
  else (
  fc_gd (cc_go X x0 [13]) <|
  fc_gd (cc_go X 1 [9]) <|
  fc_bn (C_X7_isAllSeen X fu 1 (-1 : Int32) (0 : Int32) x4 st) fun r11 st9 =>
  if r11 = 0 then (
  C_X11_darked_b44 X fu K19 x0 x1 x2 x3 x4 st9)
  else (
  fc_nm (x2 + (1 : Int32)) fun v13 =>
  C_X11_darked_b44 X fu K19 x0 x1 v13 x4 x4 st9))
def C_X11_darked_b19 (X : cc_X) (fu : Nat) (n : Nat) (x0 : Nat) (x1 : Int32) (x2 : Int32) (x3 : Int32) (x4 : Int32) (st : cc_S) : Option (Int32 × cc_S) :=
  fc_lp (fun (K : Nat × Int32 × Int32 × Int32 × Int32 × cc_S → Option (Int32 × cc_S)) a => C_X11_darked_b19F X fu (fun x0 x1 x2 x3 x4 st => K (x0, x1, x2, x3, x4, st)) a.1 a.2.1 a.2.2.1 a.2.2.2.1 a.2.2.2.2.1 a.2.2.2.2.2) n (x0, x1, x2, x3, x4, st)
def C_X11_darked (X : cc_X) (fu : Nat) (x0 : Nat) (x1 : Int32) (st : cc_S) : Option (Int32 × cc_S) :=
  fc_bn (C_X11_isWithin X fu x1 (1 : Int32) st) fun r3 st1 =>
  if r3 = 0 then (
  some ((-1 : Int32), st1))
  else (
  C_X11_darked_b19 X fu fu x0 x1 (0 : Int32) (-5 : Int32) (8 : Int32) st1)
/-! X11_book -/
def C_X11_book (X : cc_X) (fu : Nat) (x0 : Nat) (x1 : Int32) (x2 : Int32) (st : cc_S) : Option (Int32 × cc_S) :=
  if x1 = (-1 : Int32) then (
  fc_gd (cc_go X x0 [13]) <|
  fc_gd (cc_go X 1 [9]) <|
  fc_nm (cc_sI st 1 12 (0 : Int32)) fun st20 =>
  some ((0 : Int32), st20))
  else (
  fc_gd (cc_go X x0 [13]) <|
  fc_gd (cc_go X 1 [9]) <|
  fc_bn (C_X7_has X fu 1 x1 st) fun r6 st4 =>
  if r6 = 0 then (
  some ((-1 : Int32), st4))
  else (
  fc_bn (C_X11_isWithin X fu x2 (9999 : Int32) st4) fun r10 st8 =>
  if r10 = 0 then (
  some ((-2 : Int32), st8))
  else (
  if (cc_I st8 1 12) < (8 : Int32) then (
  fc_gd (cc_ga X 1 7 1 (cc_I st8 1 12)) <|
  fc_nm (cc_sG st8 1 7 (cc_I st8 1 12).toNatClampNeg x1) fun st14 =>
  fc_gd (cc_ga X 1 8 1 (cc_I st14 1 12)) <|
  fc_nm (cc_sG st14 1 8 (cc_I st14 1 12).toNatClampNeg x2) fun st16 =>
  fc_nm (cc_sI st16 1 12 ((cc_I st16 1 12) + (1 : Int32))) fun st17 =>
  some ((cc_I st17 1 12), st17))
  else (
  some ((-4 : Int32), st8)))))
/-! X11_looked -/
def C_X11_looked_b2F (X : cc_X) (fu : Nat) (K2 : Nat → Int32 → cc_S → Option (Int32 × cc_S)) (x0 : Nat) (x1 : Int32) (st : cc_S) : Option (Int32 × cc_S) :=
  fc_gd (cc_go X x0 [13]) <|
  fc_gd (cc_go X 1 [9]) <|
  if (cc_I st 1 12) ≤ x1 then (
  some ((-5 : Int32), st))
  else (
  fc_gd (cc_ga X 1 7 1 x1) <|
  fc_gd (cc_ga X 1 1 1 (cc_G st 1 7 x1.toNatClampNeg)) <|
  fc_gd (cc_ga X 1 8 1 x1) <|
  if (cc_G st 1 1 (cc_G st 1 7 x1.toNatClampNeg).toNatClampNeg) = (cc_G st 1 8 x1.toNatClampNeg) then (
  fc_nm (x1 + (1 : Int32)) fun v8 =>
  K2 x0 v8 st)
  else (
  some (x1, st)))
def C_X11_looked_b2 (X : cc_X) (fu : Nat) (n : Nat) (x0 : Nat) (x1 : Int32) (st : cc_S) : Option (Int32 × cc_S) :=
  fc_lp (fun (K : Nat × Int32 × cc_S → Option (Int32 × cc_S)) a => C_X11_looked_b2F X fu (fun x0 x1 st => K (x0, x1, st)) a.1 a.2.1 a.2.2) n (x0, x1, st)
def C_X11_looked (X : cc_X) (fu : Nat) (x0 : Nat) (st : cc_S) : Option (Int32 × cc_S) :=
  C_X11_looked_b2 X fu fu x0 (0 : Int32) st
/-! X11_tapeOf -/
def C_X11_tapeOf (X : cc_X) (fu : Nat) (x0 : Nat) (x1 : Int32) (st : cc_S) : Option (Option Nat × cc_S) :=
  fc_bn (C_X11_isWithin X fu x1 (5 : Int32) st) fun r3 st1 =>
  if r3 = 0 then (
  some ((none : Option Nat), st1))
  else (
  fc_gd (cc_go X x0 [13]) <|
  fc_gd (cc_ga X x0 3 4 x1) <|
  fc_mt (cc_P st1 x0 3 x1.toNatClampNeg) (
  some ((none : Option Nat), st1))
  (fun y7 =>
  some (some y7, st1)))
/-! X11_judge -/
def C_X11_judge_b33F (X : cc_X) (fu : Nat) (K33 : Nat → Int32 → Nat → Int32 → cc_S → Option (Int32 × cc_S)) (x0 : Nat) (x2 : Int32) (x3 : Nat) (x4 : Int32) (st : cc_S) : Option (Int32 × cc_S) :=
  fc_gd (cc_go X x0 [13]) <|
  fc_gd (cc_go X 1 [9]) <|
  if (cc_I st 1 9) ≤ x4 then (
  some ((-5 : Int32), st))
  else (
  if x2 < 0 then (
  some (((100 : Int32) + x4), st))
  else (
  fc_gd (cc_go X x3 [10]) <|
  if x2 < ((cc_I st x3 2) - x4) then (
  fc_gd (cc_ga X x3 0 2 (x2 + x4)) <|
  fc_bn (C_X7_worthOf X fu 1 x4 (cc_I st 1 15) (cc_I st 1 13) st) fun r21 st19 =>
  if (lg_cmp (cc_J st x3 0 (x2 + x4).toNatClampNeg) ((r21).toInt64)) = 0 then (
  fc_nm (x4 + (1 : Int32)) fun v23 =>
  K33 x0 x2 x3 v23 st19)
  else (
  some (x4, st19)))
  else (
  some (((100 : Int32) + x4), st))))
def C_X11_judge_b33 (X : cc_X) (fu : Nat) (n : Nat) (x0 : Nat) (x2 : Int32) (x3 : Nat) (x4 : Int32) (st : cc_S) : Option (Int32 × cc_S) :=
  fc_lp (fun (K : Nat × Int32 × Nat × Int32 × cc_S → Option (Int32 × cc_S)) a => C_X11_judge_b33F X fu (fun x0 x2 x3 x4 st => K (x0, x2, x3, x4, st)) a.1 a.2.1 a.2.2.1 a.2.2.2.1 a.2.2.2.2) n (x0, x2, x3, x4, st)
def C_X11_judge_b30 (X : cc_X) (fu : Nat) (x0 : Nat) (x2 : Int32) (x3 : Nat) (st : cc_S) : Option (Int32 × cc_S) :=
  C_X11_judge_b33 X fu fu x0 x2 x3 (0 : Int32) st
def C_X11_judge (X : cc_X) (fu : Nat) (x0 : Nat) (x1 : Int32) (x2 : Int32) (st : cc_S) : Option (Int32 × cc_S) :=
  fc_gd (cc_go X x0 [13]) <|
  fc_bn (C_X11_tapeOf X fu x0 x1 st) fun r4 st2 =>
  fc_mt r4 (
  some ((-1 : Int32), st2))
  (fun y5 =>
  fc_gd (cc_go X y5 [10]) <|
  fc_bn (C_X8_holds X fu y5 st2) fun r9 st7 =>
  if r9 = 0 then (
  C_X11_judge_b30 X fu x0 x2 y5 st7)
  else (
  if (cc_I st7 y5 1) = (2 : Int32) then (
  C_X11_judge_b30 X fu x0 x2 y5 st7)
  else (
  some ((-12 : Int32), st7))))
def D_tells_3_4_5_6_7_8_11 (X : cc_X) (fu i : Nat) (a0 : Int32) (st : cc_S) : Option (Int32 × cc_S) := if cx_K X i = 3 then C_X1_tells X fu i a0 st else if cx_K X i = 4 then C_X4_tells X fu i a0 st else if cx_K X i = 5 then C_X4_tells X fu i a0 st else if cx_K X i = 6 then C_X4_tells X fu i a0 st else if cx_K X i = 7 then C_X5_tells X fu i a0 st else if cx_K X i = 8 then C_X4_tells X fu i a0 st else if cx_K X i = 11 then C_X5_tells X fu i a0 st else none
/-! X11_act -/
def C_X11_act (X : cc_X) (fu : Nat) (x0 : Nat) (x1 : Int32) (x2 : Int32) (x3 : Int32) (st : cc_S) : Option (Int32 × cc_S) :=
  fc_gd (cc_go X x0 [13]) <|
  fc_gd (cc_ga X x0 5 1 (0 : Int32)) <|
  fc_nm (cc_sG st x0 5 (0 : Int32).toNatClampNeg (0 : Int32)) fun st3 =>
  fc_gd (cc_go X 1 [9]) <|
  fc_bn (C_X7_needOf X fu 1 x1 st3) fun r7 st5 =>
  fc_mt r7 (
  some ((0 : Int32), st5))
  (fun y8 =>
  if x2 = (0 : Int32) then (
  fc_gd (cc_go X y8 [3, 4, 5, 6, 7, 8, 11]) <|
  fc_bn (D_darkens_3_4_5_6_7_8_11 X fu y8 x3 st5) fun r13 st11 =>
  some (r13, st11))
  else (
  if x2 = (1 : Int32) then (
  fc_gd (cc_go X y8 [3, 4, 5, 6, 7, 8, 11]) <|
  fc_bn (D_pleads_3_4_5_6_7_8_11 X fu y8 x3 st5) fun r18 st16 =>
  some (r18, st16))
  else (
  if x2 = (2 : Int32) then (
  fc_gd (cc_go X y8 [3, 4, 5, 6, 7, 8, 11]) <|
  fc_bn (D_tells_3_4_5_6_7_8_11 X fu y8 x3 st5) fun r23 st21 =>
  some (r23, st21))
  else (
  some ((0 : Int32), st5)))))
/-! X11_trace -/
def C_X11_trace (X : cc_X) (fu : Nat) (x0 : Nat) (x1 : Int32) (st : cc_S) : Option (Int32 × cc_S) :=
  if x1 < 0 then (
  some ((-1 : Int32), st))
  else (
  fc_gd (cc_go X x0 [13]) <|
  fc_gd (cc_ga X x0 5 1 (0 : Int32)) <|
  if (cc_G st x0 5 (0 : Int32).toNatClampNeg) ≤ x1 then (
  some ((-1 : Int32), st))
  else (
  if x1 < (20 : Int32) then (
  fc_gd (cc_ga X x0 5 1 ((1 : Int32) + x1)) <|
  some ((cc_G st x0 5 ((1 : Int32) + x1).toNatClampNeg), st))
  else (
  some ((-1 : Int32), st))))
/-! X11_isOfKind -/
def C_X11_isOfKind (X : cc_X) (fu : Nat) (x0 : Nat) (x1 : Int32) (st : cc_S) : Option (Int32 × cc_S) :=
  if x1 = (0 : Int32) then (
  some ((1 : Int32), st))
  else (
  if x1 = (1 : Int32) then (
  fc_gd (cc_go X x0 [3, 4, 5, 6, 7, 8, 11]) <|
  fc_gd (fc_zb (cc_io (cx_K X x0) 8)) <|
  some ((cc_io (cx_K X x0) 8), st))
  else (
  if x1 = (2 : Int32) then (
  fc_gd (cc_go X x0 [3, 4, 5, 6, 7, 8, 11]) <|
  fc_gd (fc_zb (cc_io (cx_K X x0) 5)) <|
  some ((cc_io (cx_K X x0) 5), st))
  else (
  if x1 = (3 : Int32) then (
  fc_gd (cc_go X x0 [3, 4, 5, 6, 7, 8, 11]) <|
  fc_gd (fc_zb (cc_io (cx_K X x0) 7)) <|
  some ((cc_io (cx_K X x0) 7), st))
  else (
  if x1 = (4 : Int32) then (
  fc_gd (cc_go X x0 [3, 4, 5, 6, 7, 8, 11]) <|
  fc_gd (fc_zb (cc_io (cx_K X x0) 4)) <|
  some ((cc_io (cx_K X x0) 4), st))
  else (
  if x1 = (5 : Int32) then (
  fc_gd (cc_go X x0 [3, 4, 5, 6, 7, 8, 11]) <|
  fc_gd (fc_zb (cc_io (cx_K X x0) 3)) <|
  some ((cc_io (cx_K X x0) 3), st))
  else (
  if x1 = (6 : Int32) then (
  fc_gd (cc_go X x0 [3, 4, 5, 6, 7, 8, 11]) <|
  fc_gd (fc_zb (cc_io (cx_K X x0) 11)) <|
  some ((cc_io (cx_K X x0) 11), st))
  else (
  some ((0 : Int32), st))))))))
/-! X11_taken -/
def C_X11_taken (X : cc_X) (fu : Nat) (x0 : Nat) (x1 : Int32) (x2 : Int32) (st : cc_S) : Option (Int32 × cc_S) :=
  fc_bn (C_X11_isWithin X fu x2 (6 : Int32) st) fun r3 st1 =>
  if r3 = 0 then (
  some ((-2 : Int32), st1))
  else (
  fc_gd (cc_go X x0 [13]) <|
  fc_gd (cc_go X 1 [9]) <|
  fc_bn (C_X7_needOf X fu 1 x1 st1) fun r9 st7 =>
  fc_mt r9 (
  some ((-11 : Int32), st7))
  (fun y10 =>
  fc_bn (C_X11_isOfKind X fu y10 x2 st7) fun r13 st11 =>
  if r13 = 0 then (
  some ((-12 : Int32), st11))
  else (
  fc_gd (cc_go X y10 [3, 4, 5, 6, 7, 8, 11]) <|
  some ((cc_I st11 y10 0), st11))))
/-! J5_length_8abf5 -/
def C_J5_length_8abf5 (X : cc_X) (fu : Nat) (x0 : Nat) (st : cc_S) : Option (Int32 × cc_S) :=
  fc_gd (cc_go X x0 [1]) <|
  some ((cc_I st x0 3), st)
/-! J4_length_8abf5 -/
def C_J4_length_8abf5 (X : cc_X) (fu : Nat) (x0 : Nat) (st : cc_S) : Option (Int32 × cc_S) :=
  fc_gd (cc_go X x0 [1]) <|
  fc_bn (C_J5_length_8abf5 X fu x0 st) fun r4 st2 =>
  some (r4, st2)
/-! X11_count -/
def C_X11_count (X : cc_X) (fu : Nat) (x0 : Nat) (x1 : Int32) (st : cc_S) : Option (Int32 × cc_S) :=
  if x1 = (0 : Int32) then (
  fc_gd (cc_go X x0 [13]) <|
  fc_gd (cc_go X 1 [9]) <|
  some ((cc_I st 1 9), st))
  else (
  if x1 = (1 : Int32) then (
  fc_gd (cc_go X x0 [13]) <|
  some ((cc_I st x0 6), st))
  else (
  if x1 = (2 : Int32) then (
  fc_gd (cc_go X x0 [13]) <|
  fc_gd (cc_go X 1 [9]) <|
  some ((cc_I st 1 10), st))
  else (
  if x1 = (3 : Int32) then (
  fc_gd (cc_go X x0 [13]) <|
  fc_gd (cc_go X 1 [9]) <|
  some ((cc_I st 1 11), st))
  else (
  if x1 = (4 : Int32) then (
  fc_gd (cc_go X x0 [13]) <|
  fc_gd (cc_go X 1 [9]) <|
  some ((cc_I st 1 12), st))
  else (
  if x1 = (5 : Int32) then (
  fc_gd (cc_go X x0 [13]) <|
  fc_gd (cc_go X 40 [1]) <|
  fc_bn (C_J4_length_8abf5 X fu 40 st) fun r20 st18 =>
  some (r20, st18))
  else (
  if x1 = (6 : Int32) then (
  fc_gd (cc_go X x0 [13]) <|
  fc_gd (cc_ga X x0 5 1 (0 : Int32)) <|
  some ((cc_G st x0 5 (0 : Int32).toNatClampNeg), st))
  else (
  some ((-2 : Int32), st))))))))
/-! X11_tape -/
def C_X11_tape (X : cc_X) (fu : Nat) (x0 : Nat) (x1 : Int32) (x2 : Int32) (x3 : Int32) (st : cc_S) : Option (Int32 × cc_S) :=
  fc_gd (cc_go X x0 [13]) <|
  fc_bn (C_X11_tapeOf X fu x0 x1 st) fun r4 st2 =>
  fc_mt r4 (
  some ((-1 : Int32), st2))
  (fun y5 =>
  if x2 = (-1 : Int32) then (
  fc_gd (cc_go X y5 [10]) <|
  fc_bv (C_X8_become X fu y5 (-1 : Int32) (0 : Int32) st2) fun st17 =>
  some ((1 : Int32), st17))
  else (
  fc_bn (C_X11_isWithin X fu x2 (4 : Int32) st2) fun r9 st7 =>
  if r9 = 0 then (
  some ((-2 : Int32), st7))
  else (
  if x3 ≤ (60 : Int32) then (
  if 0 ≤ x3 then (
  fc_gd (cc_go X y5 [10]) <|
  fc_bv (C_X8_become X fu y5 x2 x3 st7) fun st14 =>
  some ((1 : Int32), st14))
  else (
  some ((-14 : Int32), st7)))
  else (
  some ((-2 : Int32), st7)))))
/-! X11_item -/
def C_X11_item (X : cc_X) (fu : Nat) (x0 : Nat) (x1 : Int32) (x2 : Int32) (x3 : Int64) (st : cc_S) : Option (Int32 × cc_S) :=
  fc_gd (cc_go X x0 [13]) <|
  fc_bn (C_X11_tapeOf X fu x0 x1 st) fun r4 st2 =>
  fc_mt r4 (
  some ((-1 : Int32), st2))
  (fun y5 =>
  fc_gd (cc_go X y5 [10]) <|
  fc_bn (C_X8_holds X fu y5 st2) fun r9 st7 =>
  if r9 = 0 then (
  some ((-11 : Int32), st7))
  else (
  fc_bn (C_X8_hasPlace X fu y5 x2 st7) fun r13 st11 =>
  if r13 = 0 then (
  some ((-13 : Int32), st11))
  else (
  fc_bn (C_X8_narrowed X fu y5 x3 st11) fun r17 st15 =>
  fc_gd (cc_ga X y5 0 2 x2) <|
  fc_nm (cc_sJ st15 y5 0 x2.toNatClampNeg r17) fun st19 =>
  some ((1 : Int32), st19))))
/-! X11_read -/
def C_X11_read (X : cc_X) (fu : Nat) (x0 : Nat) (x1 : Int32) (x2 : Int32) (st : cc_S) : Option (Int64 × cc_S) :=
  fc_gd (cc_go X x0 [13]) <|
  fc_bn (C_X11_tapeOf X fu x0 x1 st) fun r4 st2 =>
  fc_mt r4 (
  some ((-9223372036854775808 : Int64), st2))
  (fun y5 =>
  fc_gd (cc_go X y5 [10]) <|
  fc_bn (C_X8_hasPlace X fu y5 x2 st2) fun r9 st7 =>
  if r9 = 0 then (
  some ((-9223372036854775808 : Int64), st7))
  else (
  fc_gd (cc_ga X y5 0 2 x2) <|
  some ((cc_J st7 y5 0 x2.toNatClampNeg), st7)))
