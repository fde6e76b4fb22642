/-! in -/
def M_in (fu : Nat) (x1 : Int32) (x2 : Int32) (x3 : Int32) (st : mm_S) : Option (Int32 × mm_S) :=
  if x1 < x2 then (
  some ((0 : Int32), st))
  else (
  if x3 < x1 then (
  some ((0 : Int32), st))
  else (
  some ((1 : Int32), st)))
/-! has -/
def M_has (fu : Nat) (x1 : Int32) (x2 : Int32) (st : mm_S) : Option (Int32 × mm_S) :=
  if ((x1 >>> (x2 &&& 31)) &&& (1 : Int32)) = (1 : Int32) then (
  some ((1 : Int32), st))
  else (
  some ((0 : Int32), st))
/-! bits -/
def M_bits_b25 (fu : Nat) (K4 : Int32 → Int32 → Int32 → mm_S → Option (Int32 × mm_S)) (x1 : Int32) (x3 : Int32) (s0 : Int32) (s1 : Int32) (st : mm_S) : Option (Int32 × mm_S) :=
  fc_nm (s1 + s0) fun v6 =>
  fc_nm (x3 + (1 : Int32)) fun v7 =>
  K4 x1 v6 v7 st
def M_bits_b4F (fu : Nat) (K4 : Int32 → Int32 → Int32 → mm_S → Option (Int32 × mm_S)) (x1 : Int32) (x2 : Int32) (x3 : Int32) (st : mm_S) : Option (Int32 × mm_S) :=
  if (8 : Int32) ≤ x3 then (
  some (x2, st))
  else (
  fc_bn (M_has fu x1 x3 st) fun r4 st2 =>
  if r4 = 0 then (
  M_bits_b25 fu K4 x1 x3 (0 : Int32) x2 st2)
  else (
  M_bits_b25 fu K4 x1 x3 (1 : Int32) x2 st2))
def M_bits_b4 (fu : Nat) (n : Nat) (x1 : Int32) (x2 : Int32) (x3 : Int32) (st : mm_S) : Option (Int32 × mm_S) :=
  fc_lp (fun (K : Int32 × Int32 × Int32 × mm_S → Option (Int32 × mm_S)) a => M_bits_b4F fu (fun x1 x2 x3 st => K (x1, x2, x3, st)) a.1 a.2.1 a.2.2.1 a.2.2.2) n (x1, x2, x3, st)
def M_bits (fu : Nat) (x1 : Int32) (st : mm_S) : Option (Int32 × mm_S) :=
  M_bits_b4 fu fu x1 (0 : Int32) (0 : Int32) st
/-! isNeed -/
def M_isNeed (fu : Nat) (x1 : Int32) (st : mm_S) : Option (Int32 × mm_S) :=
  fc_bn (M_in fu x1 (0 : Int32) ((mm_I st 0) - (1 : Int32)) st) fun r3 st1 =>
  fc_gd (fc_zb r3) <|
  some (r3, st1)
/-! isDarks -/
def M_isDarks (fu : Nat) (x1 : Int32) (st : mm_S) : Option (Int32 × mm_S) :=
  fc_bn (M_in fu x1 (0 : Int32) (8 : Int32) st) fun r3 st1 =>
  fc_gd (fc_zb r3) <|
  some (r3, st1)
/-! need -/
def M_need_b71F (fu : Nat) (K71 : Int32 → mm_S → Option (Int32 × mm_S)) (x3 : Int32) (st : mm_S) : Option (Int32 × mm_S) :=
  if (4 : Int32) ≤ x3 then (
  fc_nm (mm_sI st 0 ((mm_I st 0) + (1 : Int32))) fun st17 =>
  some (((mm_I st17 0) - (1 : Int32)), st17))
  else (
  fc_gd (fc_ix (((4 : Int32) * (mm_I st 0)) + x3) 24) <|
  fc_nm (mm_sG st 7 (((4 : Int32) * (mm_I st 0)) + x3).toNatClampNeg (0 : Int32)) fun st19 =>
  fc_nm (x3 + (1 : Int32)) fun v20 =>
  K71 v20 st19)
def M_need_b71 (fu : Nat) (n : Nat) (x3 : Int32) (st : mm_S) : Option (Int32 × mm_S) :=
  fc_lp (fun (K : Int32 × mm_S → Option (Int32 × mm_S)) a => M_need_b71F fu (fun x3 st => K (x3, st)) a.1 a.2) n (x3, st)
def M_need (fu : Nat) (x1 : Int32) (x2 : Int32) (st : mm_S) : Option (Int32 × mm_S) :=
  fc_bn (M_in fu x1 (0 : Int32) (6 : Int32) st) fun r3 st1 =>
  if r3 = 0 then (
  some ((-1 : Int32), st1))
  else (
  fc_bn (M_in fu x2 (0 : Int32) (9 : Int32) st1) fun r7 st5 =>
  if r7 = 0 then (
  some ((-2 : Int32), st5))
  else (
  if (mm_I st5 0) = (6 : Int32) then (
  some ((-4 : Int32), st5))
  else (
  fc_gd (fc_ix (mm_I st5 0) 6) <|
  fc_nm (mm_sG st5 4 (mm_I st5 0).toNatClampNeg x1) fun st11 =>
  fc_gd (fc_ix (mm_I st11 0) 6) <|
  fc_nm (mm_sG st11 5 (mm_I st11 0).toNatClampNeg x2) fun st13 =>
  fc_gd (fc_ix (mm_I st13 0) 6) <|
  fc_nm (mm_sG st13 6 (mm_I st13 0).toNatClampNeg (0 : Int32)) fun st15 =>
  M_need_b71 fu fu (0 : Int32) st15)))
/-! darks -/
def M_darks (fu : Nat) (x1 : Int32) (st : mm_S) : Option (Int32 × mm_S) :=
  fc_bn (M_isDarks fu x1 st) fun r3 st1 =>
  if r3 = 0 then (
  some ((-2 : Int32), st1))
  else (
  fc_nm (mm_I st1 1) fun v5 =>
  fc_nm (mm_sI st1 1 x1) fun st6 =>
  some (v5, st6))
/-! row -/
def M_row (fu : Nat) (x1 : Int32) (x2 : Int32) (x3 : Int32) (st : mm_S) : Option (Int32 × mm_S) :=
  fc_bn (M_isNeed fu x1 st) fun r3 st1 =>
  if r3 = 0 then (
  some ((-1 : Int32), st1))
  else (
  fc_bn (M_in fu x2 (0 : Int32) (3 : Int32) st1) fun r7 st5 =>
  if r7 = 0 then (
  some ((-1 : Int32), st5))
  else (
  fc_bn (M_in fu x3 (0 : Int32) (9 : Int32) st5) fun r11 st9 =>
  if r11 = 0 then (
  some ((-2 : Int32), st9))
  else (
  fc_gd (fc_ix x1 6) <|
  if (mm_G st9 4 x1.toNatClampNeg) = (6 : Int32) then (
  fc_gd (fc_ix (((4 : Int32) * x1) + x2) 24) <|
  fc_nm (mm_G st9 7 (((4 : Int32) * x1) + x2).toNatClampNeg) fun v16 =>
  fc_gd (fc_ix (((4 : Int32) * x1) + x2) 24) <|
  fc_nm (mm_sG st9 7 (((4 : Int32) * x1) + x2).toNatClampNeg x3) fun st18 =>
  some (v16, st18))
  else (
  some ((-3 : Int32), st9)))))
/-! feed -/
def M_feed (fu : Nat) (x1 : Int32) (st : mm_S) : Option (Int32 × mm_S) :=
  fc_bn (M_in fu x1 (0 : Int32) (127 : Int32) st) fun r3 st1 =>
  if r3 = 0 then (
  some ((-2 : Int32), st1))
  else (
  if (mm_I st1 10) = (100 : Int32) then (
  some ((-4 : Int32), st1))
  else (
  fc_gd (fc_ix (mm_I st1 10) 100) <|
  fc_nm (mm_sG st1 13 (mm_I st1 10).toNatClampNeg x1) fun st7 =>
  fc_nm (mm_sI st7 10 ((mm_I st7 10) + (1 : Int32))) fun st8 =>
  some ((mm_I st8 10), st8)))
/-! next -/
def M_next (fu : Nat) (st : mm_S) : Option (Int32 × mm_S) :=
  if (mm_I st 10) ≤ (mm_I st 11) then (
  some ((-1 : Int32), st))
  else (
  fc_gd (fc_ix (mm_I st 11) 100) <|
  some ((mm_G st 13 (mm_I st 11).toNatClampNeg), st))
/-! takes -/
def M_takes (fu : Nat) (x1 : Int32) (st : mm_S) : Option (Int32 × mm_S) :=
  fc_bn (M_next fu st) fun r3 st1 =>
  if r3 = x1 then (
  fc_nm (mm_sI st1 11 ((mm_I st1 11) + (1 : Int32))) fun st5 =>
  some ((1 : Int32), st5))
  else (
  some ((0 : Int32), st1))
/-! takesWord -/
def M_takesWord_b2F (fu : Nat) (K2 : Int32 → Int32 → Int32 → mm_S → Option (Int32 × mm_S)) (x1 : Int32) (x2 : Int32) (x3 : Int32) (st : mm_S) : Option (Int32 × mm_S) :=
  if x2 ≤ x3 then (
  fc_bn (M_takes fu (32 : Int32) st) fun r4 st2 =>
  fc_gd (fc_zb r4) <|
  some (r4, st2))
  else (
  fc_gd (fc_ix (x1 + x3) 13) <|
  fc_bn (M_takes fu (mm_G st 24 (x1 + x3).toNatClampNeg) st) fun r9 st7 =>
  if r9 = 0 then (
  some ((0 : Int32), st7))
  else (
  fc_nm (x3 + (1 : Int32)) fun v11 =>
  K2 x1 x2 v11 st7))
def M_takesWord_b2 (fu : Nat) (n : Nat) (x1 : Int32) (x2 : Int32) (x3 : Int32) (st : mm_S) : Option (Int32 × mm_S) :=
  fc_lp (fun (K : Int32 × Int32 × Int32 × mm_S → Option (Int32 × mm_S)) a => M_takesWord_b2F fu (fun x1 x2 x3 st => K (x1, x2, x3, st)) a.1 a.2.1 a.2.2.1 a.2.2.2) n (x1, x2, x3, st)
def M_takesWord (fu : Nat) (x1 : Int32) (x2 : Int32) (st : mm_S) : Option (Int32 × mm_S) :=
  M_takesWord_b2 fu fu x1 x2 (0 : Int32) st
/-! isDigit -/
def M_isDigit (fu : Nat) (st : mm_S) : Option (Int32 × mm_S) :=
  fc_bn (M_next fu st) fun r3 st1 =>
  fc_bn (M_in fu r3 (48 : Int32) (57 : Int32) st1) fun r6 st4 =>
  fc_gd (fc_zb r6) <|
  some (r6, st4)
/-! takesNumber -/
def M_takesNumber_b16F (fu : Nat) (K16 : Int32 → mm_S → Option (Int32 × mm_S)) (x1 : Int32) (st : mm_S) : Option (Int32 × mm_S) :=
  if (2 : Int32) ≤ x1 then (
  some ((1 : Int32), st))
  else (
  fc_bn (M_isDigit fu st) fun r9 st7 =>
  if r9 = 0 then (
  some ((1 : Int32), st7))
  else (
  fc_bn (M_next fu st7) fun r13 st11 =>
  fc_nm (mm_sI st11 12 ((((10 : Int32) * (mm_I st7 12)) + r13) - (48 : Int32))) fun st14 =>
  fc_nm (mm_sI st14 11 ((mm_I st14 11) + (1 : Int32))) fun st15 =>
  fc_nm (x1 + (1 : Int32)) fun v16 =>
  K16 v16 st15))
def M_takesNumber_b16 (fu : Nat) (n : Nat) (x1 : Int32) (st : mm_S) : Option (Int32 × mm_S) :=
  fc_lp (fun (K : Int32 × mm_S → Option (Int32 × mm_S)) a => M_takesNumber_b16F fu (fun x1 st => K (x1, st)) a.1 a.2) n (x1, st)
def M_takesNumber (fu : Nat) (st : mm_S) : Option (Int32 × mm_S) :=
  fc_bn (M_isDigit fu st) fun r3 st1 =>
  if r3 = 0 then (
  some ((0 : Int32), st1))
  else (
  fc_nm (mm_sI st1 12 (0 : Int32)) fun st5 =>
  M_takesNumber_b16 fu fu (0 : Int32) st5)
/-! emits -/
def M_emits (fu : Nat) (x1 : Int32) (st : mm_S) : Option mm_S :=
  fc_gd (fc_ix (mm_I st 21) 600) <|
  fc_nm (mm_sG st 19 (mm_I st 21).toNatClampNeg x1) fun st2 =>
  fc_nm (mm_sI st2 21 ((mm_I st2 21) + (1 : Int32))) fun st3 =>
  some st3
/-! whole -/
def M_whole_b0F (fu : Nat) (K0 : mm_S → Option mm_S) (st : mm_S) : Option mm_S :=
  if (mm_I st 22) ≤ 0 then (
  some st)
  else (
  fc_gd (fc_ix ((mm_I st 22) - (1 : Int32)) 101) <|
  if (mm_G st 20 ((mm_I st 22) - (1 : Int32)).toNatClampNeg) = (33 : Int32) then (
  fc_bv (M_emits fu (-33 : Int32) st) fun st4 =>
  fc_nm (mm_sI st4 22 ((mm_I st4 22) - (1 : Int32))) fun st6 =>
  fc_nm (mm_sI st6 23 ((mm_I st6 23) - (1 : Int32))) fun st7 =>
  K0 st7)
  else (
  some st))
def M_whole_b0 (fu : Nat) (n : Nat) (st : mm_S) : Option mm_S :=
  fc_lp (fun (K : mm_S → Option mm_S) a => M_whole_b0F fu (fun st => K (st)) a) n (st)
def M_whole (fu : Nat) (st : mm_S) : Option mm_S :=
  M_whole_b0 fu fu st
/-! settle -/
def M_settle_b45 (fu : Nat) (K0 : Int32 → mm_S → Option mm_S) (x1 : Int32) (st : mm_S) : Option mm_S :=
  fc_nm (mm_sI st 22 ((mm_I st 22) - (1 : Int32))) fun st7 =>
  fc_gd (fc_ix (mm_I st7 22) 101) <|
  fc_bv (M_emits fu (-(mm_G st7 20 (mm_I st7 22).toNatClampNeg)) st7) fun st9 =>
  K0 x1 st9
def M_settle_b0F (fu : Nat) (K0 : Int32 → mm_S → Option mm_S) (x1 : Int32) (st : mm_S) : Option mm_S :=
  if (mm_I st 22) ≤ 0 then (
  some st)
  else (
  fc_gd (fc_ix ((mm_I st 22) - (1 : Int32)) 101) <|
  if (mm_G st 20 ((mm_I st 22) - (1 : Int32)).toNatClampNeg) = (38 : Int32) then (
  M_settle_b45 fu K0 x1 st)
  else (
  fc_gd (fc_ix ((mm_I st 22) - (1 : Int32)) 101) <|
  if (mm_G st 20 ((mm_I st 22) - (1 : Int32)).toNatClampNeg) = (124 : Int32) then (
  if x1 = (38 : Int32) then (
  some st)
  else (
  M_settle_b45 fu K0 x1 st))
  else (
  some st)))
def M_settle_b0 (fu : Nat) (n : Nat) (x1 : Int32) (st : mm_S) : Option mm_S :=
  fc_lp (fun (K : Int32 × mm_S → Option mm_S) a => M_settle_b0F fu (fun x1 st => K (x1, st)) a.1 a.2) n (x1, st)
def M_settle (fu : Nat) (x1 : Int32) (st : mm_S) : Option mm_S :=
  M_settle_b0 fu fu x1 st
/-! place -/
def M_place (fu : Nat) (x1 : Int32) (st : mm_S) : Option (Int32 × mm_S) :=
  if x1 = (99 : Int32) then (
  some ((4 : Int32), st))
  else (
  if x1 = (100 : Int32) then (
  some ((5 : Int32), st))
  else (
  if x1 = (105 : Int32) then (
  some ((0 : Int32), st))
  else (
  if x1 = (107 : Int32) then (
  some ((1 : Int32), st))
  else (
  if x1 = (118 : Int32) then (
  some ((2 : Int32), st))
  else (
  if x1 = (121 : Int32) then (
  some ((3 : Int32), st))
  else (
  some ((-1 : Int32), st)))))))
/-! takesTest -/
def M_takesTest (fu : Nat) (st : mm_S) : Option (Int32 × mm_S) :=
  fc_bn (M_next fu st) fun r3 st1 =>
  fc_bn (M_place fu r3 st1) fun r6 st4 =>
  if 0 ≤ r6 then (
  fc_nm (mm_sI st4 11 ((mm_I st4 11) + (1 : Int32))) fun st8 =>
  fc_bn (M_next fu st8) fun r11 st9 =>
  fc_bn (M_in fu r11 (60 : Int32) (62 : Int32) st9) fun r14 st12 =>
  if r14 = 0 then (
  some ((0 : Int32), st12))
  else (
  fc_nm (mm_sI st12 11 ((mm_I st12 11) + (1 : Int32))) fun st16 =>
  fc_bn (M_takesNumber fu st16) fun r19 st17 =>
  if r19 = 0 then (
  some ((0 : Int32), st17))
  else (
  fc_bv (M_emits fu ((((1000 : Int32) * r6) + ((100 : Int32) * (r11 - (60 : Int32)))) + (mm_I st17 12)) st17) fun st21 =>
  fc_bv (M_whole fu st21) fun st23 =>
  some ((1 : Int32), st23))))
  else (
  some ((0 : Int32), st4))
/-! takesE -/
def M_takesE_b122 (fu : Nat) (K22 : Int32 → Int32 → mm_S → Option (Int32 × mm_S)) (x1 : Int32) (x3 : Int32) (st : mm_S) : Option (Int32 × mm_S) :=
  fc_bv (M_settle fu x3 st) fun st28 =>
  fc_gd (fc_ix (mm_I st28 22) 101) <|
  fc_nm (mm_sG st28 20 (mm_I st28 22).toNatClampNeg x3) fun st31 =>
  fc_nm (mm_sI st31 22 ((mm_I st31 22) + (1 : Int32))) fun st32 =>
  fc_nm (mm_sI st32 11 ((mm_I st32 11) + (1 : Int32))) fun st33 =>
  K22 x1 (1 : Int32) st33
def M_takesE_b43 (fu : Nat) (K22 : Int32 → Int32 → mm_S → Option (Int32 × mm_S)) (x1 : Int32) (x2 : Int32) (x3 : Int32) (st : mm_S) : Option (Int32 × mm_S) :=
  if (mm_I st 23) = (4 : Int32) then (
  some ((0 : Int32), st))
  else (
  fc_nm (mm_sI st 23 ((mm_I st 23) + (1 : Int32))) fun st35 =>
  fc_gd (fc_ix (mm_I st35 22) 101) <|
  fc_nm (mm_sG st35 20 (mm_I st35 22).toNatClampNeg x3) fun st37 =>
  fc_nm (mm_sI st37 22 ((mm_I st37 22) + (1 : Int32))) fun st38 =>
  fc_nm (mm_sI st38 11 ((mm_I st38 11) + (1 : Int32))) fun st39 =>
  K22 x1 x2 st39)
def M_takesE_b22F (fu : Nat) (K22 : Int32 → Int32 → mm_S → Option (Int32 × mm_S)) (x1 : Int32) (x2 : Int32) (st : mm_S) : Option (Int32 × mm_S) :=
  fc_bn (M_next fu st) fun r7 st5 =>
  if x2 = 0 then (
  if r7 = (38 : Int32) then (
  M_takesE_b122 fu K22 x1 r7 st5)
  else (
  if r7 = (124 : Int32) then (
  M_takesE_b122 fu K22 x1 r7 st5)
  else (
  fc_bv (M_settle fu (124 : Int32) st5) fun st11 =>
  fc_gd (fc_ix x1 60) <|
  fc_nm (mm_sG st11 18 x1.toNatClampNeg (mm_I st11 21)) fun st14 =>
  if (mm_I st14 22) = 0 then (
  some ((1 : Int32), st14))
  else (
  if r7 = (41 : Int32) then (
  fc_nm (mm_sI st14 22 ((mm_I st14 22) - (1 : Int32))) fun st17 =>
  fc_nm (mm_sI st17 23 ((mm_I st17 23) - (1 : Int32))) fun st18 =>
  fc_nm (mm_sI st18 11 ((mm_I st18 11) + (1 : Int32))) fun st19 =>
  fc_bv (M_whole fu st19) fun st20 =>
  K22 x1 x2 st20)
  else (
  some ((0 : Int32), st14))))))
  else (
  if r7 = (33 : Int32) then (
  M_takesE_b43 fu K22 x1 x2 r7 st5)
  else (
  if r7 = (40 : Int32) then (
  M_takesE_b43 fu K22 x1 x2 r7 st5)
  else (
  fc_bn (M_takesTest fu st5) fun r26 st24 =>
  if r26 = 0 then (
  some ((0 : Int32), st24))
  else (
  K22 x1 (0 : Int32) st24))))
def M_takesE_b22 (fu : Nat) (n : Nat) (x1 : Int32) (x2 : Int32) (st : mm_S) : Option (Int32 × mm_S) :=
  fc_lp (fun (K : Int32 × Int32 × mm_S → Option (Int32 × mm_S)) a => M_takesE_b22F fu (fun x1 x2 st => K (x1, x2, st)) a.1 a.2.1 a.2.2) n (x1, x2, st)
def M_takesE (fu : Nat) (x1 : Int32) (st : mm_S) : Option (Int32 × mm_S) :=
  fc_nm (mm_sI st 22 (0 : Int32)) fun st1 =>
  fc_nm (mm_sI st1 23 (0 : Int32)) fun st2 =>
  fc_gd (fc_ix x1 60) <|
  fc_nm (mm_sG st2 17 x1.toNatClampNeg (mm_I st2 21)) fun st4 =>
  M_takesE_b22 fu fu x1 (1 : Int32) st4
/-! takesHead -/
def M_takesHead (fu : Nat) (x1 : Int32) (st : mm_S) : Option (Int32 × mm_S) :=
  fc_bn (M_next fu st) fun r3 st1 =>
  if r3 = (102 : Int32) then (
  fc_gd (fc_ix x1 60) <|
  fc_nm (mm_sG st1 15 x1.toNatClampNeg (0 : Int32)) fun st6 =>
  fc_bn (M_takesWord fu (0 : Int32) (4 : Int32) st6) fun r9 st7 =>
  fc_gd (fc_zb r9) <|
  some (r9, st7))
  else (
  if r3 = (115 : Int32) then (
  fc_gd (fc_ix x1 60) <|
  fc_nm (mm_sG st1 15 x1.toNatClampNeg (1 : Int32)) fun st13 =>
  fc_bn (M_takesWord fu (4 : Int32) (5 : Int32) st13) fun r16 st14 =>
  fc_gd (fc_zb r16) <|
  some (r16, st14))
  else (
  fc_gd (fc_ix x1 60) <|
  fc_nm (mm_sG st1 15 x1.toNatClampNeg (2 : Int32)) fun st19 =>
  fc_bn (M_takesWord fu (9 : Int32) (4 : Int32) st19) fun r22 st20 =>
  fc_gd (fc_zb r22) <|
  some (r22, st20)))
/-! takesClause -/
def M_takesClause (fu : Nat) (x1 : Int32) (st : mm_S) : Option (Int32 × mm_S) :=
  fc_bn (M_takesHead fu x1 st) fun r3 st1 =>
  if r3 = 0 then (
  some ((0 : Int32), st1))
  else (
  fc_bn (M_takesNumber fu st1) fun r7 st5 =>
  if r7 = 0 then (
  some ((0 : Int32), st5))
  else (
  fc_gd (fc_ix x1 60) <|
  fc_nm (mm_sG st5 16 x1.toNatClampNeg (mm_I st5 12)) fun st10 =>
  fc_gd (fc_ix x1 60) <|
  if (mm_G st10 15 x1.toNatClampNeg) = (2 : Int32) then (
  some ((1 : Int32), st10))
  else (
  fc_bn (M_takes fu (32 : Int32) st10) fun r15 st13 =>
  if r15 = 0 then (
  some ((0 : Int32), st13))
  else (
  fc_bn (M_takesE fu x1 st13) fun r19 st17 =>
  if r19 = 0 then (
  some ((0 : Int32), st17))
  else (
  some ((1 : Int32), st17))))))
/-! goesText -/
def M_goesText_b15F (fu : Nat) (K15 : Int32 → Int32 → mm_S → Option (Int32 × mm_S)) (x1 : Int32) (x2 : Int32) (st : mm_S) : Option (Int32 × mm_S) :=
  fc_bn (M_takesClause fu (((10 : Int32) * x1) + x2) st) fun r5 st3 =>
  if r5 = 0 then (
  some ((0 : Int32), st3))
  else (
  fc_nm (x2 + (1 : Int32)) fun v7 =>
  fc_gd (fc_ix x1 6) <|
  fc_nm (mm_sG st3 14 x1.toNatClampNeg v7) fun st9 =>
  if (mm_I st9 11) = (mm_I st9 10) then (
  some ((1 : Int32), st9))
  else (
  if v7 = (10 : Int32) then (
  some ((0 : Int32), st9))
  else (
  fc_bn (M_takes fu (59 : Int32) st9) fun r14 st12 =>
  if r14 = 0 then (
  some ((0 : Int32), st12))
  else (
  K15 x1 v7 st12))))
def M_goesText_b15 (fu : Nat) (n : Nat) (x1 : Int32) (x2 : Int32) (st : mm_S) : Option (Int32 × mm_S) :=
  fc_lp (fun (K : Int32 × Int32 × mm_S → Option (Int32 × mm_S)) a => M_goesText_b15F fu (fun x1 x2 st => K (x1, x2, st)) a.1 a.2.1 a.2.2) n (x1, x2, st)
def M_goesText (fu : Nat) (x1 : Int32) (st : mm_S) : Option (Int32 × mm_S) :=
  fc_nm (mm_sI st 11 (0 : Int32)) fun st1 =>
  fc_nm (mm_sI st1 21 ((100 : Int32) * x1)) fun st2 =>
  M_goesText_b15 fu fu x1 (0 : Int32) st2
/-! archive -/
def M_archive (fu : Nat) (st : mm_S) : Option (Int32 × mm_S) :=
  if (mm_I st 8) = (6 : Int32) then (
  some ((-4 : Int32), st))
  else (
  fc_bn (M_goesText fu (mm_I st 8) st) fun r4 st2 =>
  fc_nm (mm_sI st2 10 (0 : Int32)) fun st5 =>
  if r4 = 0 then (
  some (((-10 : Int32) - (mm_I st5 11)), st5))
  else (
  fc_nm (mm_sI st5 9 (mm_I st5 8)) fun st7 =>
  fc_nm (mm_sI st7 8 ((mm_I st7 8) + (1 : Int32))) fun st8 =>
  some ((mm_I st8 9), st8)))
/-! begin -/
def M_begin (fu : Nat) (st : mm_S) : Option (Int32 × mm_S) :=
  if 0 ≤ (mm_I st 9) then (
  some (((10 : Int32) * (mm_I st 9)), st))
  else (
  some ((0 : Int32), st))
/-! behind -/
def M_behind (fu : Nat) (st : mm_S) : Option (Int32 × mm_S) :=
  if 0 ≤ (mm_I st 9) then (
  fc_gd (fc_ix (mm_I st 9) 6) <|
  some ((((10 : Int32) * (mm_I st 9)) + (mm_G st 14 (mm_I st 9).toNatClampNeg)), st))
  else (
  some ((0 : Int32), st))
/-! keep -/
def M_keep_b35 (fu : Nat) (K7 : Int32 → Int32 → mm_S → Option (Int32 × mm_S)) (x2 : Int32) (s0 : Int32) (st : mm_S) : Option (Int32 × mm_S) :=
  fc_nm (x2 + (1 : Int32)) fun v11 =>
  K7 s0 v11 st
def M_keep_b7F (fu : Nat) (K7 : Int32 → Int32 → mm_S → Option (Int32 × mm_S)) (x1 : Int32) (x2 : Int32) (st : mm_S) : Option (Int32 × mm_S) :=
  fc_bn (M_behind fu st) fun r6 st4 =>
  if r6 ≤ x2 then (
  some (x1, st4))
  else (
  fc_gd (fc_ix x2 60) <|
  if (mm_G st4 15 x2.toNatClampNeg) = (2 : Int32) then (
  fc_gd (fc_ix x2 60) <|
  M_keep_b35 fu K7 x2 (mm_G st4 16 x2.toNatClampNeg) st4)
  else (
  M_keep_b35 fu K7 x2 x1 st4))
def M_keep_b7 (fu : Nat) (n : Nat) (x1 : Int32) (x2 : Int32) (st : mm_S) : Option (Int32 × mm_S) :=
  fc_lp (fun (K : Int32 × Int32 × mm_S → Option (Int32 × mm_S)) a => M_keep_b7F fu (fun x1 x2 st => K (x1, x2, st)) a.1 a.2.1 a.2.2) n (x1, x2, st)
def M_keep (fu : Nat) (st : mm_S) : Option (Int32 × mm_S) :=
  fc_bn (M_begin fu st) fun r3 st1 =>
  M_keep_b7 fu fu (1 : Int32) r3 st1
/-! factOf -/
def M_factOf (fu : Nat) (x1 : Int32) (x2 : Int32) (x3 : Int32) (x4 : Int32) (st : mm_S) : Option (Int32 × mm_S) :=
  if x1 = (0 : Int32) then (
  some (x2, st))
  else (
  if x1 = (1 : Int32) then (
  fc_gd (fc_ix x2 6) <|
  some ((mm_G st 4 x2.toNatClampNeg), st))
  else (
  if x1 = (2 : Int32) then (
  fc_gd (fc_ix x2 6) <|
  some ((mm_G st 5 x2.toNatClampNeg), st))
  else (
  if x1 = (3 : Int32) then (
  some ((x3 - x3 / (10 : Int32) * (10 : Int32)), st))
  else (
  if x1 = (4 : Int32) then (
  some (((x3 / (10 : Int32)) - (x3 / (10 : Int32)) / (10 : Int32) * (10 : Int32)), st))
  else (
  some (x4, st))))))
/-! holds -/
def M_holds_b249 (fu : Nat) (K11 : Int32 → Int32 → Int32 → Int32 → Int32 → Int32 → mm_S → Option (Int32 × mm_S)) (x1 : Int32) (x2 : Int32) (x3 : Int32) (x4 : Int32) (x5 : Int32) (x6 : Int32) (st : mm_S) : Option (Int32 × mm_S) :=
  fc_nm (x6 + (1 : Int32)) fun v39 =>
  K11 x1 x2 x3 x4 x5 v39 st
def M_holds_b245 (fu : Nat) (K11 : Int32 → Int32 → Int32 → Int32 → Int32 → Int32 → mm_S → Option (Int32 × mm_S)) (x1 : Int32) (x2 : Int32) (x3 : Int32) (x4 : Int32) (x5 : Int32) (x6 : Int32) (s0 : Int32) (s1 : Int32) (st : mm_S) : Option (Int32 × mm_S) :=
  fc_gd (fc_ix s1 100) <|
  fc_nm (mm_sG st 25 s1.toNatClampNeg (vp_nar .boolean s0)) fun st33 =>
  fc_nm (x5 + (1 : Int32)) fun v34 =>
  M_holds_b249 fu K11 x1 x2 x3 x4 v34 x6 st33
def M_holds_b147 (fu : Nat) (K11 : Int32 → Int32 → Int32 → Int32 → Int32 → Int32 → mm_S → Option (Int32 × mm_S)) (x1 : Int32) (x2 : Int32) (x3 : Int32) (x4 : Int32) (x5 : Int32) (x6 : Int32) (s0 : Int32) (s1 : Int32) (st : mm_S) : Option (Int32 × mm_S) :=
  fc_gd (fc_ix s1 100) <|
  fc_nm (mm_sG st 25 s1.toNatClampNeg (vp_nar .boolean s0)) fun st36 =>
  M_holds_b249 fu K11 x1 x2 x3 x4 x5 x6 st36
def M_holds_b142 (fu : Nat) (K11 : Int32 → Int32 → Int32 → Int32 → Int32 → Int32 → mm_S → Option (Int32 × mm_S)) (x1 : Int32) (x2 : Int32) (x3 : Int32) (x4 : Int32) (x5 : Int32) (x6 : Int32) (s0 : Int32) (st : mm_S) : Option (Int32 × mm_S) :=
  M_holds_b147 fu K11 x1 x2 x3 x4 x5 x6 (1 : Int32) s0 st
def M_holds_b116 (fu : Nat) (K11 : Int32 → Int32 → Int32 → Int32 → Int32 → Int32 → mm_S → Option (Int32 × mm_S)) (x1 : Int32) (x2 : Int32) (x3 : Int32) (x4 : Int32) (x5 : Int32) (x6 : Int32) (s0 : Int32) (st : mm_S) : Option (Int32 × mm_S) :=
  M_holds_b147 fu K11 x1 x2 x3 x4 x5 x6 (0 : Int32) s0 st
def M_holds_b63 (fu : Nat) (K11 : Int32 → Int32 → Int32 → Int32 → Int32 → Int32 → mm_S → Option (Int32 × mm_S)) (x1 : Int32) (x2 : Int32) (x3 : Int32) (x4 : Int32) (x5 : Int32) (x6 : Int32) (s0 : Int32) (s1 : Int32) (st : mm_S) : Option (Int32 × mm_S) :=
  fc_gd (fc_ix s1 100) <|
  fc_nm (mm_sG st 25 s1.toNatClampNeg (vp_nar .boolean s0)) fun st38 =>
  M_holds_b249 fu K11 x1 x2 x3 x4 x5 x6 st38
def M_holds_b11F (fu : Nat) (K11 : Int32 → Int32 → Int32 → Int32 → Int32 → Int32 → mm_S → Option (Int32 × mm_S)) (x1 : Int32) (x2 : Int32) (x3 : Int32) (x4 : Int32) (x5 : Int32) (x6 : Int32) (st : mm_S) : Option (Int32 × mm_S) :=
  fc_gd (fc_ix x1 60) <|
  if (mm_G st 18 x1.toNatClampNeg) ≤ x6 then (
  fc_gd (fc_ix (0 : Int32) 100) <|
  fc_gd (fc_zb (mm_G st 25 (0 : Int32).toNatClampNeg)) <|
  some ((mm_G st 25 (0 : Int32).toNatClampNeg), st))
  else (
  fc_gd (fc_ix x6 600) <|
  fc_nm (mm_G st 19 x6.toNatClampNeg) fun v8 =>
  if v8 = (-33 : Int32) then (
  fc_gd (fc_ix (x5 - (1 : Int32)) 100) <|
  if (mm_G st 25 (x5 - (1 : Int32)).toNatClampNeg) = 0 then (
  M_holds_b63 fu K11 x1 x2 x3 x4 x5 x6 (1 : Int32) (x5 - (1 : Int32)) st)
  else (
  M_holds_b63 fu K11 x1 x2 x3 x4 x5 x6 (0 : Int32) (x5 - (1 : Int32)) st))
  else (
  if 0 ≤ v8 then (
  fc_bn (M_factOf fu (v8 / (1000 : Int32)) x2 x3 x4 st) fun r13 st11 =>
  fc_nm ((v8 / (100 : Int32)) - (v8 / (100 : Int32)) / (10 : Int32) * (10 : Int32)) fun v14 =>
  if v14 = 0 then (
  if (v8 - v8 / (100 : Int32) * (100 : Int32)) ≤ r13 then (
  M_holds_b245 fu K11 x1 x2 x3 x4 x5 x6 (0 : Int32) x5 st11)
  else (
  M_holds_b245 fu K11 x1 x2 x3 x4 x5 x6 (1 : Int32) x5 st11))
  else (
  if v14 = (1 : Int32) then (
  if r13 = (v8 - v8 / (100 : Int32) * (100 : Int32)) then (
  M_holds_b245 fu K11 x1 x2 x3 x4 x5 x6 (1 : Int32) x5 st11)
  else (
  M_holds_b245 fu K11 x1 x2 x3 x4 x5 x6 (0 : Int32) x5 st11))
  else (
  if r13 ≤ (v8 - v8 / (100 : Int32) * (100 : Int32)) then (
  M_holds_b245 fu K11 x1 x2 x3 x4 x5 x6 (0 : Int32) x5 st11)
  else (
  M_holds_b245 fu K11 x1 x2 x3 x4 x5 x6 (1 : Int32) x5 st11))))
  else (
  fc_nm (x5 + (-1 : Int32)) fun v20 =>
  if v8 = (-38 : Int32) then (
  fc_gd (fc_ix (v20 - (1 : Int32)) 100) <|
  if (mm_G st 25 (v20 - (1 : Int32)).toNatClampNeg) = 0 then (
  M_holds_b116 fu K11 x1 x2 x3 x4 v20 x6 (v20 - (1 : Int32)) st)
  else (
  fc_gd (fc_ix v20 100) <|
  if (mm_G st 25 v20.toNatClampNeg) = 0 then (
  M_holds_b116 fu K11 x1 x2 x3 x4 v20 x6 (v20 - (1 : Int32)) st)
  else (
  M_holds_b147 fu K11 x1 x2 x3 x4 v20 x6 (1 : Int32) (v20 - (1 : Int32)) st)))
  else (
  fc_gd (fc_ix (v20 - (1 : Int32)) 100) <|
  if (mm_G st 25 (v20 - (1 : Int32)).toNatClampNeg) = 0 then (
  fc_gd (fc_ix v20 100) <|
  if (mm_G st 25 v20.toNatClampNeg) = 0 then (
  M_holds_b147 fu K11 x1 x2 x3 x4 v20 x6 (0 : Int32) (v20 - (1 : Int32)) st)
  else (
  M_holds_b142 fu K11 x1 x2 x3 x4 v20 x6 (v20 - (1 : Int32)) st))
  else (
  M_holds_b142 fu K11 x1 x2 x3 x4 v20 x6 (v20 - (1 : Int32)) st)))))
def M_holds_b11 (fu : Nat) (n : Nat) (x1 : Int32) (x2 : Int32) (x3 : Int32) (x4 : Int32) (x5 : Int32) (x6 : Int32) (st : mm_S) : Option (Int32 × mm_S) :=
  fc_lp (fun (K : Int32 × Int32 × Int32 × Int32 × Int32 × Int32 × mm_S → Option (Int32 × mm_S)) a => M_holds_b11F fu (fun x1 x2 x3 x4 x5 x6 st => K (x1, x2, x3, x4, x5, x6, st)) a.1 a.2.1 a.2.2.1 a.2.2.2.1 a.2.2.2.2.1 a.2.2.2.2.2.1 a.2.2.2.2.2.2) n (x1, x2, x3, x4, x5, x6, st)
def M_holds (fu : Nat) (x1 : Int32) (x2 : Int32) (x3 : Int32) (x4 : Int32) (st : mm_S) : Option (Int32 × mm_S) :=
  fc_gd (fc_ix x1 60) <|
  fc_nm (mm_G st 17 x1.toNatClampNeg) fun v2 =>
  M_holds_b11 fu fu x1 x2 x3 x4 (0 : Int32) v2 st
/-! base -/
def M_base_b78 (fu : Nat) (K10 : Int32 → Int32 → Int32 → Int32 → Int32 → mm_S → Option (Int32 × mm_S)) (x1 : Int32) (x2 : Int32) (x3 : Int32) (x4 : Int32) (x5 : Int32) (st : mm_S) : Option (Int32 × mm_S) :=
  fc_nm (x5 + (1 : Int32)) fun v18 =>
  K10 x1 x2 x3 x4 v18 st
def M_base_b75 (fu : Nat) (K10 : Int32 → Int32 → Int32 → Int32 → Int32 → mm_S → Option (Int32 × mm_S)) (x1 : Int32) (x2 : Int32) (x3 : Int32) (x5 : Int32) (s0 : Int32) (s1 : Int32) (st : mm_S) : Option (Int32 × mm_S) :=
  fc_nm (s1 + s0) fun v19 =>
  M_base_b78 fu K10 x1 x2 x3 v19 x5 st
def M_base_b10F (fu : Nat) (K10 : Int32 → Int32 → Int32 → Int32 → Int32 → mm_S → Option (Int32 × mm_S)) (x1 : Int32) (x2 : Int32) (x3 : Int32) (x4 : Int32) (x5 : Int32) (st : mm_S) : Option (Int32 × mm_S) :=
  fc_bn (M_behind fu st) fun r6 st4 =>
  if r6 ≤ x5 then (
  some (x4, st4))
  else (
  fc_gd (fc_ix x5 60) <|
  if (1 : Int32) < (mm_G st4 15 x5.toNatClampNeg) then (
  M_base_b78 fu K10 x1 x2 x3 x4 x5 st4)
  else (
  fc_bn (M_holds fu x5 x1 x2 x3 st4) fun r12 st10 =>
  if r12 = 0 then (
  M_base_b78 fu K10 x1 x2 x3 x4 x5 st10)
  else (
  fc_gd (fc_ix x5 60) <|
  if (mm_G st10 15 x5.toNatClampNeg) = 0 then (
  fc_gd (fc_ix x5 60) <|
  M_base_b75 fu K10 x1 x2 x3 x5 (mm_G st10 16 x5.toNatClampNeg) x4 st10)
  else (
  fc_gd (fc_ix x5 60) <|
  M_base_b75 fu K10 x1 x2 x3 x5 (-(mm_G st10 16 x5.toNatClampNeg)) x4 st10))))
def M_base_b10 (fu : Nat) (n : Nat) (x1 : Int32) (x2 : Int32) (x3 : Int32) (x4 : Int32) (x5 : Int32) (st : mm_S) : Option (Int32 × mm_S) :=
  fc_lp (fun (K : Int32 × Int32 × Int32 × Int32 × Int32 × mm_S → Option (Int32 × mm_S)) a => M_base_b10F fu (fun x1 x2 x3 x4 x5 st => K (x1, x2, x3, x4, x5, st)) a.1 a.2.1 a.2.2.1 a.2.2.2.1 a.2.2.2.2.1 a.2.2.2.2.2) n (x1, x2, x3, x4, x5, st)
def M_base (fu : Nat) (x1 : Int32) (x2 : Int32) (x3 : Int32) (st : mm_S) : Option (Int32 × mm_S) :=
  fc_bn (M_begin fu st) fun r3 st1 =>
  M_base_b10 fu fu x1 x2 x3 (10 : Int32) r3 st1
/-! worthOf -/
def M_worthOf_b159 (fu : Nat) (x6 : Int32) (st : mm_S) : Option (Int32 × mm_S) :=
  if 0 ≤ x6 then (
  some (x6, st))
  else (
  some ((0 : Int32), st))
def M_worthOf_b117 (fu : Nat) (s0 : Int32) (s1 : Int32) (st : mm_S) : Option (Int32 × mm_S) :=
  fc_nm (s1 * s0) fun v21 =>
  M_worthOf_b159 fu v21 st
def M_worthOf_b22 (fu : Nat) (x1 : Int32) (x2 : Int32) (x3 : Int32) (x4 : Int32) (s0 : Int32) (st : mm_S) : Option (Int32 × mm_S) :=
  fc_gd (fc_ix x1 6) <|
  fc_nm (mm_G st 4 x1.toNatClampNeg) fun v6 =>
  if v6 = (1 : Int32) then (
  fc_nm (x4 + (x2 - x2 / (8 : Int32) * (8 : Int32))) fun v8 =>
  M_worthOf_b159 fu v8 st)
  else (
  if v6 = (2 : Int32) then (
  M_worthOf_b159 fu s0 st)
  else (
  if v6 = (3 : Int32) then (
  fc_nm (x4 / (2 : Int32)) fun v11 =>
  M_worthOf_b159 fu v11 st)
  else (
  if v6 = (4 : Int32) then (
  if x3 = (1 : Int32) then (
  M_worthOf_b117 fu (2 : Int32) (x4 + (x2 - x2 / (8 : Int32) * (8 : Int32))) st)
  else (
  M_worthOf_b117 fu (1 : Int32) (x4 + (x2 - x2 / (8 : Int32) * (8 : Int32))) st))
  else (
  if v6 = (5 : Int32) then (
  fc_gd (fc_ix x1 6) <|
  fc_nm (s0 + (mm_G st 5 x1.toNatClampNeg)) fun v16 =>
  M_worthOf_b159 fu v16 st)
  else (
  if v6 = (6 : Int32) then (
  fc_gd (fc_ix (((4 : Int32) * x1) + (x2 - x2 / (4 : Int32) * (4 : Int32))) 24) <|
  fc_nm ((x4 / (2 : Int32)) + (mm_G st 7 (((4 : Int32) * x1) + (x2 - x2 / (4 : Int32) * (4 : Int32))).toNatClampNeg)) fun v19 =>
  M_worthOf_b159 fu v19 st)
  else (
  M_worthOf_b159 fu x4 st))))))
def M_worthOf (fu : Nat) (x1 : Int32) (x2 : Int32) (x3 : Int32) (st : mm_S) : Option (Int32 × mm_S) :=
  fc_bn (M_base fu x1 x2 x3 st) fun r3 st1 =>
  if (x2 - x2 / (2 : Int32) * (2 : Int32)) = (1 : Int32) then (
  M_worthOf_b22 fu x1 x2 x3 r3 (0 : Int32) st1)
  else (
  M_worthOf_b22 fu x1 x2 x3 r3 r3 st1)
/-! of -/
def M_of (fu : Nat) (x1 : Int32) (x2 : Int32) (st : mm_S) : Option (Int32 × mm_S) :=
  fc_bn (M_isNeed fu x1 st) fun r3 st1 =>
  if r3 = 0 then (
  some ((-1 : Int32), st1))
  else (
  if x2 = (0 : Int32) then (
  fc_gd (fc_ix x1 6) <|
  some ((mm_G st1 4 x1.toNatClampNeg), st1))
  else (
  if x2 = (1 : Int32) then (
  fc_gd (fc_ix x1 6) <|
  some ((mm_G st1 5 x1.toNatClampNeg), st1))
  else (
  if x2 = (2 : Int32) then (
  fc_gd (fc_ix x1 6) <|
  some ((mm_G st1 6 x1.toNatClampNeg), st1))
  else (
  if x2 = (3 : Int32) then (
  fc_bn (M_worthOf fu x1 (mm_I st1 3) (mm_I st1 1) st1) fun r14 st12 =>
  some (r14, st12))
  else (
  some ((-1 : Int32), st1))))))
/-! worth -/
def M_worth (fu : Nat) (x1 : Int32) (x2 : Int32) (x3 : Int32) (st : mm_S) : Option (Int32 × mm_S) :=
  fc_bn (M_isNeed fu x1 st) fun r3 st1 =>
  if r3 = 0 then (
  some ((-1 : Int32), st1))
  else (
  fc_bn (M_in fu x2 (0 : Int32) (60 : Int32) st1) fun r7 st5 =>
  if r7 = 0 then (
  some ((-2 : Int32), st5))
  else (
  fc_bn (M_isDarks fu x3 st5) fun r11 st9 =>
  if r11 = 0 then (
  some ((-2 : Int32), st9))
  else (
  fc_bn (M_worthOf fu x1 ((mm_I st9 3) + x2) x3 st9) fun r15 st13 =>
  some (r15, st13))))
/-! held -/
def M_held (fu : Nat) (x1 : Int32) (st : mm_S) : Option (Int32 × mm_S) :=
  if x1 ≤ (999999 : Int32) then (
  if (-999999 : Int32) ≤ x1 then (
  some (x1, st))
  else (
  some ((-999999 : Int32), st)))
  else (
  some ((999999 : Int32), st))
/-! serve -/
def M_serve (fu : Nat) (x1 : Int32) (st : mm_S) : Option (Int32 × mm_S) :=
  fc_bn (M_isNeed fu x1 st) fun r3 st1 =>
  if r3 = 0 then (
  some ((-10000001 : Int32), st1))
  else (
  if (mm_I st1 1) = 0 then (
  some ((-10000002 : Int32), st1))
  else (
  if (mm_I st1 3) = (9999 : Int32) then (
  some ((-10000002 : Int32), st1))
  else (
  fc_gd (fc_ix x1 6) <|
  if (mm_G st1 6 x1.toNatClampNeg) = (9999 : Int32) then (
  some ((-10000002 : Int32), st1))
  else (
  fc_bn (M_worthOf fu x1 (mm_I st1 3) (mm_I st1 1) st1) fun r11 st9 =>
  fc_nm (mm_sI st9 1 ((mm_I st9 1) - (1 : Int32))) fun st12 =>
  fc_gd (fc_ix x1 6) <|
  fc_gd (fc_ix x1 6) <|
  fc_nm (mm_sG st12 6 x1.toNatClampNeg ((mm_G st12 6 x1.toNatClampNeg) + (1 : Int32))) fun st15 =>
  fc_bn (M_keep fu st15) fun r18 st16 =>
  fc_bn (M_held fu (((mm_I st15 2) + r11) - (r18 * (mm_I st16 1))) st16) fun r21 st19 =>
  fc_nm (mm_sI st19 2 r21) fun st22 =>
  fc_nm (mm_sI st22 3 ((mm_I st22 3) + (1 : Int32))) fun st23 =>
  some ((mm_I st23 2), st23)))))
/-! spare -/
def M_spare (fu : Nat) (x1 : Int32) (st : mm_S) : Option (Int32 × mm_S) :=
  fc_bn (M_isNeed fu x1 st) fun r3 st1 =>
  if r3 = 0 then (
  some ((-10000001 : Int32), st1))
  else (
  if (mm_I st1 3) = (9999 : Int32) then (
  some ((-10000002 : Int32), st1))
  else (
  fc_bn (M_keep fu st1) fun r8 st6 =>
  fc_bn (M_held fu ((mm_I st1 2) - (r8 * (mm_I st6 1))) st6) fun r11 st9 =>
  fc_nm (mm_sI st9 2 r11) fun st12 =>
  fc_nm (mm_sI st12 3 ((mm_I st12 3) + (1 : Int32))) fun st13 =>
  some ((mm_I st13 2), st13)))
/-! told -/
def M_told (fu : Nat) (x1 : Int32) (st : mm_S) : Option (Int32 × mm_S) :=
  if x1 = (0 : Int32) then (
  some ((mm_I st 3), st))
  else (
  if x1 = (1 : Int32) then (
  some ((mm_I st 1), st))
  else (
  if x1 = (2 : Int32) then (
  some ((mm_I st 2), st))
  else (
  if x1 = (3 : Int32) then (
  fc_bn (M_keep fu st) fun r7 st5 =>
  some (r7, st5))
  else (
  some ((-10000001 : Int32), st)))))
/-! ways -/
def M_ways_b5F (fu : Nat) (K5 : Int32 → Int64 → Int32 → mm_S → Option (Int64 × mm_S)) (x1 : Int32) (x2 : Int64) (x4 : Int32) (st : mm_S) : Option (Int64 × mm_S) :=
  if x1 ≤ x4 then (
  some (x2, st))
  else (
  fc_nm (x2 * (((mm_I st 0)).toInt64)) fun v2 =>
  fc_nm (x4 + (1 : Int32)) fun v3 =>
  K5 x1 v2 v3 st)
def M_ways_b5 (fu : Nat) (n : Nat) (x1 : Int32) (x2 : Int64) (x4 : Int32) (st : mm_S) : Option (Int64 × mm_S) :=
  fc_lp (fun (K : Int32 × Int64 × Int32 × mm_S → Option (Int64 × mm_S)) a => M_ways_b5F fu (fun x1 x2 x4 st => K (x1, x2, x4, st)) a.1 a.2.1 a.2.2.1 a.2.2.2) n (x1, x2, x4, st)
def M_ways (fu : Nat) (x1 : Int32) (st : mm_S) : Option (Int64 × mm_S) :=
  M_ways_b5 fu fu x1 (1 : Int64) (0 : Int32) st
/-! ifServed -/
def M_ifServed (fu : Nat) (x1 : Int32) (x2 : Int32) (x3 : Int32) (x4 : Int32) (st : mm_S) : Option (Int64 × mm_S) :=
  fc_bn (M_ways fu ((x3 - x2) - (1 : Int32)) st) fun r3 st1 =>
  fc_bn (M_worthOf fu x1 ((mm_I st1 3) + x2) x4 st1) fun r6 st4 =>
  fc_bn (M_keep fu st4) fun r9 st7 =>
  fc_gd (fc_ix (((((10 : Int32) * x2) + (10 : Int32)) + x4) - (1 : Int32)) 90) <|
  some (((r3 * (((r6 - (r9 * (x4 - (1 : Int32))))).toInt64)) + (mm_L st7 26 (((((10 : Int32) * x2) + (10 : Int32)) + x4) - (1 : Int32)).toNatClampNeg)), st7)
/-! ifSpared -/
def M_ifSpared (fu : Nat) (x1 : Int32) (x2 : Int32) (x3 : Int32) (st : mm_S) : Option (Int64 × mm_S) :=
  fc_bn (M_ways fu ((x2 - x1) - (1 : Int32)) st) fun r3 st1 =>
  fc_bn (M_keep fu st1) fun r6 st4 =>
  fc_gd (fc_ix ((((10 : Int32) * x1) + (10 : Int32)) + x3) 90) <|
  some (((r3 * ((((-r6) * x3)).toInt64)) + (mm_L st4 26 ((((10 : Int32) * x1) + (10 : Int32)) + x3).toNatClampNeg)), st4)
/-! gainOf -/
def M_gainOf_b89 (fu : Nat) (x6 : Int64) (x8 : Int64) (s0 : Int32) (st : mm_S) : Option (Int64 × mm_S) :=
  if s0 = 0 then (
  some (x6, st))
  else (
  some (x8, st))
def M_gainOf (fu : Nat) (x1 : Int32) (x2 : Int32) (x3 : Int32) (x4 : Int32) (x5 : Int32) (st : mm_S) : Option (Int64 × mm_S) :=
  fc_bn (M_ifSpared fu x3 x4 x5 st) fun r3 st1 =>
  if x5 = 0 then (
  some (r3, st1))
  else (
  fc_bn (M_ifServed fu x2 x3 x4 x5 st1) fun r7 st5 =>
  if x1 = 0 then (
  if (lg_cmp r7 r3) ≤ 0 then (
  some (r3, st5))
  else (
  some (r7, st5)))
  else (
  if x1 = (1 : Int32) then (
  fc_bn (M_worthOf fu x2 ((mm_I st5 3) + x3) x5 st5) fun r15 st13 =>
  if r15 ≤ 0 then (
  M_gainOf_b89 fu r3 r7 (0 : Int32) st13)
  else (
  M_gainOf_b89 fu r3 r7 (1 : Int32) st13))
  else (
  fc_bn (M_has fu (mm_I st5 27) x2 st5) fun r12 st10 =>
  M_gainOf_b89 fu r3 r7 r12 st10)))
/-! layGains -/
def M_layGains_b50F (fu : Nat) (K30 : Int32 → Int32 → Int32 → mm_S → Option mm_S) (K37 : Int32 → Int32 → Int32 → Int32 → mm_S → Option mm_S) (K50 : Int32 → Int32 → Int32 → Int32 → Int64 → Int32 → mm_S → Option mm_S) (x1 : Int32) (x2 : Int32) (x3 : Int32) (x4 : Int32) (x5 : Int64) (x7 : Int32) (st : mm_S) : Option mm_S :=
  if (mm_I st 0) ≤ x7 then (
  fc_gd (fc_ix (((10 : Int32) * x3) + x4) 90) <|
  fc_nm (mm_sL st 26 (((10 : Int32) * x3) + x4).toNatClampNeg x5) fun st11 =>
  fc_nm (x4 + (1 : Int32)) fun v12 =>
  K37 x1 x2 x3 v12 st11)
  else (
  fc_bn (M_gainOf fu x1 x7 x3 x2 x4 st) fun r15 st13 =>
  fc_nm (x5 + r15) fun v16 =>
  fc_nm (x7 + (1 : Int32)) fun v17 =>
  K50 x1 x2 x3 x4 v16 v17 st13)
def M_layGains_b50 (fu : Nat) (K30 : Int32 → Int32 → Int32 → mm_S → Option mm_S) (K37 : Int32 → Int32 → Int32 → Int32 → mm_S → Option mm_S) (n : Nat) (x1 : Int32) (x2 : Int32) (x3 : Int32) (x4 : Int32) (x5 : Int64) (x7 : Int32) (st : mm_S) : Option mm_S :=
  fc_lp (fun (K : Int32 × Int32 × Int32 × Int32 × Int64 × Int32 × mm_S → Option mm_S) a => M_layGains_b50F fu K30 K37 (fun x1 x2 x3 x4 x5 x7 st => K (x1, x2, x3, x4, x5, x7, st)) a.1 a.2.1 a.2.2.1 a.2.2.2.1 a.2.2.2.2.1 a.2.2.2.2.2.1 a.2.2.2.2.2.2) n (x1, x2, x3, x4, x5, x7, st)
def M_layGains_b37F (fu : Nat) (K30 : Int32 → Int32 → Int32 → mm_S → Option mm_S) (K37 : Int32 → Int32 → Int32 → Int32 → mm_S → Option mm_S) (x1 : Int32) (x2 : Int32) (x3 : Int32) (x4 : Int32) (st : mm_S) : Option mm_S :=
  if (9 : Int32) ≤ x4 then (
  fc_nm (x3 + (-1 : Int32)) fun v8 =>
  K30 x1 x2 v8 st)
  else (
  M_layGains_b50 fu K30 K37 fu x1 x2 x3 x4 (0 : Int64) (0 : Int32) st)
def M_layGains_b37 (fu : Nat) (K30 : Int32 → Int32 → Int32 → mm_S → Option mm_S) (n : Nat) (x1 : Int32) (x2 : Int32) (x3 : Int32) (x4 : Int32) (st : mm_S) : Option mm_S :=
  fc_lp (fun (K : Int32 × Int32 × Int32 × Int32 × mm_S → Option mm_S) a => M_layGains_b37F fu K30 (fun x1 x2 x3 x4 st => K (x1, x2, x3, x4, st)) a.1 a.2.1 a.2.2.1 a.2.2.2.1 a.2.2.2.2) n (x1, x2, x3, x4, st)
def M_layGains_b30F (fu : Nat) (K30 : Int32 → Int32 → Int32 → mm_S → Option mm_S) (x1 : Int32) (x2 : Int32) (x3 : Int32) (st : mm_S) : Option mm_S :=
  if x3 < 0 then (
  some st)
  else (
  M_layGains_b37 fu K30 fu x1 x2 x3 (0 : Int32) st)
def M_layGains_b30 (fu : Nat) (n : Nat) (x1 : Int32) (x2 : Int32) (x3 : Int32) (st : mm_S) : Option mm_S :=
  fc_lp (fun (K : Int32 × Int32 × Int32 × mm_S → Option mm_S) a => M_layGains_b30F fu (fun x1 x2 x3 st => K (x1, x2, x3, st)) a.1 a.2.1 a.2.2.1 a.2.2.2) n (x1, x2, x3, st)
def M_layGains_b2F (fu : Nat) (K2 : Int32 → Int32 → Int32 → mm_S → Option mm_S) (x1 : Int32) (x2 : Int32) (x3 : Int32) (st : mm_S) : Option mm_S :=
  if (9 : Int32) ≤ x3 then (
  fc_nm (x2 - (1 : Int32)) fun v2 =>
  M_layGains_b30 fu fu x1 x2 v2 st)
  else (
  fc_gd (fc_ix (((10 : Int32) * x2) + x3) 90) <|
  fc_nm (mm_sL st 26 (((10 : Int32) * x2) + x3).toNatClampNeg (0 : Int64)) fun st4 =>
  fc_nm (x3 + (1 : Int32)) fun v5 =>
  K2 x1 x2 v5 st4)
def M_layGains_b2 (fu : Nat) (n : Nat) (x1 : Int32) (x2 : Int32) (x3 : Int32) (st : mm_S) : Option mm_S :=
  fc_lp (fun (K : Int32 × Int32 × Int32 × mm_S → Option mm_S) a => M_layGains_b2F fu (fun x1 x2 x3 st => K (x1, x2, x3, st)) a.1 a.2.1 a.2.2.1 a.2.2.2) n (x1, x2, x3, st)
def M_layGains (fu : Nat) (x1 : Int32) (x2 : Int32) (st : mm_S) : Option mm_S :=
  M_layGains_b2 fu fu x1 x2 (0 : Int32) st
/-! divisor -/
def M_divisor_b17F (fu : Nat) (K17 : Int64 → Int64 → mm_S → Option (Int64 × mm_S)) (x5 : Int64) (x7 : Int64) (st : mm_S) : Option (Int64 × mm_S) :=
  if (lg_cmp x7 (0 : Int64)) = 0 then (
  some (x5, st))
  else (
  fc_gd (fc_nzl x7) <|
  fc_nm (x5 - x5 / x7 * x7) fun v4 =>
  K17 x7 v4 st)
def M_divisor_b17 (fu : Nat) (n : Nat) (x5 : Int64) (x7 : Int64) (st : mm_S) : Option (Int64 × mm_S) :=
  fc_lp (fun (K : Int64 × Int64 × mm_S → Option (Int64 × mm_S)) a => M_divisor_b17F fu (fun x5 x7 st => K (x5, x7, st)) a.1 a.2.1 a.2.2) n (x5, x7, st)
def M_divisor_b12 (fu : Nat) (x3 : Int64) (s0 : Int64) (st : mm_S) : Option (Int64 × mm_S) :=
  M_divisor_b17 fu fu s0 x3 st
def M_divisor (fu : Nat) (x1 : Int64) (x3 : Int64) (st : mm_S) : Option (Int64 × mm_S) :=
  if 0 ≤ (lg_cmp x1 (0 : Int64)) then (
  M_divisor_b12 fu x3 x1 st)
  else (
  M_divisor_b12 fu x3 (-x1) st)
/-! lowest -/
def M_lowest (fu : Nat) (x1 : Int64) (x3 : Int64) (x5 : Int32) (st : mm_S) : Option (Int64 × mm_S) :=
  fc_bn (M_divisor fu x1 x3 st) fun r3 st1 =>
  if x5 = 0 then (
  fc_gd (fc_nzl r3) <|
  some ((x1 / r3), st1))
  else (
  fc_gd (fc_nzl r3) <|
  some ((x3 / r3), st1))
/-! isYears -/
def M_isYears (fu : Nat) (x1 : Int32) (st : mm_S) : Option (Int32 × mm_S) :=
  fc_bn (M_in fu x1 (0 : Int32) (8 : Int32) st) fun r3 st1 =>
  fc_gd (fc_zb r3) <|
  some (r3, st1)
/-! isAsked -/
def M_isAsked (fu : Nat) (x1 : Int32) (x2 : Int32) (st : mm_S) : Option (Int32 × mm_S) :=
  fc_bn (M_isYears fu x1 st) fun r3 st1 =>
  if r3 = 0 then (
  some ((0 : Int32), st1))
  else (
  fc_bn (M_in fu x2 (0 : Int32) (1 : Int32) st1) fun r7 st5 =>
  if r7 = 0 then (
  some ((0 : Int32), st5))
  else (
  if (mm_I st5 0) ≤ 0 then (
  some ((0 : Int32), st5))
  else (
  some ((1 : Int32), st5))))
/-! mean -/
def M_mean (fu : Nat) (x1 : Int32) (x2 : Int32) (st : mm_S) : Option (Int64 × mm_S) :=
  fc_bn (M_isAsked fu x1 x2 st) fun r3 st1 =>
  if r3 = 0 then (
  some ((-9223372036854775808 : Int64), st1))
  else (
  fc_bv (M_layGains fu (0 : Int32) x1 st1) fun st5 =>
  fc_gd (fc_ix (mm_I st5 1) 90) <|
  fc_bn (M_ways fu x1 st5) fun r10 st8 =>
  fc_bn (M_lowest fu (mm_L st5 26 (mm_I st5 1).toNatClampNeg) r10 x2 st8) fun r13 st11 =>
  some (r13, st11))
/-! price -/
def M_price (fu : Nat) (x1 : Int32) (x2 : Int32) (st : mm_S) : Option (Int64 × mm_S) :=
  fc_bn (M_isAsked fu x1 x2 st) fun r3 st1 =>
  if r3 = 0 then (
  some ((-9223372036854775808 : Int64), st1))
  else (
  if (mm_I st1 1) = (8 : Int32) then (
  some ((-9223372036854775808 : Int64), st1))
  else (
  fc_bv (M_layGains fu (0 : Int32) x1 st1) fun st6 =>
  fc_gd (fc_ix ((mm_I st6 1) + (1 : Int32)) 90) <|
  fc_gd (fc_ix (mm_I st6 1) 90) <|
  fc_bn (M_ways fu x1 st6) fun r12 st10 =>
  fc_bn (M_lowest fu ((mm_L st6 26 ((mm_I st6 1) + (1 : Int32)).toNatClampNeg) - (mm_L st6 26 (mm_I st6 1).toNatClampNeg)) r12 x2 st10) fun r15 st13 =>
  some (r15, st13)))
/-! greedy -/
def M_greedy (fu : Nat) (x1 : Int32) (x2 : Int32) (st : mm_S) : Option (Int64 × mm_S) :=
  fc_bn (M_isAsked fu x1 x2 st) fun r3 st1 =>
  if r3 = 0 then (
  some ((-9223372036854775808 : Int64), st1))
  else (
  fc_bv (M_layGains fu (1 : Int32) x1 st1) fun st5 =>
  fc_gd (fc_ix (mm_I st5 1) 90) <|
  fc_bn (M_ways fu x1 st5) fun r10 st8 =>
  fc_bn (M_lowest fu (mm_L st5 26 (mm_I st5 1).toNatClampNeg) r10 x2 st8) fun r13 st11 =>
  some (r13, st11))
/-! only -/
def M_only (fu : Nat) (x1 : Int32) (x2 : Int32) (x3 : Int32) (st : mm_S) : Option (Int64 × mm_S) :=
  fc_bn (M_in fu x1 (0 : Int32) (63 : Int32) st) fun r3 st1 =>
  if r3 = 0 then (
  some ((-9223372036854775808 : Int64), st1))
  else (
  fc_bn (M_isAsked fu x2 x3 st1) fun r7 st5 =>
  if r7 = 0 then (
  some ((-9223372036854775808 : Int64), st5))
  else (
  fc_nm (mm_sI st5 27 x1) fun st9 =>
  fc_bv (M_layGains fu (2 : Int32) x2 st9) fun st10 =>
  fc_gd (fc_ix (mm_I st10 1) 90) <|
  fc_bn (M_ways fu x2 st10) fun r15 st13 =>
  fc_bn (M_lowest fu (mm_L st10 26 (mm_I st10 1).toNatClampNeg) r15 x3 st13) fun r18 st16 =>
  some (r18, st16)))
/-! chosen -/
def M_chosen_b86 (fu : Nat) (K29 : Int32 → Int32 → Int64 → Int32 → mm_S → Option (Int32 × mm_S)) (x1 : Int32) (x2 : Int32) (x3 : Int64) (x5 : Int32) (st : mm_S) : Option (Int32 × mm_S) :=
  fc_nm (x5 + (1 : Int32)) fun v15 =>
  K29 x1 x2 x3 v15 st
def M_chosen_b73 (fu : Nat) (K29 : Int32 → Int32 → Int64 → Int32 → mm_S → Option (Int32 × mm_S)) (x1 : Int32) (x5 : Int32) (st : mm_S) : Option (Int32 × mm_S) :=
  fc_gd (fc_ix (mm_I st 1) 90) <|
  fc_nm (mm_L st 26 (mm_I st 1).toNatClampNeg) fun v14 =>
  M_chosen_b86 fu K29 x1 x5 v14 x5 st
def M_chosen_b29F (fu : Nat) (K29 : Int32 → Int32 → Int64 → Int32 → mm_S → Option (Int32 × mm_S)) (x1 : Int32) (x2 : Int32) (x3 : Int64) (x5 : Int32) (st : mm_S) : Option (Int32 × mm_S) :=
  if ((1 : Int32) <<< ((mm_I st 0) &&& 31)) ≤ x5 then (
  some (x2, st))
  else (
  fc_nm (mm_sI st 27 x5) fun st7 =>
  fc_bv (M_layGains fu (2 : Int32) x1 st7) fun st8 =>
  if x2 < 0 then (
  M_chosen_b73 fu K29 x1 x5 st8)
  else (
  fc_gd (fc_ix (mm_I st8 1) 90) <|
  if 0 < (lg_cmp (mm_L st8 26 (mm_I st8 1).toNatClampNeg) x3) then (
  M_chosen_b73 fu K29 x1 x5 st8)
  else (
  M_chosen_b86 fu K29 x1 x2 x3 x5 st8)))
def M_chosen_b29 (fu : Nat) (n : Nat) (x1 : Int32) (x2 : Int32) (x3 : Int64) (x5 : Int32) (st : mm_S) : Option (Int32 × mm_S) :=
  fc_lp (fun (K : Int32 × Int32 × Int64 × Int32 × mm_S → Option (Int32 × mm_S)) a => M_chosen_b29F fu (fun x1 x2 x3 x5 st => K (x1, x2, x3, x5, st)) a.1 a.2.1 a.2.2.1 a.2.2.2.1 a.2.2.2.2) n (x1, x2, x3, x5, st)
def M_chosen (fu : Nat) (x1 : Int32) (st : mm_S) : Option (Int32 × mm_S) :=
  fc_bn (M_isYears fu x1 st) fun r3 st1 =>
  if r3 = 0 then (
  some ((-2 : Int32), st1))
  else (
  if (mm_I st1 0) = 0 then (
  some ((-5 : Int32), st1))
  else (
  M_chosen_b29 fu fu x1 (-5 : Int32) (0 : Int64) (0 : Int32) st1))
/-! wise -/
def M_wise (fu : Nat) (x1 : Int32) (x2 : Int32) (st : mm_S) : Option (Int32 × mm_S) :=
  fc_bn (M_isNeed fu x1 st) fun r3 st1 =>
  if r3 = 0 then (
  some ((-1 : Int32), st1))
  else (
  fc_bn (M_in fu x2 (1 : Int32) (8 : Int32) st1) fun r7 st5 =>
  if r7 = 0 then (
  some ((-2 : Int32), st5))
  else (
  if (mm_I st5 1) = 0 then (
  some ((0 : Int32), st5))
  else (
  fc_bv (M_layGains fu (0 : Int32) x2 st5) fun st10 =>
  fc_bn (M_ifServed fu x1 (0 : Int32) x2 (mm_I st10 1) st10) fun r14 st12 =>
  fc_bn (M_ifSpared fu (0 : Int32) x2 (mm_I st12 1) st12) fun r17 st15 =>
  if (lg_cmp r14 r17) ≤ 0 then (
  some ((0 : Int32), st15))
  else (
  some ((1 : Int32), st15)))))
/-! spent -/
def M_spent_b135 (fu : Nat) (K57 : Int32 → Int32 → Int32 → mm_S → Option (Int64 × mm_S)) (K64 : Int32 → Int32 → Int32 → Int32 → mm_S → Option (Int64 × mm_S)) (K77 : Int32 → Int32 → Int32 → Int32 → Int64 → Int32 → mm_S → Option (Int64 × mm_S)) (x1 : Int32) (x2 : Int32) (x3 : Int32) (x4 : Int32) (x7 : Int32) (s0 : Int32) (s1 : Int32) (s3 : Int64) (st : mm_S) : Option (Int64 × mm_S) :=
  fc_gd (fc_ix (s1 + s0) 90) <|
  fc_nm (s3 + (mm_L st 28 (s1 + s0).toNatClampNeg)) fun v36 =>
  fc_nm (x7 + (1 : Int32)) fun v37 =>
  K77 x1 x2 x3 x4 v36 v37 st
def M_spent_b133 (fu : Nat) (K57 : Int32 → Int32 → Int32 → mm_S → Option (Int64 × mm_S)) (K64 : Int32 → Int32 → Int32 → Int32 → mm_S → Option (Int64 × mm_S)) (K77 : Int32 → Int32 → Int32 → Int32 → Int64 → Int32 → mm_S → Option (Int64 × mm_S)) (x1 : Int32) (x2 : Int32) (x3 : Int32) (x4 : Int32) (x7 : Int32) (s0 : Int32) (s2 : Int64) (st : mm_S) : Option (Int64 × mm_S) :=
  M_spent_b135 fu K57 K64 K77 x1 x2 x3 x4 x7 x4 s0 s2 st
def M_spent_b77F (fu : Nat) (K57 : Int32 → Int32 → Int32 → mm_S → Option (Int64 × mm_S)) (K64 : Int32 → Int32 → Int32 → Int32 → mm_S → Option (Int64 × mm_S)) (K77 : Int32 → Int32 → Int32 → Int32 → Int64 → Int32 → mm_S → Option (Int64 × mm_S)) (x1 : Int32) (x2 : Int32) (x3 : Int32) (x4 : Int32) (x5 : Int64) (x7 : Int32) (st : mm_S) : Option (Int64 × mm_S) :=
  if (mm_I st 0) ≤ x7 then (
  fc_gd (fc_ix (((10 : Int32) * x3) + x4) 90) <|
  fc_nm (mm_sL st 28 (((10 : Int32) * x3) + x4).toNatClampNeg x5) fun st25 =>
  fc_nm (x4 + (1 : Int32)) fun v26 =>
  K64 x1 x2 x3 v26 st25)
  else (
  if x4 ≤ 0 then (
  M_spent_b133 fu K57 K64 K77 x1 x2 x3 x4 x7 (((10 : Int32) * x3) + (10 : Int32)) x5 st)
  else (
  fc_bn (M_ifServed fu x7 x3 x1 x4 st) fun r30 st28 =>
  fc_bn (M_ifSpared fu x3 x1 x4 st28) fun r33 st31 =>
  if (lg_cmp r30 r33) ≤ 0 then (
  M_spent_b133 fu K57 K64 K77 x1 x2 x3 x4 x7 (((10 : Int32) * x3) + (10 : Int32)) x5 st31)
  else (
  M_spent_b135 fu K57 K64 K77 x1 x2 x3 x4 x7 (x4 - (1 : Int32)) (((10 : Int32) * x3) + (10 : Int32)) x5 st31)))
def M_spent_b77 (fu : Nat) (K57 : Int32 → Int32 → Int32 → mm_S → Option (Int64 × mm_S)) (K64 : Int32 → Int32 → Int32 → Int32 → mm_S → Option (Int64 × mm_S)) (n : Nat) (x1 : Int32) (x2 : Int32) (x3 : Int32) (x4 : Int32) (x5 : Int64) (x7 : Int32) (st : mm_S) : Option (Int64 × mm_S) :=
  fc_lp (fun (K : Int32 × Int32 × Int32 × Int32 × Int64 × Int32 × mm_S → Option (Int64 × mm_S)) a => M_spent_b77F fu K57 K64 (fun x1 x2 x3 x4 x5 x7 st => K (x1, x2, x3, x4, x5, x7, st)) a.1 a.2.1 a.2.2.1 a.2.2.2.1 a.2.2.2.2.1 a.2.2.2.2.2.1 a.2.2.2.2.2.2) n (x1, x2, x3, x4, x5, x7, st)
def M_spent_b64F (fu : Nat) (K57 : Int32 → Int32 → Int32 → mm_S → Option (Int64 × mm_S)) (K64 : Int32 → Int32 → Int32 → Int32 → mm_S → Option (Int64 × mm_S)) (x1 : Int32) (x2 : Int32) (x3 : Int32) (x4 : Int32) (st : mm_S) : Option (Int64 × mm_S) :=
  if (9 : Int32) ≤ x4 then (
  fc_nm (x3 + (-1 : Int32)) fun v22 =>
  K57 x1 x2 v22 st)
  else (
  M_spent_b77 fu K57 K64 fu x1 x2 x3 x4 (0 : Int64) (0 : Int32) st)
def M_spent_b64 (fu : Nat) (K57 : Int32 → Int32 → Int32 → mm_S → Option (Int64 × mm_S)) (n : Nat) (x1 : Int32) (x2 : Int32) (x3 : Int32) (x4 : Int32) (st : mm_S) : Option (Int64 × mm_S) :=
  fc_lp (fun (K : Int32 × Int32 × Int32 × Int32 × mm_S → Option (Int64 × mm_S)) a => M_spent_b64F fu K57 (fun x1 x2 x3 x4 st => K (x1, x2, x3, x4, st)) a.1 a.2.1 a.2.2.1 a.2.2.2.1 a.2.2.2.2) n (x1, x2, x3, x4, st)
def M_spent_b57F (fu : Nat) (K57 : Int32 → Int32 → Int32 → mm_S → Option (Int64 × mm_S)) (x1 : Int32) (x2 : Int32) (x3 : Int32) (st : mm_S) : Option (Int64 × mm_S) :=
  if x3 < 0 then (
  fc_gd (fc_ix (mm_I st 1) 90) <|
  fc_bn (M_ways fu x1 st) fun r14 st12 =>
  fc_bn (M_lowest fu (mm_L st 28 (mm_I st 1).toNatClampNeg) r14 x2 st12) fun r17 st15 =>
  some (r17, st15))
  else (
  M_spent_b64 fu K57 fu x1 x2 x3 (0 : Int32) st)
def M_spent_b57 (fu : Nat) (n : Nat) (x1 : Int32) (x2 : Int32) (x3 : Int32) (st : mm_S) : Option (Int64 × mm_S) :=
  fc_lp (fun (K : Int32 × Int32 × Int32 × mm_S → Option (Int64 × mm_S)) a => M_spent_b57F fu (fun x1 x2 x3 st => K (x1, x2, x3, st)) a.1 a.2.1 a.2.2.1 a.2.2.2) n (x1, x2, x3, st)
def M_spent_b46 (fu : Nat) (K21 : Int32 → Int32 → Int32 → mm_S → Option (Int64 × mm_S)) (x1 : Int32) (x2 : Int32) (x3 : Int32) (s0 : Int64) (s1 : Int32) (st : mm_S) : Option (Int64 × mm_S) :=
  fc_gd (fc_ix s1 90) <|
  fc_nm (mm_sL st 28 s1.toNatClampNeg s0) fun st19 =>
  fc_nm (x3 + (1 : Int32)) fun v20 =>
  K21 x1 x2 v20 st19
def M_spent_b21F (fu : Nat) (K21 : Int32 → Int32 → Int32 → mm_S → Option (Int64 × mm_S)) (x1 : Int32) (x2 : Int32) (x3 : Int32) (st : mm_S) : Option (Int64 × mm_S) :=
  if (9 : Int32) ≤ x3 then (
  fc_nm (x1 - (1 : Int32)) fun v8 =>
  M_spent_b57 fu fu x1 x2 v8 st)
  else (
  if x3 = 0 then (
  M_spent_b46 fu K21 x1 x2 x3 (1 : Int64) (((10 : Int32) * x1) + x3) st)
  else (
  M_spent_b46 fu K21 x1 x2 x3 (0 : Int64) (((10 : Int32) * x1) + x3) st))
def M_spent_b21 (fu : Nat) (n : Nat) (x1 : Int32) (x2 : Int32) (x3 : Int32) (st : mm_S) : Option (Int64 × mm_S) :=
  fc_lp (fun (K : Int32 × Int32 × Int32 × mm_S → Option (Int64 × mm_S)) a => M_spent_b21F fu (fun x1 x2 x3 st => K (x1, x2, x3, st)) a.1 a.2.1 a.2.2.1 a.2.2.2) n (x1, x2, x3, st)
def M_spent (fu : Nat) (x1 : Int32) (x2 : Int32) (st : mm_S) : Option (Int64 × mm_S) :=
  fc_bn (M_isAsked fu x1 x2 st) fun r3 st1 =>
  if r3 = 0 then (
  some ((-9223372036854775808 : Int64), st1))
  else (
  fc_bv (M_layGains fu (0 : Int32) x1 st1) fun st5 =>
  M_spent_b21 fu fu x1 x2 (0 : Int32) st5)
/-! threshold -/
def M_threshold_b51F (fu : Nat) (K51 : Int32 → Int64 → Int32 → mm_S → Option (Int32 × mm_S)) (x1 : Int32) (x2 : Int64) (x4 : Int32) (st : mm_S) : Option (Int32 × mm_S) :=
  if (1000 : Int32) ≤ x4 then (
  some ((-5 : Int32), st))
  else (
  fc_bn (M_ways fu (x1 - (1 : Int32)) st) fun r15 st13 =>
  fc_bn (M_keep fu st13) fun r18 st16 =>
  fc_gd (fc_ix (((10 : Int32) + (mm_I st16 1)) - (1 : Int32)) 90) <|
  if (lg_cmp ((r15 * (((x4 - (r18 * ((mm_I st16 1) - (1 : Int32))))).toInt64)) + (mm_L st16 26 (((10 : Int32) + (mm_I st16 1)) - (1 : Int32)).toNatClampNeg)) x2) ≤ 0 then (
  fc_nm (x4 + (1 : Int32)) fun v21 =>
  K51 x1 x2 v21 st16)
  else (
  some (x4, st16)))
def M_threshold_b51 (fu : Nat) (n : Nat) (x1 : Int32) (x2 : Int64) (x4 : Int32) (st : mm_S) : Option (Int32 × mm_S) :=
  fc_lp (fun (K : Int32 × Int64 × Int32 × mm_S → Option (Int32 × mm_S)) a => M_threshold_b51F fu (fun x1 x2 x4 st => K (x1, x2, x4, st)) a.1 a.2.1 a.2.2.1 a.2.2.2) n (x1, x2, x4, st)
def M_threshold (fu : Nat) (x1 : Int32) (st : mm_S) : Option (Int32 × mm_S) :=
  fc_bn (M_in fu x1 (1 : Int32) (8 : Int32) st) fun r3 st1 =>
  if r3 = 0 then (
  some ((-2 : Int32), st1))
  else (
  if (mm_I st1 1) = 0 then (
  some ((-5 : Int32), st1))
  else (
  if (mm_I st1 0) = 0 then (
  some ((-5 : Int32), st1))
  else (
  fc_bv (M_layGains fu (0 : Int32) x1 st1) fun st7 =>
  fc_bn (M_ifSpared fu (0 : Int32) x1 (mm_I st7 1) st7) fun r11 st9 =>
  M_threshold_b51 fu fu x1 r11 (0 : Int32) st9)))
/-! century -/
def M_century (fu : Nat) (x1 : Int32) (st : mm_S) : Option (Int32 × mm_S) :=
  if x1 = (-1 : Int32) then (
  fc_nm (mm_sI st 29 (0 : Int32)) fun st10 =>
  some ((0 : Int32), st10))
  else (
  fc_bn (M_isNeed fu x1 st) fun r4 st2 =>
  if r4 = 0 then (
  some ((-1 : Int32), st2))
  else (
  if (mm_I st2 29) = (8 : Int32) then (
  some ((-4 : Int32), st2))
  else (
  fc_gd (fc_ix (mm_I st2 29) 8) <|
  fc_nm (mm_sG st2 30 (mm_I st2 29).toNatClampNeg x1) fun st8 =>
  fc_nm (mm_sI st8 29 ((mm_I st8 29) + (1 : Int32))) fun st9 =>
  some ((mm_I st9 29), st9))))
/-! gainBy -/
def M_gainBy_b58 (fu : Nat) (K10 : Int32 → Int32 → Int32 → Int32 → mm_S → Option (Int32 × mm_S)) (x1 : Int32) (x2 : Int32) (x3 : Int32) (x4 : Int32) (st : mm_S) : Option (Int32 × mm_S) :=
  fc_bn (M_keep fu st) fun r16 st14 =>
  fc_nm (x3 - (r16 * x2)) fun v17 =>
  fc_nm (x4 + (1 : Int32)) fun v18 =>
  K10 x1 x2 v17 v18 st14
def M_gainBy_b10F (fu : Nat) (K10 : Int32 → Int32 → Int32 → Int32 → mm_S → Option (Int32 × mm_S)) (x1 : Int32) (x2 : Int32) (x3 : Int32) (x4 : Int32) (st : mm_S) : Option (Int32 × mm_S) :=
  if (mm_I st 29) ≤ x4 then (
  some (x3, st))
  else (
  fc_bn (M_has fu x1 x4 st) fun r5 st3 =>
  if r5 = 0 then (
  M_gainBy_b58 fu K10 x1 x2 x3 x4 st3)
  else (
  if x2 ≤ 0 then (
  M_gainBy_b58 fu K10 x1 x2 x3 x4 st3)
  else (
  fc_gd (fc_ix x4 8) <|
  fc_bn (M_worthOf fu (mm_G st3 30 x4.toNatClampNeg) ((mm_I st3 3) + x4) x2 st3) fun r11 st9 =>
  fc_nm (x3 + r11) fun v12 =>
  fc_nm (x2 + (-1 : Int32)) fun v13 =>
  M_gainBy_b58 fu K10 x1 v13 v12 x4 st9)))
def M_gainBy_b10 (fu : Nat) (n : Nat) (x1 : Int32) (x2 : Int32) (x3 : Int32) (x4 : Int32) (st : mm_S) : Option (Int32 × mm_S) :=
  fc_lp (fun (K : Int32 × Int32 × Int32 × Int32 × mm_S → Option (Int32 × mm_S)) a => M_gainBy_b10F fu (fun x1 x2 x3 x4 st => K (x1, x2, x3, x4, st)) a.1 a.2.1 a.2.2.1 a.2.2.2.1 a.2.2.2.2) n (x1, x2, x3, x4, st)
def M_gainBy (fu : Nat) (x1 : Int32) (st : mm_S) : Option (Int32 × mm_S) :=
  fc_nm (mm_I st 1) fun v1 =>
  M_gainBy_b10 fu fu x1 v1 (0 : Int32) (0 : Int32) st
/-! bestSet -/
def M_bestSet_b41 (fu : Nat) (K4 : Int32 → Int32 → mm_S → Option (Int32 × mm_S)) (x1 : Int32) (x2 : Int32) (st : mm_S) : Option (Int32 × mm_S) :=
  fc_nm (x2 + (1 : Int32)) fun v13 =>
  K4 x1 v13 st
def M_bestSet_b4F (fu : Nat) (K4 : Int32 → Int32 → mm_S → Option (Int32 × mm_S)) (x1 : Int32) (x2 : Int32) (st : mm_S) : Option (Int32 × mm_S) :=
  if ((1 : Int32) <<< ((mm_I st 29) &&& 31)) ≤ x2 then (
  some (x1, st))
  else (
  fc_bn (M_bits fu x2 st) fun r4 st2 =>
  if (mm_I st2 1) < r4 then (
  M_bestSet_b41 fu K4 x1 x2 st2)
  else (
  fc_bn (M_gainBy fu x2 st2) fun r8 st6 =>
  fc_bn (M_gainBy fu x1 st6) fun r11 st9 =>
  if r8 ≤ r11 then (
  M_bestSet_b41 fu K4 x1 x2 st9)
  else (
  M_bestSet_b41 fu K4 x2 x2 st9)))
def M_bestSet_b4 (fu : Nat) (n : Nat) (x1 : Int32) (x2 : Int32) (st : mm_S) : Option (Int32 × mm_S) :=
  fc_lp (fun (K : Int32 × Int32 × mm_S → Option (Int32 × mm_S)) a => M_bestSet_b4F fu (fun x1 x2 st => K (x1, x2, st)) a.1 a.2.1 a.2.2) n (x1, x2, st)
def M_bestSet (fu : Nat) (st : mm_S) : Option (Int32 × mm_S) :=
  M_bestSet_b4 fu fu (0 : Int32) (1 : Int32) st
/-! plan -/
def M_plan (fu : Nat) (x1 : Int32) (st : mm_S) : Option (Int32 × mm_S) :=
  fc_bn (M_in fu x1 (0 : Int32) (1 : Int32) st) fun r3 st1 =>
  if r3 = 0 then (
  some ((-10000001 : Int32), st1))
  else (
  if x1 = 0 then (
  fc_bn (M_bestSet fu st1) fun r14 st12 =>
  some (r14, st12))
  else (
  fc_bn (M_bestSet fu st1) fun r8 st6 =>
  fc_bn (M_gainBy fu r8 st6) fun r11 st9 =>
  some (r11, st9)))
/-! ends -/
def M_ends (fu : Nat) (x1 : Int32) (st : mm_S) : Option (Int32 × mm_S) :=
  fc_bn (M_in fu x1 (0 : Int32) (1 : Int32) st) fun r3 st1 =>
  if r3 = 0 then (
  some ((-10000001 : Int32), st1))
  else (
  if x1 = 0 then (
  fc_bn (M_gainBy fu (0 : Int32) st1) fun r11 st9 =>
  some (r11, st9))
  else (
  fc_bn (M_gainBy fu (255 : Int32) st1) fun r8 st6 =>
  some (r8, st6)))
/-! see -/
def M_see (fu : Nat) (x1 : Int32) (x2 : Int32) (x3 : Int32) (st : mm_S) : Option (Int32 × mm_S) :=
  if x1 = (-1 : Int32) then (
  fc_nm (mm_sI st 31 (0 : Int32)) fun st22 =>
  some ((0 : Int32), st22))
  else (
  fc_bn (M_isNeed fu x1 st) fun r4 st2 =>
  if r4 = 0 then (
  some ((-1 : Int32), st2))
  else (
  fc_bn (M_in fu x2 (0 : Int32) (999 : Int32) st2) fun r8 st6 =>
  if r8 = 0 then (
  some ((-2 : Int32), st6))
  else (
  fc_bn (M_in fu x3 (0 : Int32) (20 : Int32) st6) fun r12 st10 =>
  if r12 = 0 then (
  some ((-2 : Int32), st10))
  else (
  if (mm_I st10 31) = (5 : Int32) then (
  some ((-4 : Int32), st10))
  else (
  fc_gd (fc_ix (mm_I st10 31) 5) <|
  fc_nm (mm_sG st10 33 (mm_I st10 31).toNatClampNeg x1) fun st16 =>
  fc_gd (fc_ix (mm_I st16 31) 5) <|
  fc_nm (mm_sG st16 34 (mm_I st16 31).toNatClampNeg x2) fun st18 =>
  fc_gd (fc_ix (mm_I st18 31) 5) <|
  fc_nm (mm_sG st18 35 (mm_I st18 31).toNatClampNeg x3) fun st20 =>
  fc_nm (mm_sI st20 31 ((mm_I st20 31) + (1 : Int32))) fun st21 =>
  some ((mm_I st21 31), st21))))))
/-! isSeen -/
def M_isSeen_b2F (fu : Nat) (K2 : Int32 → Int32 → mm_S → Option (Int32 × mm_S)) (x1 : Int32) (x2 : Int32) (st : mm_S) : Option (Int32 × mm_S) :=
  if (mm_I st 31) ≤ x2 then (
  some ((1 : Int32), st))
  else (
  fc_gd (fc_ix x2 5) <|
  fc_gd (fc_ix x2 5) <|
  fc_bn (M_worthOf fu (mm_G st 33 x2.toNatClampNeg) ((mm_I st 3) + (mm_G st 35 x2.toNatClampNeg)) x1 st) fun r6 st4 =>
  fc_gd (fc_ix x2 5) <|
  if r6 = (mm_G st4 34 x2.toNatClampNeg) then (
  fc_nm (x2 + (1 : Int32)) fun v9 =>
  K2 x1 v9 st4)
  else (
  some ((0 : Int32), st4)))
def M_isSeen_b2 (fu : Nat) (n : Nat) (x1 : Int32) (x2 : Int32) (st : mm_S) : Option (Int32 × mm_S) :=
  fc_lp (fun (K : Int32 × Int32 × mm_S → Option (Int32 × mm_S)) a => M_isSeen_b2F fu (fun x1 x2 st => K (x1, x2, st)) a.1 a.2.1 a.2.2) n (x1, x2, st)
def M_isSeen (fu : Nat) (x1 : Int32) (st : mm_S) : Option (Int32 × mm_S) :=
  M_isSeen_b2 fu fu x1 (0 : Int32) st
/-! can -/
def M_can_b72 (fu : Nat) (K38 : Int32 → Int32 → Int32 → Int32 → Int32 → Int32 → mm_S → Option (Int32 × mm_S)) (x1 : Int32) (x2 : Int32) (x3 : Int32) (x4 : Int32) (x5 : Int32) (x6 : Int32) (st : mm_S) : Option (Int32 × mm_S) :=
  fc_nm (x6 + (-1 : Int32)) fun v22 =>
  K38 x1 x2 x3 x4 x5 v22 st
def M_can_b38F (fu : Nat) (K38 : Int32 → Int32 → Int32 → Int32 → Int32 → Int32 → mm_S → Option (Int32 × mm_S)) (x1 : Int32) (x2 : Int32) (x3 : Int32) (x4 : Int32) (x5 : Int32) (x6 : Int32) (st : mm_S) : Option (Int32 × mm_S) :=
  if x6 < 0 then (
  fc_gd (fc_ix x1 6) <|
  fc_nm (mm_sG st 5 x1.toNatClampNeg x3) fun st13 =>
  if x2 = 0 then (
  some (x4, st13))
  else (
  some (x5, st13)))
  else (
  fc_gd (fc_ix x1 6) <|
  fc_nm (mm_sG st 5 x1.toNatClampNeg x6) fun st16 =>
  fc_bn (M_isSeen fu (mm_I st16 1) st16) fun r19 st17 =>
  if r19 = 0 then (
  M_can_b72 fu K38 x1 x2 x3 x4 x5 x6 st17)
  else (
  fc_nm (x4 + (1 : Int32)) fun v21 =>
  M_can_b72 fu K38 x1 x2 x3 v21 x6 x6 st17))
def M_can_b38 (fu : Nat) (n : Nat) (x1 : Int32) (x2 : Int32) (x3 : Int32) (x4 : Int32) (x5 : Int32) (x6 : Int32) (st : mm_S) : Option (Int32 × mm_S) :=
  fc_lp (fun (K : Int32 × Int32 × Int32 × Int32 × Int32 × Int32 × mm_S → Option (Int32 × mm_S)) a => M_can_b38F fu (fun x1 x2 x3 x4 x5 x6 st => K (x1, x2, x3, x4, x5, x6, st)) a.1 a.2.1 a.2.2.1 a.2.2.2.1 a.2.2.2.2.1 a.2.2.2.2.2.1 a.2.2.2.2.2.2) n (x1, x2, x3, x4, x5, x6, st)
def M_can (fu : Nat) (x1 : Int32) (x2 : Int32) (st : mm_S) : Option (Int32 × mm_S) :=
  fc_bn (M_isNeed fu x1 st) fun r3 st1 =>
  if r3 = 0 then (
  some ((-1 : Int32), st1))
  else (
  fc_bn (M_in fu x2 (0 : Int32) (1 : Int32) st1) fun r7 st5 =>
  if r7 = 0 then (
  some ((-1 : Int32), st5))
  else (
  fc_gd (fc_ix x1 6) <|
  fc_nm (mm_G st5 5 x1.toNatClampNeg) fun v10 =>
  M_can_b38 fu fu x1 x2 v10 (0 : Int32) (-5 : Int32) (9 : Int32) st5))
/-! darked -/
def M_darked_b44 (fu : Nat) (K21 : Int32 → Int32 → Int32 → Int32 → mm_S → Option (Int32 × mm_S)) (x1 : Int32) (x2 : Int32) (x3 : Int32) (x4 : Int32) (st : mm_S) : Option (Int32 × mm_S) :=
  fc_nm (x4 + (-1 : Int32)) fun v12 =>
  K21 x1 x2 x3 v12 st
def M_darked_b21F (fu : Nat) (K21 : Int32 → Int32 → Int32 → Int32 → mm_S → Option (Int32 × mm_S)) (x1 : Int32) (x2 : Int32) (x3 : Int32) (x4 : Int32) (st : mm_S) : Option (Int32 × mm_S) :=
  if x4 < 0 then (
  if x1 = 0 then (
  some (x2, st))
  else (
  some (x3, st)))
  else (
  fc_bn (M_isSeen fu x4 st) fun r9 st7 =>
  if r9 = 0 then (
  M_darked_b44 fu K21 x1 x2 x3 x4 st7)
  else (
  fc_nm (x2 + (1 : Int32)) fun v11 =>
  M_darked_b44 fu K21 x1 v11 x4 x4 st7))
def M_darked_b21 (fu : Nat) (n : Nat) (x1 : Int32) (x2 : Int32) (x3 : Int32) (x4 : Int32) (st : mm_S) : Option (Int32 × mm_S) :=
  fc_lp (fun (K : Int32 × Int32 × Int32 × Int32 × mm_S → Option (Int32 × mm_S)) a => M_darked_b21F fu (fun x1 x2 x3 x4 st => K (x1, x2, x3, x4, st)) a.1 a.2.1 a.2.2.1 a.2.2.2.1 a.2.2.2.2) n (x1, x2, x3, x4, st)
def M_darked (fu : Nat) (x1 : Int32) (st : mm_S) : Option (Int32 × mm_S) :=
  fc_bn (M_in fu x1 (0 : Int32) (1 : Int32) st) fun r3 st1 =>
  if r3 = 0 then (
  some ((-1 : Int32), st1))
  else (
  M_darked_b21 fu fu x1 (0 : Int32) (-5 : Int32) (8 : Int32) st1)
/-! book -/
def M_book (fu : Nat) (x1 : Int32) (x2 : Int32) (st : mm_S) : Option (Int32 × mm_S) :=
  if x1 = (-1 : Int32) then (
  fc_nm (mm_sI st 32 (0 : Int32)) fun st16 =>
  some ((0 : Int32), st16))
  else (
  fc_bn (M_isNeed fu x1 st) fun r4 st2 =>
  if r4 = 0 then (
  some ((-1 : Int32), st2))
  else (
  fc_bn (M_in fu x2 (0 : Int32) (9999 : Int32) st2) fun r8 st6 =>
  if r8 = 0 then (
  some ((-2 : Int32), st6))
  else (
  if (mm_I st6 32) = (8 : Int32) then (
  some ((-4 : Int32), st6))
  else (
  fc_gd (fc_ix (mm_I st6 32) 8) <|
  fc_nm (mm_sG st6 36 (mm_I st6 32).toNatClampNeg x1) fun st12 =>
  fc_gd (fc_ix (mm_I st12 32) 8) <|
  fc_nm (mm_sG st12 37 (mm_I st12 32).toNatClampNeg x2) fun st14 =>
  fc_nm (mm_sI st14 32 ((mm_I st14 32) + (1 : Int32))) fun st15 =>
  some ((mm_I st15 32), st15)))))
/-! looked -/
def M_looked_b2F (fu : Nat) (K2 : Int32 → mm_S → Option (Int32 × mm_S)) (x1 : Int32) (st : mm_S) : Option (Int32 × mm_S) :=
  if (mm_I st 32) ≤ x1 then (
  some ((-5 : Int32), st))
  else (
  fc_gd (fc_ix x1 8) <|
  fc_gd (fc_ix (mm_G st 36 x1.toNatClampNeg) 6) <|
  fc_gd (fc_ix x1 8) <|
  if (mm_G st 6 (mm_G st 36 x1.toNatClampNeg).toNatClampNeg) = (mm_G st 37 x1.toNatClampNeg) then (
  fc_nm (x1 + (1 : Int32)) fun v6 =>
  K2 v6 st)
  else (
  some (x1, st)))
def M_looked_b2 (fu : Nat) (n : Nat) (x1 : Int32) (st : mm_S) : Option (Int32 × mm_S) :=
  fc_lp (fun (K : Int32 × mm_S → Option (Int32 × mm_S)) a => M_looked_b2F fu (fun x1 st => K (x1, st)) a.1 a.2) n (x1, st)
def M_looked (fu : Nat) (st : mm_S) : Option (Int32 × mm_S) :=
  M_looked_b2 fu fu (0 : Int32) st
/-! isTape -/
def M_isTape (fu : Nat) (x1 : Int32) (st : mm_S) : Option (Int32 × mm_S) :=
  fc_bn (M_in fu x1 (0 : Int32) (5 : Int32) st) fun r3 st1 =>
  fc_gd (fc_zb r3) <|
  some (r3, st1)
/-! judge -/
def M_judge_b34F (fu : Nat) (K34 : Int32 → Int32 → Int32 → mm_S → Option (Int32 × mm_S)) (x1 : Int32) (x2 : Int32) (x3 : Int32) (st : mm_S) : Option (Int32 × mm_S) :=
  if (mm_I st 0) ≤ x3 then (
  some ((-5 : Int32), st))
  else (
  fc_gd (fc_ix x1 6) <|
  if (mm_G st 59 x1.toNatClampNeg) < 0 then (
  some (((100 : Int32) + x3), st))
  else (
  if x2 < 0 then (
  some (((100 : Int32) + x3), st))
  else (
  fc_gd (fc_ix x1 6) <|
  if x2 ≤ (((mm_G st 60 x1.toNatClampNeg) - x3) - (1 : Int32)) then (
  fc_gd (fc_ix ((((60 : Int32) * x1) + x2) + x3) 360) <|
  fc_bn (M_worthOf fu x3 (mm_I st 3) (mm_I st 1) st) fun r18 st16 =>
  if (lg_cmp (mm_L st 61 ((((60 : Int32) * x1) + x2) + x3).toNatClampNeg) ((r18).toInt64)) = 0 then (
  fc_nm (x3 + (1 : Int32)) fun v20 =>
  K34 x1 x2 v20 st16)
  else (
  some (x3, st16)))
  else (
  some (((100 : Int32) + x3), st)))))
def M_judge_b34 (fu : Nat) (n : Nat) (x1 : Int32) (x2 : Int32) (x3 : Int32) (st : mm_S) : Option (Int32 × mm_S) :=
  fc_lp (fun (K : Int32 × Int32 × Int32 × mm_S → Option (Int32 × mm_S)) a => M_judge_b34F fu (fun x1 x2 x3 st => K (x1, x2, x3, st)) a.1 a.2.1 a.2.2.1 a.2.2.2) n (x1, x2, x3, st)
def M_judge_b32 (fu : Nat) (x1 : Int32) (x2 : Int32) (st : mm_S) : Option (Int32 × mm_S) :=
  M_judge_b34 fu fu x1 x2 (0 : Int32) st
def M_judge (fu : Nat) (x1 : Int32) (x2 : Int32) (st : mm_S) : Option (Int32 × mm_S) :=
  fc_bn (M_isTape fu x1 st) fun r3 st1 =>
  if r3 = 0 then (
  some ((-1 : Int32), st1))
  else (
  fc_gd (fc_ix x1 6) <|
  if (mm_G st1 59 x1.toNatClampNeg) < 0 then (
  M_judge_b32 fu x1 x2 st1)
  else (
  fc_gd (fc_ix x1 6) <|
  if (mm_G st1 59 x1.toNatClampNeg) = (2 : Int32) then (
  M_judge_b32 fu x1 x2 st1)
  else (
  some ((-12 : Int32), st1))))
/-! image -/
def M_image_b196F (fu : Nat) (K196 : Int32 → mm_S → Option (Int32 × mm_S)) (x1 : Int32) (st : mm_S) : Option (Int32 × mm_S) :=
  if (8 : Int32) ≤ x1 then (
  some ((mm_I st 0), st))
  else (
  fc_gd (fc_ix x1 8) <|
  fc_gd (fc_ix x1 8) <|
  fc_nm (mm_sG st 51 x1.toNatClampNeg (mm_G st 30 x1.toNatClampNeg)) fun st40 =>
  fc_gd (fc_ix x1 8) <|
  fc_gd (fc_ix x1 8) <|
  fc_nm (mm_sG st40 55 x1.toNatClampNeg (mm_G st40 36 x1.toNatClampNeg)) fun st43 =>
  fc_gd (fc_ix x1 8) <|
  fc_gd (fc_ix x1 8) <|
  fc_nm (mm_sG st43 56 x1.toNatClampNeg (mm_G st43 37 x1.toNatClampNeg)) fun st46 =>
  fc_nm (x1 + (1 : Int32)) fun v47 =>
  K196 v47 st46)
def M_image_b196 (fu : Nat) (n : Nat) (x1 : Int32) (st : mm_S) : Option (Int32 × mm_S) :=
  fc_lp (fun (K : Int32 × mm_S → Option (Int32 × mm_S)) a => M_image_b196F fu (fun x1 st => K (x1, st)) a.1 a.2) n (x1, st)
def M_image_b147F (fu : Nat) (K147 : Int32 → mm_S → Option (Int32 × mm_S)) (x1 : Int32) (st : mm_S) : Option (Int32 × mm_S) :=
  if (5 : Int32) ≤ x1 then (
  M_image_b196 fu fu (0 : Int32) st)
  else (
  fc_gd (fc_ix x1 5) <|
  fc_gd (fc_ix x1 5) <|
  fc_nm (mm_sG st 52 x1.toNatClampNeg (mm_G st 33 x1.toNatClampNeg)) fun st29 =>
  fc_gd (fc_ix x1 5) <|
  fc_gd (fc_ix x1 5) <|
  fc_nm (mm_sG st29 53 x1.toNatClampNeg (mm_G st29 34 x1.toNatClampNeg)) fun st32 =>
  fc_gd (fc_ix x1 5) <|
  fc_gd (fc_ix x1 5) <|
  fc_nm (mm_sG st32 54 x1.toNatClampNeg (mm_G st32 35 x1.toNatClampNeg)) fun st35 =>
  fc_nm (x1 + (1 : Int32)) fun v36 =>
  K147 v36 st35)
def M_image_b147 (fu : Nat) (n : Nat) (x1 : Int32) (st : mm_S) : Option (Int32 × mm_S) :=
  fc_lp (fun (K : Int32 × mm_S → Option (Int32 × mm_S)) a => M_image_b147F fu (fun x1 st => K (x1, st)) a.1 a.2) n (x1, st)
def M_image_b121F (fu : Nat) (K121 : Int32 → mm_S → Option (Int32 × mm_S)) (x1 : Int32) (st : mm_S) : Option (Int32 × mm_S) :=
  if (24 : Int32) ≤ x1 then (
  M_image_b147 fu fu (0 : Int32) st)
  else (
  fc_gd (fc_ix x1 24) <|
  fc_gd (fc_ix x1 24) <|
  fc_nm (mm_sG st 50 x1.toNatClampNeg (mm_G st 7 x1.toNatClampNeg)) fun st24 =>
  fc_nm (x1 + (1 : Int32)) fun v25 =>
  K121 v25 st24)
def M_image_b121 (fu : Nat) (n : Nat) (x1 : Int32) (st : mm_S) : Option (Int32 × mm_S) :=
  fc_lp (fun (K : Int32 × mm_S → Option (Int32 × mm_S)) a => M_image_b121F fu (fun x1 st => K (x1, st)) a.1 a.2) n (x1, st)
def M_image_b71F (fu : Nat) (K71 : Int32 → mm_S → Option (Int32 × mm_S)) (x1 : Int32) (st : mm_S) : Option (Int32 × mm_S) :=
  if (6 : Int32) ≤ x1 then (
  M_image_b121 fu fu (0 : Int32) st)
  else (
  fc_gd (fc_ix x1 6) <|
  fc_gd (fc_ix x1 6) <|
  fc_nm (mm_sG st 47 x1.toNatClampNeg (mm_G st 4 x1.toNatClampNeg)) fun st13 =>
  fc_gd (fc_ix x1 6) <|
  fc_gd (fc_ix x1 6) <|
  fc_nm (mm_sG st13 48 x1.toNatClampNeg (mm_G st13 5 x1.toNatClampNeg)) fun st16 =>
  fc_gd (fc_ix x1 6) <|
  fc_gd (fc_ix x1 6) <|
  fc_nm (mm_sG st16 49 x1.toNatClampNeg (mm_G st16 6 x1.toNatClampNeg)) fun st19 =>
  fc_nm (x1 + (1 : Int32)) fun v20 =>
  K71 v20 st19)
def M_image_b71 (fu : Nat) (n : Nat) (x1 : Int32) (st : mm_S) : Option (Int32 × mm_S) :=
  fc_lp (fun (K : Int32 × mm_S → Option (Int32 × mm_S)) a => M_image_b71F fu (fun x1 st => K (x1, st)) a.1 a.2) n (x1, st)
def M_image (fu : Nat) (st : mm_S) : Option (Int32 × mm_S) :=
  fc_nm (mm_sI st 38 (1 : Int32)) fun st1 =>
  fc_nm (mm_sI st1 39 (mm_I st1 9)) fun st2 =>
  fc_nm (mm_sI st2 40 (mm_I st2 0)) fun st3 =>
  fc_nm (mm_sI st3 41 (mm_I st3 1)) fun st4 =>
  fc_nm (mm_sI st4 42 (mm_I st4 2)) fun st5 =>
  fc_nm (mm_sI st5 43 (mm_I st5 3)) fun st6 =>
  fc_nm (mm_sI st6 44 (mm_I st6 29)) fun st7 =>
  fc_nm (mm_sI st7 45 (mm_I st7 31)) fun st8 =>
  fc_nm (mm_sI st8 46 (mm_I st8 32)) fun st9 =>
  M_image_b71 fu fu (0 : Int32) st9
/-! undo -/
def M_undo_b201F (fu : Nat) (K201 : Int32 → mm_S → Option (Int32 × mm_S)) (x1 : Int32) (st : mm_S) : Option (Int32 × mm_S) :=
  if (8 : Int32) ≤ x1 then (
  some ((mm_I st 0), st))
  else (
  fc_gd (fc_ix x1 8) <|
  fc_gd (fc_ix x1 8) <|
  fc_nm (mm_sG st 30 x1.toNatClampNeg (mm_G st 51 x1.toNatClampNeg)) fun st40 =>
  fc_gd (fc_ix x1 8) <|
  fc_gd (fc_ix x1 8) <|
  fc_nm (mm_sG st40 36 x1.toNatClampNeg (mm_G st40 55 x1.toNatClampNeg)) fun st43 =>
  fc_gd (fc_ix x1 8) <|
  fc_gd (fc_ix x1 8) <|
  fc_nm (mm_sG st43 37 x1.toNatClampNeg (mm_G st43 56 x1.toNatClampNeg)) fun st46 =>
  fc_nm (x1 + (1 : Int32)) fun v47 =>
  K201 v47 st46)
def M_undo_b201 (fu : Nat) (n : Nat) (x1 : Int32) (st : mm_S) : Option (Int32 × mm_S) :=
  fc_lp (fun (K : Int32 × mm_S → Option (Int32 × mm_S)) a => M_undo_b201F fu (fun x1 st => K (x1, st)) a.1 a.2) n (x1, st)
def M_undo_b152F (fu : Nat) (K152 : Int32 → mm_S → Option (Int32 × mm_S)) (x1 : Int32) (st : mm_S) : Option (Int32 × mm_S) :=
  if (5 : Int32) ≤ x1 then (
  M_undo_b201 fu fu (0 : Int32) st)
  else (
  fc_gd (fc_ix x1 5) <|
  fc_gd (fc_ix x1 5) <|
  fc_nm (mm_sG st 33 x1.toNatClampNeg (mm_G st 52 x1.toNatClampNeg)) fun st29 =>
  fc_gd (fc_ix x1 5) <|
  fc_gd (fc_ix x1 5) <|
  fc_nm (mm_sG st29 34 x1.toNatClampNeg (mm_G st29 53 x1.toNatClampNeg)) fun st32 =>
  fc_gd (fc_ix x1 5) <|
  fc_gd (fc_ix x1 5) <|
  fc_nm (mm_sG st32 35 x1.toNatClampNeg (mm_G st32 54 x1.toNatClampNeg)) fun st35 =>
  fc_nm (x1 + (1 : Int32)) fun v36 =>
  K152 v36 st35)
def M_undo_b152 (fu : Nat) (n : Nat) (x1 : Int32) (st : mm_S) : Option (Int32 × mm_S) :=
  fc_lp (fun (K : Int32 × mm_S → Option (Int32 × mm_S)) a => M_undo_b152F fu (fun x1 st => K (x1, st)) a.1 a.2) n (x1, st)
def M_undo_b126F (fu : Nat) (K126 : Int32 → mm_S → Option (Int32 × mm_S)) (x1 : Int32) (st : mm_S) : Option (Int32 × mm_S) :=
  if (24 : Int32) ≤ x1 then (
  M_undo_b152 fu fu (0 : Int32) st)
  else (
  fc_gd (fc_ix x1 24) <|
  fc_gd (fc_ix x1 24) <|
  fc_nm (mm_sG st 7 x1.toNatClampNeg (mm_G st 50 x1.toNatClampNeg)) fun st24 =>
  fc_nm (x1 + (1 : Int32)) fun v25 =>
  K126 v25 st24)
def M_undo_b126 (fu : Nat) (n : Nat) (x1 : Int32) (st : mm_S) : Option (Int32 × mm_S) :=
  fc_lp (fun (K : Int32 × mm_S → Option (Int32 × mm_S)) a => M_undo_b126F fu (fun x1 st => K (x1, st)) a.1 a.2) n (x1, st)
def M_undo_b76F (fu : Nat) (K76 : Int32 → mm_S → Option (Int32 × mm_S)) (x1 : Int32) (st : mm_S) : Option (Int32 × mm_S) :=
  if (6 : Int32) ≤ x1 then (
  M_undo_b126 fu fu (0 : Int32) st)
  else (
  fc_gd (fc_ix x1 6) <|
  fc_gd (fc_ix x1 6) <|
  fc_nm (mm_sG st 4 x1.toNatClampNeg (mm_G st 47 x1.toNatClampNeg)) fun st13 =>
  fc_gd (fc_ix x1 6) <|
  fc_gd (fc_ix x1 6) <|
  fc_nm (mm_sG st13 5 x1.toNatClampNeg (mm_G st13 48 x1.toNatClampNeg)) fun st16 =>
  fc_gd (fc_ix x1 6) <|
  fc_gd (fc_ix x1 6) <|
  fc_nm (mm_sG st16 6 x1.toNatClampNeg (mm_G st16 49 x1.toNatClampNeg)) fun st19 =>
  fc_nm (x1 + (1 : Int32)) fun v20 =>
  K76 v20 st19)
def M_undo_b76 (fu : Nat) (n : Nat) (x1 : Int32) (st : mm_S) : Option (Int32 × mm_S) :=
  fc_lp (fun (K : Int32 × mm_S → Option (Int32 × mm_S)) a => M_undo_b76F fu (fun x1 st => K (x1, st)) a.1 a.2) n (x1, st)
def M_undo (fu : Nat) (st : mm_S) : Option (Int32 × mm_S) :=
  if (mm_I st 38) = 0 then (
  some ((-3 : Int32), st))
  else (
  fc_nm (mm_sI st 9 (mm_I st 39)) fun st2 =>
  fc_nm (mm_sI st2 0 (mm_I st2 40)) fun st3 =>
  fc_nm (mm_sI st3 1 (mm_I st3 41)) fun st4 =>
  fc_nm (mm_sI st4 2 (mm_I st4 42)) fun st5 =>
  fc_nm (mm_sI st5 3 (mm_I st5 43)) fun st6 =>
  fc_nm (mm_sI st6 29 (mm_I st6 44)) fun st7 =>
  fc_nm (mm_sI st7 31 (mm_I st7 45)) fun st8 =>
  fc_nm (mm_sI st8 32 (mm_I st8 46)) fun st9 =>
  M_undo_b76 fu fu (0 : Int32) st9)
/-! body -/
def M_body_b19 (fu : Nat) (st : mm_S) : Option mm_S :=
  fc_nm (mm_sI st 57 ((mm_I st 57) + (1 : Int32))) fun st4 =>
  some st4
def M_body (fu : Nat) (x1 : Int32) (st : mm_S) : Option mm_S :=
  if (20 : Int32) ≤ (mm_I st 57) then (
  M_body_b19 fu st)
  else (
  fc_gd (fc_ix (mm_I st 57) 20) <|
  fc_nm (mm_sG st 58 (mm_I st 57).toNatClampNeg x1) fun st3 =>
  M_body_b19 fu st3)
/-! needDarkens -/
def M_needDarkens (fu : Nat) (x1 : Int32) (x2 : Int32) (st : mm_S) : Option (Int32 × mm_S) :=
  fc_bv (M_body fu (10 : Int32) st) fun st1 =>
  some ((x2 + x1), st1)
/-! darkensAct -/
def M_darkensAct_b40 (fu : Nat) (x1 : Int32) (x2 : Int32) (st : mm_S) : Option (Int32 × mm_S) :=
  fc_bv (M_body fu (30 : Int32) st) fun st19 =>
  fc_bn (M_needDarkens fu x1 (x2 * (3 : Int32)) st19) fun r23 st21 =>
  some (r23, st21)
def M_darkensAct_b89 (fu : Nat) (x1 : Int32) (x2 : Int32) (st : mm_S) : Option (Int32 × mm_S) :=
  fc_bn (M_needDarkens fu x1 x2 st) fun r26 st24 =>
  some (r26, st24)
def M_darkensAct (fu : Nat) (x1 : Int32) (x2 : Int32) (st : mm_S) : Option (Int32 × mm_S) :=
  fc_gd (fc_ix x1 6) <|
  fc_nm (mm_G st 4 x1.toNatClampNeg) fun v2 =>
  if v2 = (2 : Int32) then (
  M_darkensAct_b40 fu x1 x2 st)
  else (
  if v2 = (3 : Int32) then (
  M_darkensAct_b89 fu x1 x2 st)
  else (
  if v2 = (4 : Int32) then (
  fc_bv (M_body fu (50 : Int32) st) fun st6 =>
  fc_bn (M_needDarkens fu x1 x2 st6) fun r10 st8 =>
  some ((-r10), st8))
  else (
  if v2 = (5 : Int32) then (
  M_darkensAct_b40 fu x1 x2 st)
  else (
  if v2 = (6 : Int32) then (
  fc_bv (M_body fu (71 : Int32) st) fun st13 =>
  fc_bn (M_needDarkens fu x1 x2 st13) fun r17 st15 =>
  fc_gd (fc_ix x1 6) <|
  some ((r17 ^^^ (mm_G st15 5 x1.toNatClampNeg)), st15))
  else (
  M_darkensAct_b89 fu x1 x2 st)))))
/-! needPleads -/
def M_needPleads (fu : Nat) (x1 : Int32) (x2 : Int32) (st : mm_S) : Option (Int32 × mm_S) :=
  fc_bv (M_body fu (11 : Int32) st) fun st1 =>
  fc_bn (M_darkensAct fu x1 x2 st1) fun r5 st3 =>
  fc_gd (fc_ix x1 6) <|
  some ((r5 - (mm_G st3 5 x1.toNatClampNeg)), st3)
/-! siegePleads -/
def M_siegePleads (fu : Nat) (x1 : Int32) (x2 : Int32) (st : mm_S) : Option (Int32 × mm_S) :=
  fc_bv (M_body fu (20 : Int32) st) fun st1 =>
  fc_bn (M_needPleads fu x1 x2 st1) fun r5 st3 =>
  some ((r5 ^^^ (6 : Int32)), st3)
/-! pleadsAct -/
def M_pleadsAct (fu : Nat) (x1 : Int32) (x2 : Int32) (st : mm_S) : Option (Int32 × mm_S) :=
  fc_gd (fc_ix x1 6) <|
  fc_nm (mm_G st 4 x1.toNatClampNeg) fun v2 =>
  if v2 = (1 : Int32) then (
  fc_bn (M_siegePleads fu x1 x2 st) fun r6 st4 =>
  some (r6, st4))
  else (
  if v2 = (4 : Int32) then (
  fc_bv (M_body fu (51 : Int32) st) fun st8 =>
  fc_bn (M_siegePleads fu x1 (x2 + (1 : Int32)) st8) fun r12 st10 =>
  some (r12, st10))
  else (
  if v2 = (6 : Int32) then (
  fc_bv (M_body fu (70 : Int32) st) fun st14 =>
  fc_bn (M_needPleads fu x1 x2 st14) fun r18 st16 =>
  fc_bn (M_needDarkens fu x1 (2 : Int32) st16) fun r21 st19 =>
  some ((r18 + r21), st19))
  else (
  fc_bn (M_needPleads fu x1 x2 st) fun r24 st22 =>
  some (r24, st22))))
/-! needTells -/
def M_needTells (fu : Nat) (x1 : Int32) (x2 : Int32) (st : mm_S) : Option (Int32 × mm_S) :=
  fc_bv (M_body fu (12 : Int32) st) fun st1 =>
  fc_bn (M_pleadsAct fu x1 x2 st1) fun r5 st3 =>
  some ((r5 * (2 : Int32)), st3)
/-! tellsAct -/
def M_tellsAct_b36 (fu : Nat) (x1 : Int32) (x2 : Int32) (st : mm_S) : Option (Int32 × mm_S) :=
  fc_bv (M_body fu (40 : Int32) st) fun st12 =>
  fc_bn (M_needTells fu x1 x2 st12) fun r16 st14 =>
  fc_bn (M_pleadsAct fu x1 (1 : Int32) st14) fun r19 st17 =>
  some ((r16 + r19), st17)
def M_tellsAct_b73 (fu : Nat) (x1 : Int32) (x2 : Int32) (st : mm_S) : Option (Int32 × mm_S) :=
  fc_bn (M_needTells fu x1 x2 st) fun r22 st20 =>
  some (r22, st20)
def M_tellsAct (fu : Nat) (x1 : Int32) (x2 : Int32) (st : mm_S) : Option (Int32 × mm_S) :=
  fc_gd (fc_ix x1 6) <|
  fc_nm (mm_G st 4 x1.toNatClampNeg) fun v2 =>
  if v2 = (3 : Int32) then (
  M_tellsAct_b36 fu x1 x2 st)
  else (
  if v2 = (4 : Int32) then (
  M_tellsAct_b73 fu x1 x2 st)
  else (
  if v2 = (5 : Int32) then (
  fc_bv (M_body fu (60 : Int32) st) fun st6 =>
  fc_bn (M_needTells fu x1 (x2 - x1) st6) fun r10 st8 =>
  some (r10, st8))
  else (
  if v2 = (6 : Int32) then (
  M_tellsAct_b36 fu x1 x2 st)
  else (
  M_tellsAct_b73 fu x1 x2 st))))
/-! act -/
def M_act (fu : Nat) (x1 : Int32) (x2 : Int32) (x3 : Int32) (st : mm_S) : Option (Int32 × mm_S) :=
  fc_nm (mm_sI st 57 (0 : Int32)) fun st1 =>
  fc_bn (M_isNeed fu x1 st1) fun r4 st2 =>
  if r4 = 0 then (
  some ((0 : Int32), st2))
  else (
  fc_bn (M_in fu x2 (0 : Int32) (2 : Int32) st2) fun r8 st6 =>
  if r8 = 0 then (
  some ((0 : Int32), st6))
  else (
  if x2 = 0 then (
  fc_bn (M_darkensAct fu x1 x3 st6) fun r20 st18 =>
  some (r20, st18))
  else (
  if x2 = (1 : Int32) then (
  fc_bn (M_pleadsAct fu x1 x3 st6) fun r17 st15 =>
  some (r17, st15))
  else (
  fc_bn (M_tellsAct fu x1 x3 st6) fun r14 st12 =>
  some (r14, st12)))))
/-! trace -/
def M_trace (fu : Nat) (x1 : Int32) (st : mm_S) : Option (Int32 × mm_S) :=
  fc_bn (M_in fu x1 (0 : Int32) (19 : Int32) st) fun r3 st1 =>
  if r3 = 0 then (
  some ((-1 : Int32), st1))
  else (
  if (mm_I st1 57) ≤ x1 then (
  some ((-1 : Int32), st1))
  else (
  fc_gd (fc_ix x1 20) <|
  some ((mm_G st1 58 x1.toNatClampNeg), st1)))
/-! taken -/
def M_taken_b61 (fu : Nat) (x2 : Int32) (x3 : Int32) (st : mm_S) : Option (Int32 × mm_S) :=
  if x2 = (3 : Int32) then (
  if x3 = (6 : Int32) then (
  some (x3, st))
  else (
  some ((-12 : Int32), st)))
  else (
  some ((-12 : Int32), st))
def M_taken_b51 (fu : Nat) (x2 : Int32) (x3 : Int32) (st : mm_S) : Option (Int32 × mm_S) :=
  if x2 = (2 : Int32) then (
  if x3 = (5 : Int32) then (
  some (x3, st))
  else (
  M_taken_b61 fu x2 x3 st))
  else (
  M_taken_b61 fu x2 x3 st)
def M_taken (fu : Nat) (x1 : Int32) (x2 : Int32) (st : mm_S) : Option (Int32 × mm_S) :=
  fc_bn (M_in fu x2 (0 : Int32) (6 : Int32) st) fun r3 st1 =>
  if r3 = 0 then (
  some ((-2 : Int32), st1))
  else (
  fc_bn (M_isNeed fu x1 st1) fun r7 st5 =>
  if r7 = 0 then (
  some ((-11 : Int32), st5))
  else (
  fc_gd (fc_ix x1 6) <|
  fc_nm (mm_G st5 4 x1.toNatClampNeg) fun v10 =>
  if x2 = 0 then (
  some (v10, st5))
  else (
  if v10 = x2 then (
  some (v10, st5))
  else (
  if x2 = (1 : Int32) then (
  if v10 = (4 : Int32) then (
  some (v10, st5))
  else (
  M_taken_b51 fu x2 v10 st5))
  else (
  M_taken_b51 fu x2 v10 st5)))))
/-! count -/
def M_count (fu : Nat) (x1 : Int32) (st : mm_S) : Option (Int32 × mm_S) :=
  if x1 = (0 : Int32) then (
  some ((mm_I st 0), st))
  else (
  if x1 = (1 : Int32) then (
  some ((mm_I st 8), st))
  else (
  if x1 = (2 : Int32) then (
  some ((mm_I st 29), st))
  else (
  if x1 = (3 : Int32) then (
  some ((mm_I st 31), st))
  else (
  if x1 = (4 : Int32) then (
  some ((mm_I st 32), st))
  else (
  if x1 = (5 : Int32) then (
  some ((mm_I st 10), st))
  else (
  if x1 = (6 : Int32) then (
  some ((mm_I st 57), st))
  else (
  some ((-2 : Int32), st))))))))
/-! tape -/
def M_tape_b69F (fu : Nat) (K69 : Int32 → Int32 → mm_S → Option (Int32 × mm_S)) (x1 : Int32) (x4 : Int32) (st : mm_S) : Option (Int32 × mm_S) :=
  if (60 : Int32) ≤ x4 then (
  some ((1 : Int32), st))
  else (
  fc_gd (fc_ix (((60 : Int32) * x1) + x4) 360) <|
  fc_nm (mm_sL st 61 (((60 : Int32) * x1) + x4).toNatClampNeg (0 : Int64)) fun st20 =>
  fc_nm (x4 + (1 : Int32)) fun v21 =>
  K69 x1 v21 st20)
def M_tape_b69 (fu : Nat) (n : Nat) (x1 : Int32) (x4 : Int32) (st : mm_S) : Option (Int32 × mm_S) :=
  fc_lp (fun (K : Int32 × Int32 × mm_S → Option (Int32 × mm_S)) a => M_tape_b69F fu (fun x1 x4 st => K (x1, x4, st)) a.1 a.2.1 a.2.2) n (x1, x4, st)
def M_tape_b65 (fu : Nat) (x1 : Int32) (s0 : Int32) (s1 : Int32) (st : mm_S) : Option (Int32 × mm_S) :=
  fc_gd (fc_ix s1 6) <|
  fc_nm (mm_sG st 60 s1.toNatClampNeg s0) fun st17 =>
  M_tape_b69 fu fu x1 (0 : Int32) st17
def M_tape_b44 (fu : Nat) (x1 : Int32) (x2 : Int32) (x3 : Int32) (st : mm_S) : Option (Int32 × mm_S) :=
  fc_gd (fc_ix x1 6) <|
  fc_nm (mm_sG st 59 x1.toNatClampNeg x2) fun st14 =>
  if 0 ≤ x2 then (
  M_tape_b65 fu x1 x3 x1 st14)
  else (
  M_tape_b65 fu x1 (0 : Int32) x1 st14)
def M_tape_b33 (fu : Nat) (x1 : Int32) (x2 : Int32) (x3 : Int32) (st : mm_S) : Option (Int32 × mm_S) :=
  if x2 < 0 then (
  M_tape_b44 fu x1 x2 x3 st)
  else (
  if 0 ≤ x3 then (
  M_tape_b44 fu x1 x2 x3 st)
  else (
  some ((-14 : Int32), st)))
def M_tape (fu : Nat) (x1 : Int32) (x2 : Int32) (x3 : Int32) (st : mm_S) : Option (Int32 × mm_S) :=
  fc_bn (M_isTape fu x1 st) fun r3 st1 =>
  if r3 = 0 then (
  some ((-1 : Int32), st1))
  else (
  fc_bn (M_in fu x2 (-1 : Int32) (4 : Int32) st1) fun r7 st5 =>
  if r7 = 0 then (
  some ((-2 : Int32), st5))
  else (
  if x2 < 0 then (
  M_tape_b33 fu x1 x2 x3 st5)
  else (
  if x3 ≤ (60 : Int32) then (
  M_tape_b33 fu x1 x2 x3 st5)
  else (
  some ((-2 : Int32), st5)))))
/-! narrow -/
def M_narrow (fu : Nat) (x1 : Int32) (x2 : Int64) (st : mm_S) : Option (Int64 × mm_S) :=
  if x1 = 0 then (
  some (((((((x2).toInt32)).toInt8.toInt32)).toInt64), st))
  else (
  if x1 = (1 : Int32) then (
  some (((((((x2).toInt32)).toInt16.toInt32)).toInt64), st))
  else (
  if x1 = (2 : Int32) then (
  some (((((x2).toInt32)).toInt64), st))
  else (
  if x1 = (4 : Int32) then (
  if (lg_cmp x2 (0 : Int64)) = 0 then (
  some ((0 : Int64), st))
  else (
  some ((1 : Int64), st)))
  else (
  some (x2, st)))))
/-! item -/
def M_item (fu : Nat) (x1 : Int32) (x2 : Int32) (x3 : Int64) (st : mm_S) : Option (Int32 × mm_S) :=
  fc_bn (M_isTape fu x1 st) fun r3 st1 =>
  if r3 = 0 then (
  some ((-1 : Int32), st1))
  else (
  fc_gd (fc_ix x1 6) <|
  if 0 ≤ (mm_G st1 59 x1.toNatClampNeg) then (
  fc_gd (fc_ix x1 6) <|
  fc_bn (M_in fu x2 (0 : Int32) ((mm_G st1 60 x1.toNatClampNeg) - (1 : Int32)) st1) fun r10 st8 =>
  if r10 = 0 then (
  some ((-13 : Int32), st8))
  else (
  fc_gd (fc_ix x1 6) <|
  fc_bn (M_narrow fu (mm_G st8 59 x1.toNatClampNeg) x3 st8) fun r15 st13 =>
  fc_gd (fc_ix (((60 : Int32) * x1) + x2) 360) <|
  fc_nm (mm_sL st13 61 (((60 : Int32) * x1) + x2).toNatClampNeg r15) fun st17 =>
  some ((1 : Int32), st17)))
  else (
  some ((-11 : Int32), st1)))
/-! read -/
def M_read (fu : Nat) (x1 : Int32) (x2 : Int32) (st : mm_S) : Option (Int64 × mm_S) :=
  fc_bn (M_isTape fu x1 st) fun r3 st1 =>
  if r3 = 0 then (
  some ((-9223372036854775808 : Int64), st1))
  else (
  fc_gd (fc_ix x1 6) <|
  if (mm_G st1 59 x1.toNatClampNeg) < 0 then (
  some ((-9223372036854775808 : Int64), st1))
  else (
  fc_gd (fc_ix x1 6) <|
  fc_bn (M_in fu x2 (0 : Int32) ((mm_G st1 60 x1.toNatClampNeg) - (1 : Int32)) st1) fun r10 st8 =>
  if r10 = 0 then (
  some ((-9223372036854775808 : Int64), st8))
  else (
  fc_gd (fc_ix (((60 : Int32) * x1) + x2) 360) <|
  some ((mm_L st8 61 (((60 : Int32) * x1) + x2).toNatClampNeg), st8))))
/-! shift -/
def M_shift_b141F (fu : Nat) (K141 : Int32 → Int32 → Int32 → Int32 → mm_S → Option (Int32 × mm_S)) (x3 : Int32) (x4 : Int32) (x5 : Int32) (x6 : Int32) (st : mm_S) : Option (Int32 × mm_S) :=
  if x5 ≤ x6 then (
  some (x5, st))
  else (
  fc_gd (fc_ix x6 60) <|
  fc_gd (fc_ix ((((60 : Int32) * x3) + x4) + x6) 360) <|
  fc_nm (mm_sL st 61 ((((60 : Int32) * x3) + x4) + x6).toNatClampNeg (mm_L st 62 x6.toNatClampNeg)) fun st31 =>
  fc_nm (x6 + (1 : Int32)) fun v32 =>
  K141 x3 x4 x5 v32 st31)
def M_shift_b141 (fu : Nat) (n : Nat) (x3 : Int32) (x4 : Int32) (x5 : Int32) (x6 : Int32) (st : mm_S) : Option (Int32 × mm_S) :=
  fc_lp (fun (K : Int32 × Int32 × Int32 × Int32 × mm_S → Option (Int32 × mm_S)) a => M_shift_b141F fu (fun x3 x4 x5 x6 st => K (x3, x4, x5, x6, st)) a.1 a.2.1 a.2.2.1 a.2.2.2.1 a.2.2.2.2) n (x3, x4, x5, x6, st)
def M_shift_b104F (fu : Nat) (K104 : Int32 → Int32 → Int32 → Int32 → Int32 → Int32 → mm_S → Option (Int32 × mm_S)) (x1 : Int32) (x2 : Int32) (x3 : Int32) (x4 : Int32) (x5 : Int32) (x6 : Int32) (st : mm_S) : Option (Int32 × mm_S) :=
  if x5 ≤ x6 then (
  M_shift_b141 fu fu x3 x4 x5 (0 : Int32) st)
  else (
  fc_gd (fc_ix ((((60 : Int32) * x1) + x2) + x6) 360) <|
  fc_gd (fc_ix x6 60) <|
  fc_nm (mm_sL st 62 x6.toNatClampNeg (mm_L st 61 ((((60 : Int32) * x1) + x2) + x6).toNatClampNeg)) fun st26 =>
  fc_nm (x6 + (1 : Int32)) fun v27 =>
  K104 x1 x2 x3 x4 x5 v27 st26)
def M_shift_b104 (fu : Nat) (n : Nat) (x1 : Int32) (x2 : Int32) (x3 : Int32) (x4 : Int32) (x5 : Int32) (x6 : Int32) (st : mm_S) : Option (Int32 × mm_S) :=
  fc_lp (fun (K : Int32 × Int32 × Int32 × Int32 × Int32 × Int32 × mm_S → Option (Int32 × mm_S)) a => M_shift_b104F fu (fun x1 x2 x3 x4 x5 x6 st => K (x1, x2, x3, x4, x5, x6, st)) a.1 a.2.1 a.2.2.1 a.2.2.2.1 a.2.2.2.2.1 a.2.2.2.2.2.1 a.2.2.2.2.2.2) n (x1, x2, x3, x4, x5, x6, st)
def M_shift (fu : Nat) (x1 : Int32) (x2 : Int32) (x3 : Int32) (x4 : Int32) (x5 : Int32) (st : mm_S) : Option (Int32 × mm_S) :=
  fc_bn (M_isTape fu x1 st) fun r3 st1 =>
  if r3 = 0 then (
  some ((-1 : Int32), st1))
  else (
  fc_bn (M_isTape fu x3 st1) fun r7 st5 =>
  if r7 = 0 then (
  some ((-1 : Int32), st5))
  else (
  fc_gd (fc_ix x1 6) <|
  if (mm_G st5 59 x1.toNatClampNeg) < 0 then (
  some ((-11 : Int32), st5))
  else (
  fc_gd (fc_ix x3 6) <|
  if 0 ≤ (mm_G st5 59 x3.toNatClampNeg) then (
  fc_gd (fc_ix x1 6) <|
  fc_gd (fc_ix x3 6) <|
  if (mm_G st5 59 x1.toNatClampNeg) = (mm_G st5 59 x3.toNatClampNeg) then (
  if x5 < 0 then (
  some ((-13 : Int32), st5))
  else (
  if x2 < 0 then (
  some ((-13 : Int32), st5))
  else (
  if x4 < 0 then (
  some ((-13 : Int32), st5))
  else (
  fc_gd (fc_ix x1 6) <|
  if ((mm_G st5 60 x1.toNatClampNeg) - x5) < x2 then (
  some ((-13 : Int32), st5))
  else (
  fc_gd (fc_ix x3 6) <|
  if x4 ≤ ((mm_G st5 60 x3.toNatClampNeg) - x5) then (
  M_shift_b104 fu fu x1 x2 x3 x4 x5 (0 : Int32) st5)
  else (
  some ((-13 : Int32), st5)))))))
  else (
  some ((-12 : Int32), st5)))
  else (
  some ((-11 : Int32), st5)))))
