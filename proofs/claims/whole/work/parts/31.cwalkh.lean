def C_X7_join (X : cc_X) (fu : Nat) (x0 : Nat) (x1 : Nat) (st : cc_S) : Option (Int32 × cc_S) :=
  fc_gd (cc_go X x0 [9]) <|
  fc_gd (cc_go X x1 [3, 4, 5, 6, 7, 8, 11]) <|
  fc_gd (cc_ga X x0 0 3 (cc_I st x0 9)) <|
  fc_nm (cc_sP st x0 0 (cc_I st x0 9).toNatClampNeg (some x1)) fun st4 =>
  fc_nm (cc_sI st4 x0 9 ((cc_I st4 x0 9) + (1 : Int32))) fun st5 =>
  some (((cc_I st5 x0 9) - (1 : Int32)), st5)
def C_X7_become_b2F (X : cc_X) (fu : Nat) (K2 : Nat → Nat → Int32 → cc_S → Option cc_S) (x0 : Nat) (x1 : Nat) (x2 : Int32) (st : cc_S) : Option cc_S :=
  if (6 : Int32) ≤ x2 then (
  fc_gd (cc_go X x1 [9]) <|
  fc_gd (cc_go X x0 [9]) <|
  fc_gd (cc_gc X x1 1 1 (0 : Int32) (6 : Int32)) <|
  fc_gd (cc_gc X x0 1 1 (0 : Int32) (6 : Int32)) <|
  fc_nm (cc_cG st x1 1 x0 1 (0 : Int32).toNatClampNeg (0 : Int32).toNatClampNeg (6 : Int32).toNatClampNeg) fun st6 =>
  fc_gd (cc_gc X x1 2 1 (0 : Int32) (24 : Int32)) <|
  fc_gd (cc_gc X x0 2 1 (0 : Int32) (24 : Int32)) <|
  fc_nm (cc_cG st6 x1 2 x0 2 (0 : Int32).toNatClampNeg (0 : Int32).toNatClampNeg (24 : Int32).toNatClampNeg) fun st9 =>
  fc_gd (cc_gc X x1 3 1 (0 : Int32) (8 : Int32)) <|
  fc_gd (cc_gc X x0 3 1 (0 : Int32) (8 : Int32)) <|
  fc_nm (cc_cG st9 x1 3 x0 3 (0 : Int32).toNatClampNeg (0 : Int32).toNatClampNeg (8 : Int32).toNatClampNeg) fun st12 =>
  fc_gd (cc_gc X x1 4 1 (0 : Int32) (5 : Int32)) <|
  fc_gd (cc_gc X x0 4 1 (0 : Int32) (5 : Int32)) <|
  fc_nm (cc_cG st12 x1 4 x0 4 (0 : Int32).toNatClampNeg (0 : Int32).toNatClampNeg (5 : Int32).toNatClampNeg) fun st15 =>
  fc_gd (cc_gc X x1 5 1 (0 : Int32) (5 : Int32)) <|
  fc_gd (cc_gc X x0 5 1 (0 : Int32) (5 : Int32)) <|
  fc_nm (cc_cG st15 x1 5 x0 5 (0 : Int32).toNatClampNeg (0 : Int32).toNatClampNeg (5 : Int32).toNatClampNeg) fun st18 =>
  fc_gd (cc_gc X x1 6 1 (0 : Int32) (5 : Int32)) <|
  fc_gd (cc_gc X x0 6 1 (0 : Int32) (5 : Int32)) <|
  fc_nm (cc_cG st18 x1 6 x0 6 (0 : Int32).toNatClampNeg (0 : Int32).toNatClampNeg (5 : Int32).toNatClampNeg) fun st21 =>
  fc_gd (cc_gc X x1 7 1 (0 : Int32) (8 : Int32)) <|
  fc_gd (cc_gc X x0 7 1 (0 : Int32) (8 : Int32)) <|
  fc_nm (cc_cG st21 x1 7 x0 7 (0 : Int32).toNatClampNeg (0 : Int32).toNatClampNeg (8 : Int32).toNatClampNeg) fun st24 =>
  fc_gd (cc_gc X x1 8 1 (0 : Int32) (8 : Int32)) <|
  fc_gd (cc_gc X x0 8 1 (0 : Int32) (8 : Int32)) <|
  fc_nm (cc_cG st24 x1 8 x0 8 (0 : Int32).toNatClampNeg (0 : Int32).toNatClampNeg (8 : Int32).toNatClampNeg) fun st27 =>
  fc_nm (cc_sI st27 x0 9 (cc_I st27 x1 9)) fun st28 =>
  fc_nm (cc_sI st28 x0 10 (cc_I st28 x1 10)) fun st29 =>
  fc_nm (cc_sI st29 x0 11 (cc_I st29 x1 11)) fun st30 =>
  fc_nm (cc_sI st30 x0 12 (cc_I st30 x1 12)) fun st31 =>
  fc_nm (cc_sI st31 x0 13 (cc_I st31 x1 13)) fun st32 =>
  fc_nm (cc_sI st32 x0 14 (cc_I st32 x1 14)) fun st33 =>
  fc_nm (cc_sI st33 x0 15 (cc_I st33 x1 15)) fun st34 =>
  fc_mt (cc_P st34 x1 16 0) (
  fc_nm (cc_sP st34 x0 16 0 none) fun st36 =>
  some st36)
  (fun y35 =>
  fc_nm (cc_sP st34 x0 16 0 (some y35)) fun st37 =>
  some st37))
  else (
  fc_gd (cc_go X x0 [9]) <|
  fc_gd (cc_go X x1 [9]) <|
  fc_gd (cc_ga X x1 0 3 x2) <|
  fc_mt (cc_P st x1 0 x2.toNatClampNeg) (
  fc_gd (cc_ga X x0 0 3 x2) <|
  fc_nm (cc_sP st x0 0 x2.toNatClampNeg none) fun st43 =>
  fc_nm (x2 + (1 : Int32)) fun v44 =>
  K2 x0 x1 v44 st43)
  (fun y41 =>
  fc_gd (cc_go X y41 [3, 4, 5, 6, 7, 8, 11]) <|
  fc_gd (cc_ga X x0 0 3 x2) <|
  fc_nm (cc_sP st x0 0 x2.toNatClampNeg (some y41)) fun st47 =>
  fc_nm (x2 + (1 : Int32)) fun v48 =>
  K2 x0 x1 v48 st47))
def C_X7_become_b2 (X : cc_X) (fu : Nat) (n : Nat) (x0 : Nat) (x1 : Nat) (x2 : Int32) (st : cc_S) : Option cc_S :=
  fc_lp (fun (K : Nat × Nat × Int32 × cc_S → Option cc_S) a => C_X7_become_b2F X fu (fun x0 x1 x2 st => K (x0, x1, x2, st)) a.1 a.2.1 a.2.2.1 a.2.2.2) n (x0, x1, x2, st)
def C_X7_become (X : cc_X) (fu : Nat) (x0 : Nat) (x1 : Nat) (st : cc_S) : Option cc_S :=
  C_X7_become_b2 X fu fu x0 x1 (0 : Int32) st
def C_X11_image (X : cc_X) (fu : Nat) (x0 : Nat) (st : cc_S) : Option (Int32 × cc_S) :=
  fc_gd (cc_go X x0 [13]) <|
  fc_gd (cc_go X 2 [9]) <|
  fc_bv (C_X7_become X fu 2 1 st) fun st3 =>
  fc_nm (cc_sI st3 x0 7 (1 : Int32)) fun st5 =>
  some ((cc_I st5 2 9), st5)
def C_X11_undo (X : cc_X) (fu : Nat) (x0 : Nat) (st : cc_S) : Option (Int32 × cc_S) :=
  fc_gd (cc_go X x0 [13]) <|
  if (cc_I st x0 7) = 0 then (
  some ((-3 : Int32), st))
  else (
  fc_gd (cc_go X 1 [9]) <|
  fc_bv (C_X7_become X fu 1 2 st) fun st4 =>
  some ((cc_I st4 1 9), st4))
def C_X11_shift (X : cc_X) (fu : Nat) (x0 : Nat) (x1 : Int32) (x2 : Int32) (x3 : Int32) (x4 : Int32) (x5 : Int32) (st : cc_S) : Option (Int32 × cc_S) :=
  fc_gd (cc_go X x0 [13]) <|
  fc_bn (C_X11_tapeOf X fu x0 x1 st) fun r4 st2 =>
  fc_mt r4 (
  fc_bn (C_X11_tapeOf X fu x0 x3 st2) fun r8 st6 =>
  fc_mt r8 (
  some ((-1 : Int32), st6))
  (fun y9 =>
  some ((-1 : Int32), st6)))
  (fun y5 =>
  fc_bn (C_X11_tapeOf X fu x0 x3 st2) fun r12 st10 =>
  fc_mt r12 (
  some ((-1 : Int32), st10))
  (fun y13 =>
  fc_gd (cc_go X y5 [10]) <|
  fc_bn (C_X8_holds X fu y5 st10) fun r17 st15 =>
  if r17 = 0 then (
  some ((-11 : Int32), st15))
  else (
  fc_gd (cc_go X y13 [10]) <|
  fc_bn (C_X8_holds X fu y13 st15) fun r22 st20 =>
  if r22 = 0 then (
  some ((-11 : Int32), st20))
  else (
  if (cc_I st20 y5 1) = (cc_I st20 y13 1) then (
  fc_bn (C_X8_hasRun X fu y5 x2 x5 st20) fun r27 st25 =>
  if r27 = 0 then (
  some ((-13 : Int32), st25))
  else (
  fc_bn (C_X8_hasRun X fu y13 x4 x5 st25) fun r31 st29 =>
  if r31 = 0 then (
  some ((-13 : Int32), st29))
  else (
  fc_gd (cc_gc X y5 0 2 x2 x5) <|
  fc_gd (cc_gc X y13 0 2 x4 x5) <|
  fc_nm (cc_cJ st29 y5 0 y13 0 x2.toNatClampNeg x4.toNatClampNeg x5.toNatClampNeg) fun st35 =>
  some (x5, st35))))
  else (
  some ((-12 : Int32), st20))))))
/-! X7_join -/
def tb_X7_join : List (Nat × Instr × Nat) := [(0, .aload_n 0, 1), (1, .getfield 11, 3), (4, .aload_n 0, 1), (5, .getfield 42, 3), (8, .aload_n 1, 1), (9, .aastore, 1), (10, .aload_n 0, 1), (11, .dup, 1), (12, .getfield 42, 3), (15, .iconst 1, 1), (16, .iadd, 1), (17, .putfield 42, 3), (20, .aload_n 0, 1), (21, .getfield 42, 3), (24, .iconst 1, 1), (25, .isub, 1), (26, .ireturn, 1)]
theorem td_X7_join : tb_X7_join.all (fun q => decide (decode cX7_join q.1 = .ok (q.2.1, q.2.2))) = true := by decide +kernel
theorem hd_X7_join : yX7_join.cls = RX7 ∧ yX7_join.cls ≠ "java/lang/invoke/MethodHandle" ∧ yX7_join.cls ≠ "java/lang/invoke/VarHandle" ∧ (parseMethodDescriptor yX7_join.desc).map (fun d => d.parameters.length) = some 1 := by decide +kernel
theorem hs_X7_join : yX7_join.name ≠ "<init>" ∧ (parseMethodDescriptor yX7_join.desc).map (fun d => d.parameters.length) = some 1 := by decide +kernel
theorem w_X7_join {p : Program} {l : Launch} {e : Env} {s : State} {m : MethodId} {args : Array Value} {below : List Frame} {meth : Method} {c : Code} {D : va_G} {X : cc_X} {r : Int32} {st' : cc_S} (Cx : cc_C p s m args meth c cX7_join 2 (some .int) RX7 D X) (fu : Nat) (x0 : Nat) (x1 : Nat) (st : cc_S) (hf : C_X7_join X fu x0 x1 st = some (r, st')) {H : Heap} {locs : List Loc} {ls : Array Slot} (hl : lv_has ls 2 [(0, .ref (cx_a X x0)), (1, .ref (cx_a X x1))]) (hM : cc_H D X s.heap st H locs) : W p l e (mm_R 0 0) s m args below meth c H locs 0 0 (MQ below (cc_Qi D X r st') args s 0 0 (cc_A X)) (F0 m 0 ls []) := by
  unfold C_X7_join at hf
  refine lv_aload_n Cx.1 Cx.2.1 (dd_at td_X7_join 0 rfl) rfl (lv_at hl 0 rfl) ?_
  obtain ⟨g1, hf⟩ := fc_of_gd hf
  refine cc_gA (ci := 9) (C := RX7) (T := TX7) (N := 17) (k := 0) (ref := "EclipsesKept$State") Cx hM g1 rfl cc_inX7 rfl (by decide) cw318 (fun _ h => h) (dd_at td_X7_join 1 rfl) rfl ?_
  refine lv_aload_n Cx.1 Cx.2.1 (dd_at td_X7_join 2 rfl) rfl (lv_at hl 0 rfl) ?_
  refine cc_gI (ci := 9) (C := RX7) (T := TX7) (N := 17) (k := 9) (ref := "EclipsesKept$State") Cx hM g1 rfl cc_inX7 rfl (by decide) cw327 (fun _ h => h) (dd_at td_X7_join 3 rfl) rfl ?_
  refine lv_aload_n Cx.1 Cx.2.1 (dd_at td_X7_join 4 rfl) rfl (lv_at hl 1 rfl) ?_
  obtain ⟨g2, hf⟩ := fc_of_gd hf
  obtain ⟨g3, hf⟩ := fc_of_gd hf
  refine cc_asto Cx hM g3 (by rw [cc_go_K g1]; rfl) g2 (dd_at td_X7_join 5 rfl) (fun st4 H locs est4 hM => ?_)
  replace hf := fc_of_nm hf st4 est4
  refine lv_aload_n Cx.1 Cx.2.1 (dd_at td_X7_join 6 rfl) rfl (lv_at hl 0 rfl) ?_
  refine lv_dup Cx.1 Cx.2.1 (dd_at td_X7_join 7 rfl) rfl ?_
  refine cc_gI (ci := 9) (C := RX7) (T := TX7) (N := 17) (k := 9) (ref := "EclipsesKept$State") Cx hM g1 rfl cc_inX7 rfl (by decide) cw327 (fun _ h => h) (dd_at td_X7_join 8 rfl) rfl ?_
  refine lv_iconst (v := (1 : Int32)) Cx.1 Cx.2.1 (dd_at td_X7_join 9 rfl) (by decide) ?_
  refine lv_iadd Cx.1 Cx.2.1 (dd_at td_X7_join 10 rfl) ?_
  refine cc_pI (ci := 9) (C := RX7) (T := TX7) (N := 17) (k := 9) (ref := "EclipsesKept$State") (ty0 := tyX7) Cx hM g1 rfl cc_inX7 rfl (by decide) cw327 (fun _ h => h) tyX7_ok nmX7 rfl rfl rfl (dd_at td_X7_join 11 rfl) rfl (fun st5 H locs est5 hM => ?_)
  replace hf := fc_of_nm hf st5 est5
  refine lv_aload_n Cx.1 Cx.2.1 (dd_at td_X7_join 12 rfl) rfl (lv_at hl 0 rfl) ?_
  refine cc_gI (ci := 9) (C := RX7) (T := TX7) (N := 17) (k := 9) (ref := "EclipsesKept$State") Cx hM g1 rfl cc_inX7 rfl (by decide) cw327 (fun _ h => h) (dd_at td_X7_join 13 rfl) rfl ?_
  refine lv_iconst (v := (1 : Int32)) Cx.1 Cx.2.1 (dd_at td_X7_join 14 rfl) (by decide) ?_
  refine lv_isub Cx.1 Cx.2.1 (dd_at td_X7_join 15 rfl) ?_
  exact cc_ri Cx hM (dd_at td_X7_join 16 rfl) hf
theorem c_X7_join (l : Launch) (D : va_G) (X : cc_X) (fu : Nat) (x0 : Nat) (x1 : Nat) (st : cc_S) : cc_Mi l D X yX7_join cX7_join 2 (some .int) 0 0 [.ref (cx_a X x0), .ref (cx_a X x1)] st (C_X7_join X fu x0 x1 st) := by
  intro r st' hf
  refine cc_enter (cc := cX7_join) (nL := 2) (ret := some .int) (by decide +kernel) rfl (Nat.le_of_ble_eq_true rfl) ?_
  intro p e s m args below meth c ls Cx hl hM
  exact w_X7_join Cx fu x0 x1 st hf hl hM

/-! X7_become -/
def tb_X7_become : List (Nat × Instr × Nat) := [(0, .iconst 0, 1), (1, .istore_n 2, 1), (2, .iload_n 2, 1), (3, .bipush 6, 2), (5, .if_icmp .ge 21, 3), (8, .aload_n 0, 1), (9, .getfield 11, 3), (12, .iload_n 2, 1), (13, .aload_n 1, 1), (14, .getfield 11, 3), (17, .iload_n 2, 1), (18, .aaload, 1), (19, .aastore, 1), (20, .iinc 2 1, 3), (23, .goto (-21), 3), (26, .aload_n 1, 1), (27, .getfield 17, 3), (30, .iconst 0, 1), (31, .aload_n 0, 1), (32, .getfield 17, 3), (35, .iconst 0, 1), (36, .bipush 6, 2), (38, .invokestatic 68, 3), (41, .aload_n 1, 1), (42, .getfield 21, 3), (45, .iconst 0, 1), (46, .aload_n 0, 1), (47, .getfield 21, 3), (50, .iconst 0, 1), (51, .bipush 24, 2), (53, .invokestatic 68, 3), (56, .aload_n 1, 1), (57, .getfield 24, 3), (60, .iconst 0, 1), (61, .aload_n 0, 1), (62, .getfield 24, 3), (65, .iconst 0, 1), (66, .bipush 8, 2), (68, .invokestatic 68, 3), (71, .aload_n 1, 1), (72, .getfield 27, 3), (75, .iconst 0, 1), (76, .aload_n 0, 1), (77, .getfield 27, 3), (80, .iconst 0, 1), (81, .iconst 5, 1), (82, .invokestatic 68, 3), (85, .aload_n 1, 1), (86, .getfield 30, 3), (89, .iconst 0, 1), (90, .aload_n 0, 1), (91, .getfield 30, 3), (94, .iconst 0, 1), (95, .iconst 5, 1), (96, .invokestatic 68, 3), (99, .aload_n 1, 1), (100, .getfield 33, 3), (103, .iconst 0, 1), (104, .aload_n 0, 1), (105, .getfield 33, 3), (108, .iconst 0, 1), (109, .iconst 5, 1), (110, .invokestatic 68, 3), (113, .aload_n 1, 1), (114, .getfield 36, 3), (117, .iconst 0, 1), (118, .aload_n 0, 1), (119, .getfield 36, 3), (122, .iconst 0, 1), (123, .bipush 8, 2), (125, .invokestatic 68, 3), (128, .aload_n 1, 1), (129, .getfield 39, 3), (132, .iconst 0, 1), (133, .aload_n 0, 1), (134, .getfield 39, 3), (137, .iconst 0, 1), (138, .bipush 8, 2), (140, .invokestatic 68, 3), (143, .aload_n 0, 1), (144, .aload_n 1, 1), (145, .getfield 42, 3), (148, .putfield 42, 3), (151, .aload_n 0, 1), (152, .aload_n 1, 1), (153, .getfield 46, 3), (156, .putfield 46, 3), (159, .aload_n 0, 1), (160, .aload_n 1, 1), (161, .getfield 49, 3), (164, .putfield 49, 3), (167, .aload_n 0, 1), (168, .aload_n 1, 1), (169, .getfield 52, 3), (172, .putfield 52, 3), (175, .aload_n 0, 1), (176, .aload_n 1, 1), (177, .getfield 55, 3), (180, .putfield 55, 3), (183, .aload_n 0, 1), (184, .aload_n 1, 1), (185, .getfield 58, 3), (188, .putfield 58, 3), (191, .aload_n 0, 1), (192, .aload_n 1, 1), (193, .getfield 61, 3), (196, .putfield 61, 3), (199, .aload_n 0, 1), (200, .aload_n 1, 1), (201, .getfield 64, 3), (204, .putfield 64, 3), (207, .return_, 1)]
theorem td_X7_become : tb_X7_become.all (fun q => decide (decode cX7_become q.1 = .ok (q.2.1, q.2.2))) = true := by decide +kernel
theorem hd_X7_become : yX7_become.cls = RX7 ∧ yX7_become.cls ≠ "java/lang/invoke/MethodHandle" ∧ yX7_become.cls ≠ "java/lang/invoke/VarHandle" ∧ (parseMethodDescriptor yX7_become.desc).map (fun d => d.parameters.length) = some 1 := by decide +kernel
theorem hs_X7_become : yX7_become.name ≠ "<init>" ∧ (parseMethodDescriptor yX7_become.desc).map (fun d => d.parameters.length) = some 1 := by decide +kernel
theorem w_X7_become_b2F {p : Program} {l : Launch} {e : Env} {s : State} {m : MethodId} {args : Array Value} {below : List Frame} {meth : Method} {c : Code} {D : va_G} {X : cc_X} {st' : cc_S} (Cx : cc_C p s m args meth c cX7_become 3 (none) RX7 D X) (fu : Nat) (K2 : Nat → Nat → Int32 → cc_S → Option cc_S) (hK2 : ∀ (x0 : Nat) (x1 : Nat) (x2 : Int32) (st : cc_S) (H : Heap) (locs : List Loc) (ls : Array Slot), K2 x0 x1 x2 st = some st' → lv_has ls 3 [(0, .ref (cx_a X x0)), (1, .ref (cx_a X x1)), (2, .int x2)] → cc_H D X s.heap st H locs → W p l e (mm_R 1 40) s m args below meth c H locs 0 0 (MQ below (cc_Qv D X st') args s 0 0 (cc_A X)) (F0 m 2 ls [])) (x0 : Nat) (x1 : Nat) (x2 : Int32) (st : cc_S) (hf : C_X7_become_b2F X fu K2 x0 x1 x2 st = some st') {H : Heap} {locs : List Loc} {ls : Array Slot} (hl : lv_has ls 3 [(0, .ref (cx_a X x0)), (1, .ref (cx_a X x1)), (2, .int x2)]) (hM : cc_H D X s.heap st H locs) : W p l e (mm_R 1 40) s m args below meth c H locs 0 0 (MQ below (cc_Qv D X st') args s 0 0 (cc_A X)) (F0 m 2 ls []) := by
  unfold C_X7_become_b2F at hf
  refine lv_iload_n Cx.1 Cx.2.1 (dd_at td_X7_become 2 rfl) rfl (lv_at hl 2 rfl) ?_
  refine lv_bipush (v := (6 : Int32)) Cx.1 Cx.2.1 (dd_at td_X7_become 3 rfl) (by decide) ?_
  refine lv_icmp_ge (tgt := 26) Cx.1 Cx.2.1 (dd_at td_X7_become 4 rfl) (by decide) (fun c1 => ?_) (fun c1 => ?_)
  · replace hf := fc_of_t hf c1
    refine lv_aload_n Cx.1 Cx.2.1 (dd_at td_X7_become 15 rfl) rfl (lv_at hl 1 rfl) ?_
    obtain ⟨g2, hf⟩ := fc_of_gd hf
    refine cc_gA (ci := 9) (C := RX7) (T := TX7) (N := 17) (k := 1) (ref := "EclipsesKept$State") Cx hM g2 rfl cc_inX7 rfl (by decide) cw319 (fun _ h => h) (dd_at td_X7_become 16 rfl) rfl ?_
    refine lv_iconst (v := (0 : Int32)) Cx.1 Cx.2.1 (dd_at td_X7_become 17 rfl) (by decide) ?_
    refine lv_aload_n Cx.1 Cx.2.1 (dd_at td_X7_become 18 rfl) rfl (lv_at hl 0 rfl) ?_
    obtain ⟨g3, hf⟩ := fc_of_gd hf
    refine cc_gA (ci := 9) (C := RX7) (T := TX7) (N := 17) (k := 1) (ref := "EclipsesKept$State") Cx hM g3 rfl cc_inX7 rfl (by decide) cw319 (fun _ h => h) (dd_at td_X7_become 19 rfl) rfl ?_
    refine lv_iconst (v := (0 : Int32)) Cx.1 Cx.2.1 (dd_at td_X7_become 20 rfl) (by decide) ?_
    refine lv_bipush (v := (6 : Int32)) Cx.1 Cx.2.1 (dd_at td_X7_become 21 rfl) (by decide) ?_
    obtain ⟨g4, hf⟩ := fc_of_gd hf
    obtain ⟨g5, hf⟩ := fc_of_gd hf
    refine cc_cpi Cx hM g4 g5 hl.1 cw336 cw337 cw338 cw339 (Nat.le_of_ble_eq_true rfl) (by decide) (dd_at td_X7_become 22 rfl) (fun st6 H locs est6 hM => ?_)
    replace hf := fc_of_nm hf st6 est6
    refine lv_aload_n Cx.1 Cx.2.1 (dd_at td_X7_become 23 rfl) rfl (lv_at hl 1 rfl) ?_
    refine cc_gA (ci := 9) (C := RX7) (T := TX7) (N := 17) (k := 2) (ref := "EclipsesKept$State") Cx hM g2 rfl cc_inX7 rfl (by decide) cw320 (fun _ h => h) (dd_at td_X7_become 24 rfl) rfl ?_
    refine lv_iconst (v := (0 : Int32)) Cx.1 Cx.2.1 (dd_at td_X7_become 25 rfl) (by decide) ?_
    refine lv_aload_n Cx.1 Cx.2.1 (dd_at td_X7_become 26 rfl) rfl (lv_at hl 0 rfl) ?_
    refine cc_gA (ci := 9) (C := RX7) (T := TX7) (N := 17) (k := 2) (ref := "EclipsesKept$State") Cx hM g3 rfl cc_inX7 rfl (by decide) cw320 (fun _ h => h) (dd_at td_X7_become 27 rfl) rfl ?_
    refine lv_iconst (v := (0 : Int32)) Cx.1 Cx.2.1 (dd_at td_X7_become 28 rfl) (by decide) ?_
    refine lv_bipush (v := (24 : Int32)) Cx.1 Cx.2.1 (dd_at td_X7_become 29 rfl) (by decide) ?_
    obtain ⟨g7, hf⟩ := fc_of_gd hf
    obtain ⟨g8, hf⟩ := fc_of_gd hf
    refine cc_cpi Cx hM g7 g8 hl.1 cw336 cw337 cw338 cw339 (Nat.le_of_ble_eq_true rfl) (by decide) (dd_at td_X7_become 30 rfl) (fun st9 H locs est9 hM => ?_)
    replace hf := fc_of_nm hf st9 est9
    refine lv_aload_n Cx.1 Cx.2.1 (dd_at td_X7_become 31 rfl) rfl (lv_at hl 1 rfl) ?_
    refine cc_gA (ci := 9) (C := RX7) (T := TX7) (N := 17) (k := 3) (ref := "EclipsesKept$State") Cx hM g2 rfl cc_inX7 rfl (by decide) cw321 (fun _ h => h) (dd_at td_X7_become 32 rfl) rfl ?_
    refine lv_iconst (v := (0 : Int32)) Cx.1 Cx.2.1 (dd_at td_X7_become 33 rfl) (by decide) ?_
    refine lv_aload_n Cx.1 Cx.2.1 (dd_at td_X7_become 34 rfl) rfl (lv_at hl 0 rfl) ?_
    refine cc_gA (ci := 9) (C := RX7) (T := TX7) (N := 17) (k := 3) (ref := "EclipsesKept$State") Cx hM g3 rfl cc_inX7 rfl (by decide) cw321 (fun _ h => h) (dd_at td_X7_become 35 rfl) rfl ?_
    refine lv_iconst (v := (0 : Int32)) Cx.1 Cx.2.1 (dd_at td_X7_become 36 rfl) (by decide) ?_
    refine lv_bipush (v := (8 : Int32)) Cx.1 Cx.2.1 (dd_at td_X7_become 37 rfl) (by decide) ?_
    obtain ⟨g10, hf⟩ := fc_of_gd hf
    obtain ⟨g11, hf⟩ := fc_of_gd hf
    refine cc_cpi Cx hM g10 g11 hl.1 cw336 cw337 cw338 cw339 (Nat.le_of_ble_eq_true rfl) (by decide) (dd_at td_X7_become 38 rfl) (fun st12 H locs est12 hM => ?_)
    replace hf := fc_of_nm hf st12 est12
    refine lv_aload_n Cx.1 Cx.2.1 (dd_at td_X7_become 39 rfl) rfl (lv_at hl 1 rfl) ?_
    refine cc_gA (ci := 9) (C := RX7) (T := TX7) (N := 17) (k := 4) (ref := "EclipsesKept$State") Cx hM g2 rfl cc_inX7 rfl (by decide) cw322 (fun _ h => h) (dd_at td_X7_become 40 rfl) rfl ?_
    refine lv_iconst (v := (0 : Int32)) Cx.1 Cx.2.1 (dd_at td_X7_become 41 rfl) (by decide) ?_
    refine lv_aload_n Cx.1 Cx.2.1 (dd_at td_X7_become 42 rfl) rfl (lv_at hl 0 rfl) ?_
    refine cc_gA (ci := 9) (C := RX7) (T := TX7) (N := 17) (k := 4) (ref := "EclipsesKept$State") Cx hM g3 rfl cc_inX7 rfl (by decide) cw322 (fun _ h => h) (dd_at td_X7_become 43 rfl) rfl ?_
    refine lv_iconst (v := (0 : Int32)) Cx.1 Cx.2.1 (dd_at td_X7_become 44 rfl) (by decide) ?_
    refine lv_iconst (v := (5 : Int32)) Cx.1 Cx.2.1 (dd_at td_X7_become 45 rfl) (by decide) ?_
    obtain ⟨g13, hf⟩ := fc_of_gd hf
    obtain ⟨g14, hf⟩ := fc_of_gd hf
    refine cc_cpi Cx hM g13 g14 hl.1 cw336 cw337 cw338 cw339 (Nat.le_of_ble_eq_true rfl) (by decide) (dd_at td_X7_become 46 rfl) (fun st15 H locs est15 hM => ?_)
    replace hf := fc_of_nm hf st15 est15
    refine lv_aload_n Cx.1 Cx.2.1 (dd_at td_X7_become 47 rfl) rfl (lv_at hl 1 rfl) ?_
    refine cc_gA (ci := 9) (C := RX7) (T := TX7) (N := 17) (k := 5) (ref := "EclipsesKept$State") Cx hM g2 rfl cc_inX7 rfl (by decide) cw323 (fun _ h => h) (dd_at td_X7_become 48 rfl) rfl ?_
    refine lv_iconst (v := (0 : Int32)) Cx.1 Cx.2.1 (dd_at td_X7_become 49 rfl) (by decide) ?_
    refine lv_aload_n Cx.1 Cx.2.1 (dd_at td_X7_become 50 rfl) rfl (lv_at hl 0 rfl) ?_
    refine cc_gA (ci := 9) (C := RX7) (T := TX7) (N := 17) (k := 5) (ref := "EclipsesKept$State") Cx hM g3 rfl cc_inX7 rfl (by decide) cw323 (fun _ h => h) (dd_at td_X7_become 51 rfl) rfl ?_
    refine lv_iconst (v := (0 : Int32)) Cx.1 Cx.2.1 (dd_at td_X7_become 52 rfl) (by decide) ?_
    refine lv_iconst (v := (5 : Int32)) Cx.1 Cx.2.1 (dd_at td_X7_become 53 rfl) (by decide) ?_
    obtain ⟨g16, hf⟩ := fc_of_gd hf
    obtain ⟨g17, hf⟩ := fc_of_gd hf
    refine cc_cpi Cx hM g16 g17 hl.1 cw336 cw337 cw338 cw339 (Nat.le_of_ble_eq_true rfl) (by decide) (dd_at td_X7_become 54 rfl) (fun st18 H locs est18 hM => ?_)
    replace hf := fc_of_nm hf st18 est18
    refine lv_aload_n Cx.1 Cx.2.1 (dd_at td_X7_become 55 rfl) rfl (lv_at hl 1 rfl) ?_
    refine cc_gA (ci := 9) (C := RX7) (T := TX7) (N := 17) (k := 6) (ref := "EclipsesKept$State") Cx hM g2 rfl cc_inX7 rfl (by decide) cw324 (fun _ h => h) (dd_at td_X7_become 56 rfl) rfl ?_
    refine lv_iconst (v := (0 : Int32)) Cx.1 Cx.2.1 (dd_at td_X7_become 57 rfl) (by decide) ?_
    refine lv_aload_n Cx.1 Cx.2.1 (dd_at td_X7_become 58 rfl) rfl (lv_at hl 0 rfl) ?_
    refine cc_gA (ci := 9) (C := RX7) (T := TX7) (N := 17) (k := 6) (ref := "EclipsesKept$State") Cx hM g3 rfl cc_inX7 rfl (by decide) cw324 (fun _ h => h) (dd_at td_X7_become 59 rfl) rfl ?_
    refine lv_iconst (v := (0 : Int32)) Cx.1 Cx.2.1 (dd_at td_X7_become 60 rfl) (by decide) ?_
    refine lv_iconst (v := (5 : Int32)) Cx.1 Cx.2.1 (dd_at td_X7_become 61 rfl) (by decide) ?_
    obtain ⟨g19, hf⟩ := fc_of_gd hf
    obtain ⟨g20, hf⟩ := fc_of_gd hf
    refine cc_cpi Cx hM g19 g20 hl.1 cw336 cw337 cw338 cw339 (Nat.le_of_ble_eq_true rfl) (by decide) (dd_at td_X7_become 62 rfl) (fun st21 H locs est21 hM => ?_)
    replace hf := fc_of_nm hf st21 est21
    refine lv_aload_n Cx.1 Cx.2.1 (dd_at td_X7_become 63 rfl) rfl (lv_at hl 1 rfl) ?_
    refine cc_gA (ci := 9) (C := RX7) (T := TX7) (N := 17) (k := 7) (ref := "EclipsesKept$State") Cx hM g2 rfl cc_inX7 rfl (by decide) cw325 (fun _ h => h) (dd_at td_X7_become 64 rfl) rfl ?_
    refine lv_iconst (v := (0 : Int32)) Cx.1 Cx.2.1 (dd_at td_X7_become 65 rfl) (by decide) ?_
    refine lv_aload_n Cx.1 Cx.2.1 (dd_at td_X7_become 66 rfl) rfl (lv_at hl 0 rfl) ?_
    refine cc_gA (ci := 9) (C := RX7) (T := TX7) (N := 17) (k := 7) (ref := "EclipsesKept$State") Cx hM g3 rfl cc_inX7 rfl (by decide) cw325 (fun _ h => h) (dd_at td_X7_become 67 rfl) rfl ?_
    refine lv_iconst (v := (0 : Int32)) Cx.1 Cx.2.1 (dd_at td_X7_become 68 rfl) (by decide) ?_
    refine lv_bipush (v := (8 : Int32)) Cx.1 Cx.2.1 (dd_at td_X7_become 69 rfl) (by decide) ?_
    obtain ⟨g22, hf⟩ := fc_of_gd hf
    obtain ⟨g23, hf⟩ := fc_of_gd hf
    refine cc_cpi Cx hM g22 g23 hl.1 cw336 cw337 cw338 cw339 (Nat.le_of_ble_eq_true rfl) (by decide) (dd_at td_X7_become 70 rfl) (fun st24 H locs est24 hM => ?_)
    replace hf := fc_of_nm hf st24 est24
    refine lv_aload_n Cx.1 Cx.2.1 (dd_at td_X7_become 71 rfl) rfl (lv_at hl 1 rfl) ?_
    refine cc_gA (ci := 9) (C := RX7) (T := TX7) (N := 17) (k := 8) (ref := "EclipsesKept$State") Cx hM g2 rfl cc_inX7 rfl (by decide) cw326 (fun _ h => h) (dd_at td_X7_become 72 rfl) rfl ?_
    refine lv_iconst (v := (0 : Int32)) Cx.1 Cx.2.1 (dd_at td_X7_become 73 rfl) (by decide) ?_
    refine lv_aload_n Cx.1 Cx.2.1 (dd_at td_X7_become 74 rfl) rfl (lv_at hl 0 rfl) ?_
    refine cc_gA (ci := 9) (C := RX7) (T := TX7) (N := 17) (k := 8) (ref := "EclipsesKept$State") Cx hM g3 rfl cc_inX7 rfl (by decide) cw326 (fun _ h => h) (dd_at td_X7_become 75 rfl) rfl ?_
    refine lv_iconst (v := (0 : Int32)) Cx.1 Cx.2.1 (dd_at td_X7_become 76 rfl) (by decide) ?_
    refine lv_bipush (v := (8 : Int32)) Cx.1 Cx.2.1 (dd_at td_X7_become 77 rfl) (by decide) ?_
    obtain ⟨g25, hf⟩ := fc_of_gd hf
    obtain ⟨g26, hf⟩ := fc_of_gd hf
    refine cc_cpi Cx hM g25 g26 hl.1 cw336 cw337 cw338 cw339 (Nat.le_of_ble_eq_true rfl) (by decide) (dd_at td_X7_become 78 rfl) (fun st27 H locs est27 hM => ?_)
    replace hf := fc_of_nm hf st27 est27
    refine lv_aload_n Cx.1 Cx.2.1 (dd_at td_X7_become 79 rfl) rfl (lv_at hl 0 rfl) ?_
    refine lv_aload_n Cx.1 Cx.2.1 (dd_at td_X7_become 80 rfl) rfl (lv_at hl 1 rfl) ?_
    refine cc_gI (ci := 9) (C := RX7) (T := TX7) (N := 17) (k := 9) (ref := "EclipsesKept$State") Cx hM g2 rfl cc_inX7 rfl (by decide) cw327 (fun _ h => h) (dd_at td_X7_become 81 rfl) rfl ?_
    refine cc_pI (ci := 9) (C := RX7) (T := TX7) (N := 17) (k := 9) (ref := "EclipsesKept$State") (ty0 := tyX7) Cx hM g3 rfl cc_inX7 rfl (by decide) cw327 (fun _ h => h) tyX7_ok nmX7 rfl rfl rfl (dd_at td_X7_become 82 rfl) rfl (fun st28 H locs est28 hM => ?_)
    replace hf := fc_of_nm hf st28 est28
    refine lv_aload_n Cx.1 Cx.2.1 (dd_at td_X7_become 83 rfl) rfl (lv_at hl 0 rfl) ?_
    refine lv_aload_n Cx.1 Cx.2.1 (dd_at td_X7_become 84 rfl) rfl (lv_at hl 1 rfl) ?_
    refine cc_gI (ci := 9) (C := RX7) (T := TX7) (N := 17) (k := 10) (ref := "EclipsesKept$State") Cx hM g2 rfl cc_inX7 rfl (by decide) cw328 (fun _ h => h) (dd_at td_X7_become 85 rfl) rfl ?_
    refine cc_pI (ci := 9) (C := RX7) (T := TX7) (N := 17) (k := 10) (ref := "EclipsesKept$State") (ty0 := tyX7) Cx hM g3 rfl cc_inX7 rfl (by decide) cw328 (fun _ h => h) tyX7_ok nmX7 rfl rfl rfl (dd_at td_X7_become 86 rfl) rfl (fun st29 H locs est29 hM => ?_)
    replace hf := fc_of_nm hf st29 est29
    refine lv_aload_n Cx.1 Cx.2.1 (dd_at td_X7_become 87 rfl) rfl (lv_at hl 0 rfl) ?_
    refine lv_aload_n Cx.1 Cx.2.1 (dd_at td_X7_become 88 rfl) rfl (lv_at hl 1 rfl) ?_
    refine cc_gI (ci := 9) (C := RX7) (T := TX7) (N := 17) (k := 11) (ref := "EclipsesKept$State") Cx hM g2 rfl cc_inX7 rfl (by decide) cw329 (fun _ h => h) (dd_at td_X7_become 89 rfl) rfl ?_
    refine cc_pI (ci := 9) (C := RX7) (T := TX7) (N := 17) (k := 11) (ref := "EclipsesKept$State") (ty0 := tyX7) Cx hM g3 rfl cc_inX7 rfl (by decide) cw329 (fun _ h => h) tyX7_ok nmX7 rfl rfl rfl (dd_at td_X7_become 90 rfl) rfl (fun st30 H locs est30 hM => ?_)
    replace hf := fc_of_nm hf st30 est30
    refine lv_aload_n Cx.1 Cx.2.1 (dd_at td_X7_become 91 rfl) rfl (lv_at hl 0 rfl) ?_
    refine lv_aload_n Cx.1 Cx.2.1 (dd_at td_X7_become 92 rfl) rfl (lv_at hl 1 rfl) ?_
    refine cc_gI (ci := 9) (C := RX7) (T := TX7) (N := 17) (k := 12) (ref := "EclipsesKept$State") Cx hM g2 rfl cc_inX7 rfl (by decide) cw330 (fun _ h => h) (dd_at td_X7_become 93 rfl) rfl ?_
    refine cc_pI (ci := 9) (C := RX7) (T := TX7) (N := 17) (k := 12) (ref := "EclipsesKept$State") (ty0 := tyX7) Cx hM g3 rfl cc_inX7 rfl (by decide) cw330 (fun _ h => h) tyX7_ok nmX7 rfl rfl rfl (dd_at td_X7_become 94 rfl) rfl (fun st31 H locs est31 hM => ?_)
    replace hf := fc_of_nm hf st31 est31
    refine lv_aload_n Cx.1 Cx.2.1 (dd_at td_X7_become 95 rfl) rfl (lv_at hl 0 rfl) ?_
    refine lv_aload_n Cx.1 Cx.2.1 (dd_at td_X7_become 96 rfl) rfl (lv_at hl 1 rfl) ?_
    refine cc_gI (ci := 9) (C := RX7) (T := TX7) (N := 17) (k := 13) (ref := "EclipsesKept$State") Cx hM g2 rfl cc_inX7 rfl (by decide) cw331 (fun _ h => h) (dd_at td_X7_become 97 rfl) rfl ?_
    refine cc_pI (ci := 9) (C := RX7) (T := TX7) (N := 17) (k := 13) (ref := "EclipsesKept$State") (ty0 := tyX7) Cx hM g3 rfl cc_inX7 rfl (by decide) cw331 (fun _ h => h) tyX7_ok nmX7 rfl rfl rfl (dd_at td_X7_become 98 rfl) rfl (fun st32 H locs est32 hM => ?_)
    replace hf := fc_of_nm hf st32 est32
    refine lv_aload_n Cx.1 Cx.2.1 (dd_at td_X7_become 99 rfl) rfl (lv_at hl 0 rfl) ?_
    refine lv_aload_n Cx.1 Cx.2.1 (dd_at td_X7_become 100 rfl) rfl (lv_at hl 1 rfl) ?_
    refine cc_gI (ci := 9) (C := RX7) (T := TX7) (N := 17) (k := 14) (ref := "EclipsesKept$State") Cx hM g2 rfl cc_inX7 rfl (by decide) cw332 (fun _ h => h) (dd_at td_X7_become 101 rfl) rfl ?_
    refine cc_pI (ci := 9) (C := RX7) (T := TX7) (N := 17) (k := 14) (ref := "EclipsesKept$State") (ty0 := tyX7) Cx hM g3 rfl cc_inX7 rfl (by decide) cw332 (fun _ h => h) tyX7_ok nmX7 rfl rfl rfl (dd_at td_X7_become 102 rfl) rfl (fun st33 H locs est33 hM => ?_)
    replace hf := fc_of_nm hf st33 est33
    refine lv_aload_n Cx.1 Cx.2.1 (dd_at td_X7_become 103 rfl) rfl (lv_at hl 0 rfl) ?_
    refine lv_aload_n Cx.1 Cx.2.1 (dd_at td_X7_become 104 rfl) rfl (lv_at hl 1 rfl) ?_
    refine cc_gI (ci := 9) (C := RX7) (T := TX7) (N := 17) (k := 15) (ref := "EclipsesKept$State") Cx hM g2 rfl cc_inX7 rfl (by decide) cw333 (fun _ h => h) (dd_at td_X7_become 105 rfl) rfl ?_
    refine cc_pI (ci := 9) (C := RX7) (T := TX7) (N := 17) (k := 15) (ref := "EclipsesKept$State") (ty0 := tyX7) Cx hM g3 rfl cc_inX7 rfl (by decide) cw333 (fun _ h => h) tyX7_ok nmX7 rfl rfl rfl (dd_at td_X7_become 106 rfl) rfl (fun st34 H locs est34 hM => ?_)
    replace hf := fc_of_nm hf st34 est34
    refine lv_aload_n Cx.1 Cx.2.1 (dd_at td_X7_become 107 rfl) rfl (lv_at hl 0 rfl) ?_
    refine lv_aload_n Cx.1 Cx.2.1 (dd_at td_X7_become 108 rfl) rfl (lv_at hl 1 rfl) ?_
    refine cc_gP (ci := 9) (C := RX7) (T := TX7) (N := 17) (k := 16) (ref := "EclipsesKept$State") Cx hM g2 rfl cc_inX7 rfl (by decide) cw334 (fun _ h => h) (dd_at td_X7_become 109 rfl) rfl (fun hq => ?_) (fun y35 hq => ?_)
    · replace hf := fc_of_mn hf hq
      refine cc_pP (ci := 9) (C := RX7) (T := TX7) (N := 17) (k := 16) (ref := "EclipsesKept$State") (ty0 := tyX7) (v := none) Cx hM g3 rfl cc_inX7 rfl (by decide) cw334 (fun _ h => h) tyX7_ok nmX7 rfl rfl rfl rfl (dd_at td_X7_become 110 rfl) rfl rfl (fun st36 H locs est36 hM => ?_)
      replace hf := fc_of_nm hf st36 est36
      exact cc_rv Cx hM (dd_at td_X7_become 111 rfl) hf
    · replace hf := fc_of_ms hf hq
      refine cc_pP (ci := 9) (C := RX7) (T := TX7) (N := 17) (k := 16) (ref := "EclipsesKept$State") (ty0 := tyX7) (v := (some y35)) Cx hM g3 rfl cc_inX7 rfl (by decide) cw334 (fun _ h => h) tyX7_ok nmX7 rfl rfl rfl rfl (dd_at td_X7_become 110 rfl) rfl rfl (fun st37 H locs est37 hM => ?_)
      replace hf := fc_of_nm hf st37 est37
      exact cc_rv Cx hM (dd_at td_X7_become 111 rfl) hf
  · replace hf := fc_of_f hf c1
    refine lv_aload_n Cx.1 Cx.2.1 (dd_at td_X7_become 5 rfl) rfl (lv_at hl 0 rfl) ?_
    obtain ⟨g38, hf⟩ := fc_of_gd hf
    refine cc_gA (ci := 9) (C := RX7) (T := TX7) (N := 17) (k := 0) (ref := "EclipsesKept$State") Cx hM g38 rfl cc_inX7 rfl (by decide) cw318 (fun _ h => h) (dd_at td_X7_become 6 rfl) rfl ?_
    refine lv_iload_n Cx.1 Cx.2.1 (dd_at td_X7_become 7 rfl) rfl (lv_at hl 2 rfl) ?_
    refine lv_aload_n Cx.1 Cx.2.1 (dd_at td_X7_become 8 rfl) rfl (lv_at hl 1 rfl) ?_
    obtain ⟨g39, hf⟩ := fc_of_gd hf
    refine cc_gA (ci := 9) (C := RX7) (T := TX7) (N := 17) (k := 0) (ref := "EclipsesKept$State") Cx hM g39 rfl cc_inX7 rfl (by decide) cw318 (fun _ h => h) (dd_at td_X7_become 9 rfl) rfl ?_
    refine lv_iload_n Cx.1 Cx.2.1 (dd_at td_X7_become 10 rfl) rfl (lv_at hl 2 rfl) ?_
    obtain ⟨g40, hf⟩ := fc_of_gd hf
    refine cc_aldq Cx hM g40 (Or.inl rfl) (dd_at td_X7_become 11 rfl) (fun hq => ?_) (fun y41 hq => ?_)
    · replace hf := fc_of_mn hf hq
      obtain ⟨g42, hf⟩ := fc_of_gd hf
      refine cc_astn Cx hM g42 (by rw [cc_go_K g38]; rfl) (dd_at td_X7_become 12 rfl) (fun st43 H locs est43 hM => ?_)
      replace hf := fc_of_nm hf st43 est43
      obtain ⟨v44, ev44⟩ : ∃ y : Int32, y = x2 + (1 : Int32) := ⟨_, rfl⟩
      replace hf := fc_of_nm hf v44 ev44
      refine lv_iinc (v := v44) (lv' := [(2, .int v44), (0, .ref (cx_a X x0)), (1, .ref (cx_a X x1))]) Cx.1 Cx.2.1 (dd_at td_X7_become 13 rfl) hl (k := 2) rfl (by rw [ev44]; rfl) (by decide) rfl (fun ls hl => ?_)
      refine lv_goto (tgt := 2) Cx.1 Cx.2.1 (dd_at td_X7_become 14 rfl) (by decide) ?_
      exact hK2 x0 x1 v44 st43 _ _ _ hf (lv_sub hl [1, 2, 0] rfl) hM
    · replace hf := fc_of_ms hf hq
      obtain ⟨g45, hf⟩ := fc_of_gd hf
      obtain ⟨g46, hf⟩ := fc_of_gd hf
      refine cc_asto Cx hM g46 (by rw [cc_go_K g38]; rfl) g45 (dd_at td_X7_become 12 rfl) (fun st47 H locs est47 hM => ?_)
      replace hf := fc_of_nm hf st47 est47
      obtain ⟨v48, ev48⟩ : ∃ y : Int32, y = x2 + (1 : Int32) := ⟨_, rfl⟩
      replace hf := fc_of_nm hf v48 ev48
      refine lv_iinc (v := v48) (lv' := [(2, .int v48), (0, .ref (cx_a X x0)), (1, .ref (cx_a X x1))]) Cx.1 Cx.2.1 (dd_at td_X7_become 13 rfl) hl (k := 2) rfl (by rw [ev48]; rfl) (by decide) rfl (fun ls hl => ?_)
      refine lv_goto (tgt := 2) Cx.1 Cx.2.1 (dd_at td_X7_become 14 rfl) (by decide) ?_
      exact hK2 x0 x1 v48 st47 _ _ _ hf (lv_sub hl [1, 2, 0] rfl) hM
theorem w_X7_become_b2 {p : Program} {l : Launch} {e : Env} {s : State} {m : MethodId} {args : Array Value} {below : List Frame} {meth : Method} {c : Code} {D : va_G} {X : cc_X} {st' : cc_S} (Cx : cc_C p s m args meth c cX7_become 3 (none) RX7 D X) (fu : Nat) (n : Nat) : ∀ (x0 : Nat) (x1 : Nat) (x2 : Int32) (st : cc_S), C_X7_become_b2 X fu n x0 x1 x2 st = some st' → ∀ (H : Heap) (locs : List Loc) (ls : Array Slot), lv_has ls 3 [(0, .ref (cx_a X x0)), (1, .ref (cx_a X x1)), (2, .int x2)] → cc_H D X s.heap st H locs → W p l e (mm_R 1 40) s m args below meth c H locs 0 0 (MQ below (cc_Qv D X st') args s 0 0 (cc_A X)) (F0 m 2 ls []) := by
  induction n with
  | zero => exact fun _ _ _ _ hf => fc_no hf
  | succ n ih =>
    intro x0 x1 x2 st hf H locs ls hl hM
    exact w_X7_become_b2F Cx fu (fun x0 x1 x2 st => C_X7_become_b2 X fu n x0 x1 x2 st) (fun x0 x1 x2 st H locs ls hf hl hM => ih x0 x1 x2 st hf H locs ls hl hM) x0 x1 x2 st hf hl hM
theorem w_X7_become {p : Program} {l : Launch} {e : Env} {s : State} {m : MethodId} {args : Array Value} {below : List Frame} {meth : Method} {c : Code} {D : va_G} {X : cc_X} {st' : cc_S} (Cx : cc_C p s m args meth c cX7_become 3 (none) RX7 D X) (fu : Nat) (x0 : Nat) (x1 : Nat) (st : cc_S) (hf : C_X7_become X fu x0 x1 st = some st') {H : Heap} {locs : List Loc} {ls : Array Slot} (hl : lv_has ls 3 [(0, .ref (cx_a X x0)), (1, .ref (cx_a X x1))]) (hM : cc_H D X s.heap st H locs) : W p l e (mm_R 1 40) s m args below meth c H locs 0 0 (MQ below (cc_Qv D X st') args s 0 0 (cc_A X)) (F0 m 0 ls []) := by
  unfold C_X7_become at hf
  refine lv_iconst (v := (0 : Int32)) Cx.1 Cx.2.1 (dd_at td_X7_become 0 rfl) (by decide) ?_
  refine lv_istore_n (lv' := [(2, .int (0 : Int32)), (0, .ref (cx_a X x0)), (1, .ref (cx_a X x1))]) Cx.1 Cx.2.1 (dd_at td_X7_become 1 rfl) rfl hl (by decide) rfl (fun ls hl => ?_)
  exact w_X7_become_b2 Cx fu fu x0 x1 (0 : Int32) st hf _ _ _ (lv_sub hl [1, 2, 0] rfl) hM
theorem c_X7_become (l : Launch) (D : va_G) (X : cc_X) (fu : Nat) (x0 : Nat) (x1 : Nat) (st : cc_S) : cc_Mv l D X yX7_become cX7_become 3 (none) 1 40 [.ref (cx_a X x0), .ref (cx_a X x1)] st (C_X7_become X fu x0 x1 st) := by
  intro st' hf
  refine cc_enter (cc := cX7_become) (nL := 3) (ret := none) (by decide +kernel) rfl (Nat.le_of_ble_eq_true rfl) ?_
  intro p e s m args below meth c ls Cx hl hM
  exact w_X7_become Cx fu x0 x1 st hf hl hM

/-! X11_image -/
def tb_X11_image : List (Nat × Instr × Nat) := [(0, .aload_n 0, 1), (1, .getfield 18, 3), (4, .aload_n 0, 1), (5, .getfield 12, 3), (8, .invokevirtual 247, 3), (11, .aload_n 0, 1), (12, .iconst 1, 1), (13, .putfield 49, 3), (16, .aload_n 0, 1), (17, .getfield 18, 3), (20, .getfield 58, 3), (23, .ireturn, 1)]
theorem td_X11_image : tb_X11_image.all (fun q => decide (decode cX11_image q.1 = .ok (q.2.1, q.2.2))) = true := by decide +kernel
theorem hd_X11_image : yX11_image.cls = RX11 ∧ yX11_image.cls ≠ "java/lang/invoke/MethodHandle" ∧ yX11_image.cls ≠ "java/lang/invoke/VarHandle" ∧ (parseMethodDescriptor yX11_image.desc).map (fun d => d.parameters.length) = some 0 := by decide +kernel
theorem hs_X11_image : yX11_image.name ≠ "<init>" ∧ (parseMethodDescriptor yX11_image.desc).map (fun d => d.parameters.length) = some 0 := by decide +kernel
theorem w_X11_image {p : Program} {l : Launch} {e : Env} {s : State} {m : MethodId} {args : Array Value} {below : List Frame} {meth : Method} {c : Code} {D : va_G} {X : cc_X} {r : Int32} {st' : cc_S} (Cx : cc_C p s m args meth c cX11_image 1 (some .int) RX11 D X) (fu : Nat) (x0 : Nat) (st : cc_S) (hf : C_X11_image X fu x0 st = some (r, st')) {H : Heap} {locs : List Loc} {ls : Array Slot} (hl : lv_has ls 1 [(0, .ref (cx_a X x0))]) (hM : cc_H D X s.heap st H locs) : W p l e (mm_R 2 62) s m args below meth c H locs 0 0 (MQ below (cc_Qi D X r st') args s 0 0 (cc_A X)) (F0 m 0 ls []) := by
  unfold C_X11_image at hf
  refine lv_aload_n Cx.1 Cx.2.1 (dd_at td_X11_image 0 rfl) rfl (lv_at hl 0 rfl) ?_
  obtain ⟨g1, hf⟩ := fc_of_gd hf
  refine cc_gO (ci := 13) (C := RX11) (T := TX11) (N := 8) (k := 1) (ref := "EclipsesKept") Cx hM g1 rfl cc_inX11 rfl (by decide) cw499 (fun _ h => h) (dd_at td_X11_image 1 rfl) rfl ?_
  show W p l e (mm_R 2 62) s m args below meth c H locs 0 0 (MQ below (cc_Qi D X r st') args s 0 0 (cc_A X)) (F0 m 4 ls [.ref (cx_a X 2)])
  refine lv_aload_n Cx.1 Cx.2.1 (dd_at td_X11_image 2 rfl) rfl (lv_at hl 0 rfl) ?_
  refine cc_gO (ci := 13) (C := RX11) (T := TX11) (N := 8) (k := 0) (ref := "EclipsesKept") Cx hM g1 rfl cc_inX11 rfl (by decide) cw498 (fun _ h => h) (dd_at td_X11_image 3 rfl) rfl ?_
  show W p l e (mm_R 2 62) s m args below meth c H locs 0 0 (MQ below (cc_Qi D X r st') args s 0 0 (cc_A X)) (F0 m 8 ls [.ref (cx_a X 1), .ref (cx_a X 2)])
  obtain ⟨g2, hf⟩ := fc_of_gd hf
  obtain ⟨st3, hx4, hf⟩ := fc_of_bv hf
  refine cc_av hM (cc_rV (ci := 9) (As := [.ref (cx_a X 1)]) (rest := []) (n := 1) Cx hM g2 rfl (c_X7_become l D X fu 2 1 st st3 hx4) (cc_gdV cw818 cw819 cw820 cw345 cw335) hd_X7_become ⟨Nat.le_of_ble_eq_true rfl, Nat.le_of_ble_eq_true rfl⟩ rfl hl.1 rfl (Nat.le_of_ble_eq_true rfl) (dd_at td_X11_image 4 rfl) ⟨Nat.le_refl 0, Nat.le_refl 0⟩) (fun H locs hM => ?_)
  refine lv_aload_n Cx.1 Cx.2.1 (dd_at td_X11_image 5 rfl) rfl (lv_at hl 0 rfl) ?_
  refine lv_iconst (v := (1 : Int32)) Cx.1 Cx.2.1 (dd_at td_X11_image 6 rfl) (by decide) ?_
  refine cc_pI (ci := 13) (C := RX11) (T := TX11) (N := 8) (k := 7) (ref := "EclipsesKept") (ty0 := tyX11) Cx hM g1 rfl cc_inX11 rfl (by decide) cw511 (fun _ h => h) tyX11_ok nmX11 rfl rfl rfl (dd_at td_X11_image 7 rfl) rfl (fun st5 H locs est5 hM => ?_)
  replace hf := fc_of_nm hf st5 est5
  refine lv_aload_n Cx.1 Cx.2.1 (dd_at td_X11_image 8 rfl) rfl (lv_at hl 0 rfl) ?_
  refine cc_gO (ci := 13) (C := RX11) (T := TX11) (N := 8) (k := 1) (ref := "EclipsesKept") Cx hM g1 rfl cc_inX11 rfl (by decide) cw499 (fun _ h => h) (dd_at td_X11_image 9 rfl) rfl ?_
  show W p l e (mm_R 2 62) s m args below meth c H locs 0 0 (MQ below (cc_Qi D X r st') args s 0 0 (cc_A X)) (F0 m 20 ls [.ref (cx_a X 2)])
  refine cc_gI (ci := 9) (C := RX7) (T := TX7) (N := 17) (k := 9) (ref := "EclipsesKept$State") Cx hM g2 rfl cc_inX7 rfl (by decide) cw546 (fun _ h => h) (dd_at td_X11_image 10 rfl) rfl ?_
  exact cc_ri Cx hM (dd_at td_X11_image 11 rfl) hf
theorem c_X11_image (l : Launch) (D : va_G) (X : cc_X) (fu : Nat) (x0 : Nat) (st : cc_S) : cc_Mi l D X yX11_image cX11_image 1 (some .int) 2 62 [.ref (cx_a X x0)] st (C_X11_image X fu x0 st) := by
  intro r st' hf
  refine cc_enter (cc := cX11_image) (nL := 1) (ret := some .int) (by decide +kernel) rfl (Nat.le_of_ble_eq_true rfl) ?_
  intro p e s m args below meth c ls Cx hl hM
  exact w_X11_image Cx fu x0 st hf hl hM

/-! X11_undo -/
def tb_X11_undo : List (Nat × Instr × Nat) := [(0, .aload_n 0, 1), (1, .getfield 49, 3), (4, .ifCond .ne 6, 3), (7, .bipush (-3), 2), (9, .ireturn, 1), (10, .aload_n 0, 1), (11, .getfield 12, 3), (14, .aload_n 0, 1), (15, .getfield 18, 3), (18, .invokevirtual 247, 3), (21, .aload_n 0, 1), (22, .getfield 12, 3), (25, .getfield 58, 3), (28, .ireturn, 1)]
theorem td_X11_undo : tb_X11_undo.all (fun q => decide (decode cX11_undo q.1 = .ok (q.2.1, q.2.2))) = true := by decide +kernel
theorem hd_X11_undo : yX11_undo.cls = RX11 ∧ yX11_undo.cls ≠ "java/lang/invoke/MethodHandle" ∧ yX11_undo.cls ≠ "java/lang/invoke/VarHandle" ∧ (parseMethodDescriptor yX11_undo.desc).map (fun d => d.parameters.length) = some 0 := by decide +kernel
theorem hs_X11_undo : yX11_undo.name ≠ "<init>" ∧ (parseMethodDescriptor yX11_undo.desc).map (fun d => d.parameters.length) = some 0 := by decide +kernel
theorem w_X11_undo {p : Program} {l : Launch} {e : Env} {s : State} {m : MethodId} {args : Array Value} {below : List Frame} {meth : Method} {c : Code} {D : va_G} {X : cc_X} {r : Int32} {st' : cc_S} (Cx : cc_C p s m args meth c cX11_undo 1 (some .int) RX11 D X) (fu : Nat) (x0 : Nat) (st : cc_S) (hf : C_X11_undo X fu x0 st = some (r, st')) {H : Heap} {locs : List Loc} {ls : Array Slot} (hl : lv_has ls 1 [(0, .ref (cx_a X x0))]) (hM : cc_H D X s.heap st H locs) : W p l e (mm_R 2 62) s m args below meth c H locs 0 0 (MQ below (cc_Qi D X r st') args s 0 0 (cc_A X)) (F0 m 0 ls []) := by
  unfold C_X11_undo at hf
  refine lv_aload_n Cx.1 Cx.2.1 (dd_at td_X11_undo 0 rfl) rfl (lv_at hl 0 rfl) ?_
  obtain ⟨g1, hf⟩ := fc_of_gd hf
  refine cc_gI (ci := 13) (C := RX11) (T := TX11) (N := 8) (k := 7) (ref := "EclipsesKept") Cx hM g1 rfl cc_inX11 rfl (by decide) cw511 (fun _ h => h) (dd_at td_X11_undo 1 rfl) rfl ?_
  refine lv_if_ne (tgt := 10) Cx.1 Cx.2.1 (dd_at td_X11_undo 2 rfl) (by decide) (fun c2 => ?_) (fun c2 => ?_)
  · replace hf := fc_of_f hf c2
    refine lv_aload_n Cx.1 Cx.2.1 (dd_at td_X11_undo 5 rfl) rfl (lv_at hl 0 rfl) ?_
    refine cc_gO (ci := 13) (C := RX11) (T := TX11) (N := 8) (k := 0) (ref := "EclipsesKept") Cx hM g1 rfl cc_inX11 rfl (by decide) cw498 (fun _ h => h) (dd_at td_X11_undo 6 rfl) rfl ?_
    show W p l e (mm_R 2 62) s m args below meth c H locs 0 0 (MQ below (cc_Qi D X r st') args s 0 0 (cc_A X)) (F0 m 14 ls [.ref (cx_a X 1)])
    refine lv_aload_n Cx.1 Cx.2.1 (dd_at td_X11_undo 7 rfl) rfl (lv_at hl 0 rfl) ?_
    refine cc_gO (ci := 13) (C := RX11) (T := TX11) (N := 8) (k := 1) (ref := "EclipsesKept") Cx hM g1 rfl cc_inX11 rfl (by decide) cw499 (fun _ h => h) (dd_at td_X11_undo 8 rfl) rfl ?_
    show W p l e (mm_R 2 62) s m args below meth c H locs 0 0 (MQ below (cc_Qi D X r st') args s 0 0 (cc_A X)) (F0 m 18 ls [.ref (cx_a X 2), .ref (cx_a X 1)])
    obtain ⟨g3, hf⟩ := fc_of_gd hf
    obtain ⟨st4, hx5, hf⟩ := fc_of_bv hf
    refine cc_av hM (cc_rV (ci := 9) (As := [.ref (cx_a X 2)]) (rest := []) (n := 1) Cx hM g3 rfl (c_X7_become l D X fu 1 2 st st4 hx5) (cc_gdV cw818 cw819 cw820 cw345 cw335) hd_X7_become ⟨Nat.le_of_ble_eq_true rfl, Nat.le_of_ble_eq_true rfl⟩ rfl hl.1 rfl (Nat.le_of_ble_eq_true rfl) (dd_at td_X11_undo 9 rfl) ⟨Nat.le_refl 0, Nat.le_refl 0⟩) (fun H locs hM => ?_)
    refine lv_aload_n Cx.1 Cx.2.1 (dd_at td_X11_undo 10 rfl) rfl (lv_at hl 0 rfl) ?_
    refine cc_gO (ci := 13) (C := RX11) (T := TX11) (N := 8) (k := 0) (ref := "EclipsesKept") Cx hM g1 rfl cc_inX11 rfl (by decide) cw498 (fun _ h => h) (dd_at td_X11_undo 11 rfl) rfl ?_
    show W p l e (mm_R 2 62) s m args below meth c H locs 0 0 (MQ below (cc_Qi D X r st') args s 0 0 (cc_A X)) (F0 m 25 ls [.ref (cx_a X 1)])
    refine cc_gI (ci := 9) (C := RX7) (T := TX7) (N := 17) (k := 9) (ref := "EclipsesKept$State") Cx hM g3 rfl cc_inX7 rfl (by decide) cw546 (fun _ h => h) (dd_at td_X11_undo 12 rfl) rfl ?_
    exact cc_ri Cx hM (dd_at td_X11_undo 13 rfl) hf
  · replace hf := fc_of_t hf c2
    refine lv_bipush (v := (-3 : Int32)) Cx.1 Cx.2.1 (dd_at td_X11_undo 3 rfl) (by decide) ?_
    exact cc_ri Cx hM (dd_at td_X11_undo 4 rfl) hf
theorem c_X11_undo (l : Launch) (D : va_G) (X : cc_X) (fu : Nat) (x0 : Nat) (st : cc_S) : cc_Mi l D X yX11_undo cX11_undo 1 (some .int) 2 62 [.ref (cx_a X x0)] st (C_X11_undo X fu x0 st) := by
  intro r st' hf
  refine cc_enter (cc := cX11_undo) (nL := 1) (ret := some .int) (by decide +kernel) rfl (Nat.le_of_ble_eq_true rfl) ?_
  intro p e s m args below meth c ls Cx hl hM
  exact w_X11_undo Cx fu x0 st hf hl hM

/-! X11_shift -/
def tb_X11_shift : List (Nat × Instr × Nat) := [(0, .aload_n 0, 1), (1, .iload_n 1, 1), (2, .invokevirtual 232, 3), (5, .astore 6, 2), (7, .aload_n 0, 1), (8, .iload_n 3, 1), (9, .invokevirtual 232, 3), (12, .astore 7, 2), (14, .aload 6, 2), (16, .ifnull 8, 3), (19, .aload 7, 2), (21, .ifnonnull 5, 3), (24, .iconst (-1), 1), (25, .ireturn, 1), (26, .aload 6, 2), (28, .invokevirtual 236, 3), (31, .ifCond .eq 11, 3), (34, .aload 7, 2), (36, .invokevirtual 236, 3), (39, .ifCond .ne 6, 3), (42, .bipush (-11), 2), (44, .ireturn, 1), (45, .aload 6, 2), (47, .getfield 239, 3), (50, .aload 7, 2), (52, .getfield 239, 3), (55, .if_icmp .eq 6, 3), (58, .bipush (-12), 2), (60, .ireturn, 1), (61, .aload 6, 2), (63, .iload_n 2, 1), (64, .iload 5, 2), (66, .invokevirtual 274, 3), (69, .ifCond .eq 15, 3), (72, .aload 7, 2), (74, .iload 4, 2), (76, .iload 5, 2), (78, .invokevirtual 274, 3), (81, .ifCond .ne 6, 3), (84, .bipush (-13), 2), (86, .ireturn, 1), (87, .aload 6, 2), (89, .getfield 244, 3), (92, .iload_n 2, 1), (93, .aload 7, 2), (95, .getfield 244, 3), (98, .iload 4, 2), (100, .iload 5, 2), (102, .invokestatic 277, 3), (105, .iload 5, 2), (107, .ireturn, 1)]
theorem td_X11_shift : tb_X11_shift.all (fun q => decide (decode cX11_shift q.1 = .ok (q.2.1, q.2.2))) = true := by decide +kernel
theorem hd_X11_shift : yX11_shift.cls = RX11 ∧ yX11_shift.cls ≠ "java/lang/invoke/MethodHandle" ∧ yX11_shift.cls ≠ "java/lang/invoke/VarHandle" ∧ (parseMethodDescriptor yX11_shift.desc).map (fun d => d.parameters.length) = some 5 := by decide +kernel
theorem hs_X11_shift : yX11_shift.name ≠ "<init>" ∧ (parseMethodDescriptor yX11_shift.desc).map (fun d => d.parameters.length) = some 5 := by decide +kernel
theorem w_X11_shift {p : Program} {l : Launch} {e : Env} {s : State} {m : MethodId} {args : Array Value} {below : List Frame} {meth : Method} {c : Code} {D : va_G} {X : cc_X} {r : Int32} {st' : cc_S} (Cx : cc_C p s m args meth c cX11_shift 8 (some .int) RX11 D X) (fu : Nat) (x0 : Nat) (x1 : Int32) (x2 : Int32) (x3 : Int32) (x4 : Int32) (x5 : Int32) (st : cc_S) (hf : C_X11_shift X fu x0 x1 x2 x3 x4 x5 st = some (r, st')) {H : Heap} {locs : List Loc} {ls : Array Slot} (hl : lv_has ls 8 [(0, .ref (cx_a X x0)), (1, .int x1), (2, .int x2), (3, .int x3), (4, .int x4), (5, .int x5)]) (hM : cc_H D X s.heap st H locs) : W p l e (mm_R 2 42) s m args below meth c H locs 0 0 (MQ below (cc_Qi D X r st') args s 0 0 (cc_A X)) (F0 m 0 ls []) := by
  unfold C_X11_shift at hf
  refine lv_aload_n Cx.1 Cx.2.1 (dd_at td_X11_shift 0 rfl) rfl (lv_at hl 0 rfl) ?_
  refine lv_iload_n Cx.1 Cx.2.1 (dd_at td_X11_shift 1 rfl) rfl (lv_at hl 1 rfl) ?_
  obtain ⟨g1, hf⟩ := fc_of_gd hf
  obtain ⟨r4, st2, hx3, hf⟩ := fc_of_bn hf
  refine cc_aq hM (cc_rV (ci := 13) (As := [.int x1]) (rest := []) (n := 1) Cx hM g1 rfl (c_X11_tapeOf l D X fu x0 x1 st r4 st2 hx3) (cc_gdV cw811 cw812 cw813 cw549 cw807) hd_X11_tapeOf ⟨Nat.le_of_ble_eq_true rfl, Nat.le_of_ble_eq_true rfl⟩ rfl hl.1 rfl (Nat.le_of_ble_eq_true rfl) (dd_at td_X11_shift 2 rfl) ⟨Nat.le_refl 0, Nat.le_refl 0⟩) (fun H locs hq hM => ?_) (fun y5 H locs hq hM => ?_)
  · replace hf := fc_of_mn hf hq
    refine lv_astoreN (lv' := [(6, .null), (0, .ref (cx_a X x0)), (1, .int x1), (2, .int x2), (3, .int x3), (4, .int x4), (5, .int x5)]) Cx.1 Cx.2.1 (dd_at td_X11_shift 3 rfl) hl (by decide) rfl (fun ls hl => ?_)
    refine lv_aload_n Cx.1 Cx.2.1 (dd_at td_X11_shift 4 rfl) rfl (lv_at hl 1 rfl) ?_
    refine lv_iload_n Cx.1 Cx.2.1 (dd_at td_X11_shift 5 rfl) rfl (lv_at hl 4 rfl) ?_
    obtain ⟨r8, st6, hx7, hf⟩ := fc_of_bn hf
    refine cc_aq hM (cc_rV (ci := 13) (As := [.int x3]) (rest := []) (n := 1) Cx hM g1 rfl (c_X11_tapeOf l D X fu x0 x3 st2 r8 st6 hx7) (cc_gdV cw811 cw812 cw813 cw549 cw807) hd_X11_tapeOf ⟨Nat.le_of_ble_eq_true rfl, Nat.le_of_ble_eq_true rfl⟩ rfl hl.1 rfl (Nat.le_of_ble_eq_true rfl) (dd_at td_X11_shift 6 rfl) ⟨Nat.le_refl 0, Nat.le_refl 0⟩) (fun H locs hq hM => ?_) (fun y9 H locs hq hM => ?_)
    · replace hf := fc_of_mn hf hq
      refine lv_astoreN (lv' := [(7, .null), (6, .null), (0, .ref (cx_a X x0)), (1, .int x1), (2, .int x2), (3, .int x3), (4, .int x4), (5, .int x5)]) Cx.1 Cx.2.1 (dd_at td_X11_shift 7 rfl) hl (by decide) rfl (fun ls hl => ?_)
      refine lv_aloadN Cx.1 Cx.2.1 (dd_at td_X11_shift 8 rfl) (lv_at hl 1 rfl) ?_
      refine lv_ifnullN (tgt := 24) Cx.1 Cx.2.1 (dd_at td_X11_shift 9 rfl) (by decide) ?_
      refine lv_iconst (v := (-1 : Int32)) Cx.1 Cx.2.1 (dd_at td_X11_shift 12 rfl) (by decide) ?_
      exact cc_ri Cx hM (dd_at td_X11_shift 13 rfl) hf
    · replace hf := fc_of_ms hf hq
      refine lv_astore (lv' := [(7, .ref (cx_a X y9)), (6, .null), (0, .ref (cx_a X x0)), (1, .int x1), (2, .int x2), (3, .int x3), (4, .int x4), (5, .int x5)]) Cx.1 Cx.2.1 (dd_at td_X11_shift 7 rfl) hl (by decide) rfl (fun ls hl => ?_)
      refine lv_aloadN Cx.1 Cx.2.1 (dd_at td_X11_shift 8 rfl) (lv_at hl 1 rfl) ?_
      refine lv_ifnullN (tgt := 24) Cx.1 Cx.2.1 (dd_at td_X11_shift 9 rfl) (by decide) ?_
      refine lv_iconst (v := (-1 : Int32)) Cx.1 Cx.2.1 (dd_at td_X11_shift 12 rfl) (by decide) ?_
      exact cc_ri Cx hM (dd_at td_X11_shift 13 rfl) hf
  · replace hf := fc_of_ms hf hq
    refine lv_astore (lv' := [(6, .ref (cx_a X y5)), (0, .ref (cx_a X x0)), (1, .int x1), (2, .int x2), (3, .int x3), (4, .int x4), (5, .int x5)]) Cx.1 Cx.2.1 (dd_at td_X11_shift 3 rfl) hl (by decide) rfl (fun ls hl => ?_)
    refine lv_aload_n Cx.1 Cx.2.1 (dd_at td_X11_shift 4 rfl) rfl (lv_at hl 1 rfl) ?_
    refine lv_iload_n Cx.1 Cx.2.1 (dd_at td_X11_shift 5 rfl) rfl (lv_at hl 4 rfl) ?_
    obtain ⟨r12, st10, hx11, hf⟩ := fc_of_bn hf
    refine cc_aq hM (cc_rV (ci := 13) (As := [.int x3]) (rest := []) (n := 1) Cx hM g1 rfl (c_X11_tapeOf l D X fu x0 x3 st2 r12 st10 hx11) (cc_gdV cw811 cw812 cw813 cw549 cw807) hd_X11_tapeOf ⟨Nat.le_of_ble_eq_true rfl, Nat.le_of_ble_eq_true rfl⟩ rfl hl.1 rfl (Nat.le_of_ble_eq_true rfl) (dd_at td_X11_shift 6 rfl) ⟨Nat.le_refl 0, Nat.le_refl 0⟩) (fun H locs hq hM => ?_) (fun y13 H locs hq hM => ?_)
    · replace hf := fc_of_mn hf hq
      refine lv_astoreN (lv' := [(7, .null), (6, .ref (cx_a X y5)), (0, .ref (cx_a X x0)), (1, .int x1), (2, .int x2), (3, .int x3), (4, .int x4), (5, .int x5)]) Cx.1 Cx.2.1 (dd_at td_X11_shift 7 rfl) hl (by decide) rfl (fun ls hl => ?_)
      refine lv_aload Cx.1 Cx.2.1 (dd_at td_X11_shift 8 rfl) (lv_at hl 1 rfl) ?_
      refine lv_ifnull Cx.1 Cx.2.1 (dd_at td_X11_shift 9 rfl) ?_
      refine lv_aloadN Cx.1 Cx.2.1 (dd_at td_X11_shift 10 rfl) (lv_at hl 0 rfl) ?_
      refine lv_ifnonnullN Cx.1 Cx.2.1 (dd_at td_X11_shift 11 rfl) ?_
      refine lv_iconst (v := (-1 : Int32)) Cx.1 Cx.2.1 (dd_at td_X11_shift 12 rfl) (by decide) ?_
      exact cc_ri Cx hM (dd_at td_X11_shift 13 rfl) hf
    · replace hf := fc_of_ms hf hq
      refine lv_astore (lv' := [(7, .ref (cx_a X y13)), (6, .ref (cx_a X y5)), (0, .ref (cx_a X x0)), (1, .int x1), (2, .int x2), (3, .int x3), (4, .int x4), (5, .int x5)]) Cx.1 Cx.2.1 (dd_at td_X11_shift 7 rfl) hl (by decide) rfl (fun ls hl => ?_)
      refine lv_aload Cx.1 Cx.2.1 (dd_at td_X11_shift 8 rfl) (lv_at hl 1 rfl) ?_
      refine lv_ifnull Cx.1 Cx.2.1 (dd_at td_X11_shift 9 rfl) ?_
      refine lv_aload Cx.1 Cx.2.1 (dd_at td_X11_shift 10 rfl) (lv_at hl 0 rfl) ?_
      refine lv_ifnonnull (tgt := 26) Cx.1 Cx.2.1 (dd_at td_X11_shift 11 rfl) (by decide) ?_
      refine lv_aload Cx.1 Cx.2.1 (dd_at td_X11_shift 14 rfl) (lv_at hl 1 rfl) ?_
      obtain ⟨g14, hf⟩ := fc_of_gd hf
      obtain ⟨r17, st15, hx16, hf⟩ := fc_of_bn hf
      refine cc_ai hM (cc_rV (ci := 10) (As := []) (rest := []) (n := 0) Cx hM g14 rfl (c_X8_holds l D X fu y5 st10 r17 st15 hx16) (cc_gdV cw814 cw815 cw816 cw513 cw406) hd_X8_holds ⟨Nat.le_of_ble_eq_true rfl, Nat.le_of_ble_eq_true rfl⟩ rfl hl.1 rfl (Nat.le_of_ble_eq_true rfl) (dd_at td_X11_shift 15 rfl) ⟨Nat.le_refl 0, Nat.le_refl 0⟩) (fun H locs hM => ?_)
      refine lv_if_eq (tgt := 42) Cx.1 Cx.2.1 (dd_at td_X11_shift 16 rfl) (by decide) (fun c18 => ?_) (fun c18 => ?_)
      · replace hf := fc_of_t hf c18
        refine lv_bipush (v := (-11 : Int32)) Cx.1 Cx.2.1 (dd_at td_X11_shift 20 rfl) (by decide) ?_
        exact cc_ri Cx hM (dd_at td_X11_shift 21 rfl) hf
      · replace hf := fc_of_f hf c18
        refine lv_aload Cx.1 Cx.2.1 (dd_at td_X11_shift 17 rfl) (lv_at hl 0 rfl) ?_
        obtain ⟨g19, hf⟩ := fc_of_gd hf
        obtain ⟨r22, st20, hx21, hf⟩ := fc_of_bn hf
        refine cc_ai hM (cc_rV (ci := 10) (As := []) (rest := []) (n := 0) Cx hM g19 rfl (c_X8_holds l D X fu y13 st15 r22 st20 hx21) (cc_gdV cw814 cw815 cw816 cw513 cw406) hd_X8_holds ⟨Nat.le_of_ble_eq_true rfl, Nat.le_of_ble_eq_true rfl⟩ rfl hl.1 rfl (Nat.le_of_ble_eq_true rfl) (dd_at td_X11_shift 18 rfl) ⟨Nat.le_refl 0, Nat.le_refl 0⟩) (fun H locs hM => ?_)
        refine lv_if_ne (tgt := 45) Cx.1 Cx.2.1 (dd_at td_X11_shift 19 rfl) (by decide) (fun c23 => ?_) (fun c23 => ?_)
        · replace hf := fc_of_f hf c23
          refine lv_aload Cx.1 Cx.2.1 (dd_at td_X11_shift 22 rfl) (lv_at hl 1 rfl) ?_
          refine cc_gI (ci := 10) (C := RX8) (T := TX8) (N := 3) (k := 1) (ref := "EclipsesKept$Tape") Cx hM g14 rfl cc_inX8 rfl (by decide) cw808 (fun _ h => h) (dd_at td_X11_shift 23 rfl) rfl ?_
          refine lv_aload Cx.1 Cx.2.1 (dd_at td_X11_shift 24 rfl) (lv_at hl 0 rfl) ?_
          refine cc_gI (ci := 10) (C := RX8) (T := TX8) (N := 3) (k := 1) (ref := "EclipsesKept$Tape") Cx hM g19 rfl cc_inX8 rfl (by decide) cw808 (fun _ h => h) (dd_at td_X11_shift 25 rfl) rfl ?_
          refine lv_icmp_eq (tgt := 61) Cx.1 Cx.2.1 (dd_at td_X11_shift 26 rfl) (by decide) (fun c24 => ?_) (fun c24 => ?_)
          · replace hf := fc_of_t hf c24
            refine lv_aload Cx.1 Cx.2.1 (dd_at td_X11_shift 29 rfl) (lv_at hl 1 rfl) ?_
            refine lv_iload_n Cx.1 Cx.2.1 (dd_at td_X11_shift 30 rfl) rfl (lv_at hl 4 rfl) ?_
            refine lv_iload Cx.1 Cx.2.1 (dd_at td_X11_shift 31 rfl) (lv_at hl 7 rfl) ?_
            obtain ⟨r27, st25, hx26, hf⟩ := fc_of_bn hf
            refine cc_ai hM (cc_rV (ci := 10) (As := [.int x2, .int x5]) (rest := []) (n := 2) Cx hM g14 rfl (c_X8_hasRun l D X fu y5 x2 x5 st20 r27 st25 hx26) (cc_gdV cw864 cw865 cw866 cw513 cw409) hd_X8_hasRun ⟨Nat.le_of_ble_eq_true rfl, Nat.le_of_ble_eq_true rfl⟩ rfl hl.1 rfl (Nat.le_of_ble_eq_true rfl) (dd_at td_X11_shift 32 rfl) ⟨Nat.le_refl 0, Nat.le_refl 0⟩) (fun H locs hM => ?_)
            refine lv_if_eq (tgt := 84) Cx.1 Cx.2.1 (dd_at td_X11_shift 33 rfl) (by decide) (fun c28 => ?_) (fun c28 => ?_)
            · replace hf := fc_of_t hf c28
              refine lv_bipush (v := (-13 : Int32)) Cx.1 Cx.2.1 (dd_at td_X11_shift 39 rfl) (by decide) ?_
              exact cc_ri Cx hM (dd_at td_X11_shift 40 rfl) hf
            · replace hf := fc_of_f hf c28
              refine lv_aload Cx.1 Cx.2.1 (dd_at td_X11_shift 34 rfl) (lv_at hl 0 rfl) ?_
              refine lv_iload Cx.1 Cx.2.1 (dd_at td_X11_shift 35 rfl) (lv_at hl 6 rfl) ?_
              refine lv_iload Cx.1 Cx.2.1 (dd_at td_X11_shift 36 rfl) (lv_at hl 7 rfl) ?_
              obtain ⟨r31, st29, hx30, hf⟩ := fc_of_bn hf
              refine cc_ai hM (cc_rV (ci := 10) (As := [.int x4, .int x5]) (rest := []) (n := 2) Cx hM g19 rfl (c_X8_hasRun l D X fu y13 x4 x5 st25 r31 st29 hx30) (cc_gdV cw864 cw865 cw866 cw513 cw409) hd_X8_hasRun ⟨Nat.le_of_ble_eq_true rfl, Nat.le_of_ble_eq_true rfl⟩ rfl hl.1 rfl (Nat.le_of_ble_eq_true rfl) (dd_at td_X11_shift 37 rfl) ⟨Nat.le_refl 0, Nat.le_refl 0⟩) (fun H locs hM => ?_)
              refine lv_if_ne (tgt := 87) Cx.1 Cx.2.1 (dd_at td_X11_shift 38 rfl) (by decide) (fun c32 => ?_) (fun c32 => ?_)
              · replace hf := fc_of_f hf c32
                refine lv_aload Cx.1 Cx.2.1 (dd_at td_X11_shift 41 rfl) (lv_at hl 1 rfl) ?_
                refine cc_gA (ci := 10) (C := RX8) (T := TX8) (N := 3) (k := 0) (ref := "EclipsesKept$Tape") Cx hM g14 rfl cc_inX8 rfl (by decide) cw810 (fun _ h => h) (dd_at td_X11_shift 42 rfl) rfl ?_
                refine lv_iload_n Cx.1 Cx.2.1 (dd_at td_X11_shift 43 rfl) rfl (lv_at hl 4 rfl) ?_
                refine lv_aload Cx.1 Cx.2.1 (dd_at td_X11_shift 44 rfl) (lv_at hl 0 rfl) ?_
                refine cc_gA (ci := 10) (C := RX8) (T := TX8) (N := 3) (k := 0) (ref := "EclipsesKept$Tape") Cx hM g19 rfl cc_inX8 rfl (by decide) cw810 (fun _ h => h) (dd_at td_X11_shift 45 rfl) rfl ?_
                refine lv_iload Cx.1 Cx.2.1 (dd_at td_X11_shift 46 rfl) (lv_at hl 6 rfl) ?_
                refine lv_iload Cx.1 Cx.2.1 (dd_at td_X11_shift 47 rfl) (lv_at hl 7 rfl) ?_
                obtain ⟨g33, hf⟩ := fc_of_gd hf
                obtain ⟨g34, hf⟩ := fc_of_gd hf
                refine cc_cpl Cx hM g33 g34 hl.1 cw863 cw337 cw338 cw339 (Nat.le_of_ble_eq_true rfl) (by decide) (dd_at td_X11_shift 48 rfl) (fun st35 H locs est35 hM => ?_)
                replace hf := fc_of_nm hf st35 est35
                refine lv_iload Cx.1 Cx.2.1 (dd_at td_X11_shift 49 rfl) (lv_at hl 7 rfl) ?_
                exact cc_ri Cx hM (dd_at td_X11_shift 50 rfl) hf
              · replace hf := fc_of_t hf c32
                refine lv_bipush (v := (-13 : Int32)) Cx.1 Cx.2.1 (dd_at td_X11_shift 39 rfl) (by decide) ?_
                exact cc_ri Cx hM (dd_at td_X11_shift 40 rfl) hf
          · replace hf := fc_of_f hf c24
            refine lv_bipush (v := (-12 : Int32)) Cx.1 Cx.2.1 (dd_at td_X11_shift 27 rfl) (by decide) ?_
            exact cc_ri Cx hM (dd_at td_X11_shift 28 rfl) hf
        · replace hf := fc_of_t hf c23
          refine lv_bipush (v := (-11 : Int32)) Cx.1 Cx.2.1 (dd_at td_X11_shift 20 rfl) (by decide) ?_
          exact cc_ri Cx hM (dd_at td_X11_shift 21 rfl) hf
theorem c_X11_shift (l : Launch) (D : va_G) (X : cc_X) (fu : Nat) (x0 : Nat) (x1 : Int32) (x2 : Int32) (x3 : Int32) (x4 : Int32) (x5 : Int32) (st : cc_S) : cc_Mi l D X yX11_shift cX11_shift 8 (some .int) 2 42 [.ref (cx_a X x0), .int x1, .int x2, .int x3, .int x4, .int x5] st (C_X11_shift X fu x0 x1 x2 x3 x4 x5 st) := by
  intro r st' hf
  refine cc_enter (cc := cX11_shift) (nL := 8) (ret := some .int) (by decide +kernel) rfl (Nat.le_of_ble_eq_true rfl) ?_
  intro p e s m args below meth c ls Cx hl hM
  exact w_X11_shift Cx fu x0 x1 x2 x3 x4 x5 st hf hl hM

