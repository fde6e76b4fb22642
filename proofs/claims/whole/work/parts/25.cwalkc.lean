/-! X10_look -/
def tb_X10_look : List (Nat × Instr × Nat) := [(0, .aload_n 0, 1), (1, .aload_n 1, 1), (2, .getfield 40, 3), (5, .putfield 27, 3), (8, .aload_n 0, 1), (9, .iload_n 3, 1), (10, .putfield 31, 3), (13, .aload_n 0, 1), (14, .aload_n 1, 1), (15, .invokevirtual 45, 3), (18, .putfield 34, 3), (21, .aload_n 0, 1), (22, .iload_n 2, 1), (23, .putfield 37, 3), (26, .aload_n 0, 1), (27, .getfield 15, 3), (30, .iconst 0, 1), (31, .lconst 1, 1), (32, .lastore, 1), (33, .iconst 1, 1), (34, .istore 4, 2), (36, .iload 4, 2), (38, .iload_n 2, 1), (39, .if_icmp .gt 31, 3), (42, .aload_n 0, 1), (43, .getfield 15, 3), (46, .iload 4, 2), (48, .aload_n 0, 1), (49, .getfield 15, 3), (52, .iload 4, 2), (54, .iconst 1, 1), (55, .isub, 1), (56, .laload, 1), (57, .aload_n 0, 1), (58, .getfield 27, 3), (61, .i2l, 1), (62, .lmul, 1), (63, .lastore, 1), (64, .iinc 4 1, 3), (67, .goto (-31), 3), (70, .iconst 0, 1), (71, .istore 4, 2), (73, .iload 4, 2), (75, .iload_n 2, 1), (76, .if_icmp .ge 71, 3), (79, .iconst 1, 1), (80, .istore 5, 2), (82, .iload 5, 2), (84, .iload_n 3, 1), (85, .if_icmp .gt 56, 3), (88, .iconst 0, 1), (89, .istore 6, 2), (91, .iload 6, 2), (93, .aload_n 0, 1), (94, .getfield 27, 3), (97, .if_icmp .ge 38, 3), (100, .aload_n 0, 1), (101, .getfield 9, 3), (104, .iload 4, 2), (106, .iload 5, 2), (108, .iload 6, 2), (110, .invokestatic 49, 3), (113, .aload_n 1, 1), (114, .iload 6, 2), (116, .aload_n 1, 1), (117, .getfield 53, 3), (120, .iload 4, 2), (122, .iadd, 1), (123, .iload 5, 2), (125, .invokevirtual 56, 3), (128, .iastore, 1), (129, .iinc 6 1, 3), (132, .goto (-41), 3), (135, .iinc 5 1, 3), (138, .goto (-56), 3), (141, .iinc 4 1, 3), (144, .goto (-71), 3), (147, .return_, 1)]
theorem td_X10_look : tb_X10_look.all (fun q => decide (decode cX10_look q.1 = .ok (q.2.1, q.2.2))) = true := by decide +kernel
theorem hd_X10_look : yX10_look.cls = RX10 ∧ yX10_look.cls ≠ "java/lang/invoke/MethodHandle" ∧ yX10_look.cls ≠ "java/lang/invoke/VarHandle" ∧ (parseMethodDescriptor yX10_look.desc).map (fun d => d.parameters.length) = some 3 := by decide +kernel
theorem hs_X10_look : yX10_look.name ≠ "<init>" ∧ (parseMethodDescriptor yX10_look.desc).map (fun d => d.parameters.length) = some 3 := by decide +kernel
theorem w_X10_look_b91F {p : Program} {l : Launch} {e : Env} {s : State} {m : MethodId} {args : Array Value} {below : List Frame} {meth : Method} {c : Code} {D : va_G} {X : cc_X} {st' : cc_S} (Cx : cc_C p s m args meth c cX10_look 7 (none) RX10 D X) (fu : Nat) (K73 : Nat → Nat → Int32 → Int32 → Int32 → cc_S → Option cc_S) (hK73 : ∀ (x0 : Nat) (x1 : Nat) (x2 : Int32) (x3 : Int32) (x4 : Int32) (st : cc_S) (H : Heap) (locs : List Loc) (ls : Array Slot), K73 x0 x1 x2 x3 x4 st = some st' → lv_has ls 7 [(0, .ref (cx_a X x0)), (1, .ref (cx_a X x1)), (2, .int x2), (3, .int x3), (4, .int x4)] → cc_H D X s.heap st H locs → W p l e (mm_R 5 135) s m args below meth c H locs 0 0 (MQ below (cc_Qv D X st') args s 0 0 (cc_A X)) (F0 m 73 ls [])) (K82 : Nat → Nat → Int32 → Int32 → Int32 → Int32 → cc_S → Option cc_S) (hK82 : ∀ (x0 : Nat) (x1 : Nat) (x2 : Int32) (x3 : Int32) (x4 : Int32) (x5 : Int32) (st : cc_S) (H : Heap) (locs : List Loc) (ls : Array Slot), K82 x0 x1 x2 x3 x4 x5 st = some st' → lv_has ls 7 [(0, .ref (cx_a X x0)), (1, .ref (cx_a X x1)), (2, .int x2), (3, .int x3), (4, .int x4), (5, .int x5)] → cc_H D X s.heap st H locs → W p l e (mm_R 5 135) s m args below meth c H locs 0 0 (MQ below (cc_Qv D X st') args s 0 0 (cc_A X)) (F0 m 82 ls [])) (K91 : Nat → Nat → Int32 → Int32 → Int32 → Int32 → Int32 → cc_S → Option cc_S) (hK91 : ∀ (x0 : Nat) (x1 : Nat) (x2 : Int32) (x3 : Int32) (x4 : Int32) (x5 : Int32) (x6 : Int32) (st : cc_S) (H : Heap) (locs : List Loc) (ls : Array Slot), K91 x0 x1 x2 x3 x4 x5 x6 st = some st' → lv_has ls 7 [(0, .ref (cx_a X x0)), (1, .ref (cx_a X x1)), (2, .int x2), (3, .int x3), (4, .int x4), (5, .int x5), (6, .int x6)] → cc_H D X s.heap st H locs → W p l e (mm_R 5 135) s m args below meth c H locs 0 0 (MQ below (cc_Qv D X st') args s 0 0 (cc_A X)) (F0 m 91 ls [])) (x0 : Nat) (x1 : Nat) (x2 : Int32) (x3 : Int32) (x4 : Int32) (x5 : Int32) (x6 : Int32) (st : cc_S) (hf : C_X10_look_b91F X fu K73 K82 K91 x0 x1 x2 x3 x4 x5 x6 st = some st') {H : Heap} {locs : List Loc} {ls : Array Slot} (hl : lv_has ls 7 [(0, .ref (cx_a X x0)), (1, .ref (cx_a X x1)), (2, .int x2), (3, .int x3), (4, .int x4), (5, .int x5), (6, .int x6)]) (hM : cc_H D X s.heap st H locs) : W p l e (mm_R 5 135) s m args below meth c H locs 0 0 (MQ below (cc_Qv D X st') args s 0 0 (cc_A X)) (F0 m 91 ls []) := by
  unfold C_X10_look_b91F at hf
  refine lv_iload Cx.1 Cx.2.1 (dd_at td_X10_look 52 rfl) (lv_at hl 6 rfl) ?_
  refine lv_aload_n Cx.1 Cx.2.1 (dd_at td_X10_look 53 rfl) rfl (lv_at hl 0 rfl) ?_
  obtain ⟨g21, hf⟩ := fc_of_gd hf
  refine cc_gI (ci := 12) (C := RX10) (T := TX10) (N := 8) (k := 4) (ref := "EclipsesKept$Years") Cx hM g21 rfl cc_inX10 rfl (by decide) cw421 (fun _ h => h) (dd_at td_X10_look 54 rfl) rfl ?_
  refine lv_icmp_ge (tgt := 135) Cx.1 Cx.2.1 (dd_at td_X10_look 55 rfl) (by decide) (fun c22 => ?_) (fun c22 => ?_)
  · replace hf := fc_of_t hf c22
    obtain ⟨v23, ev23⟩ : ∃ y : Int32, y = x5 + (1 : Int32) := ⟨_, rfl⟩
    replace hf := fc_of_nm hf v23 ev23
    refine lv_iinc (v := v23) (lv' := [(5, .int v23), (0, .ref (cx_a X x0)), (1, .ref (cx_a X x1)), (2, .int x2), (3, .int x3), (4, .int x4), (6, .int x6)]) Cx.1 Cx.2.1 (dd_at td_X10_look 73 rfl) hl (k := 5) rfl (by rw [ev23]; rfl) (by decide) rfl (fun ls hl => ?_)
    refine lv_goto (tgt := 82) Cx.1 Cx.2.1 (dd_at td_X10_look 74 rfl) (by decide) ?_
    exact hK82 x0 x1 x2 x3 x4 v23 st _ _ _ hf (lv_sub hl [1, 2, 3, 4, 5, 0] rfl) hM
  · replace hf := fc_of_f hf c22
    refine lv_aload_n Cx.1 Cx.2.1 (dd_at td_X10_look 56 rfl) rfl (lv_at hl 0 rfl) ?_
    refine cc_gA (ci := 12) (C := RX10) (T := TX10) (N := 8) (k := 0) (ref := "EclipsesKept$Years") Cx hM g21 rfl cc_inX10 rfl (by decide) cw416 (fun _ h => h) (dd_at td_X10_look 57 rfl) rfl ?_
    refine lv_iload Cx.1 Cx.2.1 (dd_at td_X10_look 58 rfl) (lv_at hl 4 rfl) ?_
    refine lv_iload Cx.1 Cx.2.1 (dd_at td_X10_look 59 rfl) (lv_at hl 5 rfl) ?_
    refine lv_iload Cx.1 Cx.2.1 (dd_at td_X10_look 60 rfl) (lv_at hl 6 rfl) ?_
    obtain ⟨r26, st24, hx25, hf⟩ := fc_of_bn hf
    refine cc_ai hM (cc_rS (As := [.int x4, .int x5, .int x6]) (rest := [.ref (cx_b X x0 0)]) (n := 3) Cx hM (c_X10_place l D X fu x4 x5 x6 st r26 st24 hx25) (cc_gdS cw429 cw430 cw431 cw425) hd_X10_place ⟨Nat.le_of_ble_eq_true rfl, Nat.le_of_ble_eq_true rfl⟩ rfl hl.1 rfl (Nat.le_of_ble_eq_true rfl) (dd_at td_X10_look 61 rfl) ⟨Nat.le_refl 0, Nat.le_refl 0⟩) (fun H locs hM => ?_)
    refine lv_aload_n Cx.1 Cx.2.1 (dd_at td_X10_look 62 rfl) rfl (lv_at hl 1 rfl) ?_
    refine lv_iload Cx.1 Cx.2.1 (dd_at td_X10_look 63 rfl) (lv_at hl 6 rfl) ?_
    refine lv_aload_n Cx.1 Cx.2.1 (dd_at td_X10_look 64 rfl) rfl (lv_at hl 1 rfl) ?_
    obtain ⟨g27, hf⟩ := fc_of_gd hf
    refine cc_gI (ci := 9) (C := RX7) (T := TX7) (N := 17) (k := 15) (ref := "EclipsesKept$State") Cx hM g27 rfl cc_inX7 rfl (by decide) cw427 (fun _ h => h) (dd_at td_X10_look 65 rfl) rfl ?_
    refine lv_iload Cx.1 Cx.2.1 (dd_at td_X10_look 66 rfl) (lv_at hl 4 rfl) ?_
    refine lv_iadd Cx.1 Cx.2.1 (dd_at td_X10_look 67 rfl) ?_
    refine lv_iload Cx.1 Cx.2.1 (dd_at td_X10_look 68 rfl) (lv_at hl 5 rfl) ?_
    obtain ⟨r30, st28, hx29, hf⟩ := fc_of_bn hf
    refine cc_ai hM (cc_rV (ci := 9) (As := [.int x6, .int ((cc_I st24 x1 15) + x4), .int x5]) (rest := [.int r26, .ref (cx_b X x0 0)]) (n := 3) Cx hM g27 rfl (c_X7_worthOf l D X fu x1 x6 ((cc_I st24 x1 15) + x4) x5 st24 r30 st28 hx29) (cc_gdV cw432 cw397 cw398 cw345 cw395) hd_X7_worthOf ⟨Nat.le_of_ble_eq_true rfl, Nat.le_of_ble_eq_true rfl⟩ rfl hl.1 rfl (Nat.le_of_ble_eq_true rfl) (dd_at td_X10_look 69 rfl) ⟨Nat.le_refl 0, Nat.le_refl 0⟩) (fun H locs hM => ?_)
    obtain ⟨g31, hf⟩ := fc_of_gd hf
    refine cc_iast Cx hM g31 (dd_at td_X10_look 70 rfl) (fun st32 H locs est32 hM => ?_)
    replace hf := fc_of_nm hf st32 est32
    obtain ⟨v33, ev33⟩ : ∃ y : Int32, y = x6 + (1 : Int32) := ⟨_, rfl⟩
    replace hf := fc_of_nm hf v33 ev33
    refine lv_iinc (v := v33) (lv' := [(6, .int v33), (0, .ref (cx_a X x0)), (1, .ref (cx_a X x1)), (2, .int x2), (3, .int x3), (4, .int x4), (5, .int x5)]) Cx.1 Cx.2.1 (dd_at td_X10_look 71 rfl) hl (k := 6) rfl (by rw [ev33]; rfl) (by decide) rfl (fun ls hl => ?_)
    refine lv_goto (tgt := 91) Cx.1 Cx.2.1 (dd_at td_X10_look 72 rfl) (by decide) ?_
    exact hK91 x0 x1 x2 x3 x4 x5 v33 st32 _ _ _ hf (lv_sub hl [1, 2, 3, 4, 5, 6, 0] rfl) hM
theorem w_X10_look_b91 {p : Program} {l : Launch} {e : Env} {s : State} {m : MethodId} {args : Array Value} {below : List Frame} {meth : Method} {c : Code} {D : va_G} {X : cc_X} {st' : cc_S} (Cx : cc_C p s m args meth c cX10_look 7 (none) RX10 D X) (fu : Nat) (K73 : Nat → Nat → Int32 → Int32 → Int32 → cc_S → Option cc_S) (hK73 : ∀ (x0 : Nat) (x1 : Nat) (x2 : Int32) (x3 : Int32) (x4 : Int32) (st : cc_S) (H : Heap) (locs : List Loc) (ls : Array Slot), K73 x0 x1 x2 x3 x4 st = some st' → lv_has ls 7 [(0, .ref (cx_a X x0)), (1, .ref (cx_a X x1)), (2, .int x2), (3, .int x3), (4, .int x4)] → cc_H D X s.heap st H locs → W p l e (mm_R 5 135) s m args below meth c H locs 0 0 (MQ below (cc_Qv D X st') args s 0 0 (cc_A X)) (F0 m 73 ls [])) (K82 : Nat → Nat → Int32 → Int32 → Int32 → Int32 → cc_S → Option cc_S) (hK82 : ∀ (x0 : Nat) (x1 : Nat) (x2 : Int32) (x3 : Int32) (x4 : Int32) (x5 : Int32) (st : cc_S) (H : Heap) (locs : List Loc) (ls : Array Slot), K82 x0 x1 x2 x3 x4 x5 st = some st' → lv_has ls 7 [(0, .ref (cx_a X x0)), (1, .ref (cx_a X x1)), (2, .int x2), (3, .int x3), (4, .int x4), (5, .int x5)] → cc_H D X s.heap st H locs → W p l e (mm_R 5 135) s m args below meth c H locs 0 0 (MQ below (cc_Qv D X st') args s 0 0 (cc_A X)) (F0 m 82 ls [])) (n : Nat) : ∀ (x0 : Nat) (x1 : Nat) (x2 : Int32) (x3 : Int32) (x4 : Int32) (x5 : Int32) (x6 : Int32) (st : cc_S), C_X10_look_b91 X fu K73 K82 n x0 x1 x2 x3 x4 x5 x6 st = some st' → ∀ (H : Heap) (locs : List Loc) (ls : Array Slot), lv_has ls 7 [(0, .ref (cx_a X x0)), (1, .ref (cx_a X x1)), (2, .int x2), (3, .int x3), (4, .int x4), (5, .int x5), (6, .int x6)] → cc_H D X s.heap st H locs → W p l e (mm_R 5 135) s m args below meth c H locs 0 0 (MQ below (cc_Qv D X st') args s 0 0 (cc_A X)) (F0 m 91 ls []) := by
  induction n with
  | zero => exact fun _ _ _ _ _ _ _ _ hf => fc_no hf
  | succ n ih =>
    intro x0 x1 x2 x3 x4 x5 x6 st hf H locs ls hl hM
    exact w_X10_look_b91F Cx fu K73 hK73 K82 hK82 (fun x0 x1 x2 x3 x4 x5 x6 st => C_X10_look_b91 X fu K73 K82 n x0 x1 x2 x3 x4 x5 x6 st) (fun x0 x1 x2 x3 x4 x5 x6 st H locs ls hf hl hM => ih x0 x1 x2 x3 x4 x5 x6 st hf H locs ls hl hM) x0 x1 x2 x3 x4 x5 x6 st hf hl hM
theorem w_X10_look_b82F {p : Program} {l : Launch} {e : Env} {s : State} {m : MethodId} {args : Array Value} {below : List Frame} {meth : Method} {c : Code} {D : va_G} {X : cc_X} {st' : cc_S} (Cx : cc_C p s m args meth c cX10_look 7 (none) RX10 D X) (fu : Nat) (K73 : Nat → Nat → Int32 → Int32 → Int32 → cc_S → Option cc_S) (hK73 : ∀ (x0 : Nat) (x1 : Nat) (x2 : Int32) (x3 : Int32) (x4 : Int32) (st : cc_S) (H : Heap) (locs : List Loc) (ls : Array Slot), K73 x0 x1 x2 x3 x4 st = some st' → lv_has ls 7 [(0, .ref (cx_a X x0)), (1, .ref (cx_a X x1)), (2, .int x2), (3, .int x3), (4, .int x4)] → cc_H D X s.heap st H locs → W p l e (mm_R 5 135) s m args below meth c H locs 0 0 (MQ below (cc_Qv D X st') args s 0 0 (cc_A X)) (F0 m 73 ls [])) (K82 : Nat → Nat → Int32 → Int32 → Int32 → Int32 → cc_S → Option cc_S) (hK82 : ∀ (x0 : Nat) (x1 : Nat) (x2 : Int32) (x3 : Int32) (x4 : Int32) (x5 : Int32) (st : cc_S) (H : Heap) (locs : List Loc) (ls : Array Slot), K82 x0 x1 x2 x3 x4 x5 st = some st' → lv_has ls 7 [(0, .ref (cx_a X x0)), (1, .ref (cx_a X x1)), (2, .int x2), (3, .int x3), (4, .int x4), (5, .int x5)] → cc_H D X s.heap st H locs → W p l e (mm_R 5 135) s m args below meth c H locs 0 0 (MQ below (cc_Qv D X st') args s 0 0 (cc_A X)) (F0 m 82 ls [])) (x0 : Nat) (x1 : Nat) (x2 : Int32) (x3 : Int32) (x4 : Int32) (x5 : Int32) (st : cc_S) (hf : C_X10_look_b82F X fu K73 K82 x0 x1 x2 x3 x4 x5 st = some st') {H : Heap} {locs : List Loc} {ls : Array Slot} (hl : lv_has ls 7 [(0, .ref (cx_a X x0)), (1, .ref (cx_a X x1)), (2, .int x2), (3, .int x3), (4, .int x4), (5, .int x5)]) (hM : cc_H D X s.heap st H locs) : W p l e (mm_R 5 135) s m args below meth c H locs 0 0 (MQ below (cc_Qv D X st') args s 0 0 (cc_A X)) (F0 m 82 ls []) := by
  unfold C_X10_look_b82F at hf
  refine lv_iload Cx.1 Cx.2.1 (dd_at td_X10_look 47 rfl) (lv_at hl 5 rfl) ?_
  refine lv_iload_n Cx.1 Cx.2.1 (dd_at td_X10_look 48 rfl) rfl (lv_at hl 3 rfl) ?_
  refine lv_icmp_gt (tgt := 141) Cx.1 Cx.2.1 (dd_at td_X10_look 49 rfl) (by decide) (fun c19 => ?_) (fun c19 => ?_)
  · replace hf := fc_of_t hf c19
    obtain ⟨v20, ev20⟩ : ∃ y : Int32, y = x4 + (1 : Int32) := ⟨_, rfl⟩
    replace hf := fc_of_nm hf v20 ev20
    refine lv_iinc (v := v20) (lv' := [(4, .int v20), (0, .ref (cx_a X x0)), (1, .ref (cx_a X x1)), (2, .int x2), (3, .int x3), (5, .int x5)]) Cx.1 Cx.2.1 (dd_at td_X10_look 75 rfl) hl (k := 4) rfl (by rw [ev20]; rfl) (by decide) rfl (fun ls hl => ?_)
    refine lv_goto (tgt := 73) Cx.1 Cx.2.1 (dd_at td_X10_look 76 rfl) (by decide) ?_
    exact hK73 x0 x1 x2 x3 v20 st _ _ _ hf (lv_sub hl [1, 2, 3, 4, 0] rfl) hM
  · replace hf := fc_of_f hf c19
    refine lv_iconst (v := (0 : Int32)) Cx.1 Cx.2.1 (dd_at td_X10_look 50 rfl) (by decide) ?_
    refine lv_istore (lv' := [(6, .int (0 : Int32)), (0, .ref (cx_a X x0)), (1, .ref (cx_a X x1)), (2, .int x2), (3, .int x3), (4, .int x4), (5, .int x5)]) Cx.1 Cx.2.1 (dd_at td_X10_look 51 rfl) hl (by decide) rfl (fun ls hl => ?_)
    exact w_X10_look_b91 Cx fu K73 hK73 K82 hK82 fu x0 x1 x2 x3 x4 x5 (0 : Int32) st hf _ _ _ (lv_sub hl [1, 2, 3, 4, 5, 6, 0] rfl) hM
theorem w_X10_look_b82 {p : Program} {l : Launch} {e : Env} {s : State} {m : MethodId} {args : Array Value} {below : List Frame} {meth : Method} {c : Code} {D : va_G} {X : cc_X} {st' : cc_S} (Cx : cc_C p s m args meth c cX10_look 7 (none) RX10 D X) (fu : Nat) (K73 : Nat → Nat → Int32 → Int32 → Int32 → cc_S → Option cc_S) (hK73 : ∀ (x0 : Nat) (x1 : Nat) (x2 : Int32) (x3 : Int32) (x4 : Int32) (st : cc_S) (H : Heap) (locs : List Loc) (ls : Array Slot), K73 x0 x1 x2 x3 x4 st = some st' → lv_has ls 7 [(0, .ref (cx_a X x0)), (1, .ref (cx_a X x1)), (2, .int x2), (3, .int x3), (4, .int x4)] → cc_H D X s.heap st H locs → W p l e (mm_R 5 135) s m args below meth c H locs 0 0 (MQ below (cc_Qv D X st') args s 0 0 (cc_A X)) (F0 m 73 ls [])) (n : Nat) : ∀ (x0 : Nat) (x1 : Nat) (x2 : Int32) (x3 : Int32) (x4 : Int32) (x5 : Int32) (st : cc_S), C_X10_look_b82 X fu K73 n x0 x1 x2 x3 x4 x5 st = some st' → ∀ (H : Heap) (locs : List Loc) (ls : Array Slot), lv_has ls 7 [(0, .ref (cx_a X x0)), (1, .ref (cx_a X x1)), (2, .int x2), (3, .int x3), (4, .int x4), (5, .int x5)] → cc_H D X s.heap st H locs → W p l e (mm_R 5 135) s m args below meth c H locs 0 0 (MQ below (cc_Qv D X st') args s 0 0 (cc_A X)) (F0 m 82 ls []) := by
  induction n with
  | zero => exact fun _ _ _ _ _ _ _ hf => fc_no hf
  | succ n ih =>
    intro x0 x1 x2 x3 x4 x5 st hf H locs ls hl hM
    exact w_X10_look_b82F Cx fu K73 hK73 (fun x0 x1 x2 x3 x4 x5 st => C_X10_look_b82 X fu K73 n x0 x1 x2 x3 x4 x5 st) (fun x0 x1 x2 x3 x4 x5 st H locs ls hf hl hM => ih x0 x1 x2 x3 x4 x5 st hf H locs ls hl hM) x0 x1 x2 x3 x4 x5 st hf hl hM
theorem w_X10_look_b73F {p : Program} {l : Launch} {e : Env} {s : State} {m : MethodId} {args : Array Value} {below : List Frame} {meth : Method} {c : Code} {D : va_G} {X : cc_X} {st' : cc_S} (Cx : cc_C p s m args meth c cX10_look 7 (none) RX10 D X) (fu : Nat) (K73 : Nat → Nat → Int32 → Int32 → Int32 → cc_S → Option cc_S) (hK73 : ∀ (x0 : Nat) (x1 : Nat) (x2 : Int32) (x3 : Int32) (x4 : Int32) (st : cc_S) (H : Heap) (locs : List Loc) (ls : Array Slot), K73 x0 x1 x2 x3 x4 st = some st' → lv_has ls 7 [(0, .ref (cx_a X x0)), (1, .ref (cx_a X x1)), (2, .int x2), (3, .int x3), (4, .int x4)] → cc_H D X s.heap st H locs → W p l e (mm_R 5 135) s m args below meth c H locs 0 0 (MQ below (cc_Qv D X st') args s 0 0 (cc_A X)) (F0 m 73 ls [])) (x0 : Nat) (x1 : Nat) (x2 : Int32) (x3 : Int32) (x4 : Int32) (st : cc_S) (hf : C_X10_look_b73F X fu K73 x0 x1 x2 x3 x4 st = some st') {H : Heap} {locs : List Loc} {ls : Array Slot} (hl : lv_has ls 7 [(0, .ref (cx_a X x0)), (1, .ref (cx_a X x1)), (2, .int x2), (3, .int x3), (4, .int x4)]) (hM : cc_H D X s.heap st H locs) : W p l e (mm_R 5 135) s m args below meth c H locs 0 0 (MQ below (cc_Qv D X st') args s 0 0 (cc_A X)) (F0 m 73 ls []) := by
  unfold C_X10_look_b73F at hf
  refine lv_iload Cx.1 Cx.2.1 (dd_at td_X10_look 42 rfl) (lv_at hl 4 rfl) ?_
  refine lv_iload_n Cx.1 Cx.2.1 (dd_at td_X10_look 43 rfl) rfl (lv_at hl 2 rfl) ?_
  refine lv_icmp_ge (tgt := 147) Cx.1 Cx.2.1 (dd_at td_X10_look 44 rfl) (by decide) (fun c18 => ?_) (fun c18 => ?_)
  · replace hf := fc_of_t hf c18
    exact cc_rv Cx hM (dd_at td_X10_look 77 rfl) hf
  · replace hf := fc_of_f hf c18
    refine lv_iconst (v := (1 : Int32)) Cx.1 Cx.2.1 (dd_at td_X10_look 45 rfl) (by decide) ?_
    refine lv_istore (lv' := [(5, .int (1 : Int32)), (0, .ref (cx_a X x0)), (1, .ref (cx_a X x1)), (2, .int x2), (3, .int x3), (4, .int x4)]) Cx.1 Cx.2.1 (dd_at td_X10_look 46 rfl) hl (by decide) rfl (fun ls hl => ?_)
    exact w_X10_look_b82 Cx fu K73 hK73 fu x0 x1 x2 x3 x4 (1 : Int32) st hf _ _ _ (lv_sub hl [1, 2, 3, 4, 5, 0] rfl) hM
theorem w_X10_look_b73 {p : Program} {l : Launch} {e : Env} {s : State} {m : MethodId} {args : Array Value} {below : List Frame} {meth : Method} {c : Code} {D : va_G} {X : cc_X} {st' : cc_S} (Cx : cc_C p s m args meth c cX10_look 7 (none) RX10 D X) (fu : Nat) (n : Nat) : ∀ (x0 : Nat) (x1 : Nat) (x2 : Int32) (x3 : Int32) (x4 : Int32) (st : cc_S), C_X10_look_b73 X fu n x0 x1 x2 x3 x4 st = some st' → ∀ (H : Heap) (locs : List Loc) (ls : Array Slot), lv_has ls 7 [(0, .ref (cx_a X x0)), (1, .ref (cx_a X x1)), (2, .int x2), (3, .int x3), (4, .int x4)] → cc_H D X s.heap st H locs → W p l e (mm_R 5 135) s m args below meth c H locs 0 0 (MQ below (cc_Qv D X st') args s 0 0 (cc_A X)) (F0 m 73 ls []) := by
  induction n with
  | zero => exact fun _ _ _ _ _ _ hf => fc_no hf
  | succ n ih =>
    intro x0 x1 x2 x3 x4 st hf H locs ls hl hM
    exact w_X10_look_b73F Cx fu (fun x0 x1 x2 x3 x4 st => C_X10_look_b73 X fu n x0 x1 x2 x3 x4 st) (fun x0 x1 x2 x3 x4 st H locs ls hf hl hM => ih x0 x1 x2 x3 x4 st hf H locs ls hl hM) x0 x1 x2 x3 x4 st hf hl hM
theorem w_X10_look_b36F {p : Program} {l : Launch} {e : Env} {s : State} {m : MethodId} {args : Array Value} {below : List Frame} {meth : Method} {c : Code} {D : va_G} {X : cc_X} {st' : cc_S} (Cx : cc_C p s m args meth c cX10_look 7 (none) RX10 D X) (fu : Nat) (K36 : Nat → Nat → Int32 → Int32 → Int32 → cc_S → Option cc_S) (hK36 : ∀ (x0 : Nat) (x1 : Nat) (x2 : Int32) (x3 : Int32) (x4 : Int32) (st : cc_S) (H : Heap) (locs : List Loc) (ls : Array Slot), K36 x0 x1 x2 x3 x4 st = some st' → lv_has ls 7 [(0, .ref (cx_a X x0)), (1, .ref (cx_a X x1)), (2, .int x2), (3, .int x3), (4, .int x4)] → cc_H D X s.heap st H locs → W p l e (mm_R 5 135) s m args below meth c H locs 0 0 (MQ below (cc_Qv D X st') args s 0 0 (cc_A X)) (F0 m 36 ls [])) (x0 : Nat) (x1 : Nat) (x2 : Int32) (x3 : Int32) (x4 : Int32) (st : cc_S) (hf : C_X10_look_b36F X fu K36 x0 x1 x2 x3 x4 st = some st') {H : Heap} {locs : List Loc} {ls : Array Slot} (hl : lv_has ls 7 [(0, .ref (cx_a X x0)), (1, .ref (cx_a X x1)), (2, .int x2), (3, .int x3), (4, .int x4)]) (hM : cc_H D X s.heap st H locs) : W p l e (mm_R 5 135) s m args below meth c H locs 0 0 (MQ below (cc_Qv D X st') args s 0 0 (cc_A X)) (F0 m 36 ls []) := by
  unfold C_X10_look_b36F at hf
  refine lv_iload Cx.1 Cx.2.1 (dd_at td_X10_look 21 rfl) (lv_at hl 4 rfl) ?_
  refine lv_iload_n Cx.1 Cx.2.1 (dd_at td_X10_look 22 rfl) rfl (lv_at hl 2 rfl) ?_
  refine lv_icmp_gt (tgt := 70) Cx.1 Cx.2.1 (dd_at td_X10_look 23 rfl) (by decide) (fun c12 => ?_) (fun c12 => ?_)
  · replace hf := fc_of_t hf c12
    refine lv_iconst (v := (0 : Int32)) Cx.1 Cx.2.1 (dd_at td_X10_look 40 rfl) (by decide) ?_
    refine lv_istore (lv' := [(4, .int (0 : Int32)), (0, .ref (cx_a X x0)), (1, .ref (cx_a X x1)), (2, .int x2), (3, .int x3)]) Cx.1 Cx.2.1 (dd_at td_X10_look 41 rfl) hl (by decide) rfl (fun ls hl => ?_)
    exact w_X10_look_b73 Cx fu fu x0 x1 x2 x3 (0 : Int32) st hf _ _ _ (lv_sub hl [1, 2, 3, 4, 0] rfl) hM
  · replace hf := fc_of_f hf c12
    refine lv_aload_n Cx.1 Cx.2.1 (dd_at td_X10_look 24 rfl) rfl (lv_at hl 0 rfl) ?_
    obtain ⟨g13, hf⟩ := fc_of_gd hf
    refine cc_gA (ci := 12) (C := RX10) (T := TX10) (N := 8) (k := 1) (ref := "EclipsesKept$Years") Cx hM g13 rfl cc_inX10 rfl (by decide) cw417 (fun _ h => h) (dd_at td_X10_look 25 rfl) rfl ?_
    refine lv_iload Cx.1 Cx.2.1 (dd_at td_X10_look 26 rfl) (lv_at hl 4 rfl) ?_
    refine lv_aload_n Cx.1 Cx.2.1 (dd_at td_X10_look 27 rfl) rfl (lv_at hl 0 rfl) ?_
    refine cc_gA (ci := 12) (C := RX10) (T := TX10) (N := 8) (k := 1) (ref := "EclipsesKept$Years") Cx hM g13 rfl cc_inX10 rfl (by decide) cw417 (fun _ h => h) (dd_at td_X10_look 28 rfl) rfl ?_
    refine lv_iload Cx.1 Cx.2.1 (dd_at td_X10_look 29 rfl) (lv_at hl 4 rfl) ?_
    refine lv_iconst (v := (1 : Int32)) Cx.1 Cx.2.1 (dd_at td_X10_look 30 rfl) (by decide) ?_
    refine lv_isub Cx.1 Cx.2.1 (dd_at td_X10_look 31 rfl) ?_
    obtain ⟨g14, hf⟩ := fc_of_gd hf
    refine cc_lald Cx hM g14 (dd_at td_X10_look 32 rfl) ?_
    refine lv_aload_n Cx.1 Cx.2.1 (dd_at td_X10_look 33 rfl) rfl (lv_at hl 0 rfl) ?_
    refine cc_gI (ci := 12) (C := RX10) (T := TX10) (N := 8) (k := 4) (ref := "EclipsesKept$Years") Cx hM g13 rfl cc_inX10 rfl (by decide) cw421 (fun _ h => h) (dd_at td_X10_look 34 rfl) rfl ?_
    refine lv_i2l Cx.1 Cx.2.1 (dd_at td_X10_look 35 rfl) rfl ?_
    refine lv_lmul Cx.1 Cx.2.1 (dd_at td_X10_look 36 rfl) ?_
    obtain ⟨g15, hf⟩ := fc_of_gd hf
    refine cc_last Cx hM g15 (dd_at td_X10_look 37 rfl) (fun st16 H locs est16 hM => ?_)
    replace hf := fc_of_nm hf st16 est16
    obtain ⟨v17, ev17⟩ : ∃ y : Int32, y = x4 + (1 : Int32) := ⟨_, rfl⟩
    replace hf := fc_of_nm hf v17 ev17
    refine lv_iinc (v := v17) (lv' := [(4, .int v17), (0, .ref (cx_a X x0)), (1, .ref (cx_a X x1)), (2, .int x2), (3, .int x3)]) Cx.1 Cx.2.1 (dd_at td_X10_look 38 rfl) hl (k := 4) rfl (by rw [ev17]; rfl) (by decide) rfl (fun ls hl => ?_)
    refine lv_goto (tgt := 36) Cx.1 Cx.2.1 (dd_at td_X10_look 39 rfl) (by decide) ?_
    exact hK36 x0 x1 x2 x3 v17 st16 _ _ _ hf (lv_sub hl [1, 2, 3, 4, 0] rfl) hM
theorem w_X10_look_b36 {p : Program} {l : Launch} {e : Env} {s : State} {m : MethodId} {args : Array Value} {below : List Frame} {meth : Method} {c : Code} {D : va_G} {X : cc_X} {st' : cc_S} (Cx : cc_C p s m args meth c cX10_look 7 (none) RX10 D X) (fu : Nat) (n : Nat) : ∀ (x0 : Nat) (x1 : Nat) (x2 : Int32) (x3 : Int32) (x4 : Int32) (st : cc_S), C_X10_look_b36 X fu n x0 x1 x2 x3 x4 st = some st' → ∀ (H : Heap) (locs : List Loc) (ls : Array Slot), lv_has ls 7 [(0, .ref (cx_a X x0)), (1, .ref (cx_a X x1)), (2, .int x2), (3, .int x3), (4, .int x4)] → cc_H D X s.heap st H locs → W p l e (mm_R 5 135) s m args below meth c H locs 0 0 (MQ below (cc_Qv D X st') args s 0 0 (cc_A X)) (F0 m 36 ls []) := by
  induction n with
  | zero => exact fun _ _ _ _ _ _ hf => fc_no hf
  | succ n ih =>
    intro x0 x1 x2 x3 x4 st hf H locs ls hl hM
    exact w_X10_look_b36F Cx fu (fun x0 x1 x2 x3 x4 st => C_X10_look_b36 X fu n x0 x1 x2 x3 x4 st) (fun x0 x1 x2 x3 x4 st H locs ls hf hl hM => ih x0 x1 x2 x3 x4 st hf H locs ls hl hM) x0 x1 x2 x3 x4 st hf hl hM
theorem w_X10_look {p : Program} {l : Launch} {e : Env} {s : State} {m : MethodId} {args : Array Value} {below : List Frame} {meth : Method} {c : Code} {D : va_G} {X : cc_X} {st' : cc_S} (Cx : cc_C p s m args meth c cX10_look 7 (none) RX10 D X) (fu : Nat) (x0 : Nat) (x1 : Nat) (x2 : Int32) (x3 : Int32) (st : cc_S) (hf : C_X10_look X fu x0 x1 x2 x3 st = some st') {H : Heap} {locs : List Loc} {ls : Array Slot} (hl : lv_has ls 7 [(0, .ref (cx_a X x0)), (1, .ref (cx_a X x1)), (2, .int x2), (3, .int x3)]) (hM : cc_H D X s.heap st H locs) : W p l e (mm_R 5 135) s m args below meth c H locs 0 0 (MQ below (cc_Qv D X st') args s 0 0 (cc_A X)) (F0 m 0 ls []) := by
  unfold C_X10_look at hf
  refine lv_aload_n Cx.1 Cx.2.1 (dd_at td_X10_look 0 rfl) rfl (lv_at hl 0 rfl) ?_
  refine lv_aload_n Cx.1 Cx.2.1 (dd_at td_X10_look 1 rfl) rfl (lv_at hl 1 rfl) ?_
  obtain ⟨g1, hf⟩ := fc_of_gd hf
  refine cc_gI (ci := 9) (C := RX7) (T := TX7) (N := 17) (k := 9) (ref := "EclipsesKept$State") Cx hM g1 rfl cc_inX7 rfl (by decide) cw426 (fun _ h => h) (dd_at td_X10_look 2 rfl) rfl ?_
  obtain ⟨g2, hf⟩ := fc_of_gd hf
  refine cc_pI (ci := 12) (C := RX10) (T := TX10) (N := 8) (k := 4) (ref := "EclipsesKept$Years") (ty0 := tyX10) Cx hM g2 rfl cc_inX10 rfl (by decide) cw421 (fun _ h => h) tyX10_ok nmX10 rfl rfl rfl (dd_at td_X10_look 3 rfl) rfl (fun st3 H locs est3 hM => ?_)
  replace hf := fc_of_nm hf st3 est3
  refine lv_aload_n Cx.1 Cx.2.1 (dd_at td_X10_look 4 rfl) rfl (lv_at hl 0 rfl) ?_
  refine lv_iload_n Cx.1 Cx.2.1 (dd_at td_X10_look 5 rfl) rfl (lv_at hl 3 rfl) ?_
  refine cc_pI (ci := 12) (C := RX10) (T := TX10) (N := 8) (k := 5) (ref := "EclipsesKept$Years") (ty0 := tyX10) Cx hM g2 rfl cc_inX10 rfl (by decide) cw422 (fun _ h => h) tyX10_ok nmX10 rfl rfl rfl (dd_at td_X10_look 6 rfl) rfl (fun st4 H locs est4 hM => ?_)
  replace hf := fc_of_nm hf st4 est4
  refine lv_aload_n Cx.1 Cx.2.1 (dd_at td_X10_look 7 rfl) rfl (lv_at hl 0 rfl) ?_
  refine lv_aload_n Cx.1 Cx.2.1 (dd_at td_X10_look 8 rfl) rfl (lv_at hl 1 rfl) ?_
  obtain ⟨r7, st5, hx6, hf⟩ := fc_of_bn hf
  refine cc_ai hM (cc_rV (ci := 9) (As := []) (rest := [.ref (cx_a X x0)]) (n := 0) Cx hM g1 rfl (c_X7_keepCost l D X fu x1 st4 r7 st5 hx6) (cc_gdV cw428 cw355 cw356 cw345 cw347) hd_X7_keepCost ⟨Nat.le_of_ble_eq_true rfl, Nat.le_of_ble_eq_true rfl⟩ rfl hl.1 rfl (Nat.le_of_ble_eq_true rfl) (dd_at td_X10_look 9 rfl) ⟨Nat.le_refl 0, Nat.le_refl 0⟩) (fun H locs hM => ?_)
  refine cc_pI (ci := 12) (C := RX10) (T := TX10) (N := 8) (k := 6) (ref := "EclipsesKept$Years") (ty0 := tyX10) Cx hM g2 rfl cc_inX10 rfl (by decide) cw423 (fun _ h => h) tyX10_ok nmX10 rfl rfl rfl (dd_at td_X10_look 10 rfl) rfl (fun st8 H locs est8 hM => ?_)
  replace hf := fc_of_nm hf st8 est8
  refine lv_aload_n Cx.1 Cx.2.1 (dd_at td_X10_look 11 rfl) rfl (lv_at hl 0 rfl) ?_
  refine lv_iload_n Cx.1 Cx.2.1 (dd_at td_X10_look 12 rfl) rfl (lv_at hl 2 rfl) ?_
  refine cc_pI (ci := 12) (C := RX10) (T := TX10) (N := 8) (k := 7) (ref := "EclipsesKept$Years") (ty0 := tyX10) Cx hM g2 rfl cc_inX10 rfl (by decide) cw424 (fun _ h => h) tyX10_ok nmX10 rfl rfl rfl (dd_at td_X10_look 13 rfl) rfl (fun st9 H locs est9 hM => ?_)
  replace hf := fc_of_nm hf st9 est9
  refine lv_aload_n Cx.1 Cx.2.1 (dd_at td_X10_look 14 rfl) rfl (lv_at hl 0 rfl) ?_
  refine cc_gA (ci := 12) (C := RX10) (T := TX10) (N := 8) (k := 1) (ref := "EclipsesKept$Years") Cx hM g2 rfl cc_inX10 rfl (by decide) cw417 (fun _ h => h) (dd_at td_X10_look 15 rfl) rfl ?_
  refine lv_iconst (v := (0 : Int32)) Cx.1 Cx.2.1 (dd_at td_X10_look 16 rfl) (by decide) ?_
  refine lv_lconst (v := (1 : Int64)) Cx.1 Cx.2.1 (dd_at td_X10_look 17 rfl) (by decide) ?_
  obtain ⟨g10, hf⟩ := fc_of_gd hf
  refine cc_last Cx hM g10 (dd_at td_X10_look 18 rfl) (fun st11 H locs est11 hM => ?_)
  replace hf := fc_of_nm hf st11 est11
  refine lv_iconst (v := (1 : Int32)) Cx.1 Cx.2.1 (dd_at td_X10_look 19 rfl) (by decide) ?_
  refine lv_istore (lv' := [(4, .int (1 : Int32)), (0, .ref (cx_a X x0)), (1, .ref (cx_a X x1)), (2, .int x2), (3, .int x3)]) Cx.1 Cx.2.1 (dd_at td_X10_look 20 rfl) hl (by decide) rfl (fun ls hl => ?_)
  exact w_X10_look_b36 Cx fu fu x0 x1 x2 x3 (1 : Int32) st11 hf _ _ _ (lv_sub hl [1, 2, 3, 4, 0] rfl) hM
theorem c_X10_look (l : Launch) (D : va_G) (X : cc_X) (fu : Nat) (x0 : Nat) (x1 : Nat) (x2 : Int32) (x3 : Int32) (st : cc_S) : cc_Mv l D X yX10_look cX10_look 7 (none) 5 135 [.ref (cx_a X x0), .ref (cx_a X x1), .int x2, .int x3] st (C_X10_look X fu x0 x1 x2 x3 st) := by
  intro st' hf
  refine cc_enter (cc := cX10_look) (nL := 7) (ret := none) (by decide +kernel) rfl (Nat.le_of_ble_eq_true rfl) ?_
  intro p e s m args below meth c ls Cx hl hM
  exact w_X10_look Cx fu x0 x1 x2 x3 st hf hl hM

/-! X10_ifServed -/
def tb_X10_ifServed : List (Nat × Instr × Nat) := [(0, .aload_n 0, 1), (1, .getfield 9, 3), (4, .aload_n 0, 1), (5, .getfield 37, 3), (8, .iload_n 2, 1), (9, .isub, 1), (10, .iload_n 3, 1), (11, .iload_n 1, 1), (12, .invokestatic 49, 3), (15, .iaload, 1), (16, .aload_n 0, 1), (17, .getfield 34, 3), (20, .iload_n 3, 1), (21, .iconst 1, 1), (22, .isub, 1), (23, .imul, 1), (24, .isub, 1), (25, .i2l, 1), (26, .lstore 4, 2), (28, .aload_n 0, 1), (29, .getfield 21, 3), (32, .iload_n 2, 1), (33, .iconst 1, 1), (34, .isub, 1), (35, .aaload, 1), (36, .iload_n 3, 1), (37, .iconst 1, 1), (38, .isub, 1), (39, .laload, 1), (40, .lload 4, 2), (42, .aload_n 0, 1), (43, .getfield 15, 3), (46, .iload_n 2, 1), (47, .iconst 1, 1), (48, .isub, 1), (49, .laload, 1), (50, .lmul, 1), (51, .ladd, 1), (52, .lreturn, 1)]
theorem td_X10_ifServed : tb_X10_ifServed.all (fun q => decide (decode cX10_ifServed q.1 = .ok (q.2.1, q.2.2))) = true := by decide +kernel
theorem hd_X10_ifServed : yX10_ifServed.cls = RX10 ∧ yX10_ifServed.cls ≠ "java/lang/invoke/MethodHandle" ∧ yX10_ifServed.cls ≠ "java/lang/invoke/VarHandle" ∧ (parseMethodDescriptor yX10_ifServed.desc).map (fun d => d.parameters.length) = some 3 := by decide +kernel
theorem hs_X10_ifServed : yX10_ifServed.name ≠ "<init>" ∧ (parseMethodDescriptor yX10_ifServed.desc).map (fun d => d.parameters.length) = some 3 := by decide +kernel
theorem w_X10_ifServed {p : Program} {l : Launch} {e : Env} {s : State} {m : MethodId} {args : Array Value} {below : List Frame} {meth : Method} {c : Code} {D : va_G} {X : cc_X} {r : Int64} {st' : cc_S} (Cx : cc_C p s m args meth c cX10_ifServed 6 (some .long) RX10 D X) (fu : Nat) (x0 : Nat) (x1 : Int32) (x2 : Int32) (x3 : Int32) (st : cc_S) (hf : C_X10_ifServed X fu x0 x1 x2 x3 st = some (r, st')) {H : Heap} {locs : List Loc} {ls : Array Slot} (hl : lv_has ls 6 [(0, .ref (cx_a X x0)), (1, .int x1), (2, .int x2), (3, .int x3)]) (hM : cc_H D X s.heap st H locs) : W p l e (mm_R 1 22) s m args below meth c H locs 0 0 (MQ below (cc_Ql D X r st') args s 0 0 (cc_A X)) (F0 m 0 ls []) := by
  unfold C_X10_ifServed at hf
  refine lv_aload_n Cx.1 Cx.2.1 (dd_at td_X10_ifServed 0 rfl) rfl (lv_at hl 0 rfl) ?_
  obtain ⟨g1, hf⟩ := fc_of_gd hf
  refine cc_gA (ci := 12) (C := RX10) (T := TX10) (N := 8) (k := 0) (ref := "EclipsesKept$Years") Cx hM g1 rfl cc_inX10 rfl (by decide) cw416 (fun _ h => h) (dd_at td_X10_ifServed 1 rfl) rfl ?_
  refine lv_aload_n Cx.1 Cx.2.1 (dd_at td_X10_ifServed 2 rfl) rfl (lv_at hl 0 rfl) ?_
  refine cc_gI (ci := 12) (C := RX10) (T := TX10) (N := 8) (k := 7) (ref := "EclipsesKept$Years") Cx hM g1 rfl cc_inX10 rfl (by decide) cw424 (fun _ h => h) (dd_at td_X10_ifServed 3 rfl) rfl ?_
  refine lv_iload_n Cx.1 Cx.2.1 (dd_at td_X10_ifServed 4 rfl) rfl (lv_at hl 2 rfl) ?_
  refine lv_isub Cx.1 Cx.2.1 (dd_at td_X10_ifServed 5 rfl) ?_
  refine lv_iload_n Cx.1 Cx.2.1 (dd_at td_X10_ifServed 6 rfl) rfl (lv_at hl 3 rfl) ?_
  refine lv_iload_n Cx.1 Cx.2.1 (dd_at td_X10_ifServed 7 rfl) rfl (lv_at hl 1 rfl) ?_
  obtain ⟨r4, st2, hx3, hf⟩ := fc_of_bn hf
  refine cc_ai hM (cc_rS (As := [.int ((cc_I st x0 7) - x2), .int x3, .int x1]) (rest := [.ref (cx_b X x0 0)]) (n := 3) Cx hM (c_X10_place l D X fu ((cc_I st x0 7) - x2) x3 x1 st r4 st2 hx3) (cc_gdS cw429 cw430 cw431 cw425) hd_X10_place ⟨Nat.le_of_ble_eq_true rfl, Nat.le_of_ble_eq_true rfl⟩ rfl hl.1 rfl (Nat.le_of_ble_eq_true rfl) (dd_at td_X10_ifServed 8 rfl) ⟨Nat.le_refl 0, Nat.le_refl 0⟩) (fun H locs hM => ?_)
  obtain ⟨g5, hf⟩ := fc_of_gd hf
  refine cc_iald Cx hM g5 (dd_at td_X10_ifServed 9 rfl) ?_
  refine lv_aload_n Cx.1 Cx.2.1 (dd_at td_X10_ifServed 10 rfl) rfl (lv_at hl 0 rfl) ?_
  refine cc_gI (ci := 12) (C := RX10) (T := TX10) (N := 8) (k := 6) (ref := "EclipsesKept$Years") Cx hM g1 rfl cc_inX10 rfl (by decide) cw423 (fun _ h => h) (dd_at td_X10_ifServed 11 rfl) rfl ?_
  refine lv_iload_n Cx.1 Cx.2.1 (dd_at td_X10_ifServed 12 rfl) rfl (lv_at hl 3 rfl) ?_
  refine lv_iconst (v := (1 : Int32)) Cx.1 Cx.2.1 (dd_at td_X10_ifServed 13 rfl) (by decide) ?_
  refine lv_isub Cx.1 Cx.2.1 (dd_at td_X10_ifServed 14 rfl) ?_
  refine lv_imul Cx.1 Cx.2.1 (dd_at td_X10_ifServed 15 rfl) ?_
  refine lv_isub Cx.1 Cx.2.1 (dd_at td_X10_ifServed 16 rfl) ?_
  refine lv_i2l Cx.1 Cx.2.1 (dd_at td_X10_ifServed 17 rfl) rfl ?_
  refine lv_topl (fun v6 ev6 => ?_)
  replace hf := fc_of_nm hf v6 ev6
  refine lv_lstore (lv' := [(4, .long v6), (0, .ref (cx_a X x0)), (1, .int x1), (2, .int x2), (3, .int x3)]) Cx.1 Cx.2.1 (dd_at td_X10_ifServed 18 rfl) hl (by decide) rfl (fun ls hl => ?_)
  refine lv_aload_n Cx.1 Cx.2.1 (dd_at td_X10_ifServed 19 rfl) rfl (lv_at hl 1 rfl) ?_
  refine cc_gA (ci := 12) (C := RX10) (T := TX10) (N := 8) (k := 2) (ref := "EclipsesKept$Years") Cx hM g1 rfl cc_inX10 rfl (by decide) cw419 (fun _ h => h) (dd_at td_X10_ifServed 20 rfl) rfl ?_
  refine lv_iload_n Cx.1 Cx.2.1 (dd_at td_X10_ifServed 21 rfl) rfl (lv_at hl 3 rfl) ?_
  refine lv_iconst (v := (1 : Int32)) Cx.1 Cx.2.1 (dd_at td_X10_ifServed 22 rfl) (by decide) ?_
  refine lv_isub Cx.1 Cx.2.1 (dd_at td_X10_ifServed 23 rfl) ?_
  obtain ⟨g7, hf⟩ := fc_of_gd hf
  refine cc_aldg Cx hM g7 (dd_at td_X10_ifServed 24 rfl) ?_
  refine lv_iload_n Cx.1 Cx.2.1 (dd_at td_X10_ifServed 25 rfl) rfl (lv_at hl 4 rfl) ?_
  refine lv_iconst (v := (1 : Int32)) Cx.1 Cx.2.1 (dd_at td_X10_ifServed 26 rfl) (by decide) ?_
  refine lv_isub Cx.1 Cx.2.1 (dd_at td_X10_ifServed 27 rfl) ?_
  obtain ⟨g8, hf⟩ := fc_of_gd hf
  refine cc_lald Cx hM g8 (dd_at td_X10_ifServed 28 rfl) ?_
  refine lv_lload Cx.1 Cx.2.1 (dd_at td_X10_ifServed 29 rfl) (lv_at hl 0 rfl) ?_
  refine lv_aload_n Cx.1 Cx.2.1 (dd_at td_X10_ifServed 30 rfl) rfl (lv_at hl 1 rfl) ?_
  refine cc_gA (ci := 12) (C := RX10) (T := TX10) (N := 8) (k := 1) (ref := "EclipsesKept$Years") Cx hM g1 rfl cc_inX10 rfl (by decide) cw417 (fun _ h => h) (dd_at td_X10_ifServed 31 rfl) rfl ?_
  refine lv_iload_n Cx.1 Cx.2.1 (dd_at td_X10_ifServed 32 rfl) rfl (lv_at hl 3 rfl) ?_
  refine lv_iconst (v := (1 : Int32)) Cx.1 Cx.2.1 (dd_at td_X10_ifServed 33 rfl) (by decide) ?_
  refine lv_isub Cx.1 Cx.2.1 (dd_at td_X10_ifServed 34 rfl) ?_
  obtain ⟨g9, hf⟩ := fc_of_gd hf
  refine cc_lald Cx hM g9 (dd_at td_X10_ifServed 35 rfl) ?_
  refine lv_lmul Cx.1 Cx.2.1 (dd_at td_X10_ifServed 36 rfl) ?_
  refine lv_ladd Cx.1 Cx.2.1 (dd_at td_X10_ifServed 37 rfl) ?_
  exact cc_rl Cx hM (dd_at td_X10_ifServed 38 rfl) hf
theorem c_X10_ifServed (l : Launch) (D : va_G) (X : cc_X) (fu : Nat) (x0 : Nat) (x1 : Int32) (x2 : Int32) (x3 : Int32) (st : cc_S) : cc_Ml l D X yX10_ifServed cX10_ifServed 6 (some .long) 1 22 [.ref (cx_a X x0), .int x1, .int x2, .int x3] st (C_X10_ifServed X fu x0 x1 x2 x3 st) := by
  intro r st' hf
  refine cc_enter (cc := cX10_ifServed) (nL := 6) (ret := some .long) (by decide +kernel) rfl (Nat.le_of_ble_eq_true rfl) ?_
  intro p e s m args below meth c ls Cx hl hM
  exact w_X10_ifServed Cx fu x0 x1 x2 x3 st hf hl hM

/-! X10_ifSpared -/
def tb_X10_ifSpared : List (Nat × Instr × Nat) := [(0, .aload_n 0, 1), (1, .getfield 21, 3), (4, .iload_n 1, 1), (5, .iconst 1, 1), (6, .isub, 1), (7, .aaload, 1), (8, .iload_n 2, 1), (9, .laload, 1), (10, .aload_n 0, 1), (11, .getfield 34, 3), (14, .iload_n 2, 1), (15, .imul, 1), (16, .i2l, 1), (17, .aload_n 0, 1), (18, .getfield 15, 3), (21, .iload_n 1, 1), (22, .iconst 1, 1), (23, .isub, 1), (24, .laload, 1), (25, .lmul, 1), (26, .lsub, 1), (27, .lreturn, 1)]
theorem td_X10_ifSpared : tb_X10_ifSpared.all (fun q => decide (decode cX10_ifSpared q.1 = .ok (q.2.1, q.2.2))) = true := by decide +kernel
theorem hd_X10_ifSpared : yX10_ifSpared.cls = RX10 ∧ yX10_ifSpared.cls ≠ "java/lang/invoke/MethodHandle" ∧ yX10_ifSpared.cls ≠ "java/lang/invoke/VarHandle" ∧ (parseMethodDescriptor yX10_ifSpared.desc).map (fun d => d.parameters.length) = some 2 := by decide +kernel
theorem hs_X10_ifSpared : yX10_ifSpared.name ≠ "<init>" ∧ (parseMethodDescriptor yX10_ifSpared.desc).map (fun d => d.parameters.length) = some 2 := by decide +kernel
theorem w_X10_ifSpared {p : Program} {l : Launch} {e : Env} {s : State} {m : MethodId} {args : Array Value} {below : List Frame} {meth : Method} {c : Code} {D : va_G} {X : cc_X} {r : Int64} {st' : cc_S} (Cx : cc_C p s m args meth c cX10_ifSpared 3 (some .long) RX10 D X) (fu : Nat) (x0 : Nat) (x1 : Int32) (x2 : Int32) (st : cc_S) (hf : C_X10_ifSpared X fu x0 x1 x2 st = some (r, st')) {H : Heap} {locs : List Loc} {ls : Array Slot} (hl : lv_has ls 3 [(0, .ref (cx_a X x0)), (1, .int x1), (2, .int x2)]) (hM : cc_H D X s.heap st H locs) : W p l e (mm_R 0 0) s m args below meth c H locs 0 0 (MQ below (cc_Ql D X r st') args s 0 0 (cc_A X)) (F0 m 0 ls []) := by
  unfold C_X10_ifSpared at hf
  refine lv_aload_n Cx.1 Cx.2.1 (dd_at td_X10_ifSpared 0 rfl) rfl (lv_at hl 0 rfl) ?_
  obtain ⟨g1, hf⟩ := fc_of_gd hf
  refine cc_gA (ci := 12) (C := RX10) (T := TX10) (N := 8) (k := 2) (ref := "EclipsesKept$Years") Cx hM g1 rfl cc_inX10 rfl (by decide) cw419 (fun _ h => h) (dd_at td_X10_ifSpared 1 rfl) rfl ?_
  refine lv_iload_n Cx.1 Cx.2.1 (dd_at td_X10_ifSpared 2 rfl) rfl (lv_at hl 1 rfl) ?_
  refine lv_iconst (v := (1 : Int32)) Cx.1 Cx.2.1 (dd_at td_X10_ifSpared 3 rfl) (by decide) ?_
  refine lv_isub Cx.1 Cx.2.1 (dd_at td_X10_ifSpared 4 rfl) ?_
  obtain ⟨g2, hf⟩ := fc_of_gd hf
  refine cc_aldg Cx hM g2 (dd_at td_X10_ifSpared 5 rfl) ?_
  refine lv_iload_n Cx.1 Cx.2.1 (dd_at td_X10_ifSpared 6 rfl) rfl (lv_at hl 2 rfl) ?_
  obtain ⟨g3, hf⟩ := fc_of_gd hf
  refine cc_lald Cx hM g3 (dd_at td_X10_ifSpared 7 rfl) ?_
  refine lv_aload_n Cx.1 Cx.2.1 (dd_at td_X10_ifSpared 8 rfl) rfl (lv_at hl 0 rfl) ?_
  refine cc_gI (ci := 12) (C := RX10) (T := TX10) (N := 8) (k := 6) (ref := "EclipsesKept$Years") Cx hM g1 rfl cc_inX10 rfl (by decide) cw423 (fun _ h => h) (dd_at td_X10_ifSpared 9 rfl) rfl ?_
  refine lv_iload_n Cx.1 Cx.2.1 (dd_at td_X10_ifSpared 10 rfl) rfl (lv_at hl 2 rfl) ?_
  refine lv_imul Cx.1 Cx.2.1 (dd_at td_X10_ifSpared 11 rfl) ?_
  refine lv_i2l Cx.1 Cx.2.1 (dd_at td_X10_ifSpared 12 rfl) rfl ?_
  refine lv_aload_n Cx.1 Cx.2.1 (dd_at td_X10_ifSpared 13 rfl) rfl (lv_at hl 0 rfl) ?_
  refine cc_gA (ci := 12) (C := RX10) (T := TX10) (N := 8) (k := 1) (ref := "EclipsesKept$Years") Cx hM g1 rfl cc_inX10 rfl (by decide) cw417 (fun _ h => h) (dd_at td_X10_ifSpared 14 rfl) rfl ?_
  refine lv_iload_n Cx.1 Cx.2.1 (dd_at td_X10_ifSpared 15 rfl) rfl (lv_at hl 1 rfl) ?_
  refine lv_iconst (v := (1 : Int32)) Cx.1 Cx.2.1 (dd_at td_X10_ifSpared 16 rfl) (by decide) ?_
  refine lv_isub Cx.1 Cx.2.1 (dd_at td_X10_ifSpared 17 rfl) ?_
  obtain ⟨g4, hf⟩ := fc_of_gd hf
  refine cc_lald Cx hM g4 (dd_at td_X10_ifSpared 18 rfl) ?_
  refine lv_lmul Cx.1 Cx.2.1 (dd_at td_X10_ifSpared 19 rfl) ?_
  refine lv_lsub Cx.1 Cx.2.1 (dd_at td_X10_ifSpared 20 rfl) ?_
  exact cc_rl Cx hM (dd_at td_X10_ifSpared 21 rfl) hf
theorem c_X10_ifSpared (l : Launch) (D : va_G) (X : cc_X) (fu : Nat) (x0 : Nat) (x1 : Int32) (x2 : Int32) (st : cc_S) : cc_Ml l D X yX10_ifSpared cX10_ifSpared 3 (some .long) 0 0 [.ref (cx_a X x0), .int x1, .int x2] st (C_X10_ifSpared X fu x0 x1 x2 st) := by
  intro r st' hf
  refine cc_enter (cc := cX10_ifSpared) (nL := 3) (ret := some .long) (by decide +kernel) rfl (Nat.le_of_ble_eq_true rfl) ?_
  intro p e s m args below meth c ls Cx hl hM
  exact w_X10_ifSpared Cx fu x0 x1 x2 st hf hl hM

/-! X10_serves -/
def tb_X10_serves : List (Nat × Instr × Nat) := [(0, .iload_n 3, 1), (1, .iconst 1, 1), (2, .if_icmp .ge 5, 3), (5, .iconst 0, 1), (6, .ireturn, 1), (7, .iload 4, 2), (9, .lookupswitch 75 #[(0, 27), (1, 50)], 27), (36, .aload_n 0, 1), (37, .iload_n 1, 1), (38, .iload_n 2, 1), (39, .iload_n 3, 1), (40, .invokevirtual 67, 3), (43, .aload_n 0, 1), (44, .iload_n 2, 1), (45, .iload_n 3, 1), (46, .invokevirtual 71, 3), (49, .lcmp, 1), (50, .ifCond .le 7, 3), (53, .iconst 1, 1), (54, .goto 4, 3), (57, .iconst 0, 1), (58, .ireturn, 1), (59, .aload_n 0, 1), (60, .getfield 9, 3), (63, .aload_n 0, 1), (64, .getfield 37, 3), (67, .iload_n 2, 1), (68, .isub, 1), (69, .iload_n 3, 1), (70, .iload_n 1, 1), (71, .invokestatic 49, 3), (74, .iaload, 1), (75, .ifCond .le 7, 3), (78, .iconst 1, 1), (79, .goto 4, 3), (82, .iconst 0, 1), (83, .ireturn, 1), (84, .iload 5, 2), (86, .iload_n 1, 1), (87, .ishr, 1), (88, .iconst 1, 1), (89, .iand, 1), (90, .iconst 1, 1), (91, .if_icmp .ne 7, 3), (94, .iconst 1, 1), (95, .goto 4, 3), (98, .iconst 0, 1), (99, .ireturn, 1)]
theorem td_X10_serves : tb_X10_serves.all (fun q => decide (decode cX10_serves q.1 = .ok (q.2.1, q.2.2))) = true := by decide +kernel
theorem hd_X10_serves : yX10_serves.cls = RX10 ∧ yX10_serves.cls ≠ "java/lang/invoke/MethodHandle" ∧ yX10_serves.cls ≠ "java/lang/invoke/VarHandle" ∧ (parseMethodDescriptor yX10_serves.desc).map (fun d => d.parameters.length) = some 5 := by decide +kernel
theorem hs_X10_serves : yX10_serves.name ≠ "<init>" ∧ (parseMethodDescriptor yX10_serves.desc).map (fun d => d.parameters.length) = some 5 := by decide +kernel
theorem w_X10_serves {p : Program} {l : Launch} {e : Env} {s : State} {m : MethodId} {args : Array Value} {below : List Frame} {meth : Method} {c : Code} {D : va_G} {X : cc_X} {r : Int32} {st' : cc_S} (Cx : cc_C p s m args meth c cX10_serves 6 (some .boolean) RX10 D X) (fu : Nat) (x0 : Nat) (x1 : Int32) (x2 : Int32) (x3 : Int32) (x4 : Int32) (x5 : Int32) (st : cc_S) (hf : C_X10_serves X fu x0 x1 x2 x3 x4 x5 st = some (r, st')) {H : Heap} {locs : List Loc} {ls : Array Slot} (hl : lv_has ls 6 [(0, .ref (cx_a X x0)), (1, .int x1), (2, .int x2), (3, .int x3), (4, .int x4), (5, .int x5)]) (hM : cc_H D X s.heap st H locs) : W p l e (mm_R 2 47) s m args below meth c H locs 0 0 (MQ below (cc_Qi D X r st') args s 0 0 (cc_A X)) (F0 m 0 ls []) := by
  unfold C_X10_serves at hf
  refine lv_iload_n Cx.1 Cx.2.1 (dd_at td_X10_serves 0 rfl) rfl (lv_at hl 3 rfl) ?_
  refine lv_iconst (v := (1 : Int32)) Cx.1 Cx.2.1 (dd_at td_X10_serves 1 rfl) (by decide) ?_
  refine lv_icmp_ge (tgt := 7) Cx.1 Cx.2.1 (dd_at td_X10_serves 2 rfl) (by decide) (fun c1 => ?_) (fun c1 => ?_)
  · replace hf := fc_of_t hf c1
    refine lv_iload Cx.1 Cx.2.1 (dd_at td_X10_serves 5 rfl) (lv_at hl 4 rfl) ?_
    by_cases c2 : x4 = (0 : Int32)
    · replace hf := fc_of_t hf c2
      refine lv_lookup (off := 27) (tgt := 36) Cx.1 Cx.2.1 (dd_at td_X10_serves 6 rfl) (by decide) (by rw [c2]; decide) (by decide) ?_
      refine lv_aload_n Cx.1 Cx.2.1 (dd_at td_X10_serves 7 rfl) rfl (lv_at hl 0 rfl) ?_
      refine lv_iload_n Cx.1 Cx.2.1 (dd_at td_X10_serves 8 rfl) rfl (lv_at hl 1 rfl) ?_
      refine lv_iload_n Cx.1 Cx.2.1 (dd_at td_X10_serves 9 rfl) rfl (lv_at hl 2 rfl) ?_
      refine lv_iload_n Cx.1 Cx.2.1 (dd_at td_X10_serves 10 rfl) rfl (lv_at hl 3 rfl) ?_
      obtain ⟨g3, hf⟩ := fc_of_gd hf
      obtain ⟨r6, st4, hx5, hf⟩ := fc_of_bn hf
      refine cc_all hM (cc_rV (ci := 12) (As := [.int x1, .int x2, .int x3]) (rest := []) (n := 3) Cx hM g3 rfl (c_X10_ifServed l D X fu x0 x1 x2 x3 st r6 st4 hx5) (cc_gdV cw437 cw438 cw439 cw431 cw434) hd_X10_ifServed ⟨Nat.le_of_ble_eq_true rfl, Nat.le_of_ble_eq_true rfl⟩ rfl hl.1 rfl (Nat.le_of_ble_eq_true rfl) (dd_at td_X10_serves 11 rfl) ⟨Nat.le_refl 0, Nat.le_refl 0⟩) (fun H locs hM => ?_)
      refine lv_aload_n Cx.1 Cx.2.1 (dd_at td_X10_serves 12 rfl) rfl (lv_at hl 0 rfl) ?_
      refine lv_iload_n Cx.1 Cx.2.1 (dd_at td_X10_serves 13 rfl) rfl (lv_at hl 2 rfl) ?_
      refine lv_iload_n Cx.1 Cx.2.1 (dd_at td_X10_serves 14 rfl) rfl (lv_at hl 3 rfl) ?_
      obtain ⟨r9, st7, hx8, hf⟩ := fc_of_bn hf
      refine cc_all hM (cc_rV (ci := 12) (As := [.int x2, .int x3]) (rest := [.long r6]) (n := 2) Cx hM g3 rfl (c_X10_ifSpared l D X fu x0 x2 x3 st4 r9 st7 hx8) (cc_gdV cw440 cw441 cw442 cw431 cw435) hd_X10_ifSpared ⟨Nat.le_of_ble_eq_true rfl, Nat.le_of_ble_eq_true rfl⟩ rfl hl.1 rfl (Nat.le_of_ble_eq_true rfl) (dd_at td_X10_serves 15 rfl) ⟨Nat.le_refl 0, Nat.le_refl 0⟩) (fun H locs hM => ?_)
      refine W.lcmp Cx.1 Cx.2.1 (dd_at td_X10_serves 16 rfl) ?_
      refine lv_if_le (tgt := 57) Cx.1 Cx.2.1 (dd_at td_X10_serves 17 rfl) (by decide) (fun c10 => ?_) (fun c10 => ?_)
      · replace hf := fc_of_t hf c10
        refine lv_iconst (v := (0 : Int32)) Cx.1 Cx.2.1 (dd_at td_X10_serves 20 rfl) (by decide) ?_
        exact cc_rz Cx hM (dd_at td_X10_serves 21 rfl) rfl hf
      · replace hf := fc_of_f hf c10
        refine lv_iconst (v := (1 : Int32)) Cx.1 Cx.2.1 (dd_at td_X10_serves 18 rfl) (by decide) ?_
        refine lv_goto (tgt := 58) Cx.1 Cx.2.1 (dd_at td_X10_serves 19 rfl) (by decide) ?_
        exact cc_rz Cx hM (dd_at td_X10_serves 21 rfl) rfl hf
    · replace hf := fc_of_f hf c2
      by_cases c11 : x4 = (1 : Int32)
      · replace hf := fc_of_t hf c11
        refine lv_lookup (off := 50) (tgt := 59) Cx.1 Cx.2.1 (dd_at td_X10_serves 6 rfl) (by decide) (by rw [c11]; decide) (by decide) ?_
        refine lv_aload_n Cx.1 Cx.2.1 (dd_at td_X10_serves 22 rfl) rfl (lv_at hl 0 rfl) ?_
        obtain ⟨g12, hf⟩ := fc_of_gd hf
        refine cc_gA (ci := 12) (C := RX10) (T := TX10) (N := 8) (k := 0) (ref := "EclipsesKept$Years") Cx hM g12 rfl cc_inX10 rfl (by decide) cw416 (fun _ h => h) (dd_at td_X10_serves 23 rfl) rfl ?_
        refine lv_aload_n Cx.1 Cx.2.1 (dd_at td_X10_serves 24 rfl) rfl (lv_at hl 0 rfl) ?_
        refine cc_gI (ci := 12) (C := RX10) (T := TX10) (N := 8) (k := 7) (ref := "EclipsesKept$Years") Cx hM g12 rfl cc_inX10 rfl (by decide) cw424 (fun _ h => h) (dd_at td_X10_serves 25 rfl) rfl ?_
        refine lv_iload_n Cx.1 Cx.2.1 (dd_at td_X10_serves 26 rfl) rfl (lv_at hl 2 rfl) ?_
        refine lv_isub Cx.1 Cx.2.1 (dd_at td_X10_serves 27 rfl) ?_
        refine lv_iload_n Cx.1 Cx.2.1 (dd_at td_X10_serves 28 rfl) rfl (lv_at hl 3 rfl) ?_
        refine lv_iload_n Cx.1 Cx.2.1 (dd_at td_X10_serves 29 rfl) rfl (lv_at hl 1 rfl) ?_
        obtain ⟨r15, st13, hx14, hf⟩ := fc_of_bn hf
        refine cc_ai hM (cc_rS (As := [.int ((cc_I st x0 7) - x2), .int x3, .int x1]) (rest := [.ref (cx_b X x0 0)]) (n := 3) Cx hM (c_X10_place l D X fu ((cc_I st x0 7) - x2) x3 x1 st r15 st13 hx14) (cc_gdS cw429 cw430 cw431 cw425) hd_X10_place ⟨Nat.le_of_ble_eq_true rfl, Nat.le_of_ble_eq_true rfl⟩ rfl hl.1 rfl (Nat.le_of_ble_eq_true rfl) (dd_at td_X10_serves 30 rfl) ⟨Nat.le_refl 0, Nat.le_refl 0⟩) (fun H locs hM => ?_)
        obtain ⟨g16, hf⟩ := fc_of_gd hf
        refine cc_iald Cx hM g16 (dd_at td_X10_serves 31 rfl) ?_
        refine lv_if_le (tgt := 82) Cx.1 Cx.2.1 (dd_at td_X10_serves 32 rfl) (by decide) (fun c17 => ?_) (fun c17 => ?_)
        · replace hf := fc_of_t hf c17
          refine lv_iconst (v := (0 : Int32)) Cx.1 Cx.2.1 (dd_at td_X10_serves 35 rfl) (by decide) ?_
          exact cc_rz Cx hM (dd_at td_X10_serves 36 rfl) rfl hf
        · replace hf := fc_of_f hf c17
          refine lv_iconst (v := (1 : Int32)) Cx.1 Cx.2.1 (dd_at td_X10_serves 33 rfl) (by decide) ?_
          refine lv_goto (tgt := 83) Cx.1 Cx.2.1 (dd_at td_X10_serves 34 rfl) (by decide) ?_
          exact cc_rz Cx hM (dd_at td_X10_serves 36 rfl) rfl hf
      · replace hf := fc_of_f hf c11
        refine lv_lookup (off := 75) (tgt := 84) Cx.1 Cx.2.1 (dd_at td_X10_serves 6 rfl) (by decide) (by show Op.lookupswitch.offset [(0, 27), (1, 50)] 75 _ = _; rw [lv_osw c2 (by decide), lv_osw c11 (by decide)]; rfl) (by decide) ?_
        refine lv_iload Cx.1 Cx.2.1 (dd_at td_X10_serves 37 rfl) (lv_at hl 5 rfl) ?_
        refine lv_iload_n Cx.1 Cx.2.1 (dd_at td_X10_serves 38 rfl) rfl (lv_at hl 1 rfl) ?_
        refine lv_ishr Cx.1 Cx.2.1 (dd_at td_X10_serves 39 rfl) ?_
        refine lv_iconst (v := (1 : Int32)) Cx.1 Cx.2.1 (dd_at td_X10_serves 40 rfl) (by decide) ?_
        refine lv_iand Cx.1 Cx.2.1 (dd_at td_X10_serves 41 rfl) ?_
        refine lv_iconst (v := (1 : Int32)) Cx.1 Cx.2.1 (dd_at td_X10_serves 42 rfl) (by decide) ?_
        refine lv_icmp_ne (tgt := 98) Cx.1 Cx.2.1 (dd_at td_X10_serves 43 rfl) (by decide) (fun c18 => ?_) (fun c18 => ?_)
        · replace hf := fc_of_f hf c18
          refine lv_iconst (v := (0 : Int32)) Cx.1 Cx.2.1 (dd_at td_X10_serves 46 rfl) (by decide) ?_
          exact cc_rz Cx hM (dd_at td_X10_serves 47 rfl) rfl hf
        · replace hf := fc_of_t hf c18
          refine lv_iconst (v := (1 : Int32)) Cx.1 Cx.2.1 (dd_at td_X10_serves 44 rfl) (by decide) ?_
          refine lv_goto (tgt := 99) Cx.1 Cx.2.1 (dd_at td_X10_serves 45 rfl) (by decide) ?_
          exact cc_rz Cx hM (dd_at td_X10_serves 47 rfl) rfl hf
  · replace hf := fc_of_f hf c1
    refine lv_iconst (v := (0 : Int32)) Cx.1 Cx.2.1 (dd_at td_X10_serves 3 rfl) (by decide) ?_
    exact cc_rz Cx hM (dd_at td_X10_serves 4 rfl) rfl hf
theorem c_X10_serves (l : Launch) (D : va_G) (X : cc_X) (fu : Nat) (x0 : Nat) (x1 : Int32) (x2 : Int32) (x3 : Int32) (x4 : Int32) (x5 : Int32) (st : cc_S) : cc_Mi l D X yX10_serves cX10_serves 6 (some .boolean) 2 47 [.ref (cx_a X x0), .int x1, .int x2, .int x3, .int x4, .int x5] st (C_X10_serves X fu x0 x1 x2 x3 x4 x5 st) := by
  intro r st' hf
  refine cc_enter (cc := cX10_serves) (nL := 6) (ret := some .boolean) (by decide +kernel) rfl (Nat.le_of_ble_eq_true rfl) ?_
  intro p e s m args below meth c ls Cx hl hM
  exact w_X10_serves Cx fu x0 x1 x2 x3 x4 x5 st hf hl hM

/-! X10_weighYear -/
def tb_X10_weighYear : List (Nat × Instr × Nat) := [(0, .lconst 0, 1), (1, .lstore 5, 2), (3, .iconst 0, 1), (4, .istore 7, 2), (6, .iload 7, 2), (8, .aload_n 0, 1), (9, .getfield 27, 3), (12, .if_icmp .ge 45, 3), (15, .lload 5, 2), (17, .aload_n 0, 1), (18, .iload 7, 2), (20, .iload_n 1, 1), (21, .iload_n 2, 1), (22, .iload_n 3, 1), (23, .iload 4, 2), (25, .invokevirtual 63, 3), (28, .ifCond .eq 14, 3), (31, .aload_n 0, 1), (32, .iload 7, 2), (34, .iload_n 1, 1), (35, .iload_n 2, 1), (36, .invokevirtual 67, 3), (39, .goto 9, 3), (42, .aload_n 0, 1), (43, .iload_n 1, 1), (44, .iload_n 2, 1), (45, .invokevirtual 71, 3), (48, .ladd, 1), (49, .lstore 5, 2), (51, .iinc 7 1, 3), (54, .goto (-48), 3), (57, .lload 5, 2), (59, .lreturn, 1)]
theorem td_X10_weighYear : tb_X10_weighYear.all (fun q => decide (decode cX10_weighYear q.1 = .ok (q.2.1, q.2.2))) = true := by decide +kernel
theorem hd_X10_weighYear : yX10_weighYear.cls = RX10 ∧ yX10_weighYear.cls ≠ "java/lang/invoke/MethodHandle" ∧ yX10_weighYear.cls ≠ "java/lang/invoke/VarHandle" ∧ (parseMethodDescriptor yX10_weighYear.desc).map (fun d => d.parameters.length) = some 4 := by decide +kernel
theorem hs_X10_weighYear : yX10_weighYear.name ≠ "<init>" ∧ (parseMethodDescriptor yX10_weighYear.desc).map (fun d => d.parameters.length) = some 4 := by decide +kernel
theorem w_X10_weighYear_b48 {p : Program} {l : Launch} {e : Env} {s : State} {m : MethodId} {args : Array Value} {below : List Frame} {meth : Method} {c : Code} {D : va_G} {X : cc_X} {r : Int64} {st' : cc_S} (Cx : cc_C p s m args meth c cX10_weighYear 8 (some .long) RX10 D X) (fu : Nat) (K6 : Nat → Int32 → Int32 → Int32 → Int32 → Int64 → Int32 → cc_S → Option (Int64 × cc_S)) (hK6 : ∀ (x0 : Nat) (x1 : Int32) (x2 : Int32) (x3 : Int32) (x4 : Int32) (x5 : Int64) (x7 : Int32) (st : cc_S) (H : Heap) (locs : List Loc) (ls : Array Slot), K6 x0 x1 x2 x3 x4 x5 x7 st = some (r, st') → lv_has ls 8 [(0, .ref (cx_a X x0)), (1, .int x1), (2, .int x2), (3, .int x3), (4, .int x4), (5, .long x5), (7, .int x7)] → cc_H D X s.heap st H locs → W p l e (mm_R 3 72) s m args below meth c H locs 0 0 (MQ below (cc_Ql D X r st') args s 0 0 (cc_A X)) (F0 m 6 ls [])) (x0 : Nat) (x1 : Int32) (x2 : Int32) (x3 : Int32) (x4 : Int32) (x7 : Int32) (s0 : Int64) (s1 : Int64) (st : cc_S) (hf : C_X10_weighYear_b48 X fu K6 x0 x1 x2 x3 x4 x7 s0 s1 st = some (r, st')) {H : Heap} {locs : List Loc} {ls : Array Slot} (hl : lv_has ls 8 [(0, .ref (cx_a X x0)), (1, .int x1), (2, .int x2), (3, .int x3), (4, .int x4), (7, .int x7)]) (hM : cc_H D X s.heap st H locs) : W p l e (mm_R 3 72) s m args below meth c H locs 0 0 (MQ below (cc_Ql D X r st') args s 0 0 (cc_A X)) (F0 m 48 ls [.long s0, .long s1]) := by
  unfold C_X10_weighYear_b48 at hf
  refine lv_ladd Cx.1 Cx.2.1 (dd_at td_X10_weighYear 27 rfl) ?_
  refine lv_topl (fun v13 ev13 => ?_)
  replace hf := fc_of_nm hf v13 ev13
  refine lv_lstore (lv' := [(5, .long v13), (0, .ref (cx_a X x0)), (1, .int x1), (2, .int x2), (3, .int x3), (4, .int x4), (7, .int x7)]) Cx.1 Cx.2.1 (dd_at td_X10_weighYear 28 rfl) hl (by decide) rfl (fun ls hl => ?_)
  obtain ⟨v14, ev14⟩ : ∃ y : Int32, y = x7 + (1 : Int32) := ⟨_, rfl⟩
  replace hf := fc_of_nm hf v14 ev14
  refine lv_iinc (v := v14) (lv' := [(7, .int v14), (5, .long v13), (0, .ref (cx_a X x0)), (1, .int x1), (2, .int x2), (3, .int x3), (4, .int x4)]) Cx.1 Cx.2.1 (dd_at td_X10_weighYear 29 rfl) hl (k := 6) rfl (by rw [ev14]; rfl) (by decide) rfl (fun ls hl => ?_)
  refine lv_goto (tgt := 6) Cx.1 Cx.2.1 (dd_at td_X10_weighYear 30 rfl) (by decide) ?_
  exact hK6 x0 x1 x2 x3 x4 v13 v14 st _ _ _ hf (lv_sub hl [2, 3, 4, 5, 6, 1, 0] rfl) hM
theorem w_X10_weighYear_b6F {p : Program} {l : Launch} {e : Env} {s : State} {m : MethodId} {args : Array Value} {below : List Frame} {meth : Method} {c : Code} {D : va_G} {X : cc_X} {r : Int64} {st' : cc_S} (Cx : cc_C p s m args meth c cX10_weighYear 8 (some .long) RX10 D X) (fu : Nat) (K6 : Nat → Int32 → Int32 → Int32 → Int32 → Int64 → Int32 → cc_S → Option (Int64 × cc_S)) (hK6 : ∀ (x0 : Nat) (x1 : Int32) (x2 : Int32) (x3 : Int32) (x4 : Int32) (x5 : Int64) (x7 : Int32) (st : cc_S) (H : Heap) (locs : List Loc) (ls : Array Slot), K6 x0 x1 x2 x3 x4 x5 x7 st = some (r, st') → lv_has ls 8 [(0, .ref (cx_a X x0)), (1, .int x1), (2, .int x2), (3, .int x3), (4, .int x4), (5, .long x5), (7, .int x7)] → cc_H D X s.heap st H locs → W p l e (mm_R 3 72) s m args below meth c H locs 0 0 (MQ below (cc_Ql D X r st') args s 0 0 (cc_A X)) (F0 m 6 ls [])) (x0 : Nat) (x1 : Int32) (x2 : Int32) (x3 : Int32) (x4 : Int32) (x5 : Int64) (x7 : Int32) (st : cc_S) (hf : C_X10_weighYear_b6F X fu K6 x0 x1 x2 x3 x4 x5 x7 st = some (r, st')) {H : Heap} {locs : List Loc} {ls : Array Slot} (hl : lv_has ls 8 [(0, .ref (cx_a X x0)), (1, .int x1), (2, .int x2), (3, .int x3), (4, .int x4), (5, .long x5), (7, .int x7)]) (hM : cc_H D X s.heap st H locs) : W p l e (mm_R 3 72) s m args below meth c H locs 0 0 (MQ below (cc_Ql D X r st') args s 0 0 (cc_A X)) (F0 m 6 ls []) := by
  unfold C_X10_weighYear_b6F at hf
  refine lv_iload Cx.1 Cx.2.1 (dd_at td_X10_weighYear 4 rfl) (lv_at hl 6 rfl) ?_
  refine lv_aload_n Cx.1 Cx.2.1 (dd_at td_X10_weighYear 5 rfl) rfl (lv_at hl 0 rfl) ?_
  obtain ⟨g1, hf⟩ := fc_of_gd hf
  refine cc_gI (ci := 12) (C := RX10) (T := TX10) (N := 8) (k := 4) (ref := "EclipsesKept$Years") Cx hM g1 rfl cc_inX10 rfl (by decide) cw421 (fun _ h => h) (dd_at td_X10_weighYear 6 rfl) rfl ?_
  refine lv_icmp_ge (tgt := 57) Cx.1 Cx.2.1 (dd_at td_X10_weighYear 7 rfl) (by decide) (fun c2 => ?_) (fun c2 => ?_)
  · replace hf := fc_of_t hf c2
    refine lv_lload Cx.1 Cx.2.1 (dd_at td_X10_weighYear 31 rfl) (lv_at hl 5 rfl) ?_
    exact cc_rl Cx hM (dd_at td_X10_weighYear 32 rfl) hf
  · replace hf := fc_of_f hf c2
    refine lv_lload Cx.1 Cx.2.1 (dd_at td_X10_weighYear 8 rfl) (lv_at hl 5 rfl) ?_
    refine lv_aload_n Cx.1 Cx.2.1 (dd_at td_X10_weighYear 9 rfl) rfl (lv_at hl 0 rfl) ?_
    refine lv_iload Cx.1 Cx.2.1 (dd_at td_X10_weighYear 10 rfl) (lv_at hl 6 rfl) ?_
    refine lv_iload_n Cx.1 Cx.2.1 (dd_at td_X10_weighYear 11 rfl) rfl (lv_at hl 1 rfl) ?_
    refine lv_iload_n Cx.1 Cx.2.1 (dd_at td_X10_weighYear 12 rfl) rfl (lv_at hl 2 rfl) ?_
    refine lv_iload_n Cx.1 Cx.2.1 (dd_at td_X10_weighYear 13 rfl) rfl (lv_at hl 3 rfl) ?_
    refine lv_iload Cx.1 Cx.2.1 (dd_at td_X10_weighYear 14 rfl) (lv_at hl 4 rfl) ?_
    obtain ⟨r5, st3, hx4, hf⟩ := fc_of_bn hf
    refine cc_ai hM (cc_rV (ci := 12) (As := [.int x7, .int x1, .int x2, .int x3, .int x4]) (rest := [.long x5]) (n := 5) Cx hM g1 rfl (c_X10_serves l D X fu x0 x7 x1 x2 x3 x4 st r5 st3 hx4) (cc_gdV cw444 cw445 cw446 cw431 cw436) hd_X10_serves ⟨Nat.le_of_ble_eq_true rfl, Nat.le_of_ble_eq_true rfl⟩ rfl hl.1 rfl (Nat.le_of_ble_eq_true rfl) (dd_at td_X10_weighYear 15 rfl) ⟨Nat.le_refl 0, Nat.le_refl 0⟩) (fun H locs hM => ?_)
    refine lv_if_eq (tgt := 42) Cx.1 Cx.2.1 (dd_at td_X10_weighYear 16 rfl) (by decide) (fun c6 => ?_) (fun c6 => ?_)
    · replace hf := fc_of_t hf c6
      refine lv_aload_n Cx.1 Cx.2.1 (dd_at td_X10_weighYear 23 rfl) rfl (lv_at hl 0 rfl) ?_
      refine lv_iload_n Cx.1 Cx.2.1 (dd_at td_X10_weighYear 24 rfl) rfl (lv_at hl 1 rfl) ?_
      refine lv_iload_n Cx.1 Cx.2.1 (dd_at td_X10_weighYear 25 rfl) rfl (lv_at hl 2 rfl) ?_
      obtain ⟨r9, st7, hx8, hf⟩ := fc_of_bn hf
      refine cc_all hM (cc_rV (ci := 12) (As := [.int x1, .int x2]) (rest := [.long x5]) (n := 2) Cx hM g1 rfl (c_X10_ifSpared l D X fu x0 x1 x2 st3 r9 st7 hx8) (cc_gdV cw440 cw441 cw442 cw431 cw435) hd_X10_ifSpared ⟨Nat.le_of_ble_eq_true rfl, Nat.le_of_ble_eq_true rfl⟩ rfl hl.1 rfl (Nat.le_of_ble_eq_true rfl) (dd_at td_X10_weighYear 26 rfl) ⟨Nat.le_refl 0, Nat.le_refl 0⟩) (fun H locs hM => ?_)
      exact w_X10_weighYear_b48 Cx fu K6 hK6 x0 x1 x2 x3 x4 x7 r9 x5 st7 hf (lv_sub hl [0, 1, 2, 3, 4, 6] rfl) hM
    · replace hf := fc_of_f hf c6
      refine lv_aload_n Cx.1 Cx.2.1 (dd_at td_X10_weighYear 17 rfl) rfl (lv_at hl 0 rfl) ?_
      refine lv_iload Cx.1 Cx.2.1 (dd_at td_X10_weighYear 18 rfl) (lv_at hl 6 rfl) ?_
      refine lv_iload_n Cx.1 Cx.2.1 (dd_at td_X10_weighYear 19 rfl) rfl (lv_at hl 1 rfl) ?_
      refine lv_iload_n Cx.1 Cx.2.1 (dd_at td_X10_weighYear 20 rfl) rfl (lv_at hl 2 rfl) ?_
      obtain ⟨r12, st10, hx11, hf⟩ := fc_of_bn hf
      refine cc_all hM (cc_rV (ci := 12) (As := [.int x7, .int x1, .int x2]) (rest := [.long x5]) (n := 3) Cx hM g1 rfl (c_X10_ifServed l D X fu x0 x7 x1 x2 st3 r12 st10 hx11) (cc_gdV cw437 cw438 cw439 cw431 cw434) hd_X10_ifServed ⟨Nat.le_of_ble_eq_true rfl, Nat.le_of_ble_eq_true rfl⟩ rfl hl.1 rfl (Nat.le_of_ble_eq_true rfl) (dd_at td_X10_weighYear 21 rfl) ⟨Nat.le_refl 0, Nat.le_refl 0⟩) (fun H locs hM => ?_)
      refine lv_goto (tgt := 48) Cx.1 Cx.2.1 (dd_at td_X10_weighYear 22 rfl) (by decide) ?_
      exact w_X10_weighYear_b48 Cx fu K6 hK6 x0 x1 x2 x3 x4 x7 r12 x5 st10 hf (lv_sub hl [0, 1, 2, 3, 4, 6] rfl) hM
theorem w_X10_weighYear_b6 {p : Program} {l : Launch} {e : Env} {s : State} {m : MethodId} {args : Array Value} {below : List Frame} {meth : Method} {c : Code} {D : va_G} {X : cc_X} {r : Int64} {st' : cc_S} (Cx : cc_C p s m args meth c cX10_weighYear 8 (some .long) RX10 D X) (fu : Nat) (n : Nat) : ∀ (x0 : Nat) (x1 : Int32) (x2 : Int32) (x3 : Int32) (x4 : Int32) (x5 : Int64) (x7 : Int32) (st : cc_S), C_X10_weighYear_b6 X fu n x0 x1 x2 x3 x4 x5 x7 st = some (r, st') → ∀ (H : Heap) (locs : List Loc) (ls : Array Slot), lv_has ls 8 [(0, .ref (cx_a X x0)), (1, .int x1), (2, .int x2), (3, .int x3), (4, .int x4), (5, .long x5), (7, .int x7)] → cc_H D X s.heap st H locs → W p l e (mm_R 3 72) s m args below meth c H locs 0 0 (MQ below (cc_Ql D X r st') args s 0 0 (cc_A X)) (F0 m 6 ls []) := by
  induction n with
  | zero => exact fun _ _ _ _ _ _ _ _ hf => fc_no hf
  | succ n ih =>
    intro x0 x1 x2 x3 x4 x5 x7 st hf H locs ls hl hM
    exact w_X10_weighYear_b6F Cx fu (fun x0 x1 x2 x3 x4 x5 x7 st => C_X10_weighYear_b6 X fu n x0 x1 x2 x3 x4 x5 x7 st) (fun x0 x1 x2 x3 x4 x5 x7 st H locs ls hf hl hM => ih x0 x1 x2 x3 x4 x5 x7 st hf H locs ls hl hM) x0 x1 x2 x3 x4 x5 x7 st hf hl hM
theorem w_X10_weighYear {p : Program} {l : Launch} {e : Env} {s : State} {m : MethodId} {args : Array Value} {below : List Frame} {meth : Method} {c : Code} {D : va_G} {X : cc_X} {r : Int64} {st' : cc_S} (Cx : cc_C p s m args meth c cX10_weighYear 8 (some .long) RX10 D X) (fu : Nat) (x0 : Nat) (x1 : Int32) (x2 : Int32) (x3 : Int32) (x4 : Int32) (st : cc_S) (hf : C_X10_weighYear X fu x0 x1 x2 x3 x4 st = some (r, st')) {H : Heap} {locs : List Loc} {ls : Array Slot} (hl : lv_has ls 8 [(0, .ref (cx_a X x0)), (1, .int x1), (2, .int x2), (3, .int x3), (4, .int x4)]) (hM : cc_H D X s.heap st H locs) : W p l e (mm_R 3 72) s m args below meth c H locs 0 0 (MQ below (cc_Ql D X r st') args s 0 0 (cc_A X)) (F0 m 0 ls []) := by
  unfold C_X10_weighYear at hf
  refine lv_lconst (v := (0 : Int64)) Cx.1 Cx.2.1 (dd_at td_X10_weighYear 0 rfl) (by decide) ?_
  refine lv_lstore (lv' := [(5, .long (0 : Int64)), (0, .ref (cx_a X x0)), (1, .int x1), (2, .int x2), (3, .int x3), (4, .int x4)]) Cx.1 Cx.2.1 (dd_at td_X10_weighYear 1 rfl) hl (by decide) rfl (fun ls hl => ?_)
  refine lv_iconst (v := (0 : Int32)) Cx.1 Cx.2.1 (dd_at td_X10_weighYear 2 rfl) (by decide) ?_
  refine lv_istore (lv' := [(7, .int (0 : Int32)), (5, .long (0 : Int64)), (0, .ref (cx_a X x0)), (1, .int x1), (2, .int x2), (3, .int x3), (4, .int x4)]) Cx.1 Cx.2.1 (dd_at td_X10_weighYear 3 rfl) hl (by decide) rfl (fun ls hl => ?_)
  exact w_X10_weighYear_b6 Cx fu fu x0 x1 x2 x3 x4 (0 : Int64) (0 : Int32) st hf _ _ _ (lv_sub hl [2, 3, 4, 5, 6, 1, 0] rfl) hM
theorem c_X10_weighYear (l : Launch) (D : va_G) (X : cc_X) (fu : Nat) (x0 : Nat) (x1 : Int32) (x2 : Int32) (x3 : Int32) (x4 : Int32) (st : cc_S) : cc_Ml l D X yX10_weighYear cX10_weighYear 8 (some .long) 3 72 [.ref (cx_a X x0), .int x1, .int x2, .int x3, .int x4] st (C_X10_weighYear X fu x0 x1 x2 x3 x4 st) := by
  intro r st' hf
  refine cc_enter (cc := cX10_weighYear) (nL := 8) (ret := some .long) (by decide +kernel) rfl (Nat.le_of_ble_eq_true rfl) ?_
  intro p e s m args below meth c ls Cx hl hM
  exact w_X10_weighYear Cx fu x0 x1 x2 x3 x4 st hf hl hM

/-! X10_weigh -/
def tb_X10_weigh : List (Nat × Instr × Nat) := [(0, .iconst 1, 1), (1, .istore 4, 2), (3, .iload 4, 2), (5, .iload_n 1, 1), (6, .if_icmp .gt 47, 3), (9, .iconst 0, 1), (10, .istore 5, 2), (12, .iload 5, 2), (14, .aload_n 0, 1), (15, .getfield 31, 3), (18, .if_icmp .gt 29, 3), (21, .aload_n 0, 1), (22, .getfield 21, 3), (25, .iload 4, 2), (27, .aaload, 1), (28, .iload 5, 2), (30, .aload_n 0, 1), (31, .iload 4, 2), (33, .iload 5, 2), (35, .iload_n 2, 1), (36, .iload_n 3, 1), (37, .invokevirtual 59, 3), (40, .lastore, 1), (41, .iinc 5 1, 3), (44, .goto (-32), 3), (47, .iinc 4 1, 3), (50, .goto (-47), 3), (53, .return_, 1)]
theorem td_X10_weigh : tb_X10_weigh.all (fun q => decide (decode cX10_weigh q.1 = .ok (q.2.1, q.2.2))) = true := by decide +kernel
theorem hd_X10_weigh : yX10_weigh.cls = RX10 ∧ yX10_weigh.cls ≠ "java/lang/invoke/MethodHandle" ∧ yX10_weigh.cls ≠ "java/lang/invoke/VarHandle" ∧ (parseMethodDescriptor yX10_weigh.desc).map (fun d => d.parameters.length) = some 3 := by decide +kernel
theorem hs_X10_weigh : yX10_weigh.name ≠ "<init>" ∧ (parseMethodDescriptor yX10_weigh.desc).map (fun d => d.parameters.length) = some 3 := by decide +kernel
theorem w_X10_weigh_b12F {p : Program} {l : Launch} {e : Env} {s : State} {m : MethodId} {args : Array Value} {below : List Frame} {meth : Method} {c : Code} {D : va_G} {X : cc_X} {st' : cc_S} (Cx : cc_C p s m args meth c cX10_weigh 6 (none) RX10 D X) (fu : Nat) (K3 : Nat → Int32 → Int32 → Int32 → Int32 → cc_S → Option cc_S) (hK3 : ∀ (x0 : Nat) (x1 : Int32) (x2 : Int32) (x3 : Int32) (x4 : Int32) (st : cc_S) (H : Heap) (locs : List Loc) (ls : Array Slot), K3 x0 x1 x2 x3 x4 st = some st' → lv_has ls 6 [(0, .ref (cx_a X x0)), (1, .int x1), (2, .int x2), (3, .int x3), (4, .int x4)] → cc_H D X s.heap st H locs → W p l e (mm_R 4 99) s m args below meth c H locs 0 0 (MQ below (cc_Qv D X st') args s 0 0 (cc_A X)) (F0 m 3 ls [])) (K12 : Nat → Int32 → Int32 → Int32 → Int32 → Int32 → cc_S → Option cc_S) (hK12 : ∀ (x0 : Nat) (x1 : Int32) (x2 : Int32) (x3 : Int32) (x4 : Int32) (x5 : Int32) (st : cc_S) (H : Heap) (locs : List Loc) (ls : Array Slot), K12 x0 x1 x2 x3 x4 x5 st = some st' → lv_has ls 6 [(0, .ref (cx_a X x0)), (1, .int x1), (2, .int x2), (3, .int x3), (4, .int x4), (5, .int x5)] → cc_H D X s.heap st H locs → W p l e (mm_R 4 99) s m args below meth c H locs 0 0 (MQ below (cc_Qv D X st') args s 0 0 (cc_A X)) (F0 m 12 ls [])) (x0 : Nat) (x1 : Int32) (x2 : Int32) (x3 : Int32) (x4 : Int32) (x5 : Int32) (st : cc_S) (hf : C_X10_weigh_b12F X fu K3 K12 x0 x1 x2 x3 x4 x5 st = some st') {H : Heap} {locs : List Loc} {ls : Array Slot} (hl : lv_has ls 6 [(0, .ref (cx_a X x0)), (1, .int x1), (2, .int x2), (3, .int x3), (4, .int x4), (5, .int x5)]) (hM : cc_H D X s.heap st H locs) : W p l e (mm_R 4 99) s m args below meth c H locs 0 0 (MQ below (cc_Qv D X st') args s 0 0 (cc_A X)) (F0 m 12 ls []) := by
  unfold C_X10_weigh_b12F at hf
  refine lv_iload Cx.1 Cx.2.1 (dd_at td_X10_weigh 7 rfl) (lv_at hl 5 rfl) ?_
  refine lv_aload_n Cx.1 Cx.2.1 (dd_at td_X10_weigh 8 rfl) rfl (lv_at hl 0 rfl) ?_
  obtain ⟨g2, hf⟩ := fc_of_gd hf
  refine cc_gI (ci := 12) (C := RX10) (T := TX10) (N := 8) (k := 5) (ref := "EclipsesKept$Years") Cx hM g2 rfl cc_inX10 rfl (by decide) cw422 (fun _ h => h) (dd_at td_X10_weigh 9 rfl) rfl ?_
  refine lv_icmp_gt (tgt := 47) Cx.1 Cx.2.1 (dd_at td_X10_weigh 10 rfl) (by decide) (fun c3 => ?_) (fun c3 => ?_)
  · replace hf := fc_of_t hf c3
    obtain ⟨v4, ev4⟩ : ∃ y : Int32, y = x4 + (1 : Int32) := ⟨_, rfl⟩
    replace hf := fc_of_nm hf v4 ev4
    refine lv_iinc (v := v4) (lv' := [(4, .int v4), (0, .ref (cx_a X x0)), (1, .int x1), (2, .int x2), (3, .int x3), (5, .int x5)]) Cx.1 Cx.2.1 (dd_at td_X10_weigh 25 rfl) hl (k := 4) rfl (by rw [ev4]; rfl) (by decide) rfl (fun ls hl => ?_)
    refine lv_goto (tgt := 3) Cx.1 Cx.2.1 (dd_at td_X10_weigh 26 rfl) (by decide) ?_
    exact hK3 x0 x1 x2 x3 v4 st _ _ _ hf (lv_sub hl [1, 2, 3, 4, 0] rfl) hM
  · replace hf := fc_of_f hf c3
    refine lv_aload_n Cx.1 Cx.2.1 (dd_at td_X10_weigh 11 rfl) rfl (lv_at hl 0 rfl) ?_
    refine cc_gA (ci := 12) (C := RX10) (T := TX10) (N := 8) (k := 2) (ref := "EclipsesKept$Years") Cx hM g2 rfl cc_inX10 rfl (by decide) cw419 (fun _ h => h) (dd_at td_X10_weigh 12 rfl) rfl ?_
    refine lv_iload Cx.1 Cx.2.1 (dd_at td_X10_weigh 13 rfl) (lv_at hl 4 rfl) ?_
    obtain ⟨g5, hf⟩ := fc_of_gd hf
    refine cc_aldg Cx hM g5 (dd_at td_X10_weigh 14 rfl) ?_
    refine lv_iload Cx.1 Cx.2.1 (dd_at td_X10_weigh 15 rfl) (lv_at hl 5 rfl) ?_
    refine lv_aload_n Cx.1 Cx.2.1 (dd_at td_X10_weigh 16 rfl) rfl (lv_at hl 0 rfl) ?_
    refine lv_iload Cx.1 Cx.2.1 (dd_at td_X10_weigh 17 rfl) (lv_at hl 4 rfl) ?_
    refine lv_iload Cx.1 Cx.2.1 (dd_at td_X10_weigh 18 rfl) (lv_at hl 5 rfl) ?_
    refine lv_iload_n Cx.1 Cx.2.1 (dd_at td_X10_weigh 19 rfl) rfl (lv_at hl 2 rfl) ?_
    refine lv_iload_n Cx.1 Cx.2.1 (dd_at td_X10_weigh 20 rfl) rfl (lv_at hl 3 rfl) ?_
    obtain ⟨r8, st6, hx7, hf⟩ := fc_of_bn hf
    refine cc_all hM (cc_rV (ci := 12) (As := [.int x4, .int x5, .int x2, .int x3]) (rest := [.int x5, .ref (cx_b X x0 (100 * 2 + x4.toNatClampNeg))]) (n := 4) Cx hM g2 rfl (c_X10_weighYear l D X fu x0 x4 x5 x2 x3 st r8 st6 hx7) (cc_gdV cw447 cw448 cw449 cw431 cw443) hd_X10_weighYear ⟨Nat.le_of_ble_eq_true rfl, Nat.le_of_ble_eq_true rfl⟩ rfl hl.1 rfl (Nat.le_of_ble_eq_true rfl) (dd_at td_X10_weigh 21 rfl) ⟨Nat.le_refl 0, Nat.le_refl 0⟩) (fun H locs hM => ?_)
    obtain ⟨g9, hf⟩ := fc_of_gd hf
    refine cc_last Cx hM g9 (dd_at td_X10_weigh 22 rfl) (fun st10 H locs est10 hM => ?_)
    replace hf := fc_of_nm hf st10 est10
    obtain ⟨v11, ev11⟩ : ∃ y : Int32, y = x5 + (1 : Int32) := ⟨_, rfl⟩
    replace hf := fc_of_nm hf v11 ev11
    refine lv_iinc (v := v11) (lv' := [(5, .int v11), (0, .ref (cx_a X x0)), (1, .int x1), (2, .int x2), (3, .int x3), (4, .int x4)]) Cx.1 Cx.2.1 (dd_at td_X10_weigh 23 rfl) hl (k := 5) rfl (by rw [ev11]; rfl) (by decide) rfl (fun ls hl => ?_)
    refine lv_goto (tgt := 12) Cx.1 Cx.2.1 (dd_at td_X10_weigh 24 rfl) (by decide) ?_
    exact hK12 x0 x1 x2 x3 x4 v11 st10 _ _ _ hf (lv_sub hl [1, 2, 3, 4, 5, 0] rfl) hM
theorem w_X10_weigh_b12 {p : Program} {l : Launch} {e : Env} {s : State} {m : MethodId} {args : Array Value} {below : List Frame} {meth : Method} {c : Code} {D : va_G} {X : cc_X} {st' : cc_S} (Cx : cc_C p s m args meth c cX10_weigh 6 (none) RX10 D X) (fu : Nat) (K3 : Nat → Int32 → Int32 → Int32 → Int32 → cc_S → Option cc_S) (hK3 : ∀ (x0 : Nat) (x1 : Int32) (x2 : Int32) (x3 : Int32) (x4 : Int32) (st : cc_S) (H : Heap) (locs : List Loc) (ls : Array Slot), K3 x0 x1 x2 x3 x4 st = some st' → lv_has ls 6 [(0, .ref (cx_a X x0)), (1, .int x1), (2, .int x2), (3, .int x3), (4, .int x4)] → cc_H D X s.heap st H locs → W p l e (mm_R 4 99) s m args below meth c H locs 0 0 (MQ below (cc_Qv D X st') args s 0 0 (cc_A X)) (F0 m 3 ls [])) (n : Nat) : ∀ (x0 : Nat) (x1 : Int32) (x2 : Int32) (x3 : Int32) (x4 : Int32) (x5 : Int32) (st : cc_S), C_X10_weigh_b12 X fu K3 n x0 x1 x2 x3 x4 x5 st = some st' → ∀ (H : Heap) (locs : List Loc) (ls : Array Slot), lv_has ls 6 [(0, .ref (cx_a X x0)), (1, .int x1), (2, .int x2), (3, .int x3), (4, .int x4), (5, .int x5)] → cc_H D X s.heap st H locs → W p l e (mm_R 4 99) s m args below meth c H locs 0 0 (MQ below (cc_Qv D X st') args s 0 0 (cc_A X)) (F0 m 12 ls []) := by
  induction n with
  | zero => exact fun _ _ _ _ _ _ _ hf => fc_no hf
  | succ n ih =>
    intro x0 x1 x2 x3 x4 x5 st hf H locs ls hl hM
    exact w_X10_weigh_b12F Cx fu K3 hK3 (fun x0 x1 x2 x3 x4 x5 st => C_X10_weigh_b12 X fu K3 n x0 x1 x2 x3 x4 x5 st) (fun x0 x1 x2 x3 x4 x5 st H locs ls hf hl hM => ih x0 x1 x2 x3 x4 x5 st hf H locs ls hl hM) x0 x1 x2 x3 x4 x5 st hf hl hM
theorem w_X10_weigh_b3F {p : Program} {l : Launch} {e : Env} {s : State} {m : MethodId} {args : Array Value} {below : List Frame} {meth : Method} {c : Code} {D : va_G} {X : cc_X} {st' : cc_S} (Cx : cc_C p s m args meth c cX10_weigh 6 (none) RX10 D X) (fu : Nat) (K3 : Nat → Int32 → Int32 → Int32 → Int32 → cc_S → Option cc_S) (hK3 : ∀ (x0 : Nat) (x1 : Int32) (x2 : Int32) (x3 : Int32) (x4 : Int32) (st : cc_S) (H : Heap) (locs : List Loc) (ls : Array Slot), K3 x0 x1 x2 x3 x4 st = some st' → lv_has ls 6 [(0, .ref (cx_a X x0)), (1, .int x1), (2, .int x2), (3, .int x3), (4, .int x4)] → cc_H D X s.heap st H locs → W p l e (mm_R 4 99) s m args below meth c H locs 0 0 (MQ below (cc_Qv D X st') args s 0 0 (cc_A X)) (F0 m 3 ls [])) (x0 : Nat) (x1 : Int32) (x2 : Int32) (x3 : Int32) (x4 : Int32) (st : cc_S) (hf : C_X10_weigh_b3F X fu K3 x0 x1 x2 x3 x4 st = some st') {H : Heap} {locs : List Loc} {ls : Array Slot} (hl : lv_has ls 6 [(0, .ref (cx_a X x0)), (1, .int x1), (2, .int x2), (3, .int x3), (4, .int x4)]) (hM : cc_H D X s.heap st H locs) : W p l e (mm_R 4 99) s m args below meth c H locs 0 0 (MQ below (cc_Qv D X st') args s 0 0 (cc_A X)) (F0 m 3 ls []) := by
  unfold C_X10_weigh_b3F at hf
  refine lv_iload Cx.1 Cx.2.1 (dd_at td_X10_weigh 2 rfl) (lv_at hl 4 rfl) ?_
  refine lv_iload_n Cx.1 Cx.2.1 (dd_at td_X10_weigh 3 rfl) rfl (lv_at hl 1 rfl) ?_
  refine lv_icmp_gt (tgt := 53) Cx.1 Cx.2.1 (dd_at td_X10_weigh 4 rfl) (by decide) (fun c1 => ?_) (fun c1 => ?_)
  · replace hf := fc_of_t hf c1
    exact cc_rv Cx hM (dd_at td_X10_weigh 27 rfl) hf
  · replace hf := fc_of_f hf c1
    refine lv_iconst (v := (0 : Int32)) Cx.1 Cx.2.1 (dd_at td_X10_weigh 5 rfl) (by decide) ?_
    refine lv_istore (lv' := [(5, .int (0 : Int32)), (0, .ref (cx_a X x0)), (1, .int x1), (2, .int x2), (3, .int x3), (4, .int x4)]) Cx.1 Cx.2.1 (dd_at td_X10_weigh 6 rfl) hl (by decide) rfl (fun ls hl => ?_)
    exact w_X10_weigh_b12 Cx fu K3 hK3 fu x0 x1 x2 x3 x4 (0 : Int32) st hf _ _ _ (lv_sub hl [1, 2, 3, 4, 5, 0] rfl) hM
theorem w_X10_weigh_b3 {p : Program} {l : Launch} {e : Env} {s : State} {m : MethodId} {args : Array Value} {below : List Frame} {meth : Method} {c : Code} {D : va_G} {X : cc_X} {st' : cc_S} (Cx : cc_C p s m args meth c cX10_weigh 6 (none) RX10 D X) (fu : Nat) (n : Nat) : ∀ (x0 : Nat) (x1 : Int32) (x2 : Int32) (x3 : Int32) (x4 : Int32) (st : cc_S), C_X10_weigh_b3 X fu n x0 x1 x2 x3 x4 st = some st' → ∀ (H : Heap) (locs : List Loc) (ls : Array Slot), lv_has ls 6 [(0, .ref (cx_a X x0)), (1, .int x1), (2, .int x2), (3, .int x3), (4, .int x4)] → cc_H D X s.heap st H locs → W p l e (mm_R 4 99) s m args below meth c H locs 0 0 (MQ below (cc_Qv D X st') args s 0 0 (cc_A X)) (F0 m 3 ls []) := by
  induction n with
  | zero => exact fun _ _ _ _ _ _ hf => fc_no hf
  | succ n ih =>
    intro x0 x1 x2 x3 x4 st hf H locs ls hl hM
    exact w_X10_weigh_b3F Cx fu (fun x0 x1 x2 x3 x4 st => C_X10_weigh_b3 X fu n x0 x1 x2 x3 x4 st) (fun x0 x1 x2 x3 x4 st H locs ls hf hl hM => ih x0 x1 x2 x3 x4 st hf H locs ls hl hM) x0 x1 x2 x3 x4 st hf hl hM
theorem w_X10_weigh {p : Program} {l : Launch} {e : Env} {s : State} {m : MethodId} {args : Array Value} {below : List Frame} {meth : Method} {c : Code} {D : va_G} {X : cc_X} {st' : cc_S} (Cx : cc_C p s m args meth c cX10_weigh 6 (none) RX10 D X) (fu : Nat) (x0 : Nat) (x1 : Int32) (x2 : Int32) (x3 : Int32) (st : cc_S) (hf : C_X10_weigh X fu x0 x1 x2 x3 st = some st') {H : Heap} {locs : List Loc} {ls : Array Slot} (hl : lv_has ls 6 [(0, .ref (cx_a X x0)), (1, .int x1), (2, .int x2), (3, .int x3)]) (hM : cc_H D X s.heap st H locs) : W p l e (mm_R 4 99) s m args below meth c H locs 0 0 (MQ below (cc_Qv D X st') args s 0 0 (cc_A X)) (F0 m 0 ls []) := by
  unfold C_X10_weigh at hf
  refine lv_iconst (v := (1 : Int32)) Cx.1 Cx.2.1 (dd_at td_X10_weigh 0 rfl) (by decide) ?_
  refine lv_istore (lv' := [(4, .int (1 : Int32)), (0, .ref (cx_a X x0)), (1, .int x1), (2, .int x2), (3, .int x3)]) Cx.1 Cx.2.1 (dd_at td_X10_weigh 1 rfl) hl (by decide) rfl (fun ls hl => ?_)
  exact w_X10_weigh_b3 Cx fu fu x0 x1 x2 x3 (1 : Int32) st hf _ _ _ (lv_sub hl [1, 2, 3, 4, 0] rfl) hM
theorem c_X10_weigh (l : Launch) (D : va_G) (X : cc_X) (fu : Nat) (x0 : Nat) (x1 : Int32) (x2 : Int32) (x3 : Int32) (st : cc_S) : cc_Mv l D X yX10_weigh cX10_weigh 6 (none) 4 99 [.ref (cx_a X x0), .int x1, .int x2, .int x3] st (C_X10_weigh X fu x0 x1 x2 x3 st) := by
  intro st' hf
  refine cc_enter (cc := cX10_weigh) (nL := 6) (ret := none) (by decide +kernel) rfl (Nat.le_of_ble_eq_true rfl) ?_
  intro p e s m args below meth c ls Cx hl hM
  exact w_X10_weigh Cx fu x0 x1 x2 x3 st hf hl hM

/-! X10_bestSet -/
def tb_X10_bestSet : List (Nat × Instr × Nat) := [(0, .iconst 0, 1), (1, .istore_n 3, 1), (2, .lconst 0, 1), (3, .lstore 4, 2), (5, .iconst 0, 1), (6, .istore 6, 2), (8, .iload 6, 2), (10, .iconst 1, 1), (11, .aload_n 0, 1), (12, .getfield 27, 3), (15, .ishl, 1), (16, .if_icmp .ge 49, 3), (19, .aload_n 0, 1), (20, .iload_n 1, 1), (21, .iconst 2, 1), (22, .iload 6, 2), (24, .invokevirtual 75, 3), (27, .iload 6, 2), (29, .ifCond .eq 17, 3), (32, .aload_n 0, 1), (33, .getfield 21, 3), (36, .iload_n 1, 1), (37, .aaload, 1), (38, .iload_n 2, 1), (39, .laload, 1), (40, .lload 4, 2), (42, .lcmp, 1), (43, .ifCond .le 16, 3), (46, .iload 6, 2), (48, .istore_n 3, 1), (49, .aload_n 0, 1), (50, .getfield 21, 3), (53, .iload_n 1, 1), (54, .aaload, 1), (55, .iload_n 2, 1), (56, .laload, 1), (57, .lstore 4, 2), (59, .iinc 6 1, 3), (62, .goto (-54), 3), (65, .iload_n 3, 1), (66, .ireturn, 1)]
theorem td_X10_bestSet : tb_X10_bestSet.all (fun q => decide (decode cX10_bestSet q.1 = .ok (q.2.1, q.2.2))) = true := by decide +kernel
theorem hd_X10_bestSet : yX10_bestSet.cls = RX10 ∧ yX10_bestSet.cls ≠ "java/lang/invoke/MethodHandle" ∧ yX10_bestSet.cls ≠ "java/lang/invoke/VarHandle" ∧ (parseMethodDescriptor yX10_bestSet.desc).map (fun d => d.parameters.length) = some 2 := by decide +kernel
theorem hs_X10_bestSet : yX10_bestSet.name ≠ "<init>" ∧ (parseMethodDescriptor yX10_bestSet.desc).map (fun d => d.parameters.length) = some 2 := by decide +kernel
theorem w_X10_bestSet_b59 {p : Program} {l : Launch} {e : Env} {s : State} {m : MethodId} {args : Array Value} {below : List Frame} {meth : Method} {c : Code} {D : va_G} {X : cc_X} {r : Int32} {st' : cc_S} (Cx : cc_C p s m args meth c cX10_bestSet 7 (some .int) RX10 D X) (fu : Nat) (K8 : Nat → Int32 → Int32 → Int32 → Int64 → Int32 → cc_S → Option (Int32 × cc_S)) (hK8 : ∀ (x0 : Nat) (x1 : Int32) (x2 : Int32) (x3 : Int32) (x4 : Int64) (x6 : Int32) (st : cc_S) (H : Heap) (locs : List Loc) (ls : Array Slot), K8 x0 x1 x2 x3 x4 x6 st = some (r, st') → lv_has ls 7 [(0, .ref (cx_a X x0)), (1, .int x1), (2, .int x2), (3, .int x3), (4, .long x4), (6, .int x6)] → cc_H D X s.heap st H locs → W p l e (mm_R 5 124) s m args below meth c H locs 0 0 (MQ below (cc_Qi D X r st') args s 0 0 (cc_A X)) (F0 m 8 ls [])) (x0 : Nat) (x1 : Int32) (x2 : Int32) (x3 : Int32) (x4 : Int64) (x6 : Int32) (st : cc_S) (hf : C_X10_bestSet_b59 X fu K8 x0 x1 x2 x3 x4 x6 st = some (r, st')) {H : Heap} {locs : List Loc} {ls : Array Slot} (hl : lv_has ls 7 [(0, .ref (cx_a X x0)), (1, .int x1), (2, .int x2), (3, .int x3), (4, .long x4), (6, .int x6)]) (hM : cc_H D X s.heap st H locs) : W p l e (mm_R 5 124) s m args below meth c H locs 0 0 (MQ below (cc_Qi D X r st') args s 0 0 (cc_A X)) (F0 m 59 ls []) := by
  unfold C_X10_bestSet_b59 at hf
  obtain ⟨v13, ev13⟩ : ∃ y : Int32, y = x6 + (1 : Int32) := ⟨_, rfl⟩
  replace hf := fc_of_nm hf v13 ev13
  refine lv_iinc (v := v13) (lv' := [(6, .int v13), (0, .ref (cx_a X x0)), (1, .int x1), (2, .int x2), (3, .int x3), (4, .long x4)]) Cx.1 Cx.2.1 (dd_at td_X10_bestSet 37 rfl) hl (k := 5) rfl (by rw [ev13]; rfl) (by decide) rfl (fun ls hl => ?_)
  refine lv_goto (tgt := 8) Cx.1 Cx.2.1 (dd_at td_X10_bestSet 38 rfl) (by decide) ?_
  exact hK8 x0 x1 x2 x3 x4 v13 st _ _ _ hf (lv_sub hl [1, 2, 3, 4, 5, 0] rfl) hM
theorem w_X10_bestSet_b46 {p : Program} {l : Launch} {e : Env} {s : State} {m : MethodId} {args : Array Value} {below : List Frame} {meth : Method} {c : Code} {D : va_G} {X : cc_X} {r : Int32} {st' : cc_S} (Cx : cc_C p s m args meth c cX10_bestSet 7 (some .int) RX10 D X) (fu : Nat) (K8 : Nat → Int32 → Int32 → Int32 → Int64 → Int32 → cc_S → Option (Int32 × cc_S)) (hK8 : ∀ (x0 : Nat) (x1 : Int32) (x2 : Int32) (x3 : Int32) (x4 : Int64) (x6 : Int32) (st : cc_S) (H : Heap) (locs : List Loc) (ls : Array Slot), K8 x0 x1 x2 x3 x4 x6 st = some (r, st') → lv_has ls 7 [(0, .ref (cx_a X x0)), (1, .int x1), (2, .int x2), (3, .int x3), (4, .long x4), (6, .int x6)] → cc_H D X s.heap st H locs → W p l e (mm_R 5 124) s m args below meth c H locs 0 0 (MQ below (cc_Qi D X r st') args s 0 0 (cc_A X)) (F0 m 8 ls [])) (x0 : Nat) (x1 : Int32) (x2 : Int32) (x6 : Int32) (st : cc_S) (hf : C_X10_bestSet_b46 X fu K8 x0 x1 x2 x6 st = some (r, st')) {H : Heap} {locs : List Loc} {ls : Array Slot} (hl : lv_has ls 7 [(0, .ref (cx_a X x0)), (1, .int x1), (2, .int x2), (6, .int x6)]) (hM : cc_H D X s.heap st H locs) : W p l e (mm_R 5 124) s m args below meth c H locs 0 0 (MQ below (cc_Qi D X r st') args s 0 0 (cc_A X)) (F0 m 46 ls []) := by
  unfold C_X10_bestSet_b46 at hf
  refine lv_iload Cx.1 Cx.2.1 (dd_at td_X10_bestSet 28 rfl) (lv_at hl 3 rfl) ?_
  refine lv_istore_n (lv' := [(3, .int x6), (0, .ref (cx_a X x0)), (1, .int x1), (2, .int x2), (6, .int x6)]) Cx.1 Cx.2.1 (dd_at td_X10_bestSet 29 rfl) rfl hl (by decide) rfl (fun ls hl => ?_)
  refine lv_aload_n Cx.1 Cx.2.1 (dd_at td_X10_bestSet 30 rfl) rfl (lv_at hl 1 rfl) ?_
  obtain ⟨g9, hf⟩ := fc_of_gd hf
  refine cc_gA (ci := 12) (C := RX10) (T := TX10) (N := 8) (k := 2) (ref := "EclipsesKept$Years") Cx hM g9 rfl cc_inX10 rfl (by decide) cw419 (fun _ h => h) (dd_at td_X10_bestSet 31 rfl) rfl ?_
  refine lv_iload_n Cx.1 Cx.2.1 (dd_at td_X10_bestSet 32 rfl) rfl (lv_at hl 2 rfl) ?_
  obtain ⟨g10, hf⟩ := fc_of_gd hf
  refine cc_aldg Cx hM g10 (dd_at td_X10_bestSet 33 rfl) ?_
  refine lv_iload_n Cx.1 Cx.2.1 (dd_at td_X10_bestSet 34 rfl) rfl (lv_at hl 3 rfl) ?_
  obtain ⟨g11, hf⟩ := fc_of_gd hf
  refine cc_lald Cx hM g11 (dd_at td_X10_bestSet 35 rfl) ?_
  refine lv_topl (fun v12 ev12 => ?_)
  replace hf := fc_of_nm hf v12 ev12
  refine lv_lstore (lv' := [(4, .long v12), (3, .int x6), (0, .ref (cx_a X x0)), (1, .int x1), (2, .int x2), (6, .int x6)]) Cx.1 Cx.2.1 (dd_at td_X10_bestSet 36 rfl) hl (by decide) rfl (fun ls hl => ?_)
  exact w_X10_bestSet_b59 Cx fu K8 hK8 x0 x1 x2 x6 v12 x6 st hf (lv_sub hl [2, 3, 4, 1, 0, 5] rfl) hM
theorem w_X10_bestSet_b8F {p : Program} {l : Launch} {e : Env} {s : State} {m : MethodId} {args : Array Value} {below : List Frame} {meth : Method} {c : Code} {D : va_G} {X : cc_X} {r : Int32} {st' : cc_S} (Cx : cc_C p s m args meth c cX10_bestSet 7 (some .int) RX10 D X) (fu : Nat) (K8 : Nat → Int32 → Int32 → Int32 → Int64 → Int32 → cc_S → Option (Int32 × cc_S)) (hK8 : ∀ (x0 : Nat) (x1 : Int32) (x2 : Int32) (x3 : Int32) (x4 : Int64) (x6 : Int32) (st : cc_S) (H : Heap) (locs : List Loc) (ls : Array Slot), K8 x0 x1 x2 x3 x4 x6 st = some (r, st') → lv_has ls 7 [(0, .ref (cx_a X x0)), (1, .int x1), (2, .int x2), (3, .int x3), (4, .long x4), (6, .int x6)] → cc_H D X s.heap st H locs → W p l e (mm_R 5 124) s m args below meth c H locs 0 0 (MQ below (cc_Qi D X r st') args s 0 0 (cc_A X)) (F0 m 8 ls [])) (x0 : Nat) (x1 : Int32) (x2 : Int32) (x3 : Int32) (x4 : Int64) (x6 : Int32) (st : cc_S) (hf : C_X10_bestSet_b8F X fu K8 x0 x1 x2 x3 x4 x6 st = some (r, st')) {H : Heap} {locs : List Loc} {ls : Array Slot} (hl : lv_has ls 7 [(0, .ref (cx_a X x0)), (1, .int x1), (2, .int x2), (3, .int x3), (4, .long x4), (6, .int x6)]) (hM : cc_H D X s.heap st H locs) : W p l e (mm_R 5 124) s m args below meth c H locs 0 0 (MQ below (cc_Qi D X r st') args s 0 0 (cc_A X)) (F0 m 8 ls []) := by
  unfold C_X10_bestSet_b8F at hf
  refine lv_iload Cx.1 Cx.2.1 (dd_at td_X10_bestSet 6 rfl) (lv_at hl 5 rfl) ?_
  refine lv_iconst (v := (1 : Int32)) Cx.1 Cx.2.1 (dd_at td_X10_bestSet 7 rfl) (by decide) ?_
  refine lv_aload_n Cx.1 Cx.2.1 (dd_at td_X10_bestSet 8 rfl) rfl (lv_at hl 0 rfl) ?_
  obtain ⟨g1, hf⟩ := fc_of_gd hf
  refine cc_gI (ci := 12) (C := RX10) (T := TX10) (N := 8) (k := 4) (ref := "EclipsesKept$Years") Cx hM g1 rfl cc_inX10 rfl (by decide) cw421 (fun _ h => h) (dd_at td_X10_bestSet 9 rfl) rfl ?_
  refine lv_ishl Cx.1 Cx.2.1 (dd_at td_X10_bestSet 10 rfl) ?_
  refine lv_icmp_ge (tgt := 65) Cx.1 Cx.2.1 (dd_at td_X10_bestSet 11 rfl) (by decide) (fun c2 => ?_) (fun c2 => ?_)
  · replace hf := fc_of_t hf c2
    refine lv_iload_n Cx.1 Cx.2.1 (dd_at td_X10_bestSet 39 rfl) rfl (lv_at hl 3 rfl) ?_
    exact cc_ri Cx hM (dd_at td_X10_bestSet 40 rfl) hf
  · replace hf := fc_of_f hf c2
    refine lv_aload_n Cx.1 Cx.2.1 (dd_at td_X10_bestSet 12 rfl) rfl (lv_at hl 0 rfl) ?_
    refine lv_iload_n Cx.1 Cx.2.1 (dd_at td_X10_bestSet 13 rfl) rfl (lv_at hl 1 rfl) ?_
    refine lv_iconst (v := (2 : Int32)) Cx.1 Cx.2.1 (dd_at td_X10_bestSet 14 rfl) (by decide) ?_
    refine lv_iload Cx.1 Cx.2.1 (dd_at td_X10_bestSet 15 rfl) (lv_at hl 5 rfl) ?_
    obtain ⟨st3, hx4, hf⟩ := fc_of_bv hf
    refine cc_av hM (cc_rV (ci := 12) (As := [.int x1, .int (2 : Int32), .int x6]) (rest := []) (n := 3) Cx hM g1 rfl (c_X10_weigh l D X fu x0 x1 (2 : Int32) x6 st st3 hx4) (cc_gdV cw451 cw452 cw453 cw431 cw450) hd_X10_weigh ⟨Nat.le_of_ble_eq_true rfl, Nat.le_of_ble_eq_true rfl⟩ rfl hl.1 rfl (Nat.le_of_ble_eq_true rfl) (dd_at td_X10_bestSet 16 rfl) ⟨Nat.le_refl 0, Nat.le_refl 0⟩) (fun H locs hM => ?_)
    refine lv_iload Cx.1 Cx.2.1 (dd_at td_X10_bestSet 17 rfl) (lv_at hl 5 rfl) ?_
    refine lv_if_eq (tgt := 46) Cx.1 Cx.2.1 (dd_at td_X10_bestSet 18 rfl) (by decide) (fun c5 => ?_) (fun c5 => ?_)
    · replace hf := fc_of_t hf c5
      exact w_X10_bestSet_b46 Cx fu K8 hK8 x0 x1 x2 x6 st3 hf (lv_sub hl [0, 1, 2, 5] rfl) hM
    · replace hf := fc_of_f hf c5
      refine lv_aload_n Cx.1 Cx.2.1 (dd_at td_X10_bestSet 19 rfl) rfl (lv_at hl 0 rfl) ?_
      refine cc_gA (ci := 12) (C := RX10) (T := TX10) (N := 8) (k := 2) (ref := "EclipsesKept$Years") Cx hM g1 rfl cc_inX10 rfl (by decide) cw419 (fun _ h => h) (dd_at td_X10_bestSet 20 rfl) rfl ?_
      refine lv_iload_n Cx.1 Cx.2.1 (dd_at td_X10_bestSet 21 rfl) rfl (lv_at hl 1 rfl) ?_
      obtain ⟨g6, hf⟩ := fc_of_gd hf
      refine cc_aldg Cx hM g6 (dd_at td_X10_bestSet 22 rfl) ?_
      refine lv_iload_n Cx.1 Cx.2.1 (dd_at td_X10_bestSet 23 rfl) rfl (lv_at hl 2 rfl) ?_
      obtain ⟨g7, hf⟩ := fc_of_gd hf
      refine cc_lald Cx hM g7 (dd_at td_X10_bestSet 24 rfl) ?_
      refine lv_lload Cx.1 Cx.2.1 (dd_at td_X10_bestSet 25 rfl) (lv_at hl 4 rfl) ?_
      refine W.lcmp Cx.1 Cx.2.1 (dd_at td_X10_bestSet 26 rfl) ?_
      refine lv_if_le (tgt := 59) Cx.1 Cx.2.1 (dd_at td_X10_bestSet 27 rfl) (by decide) (fun c8 => ?_) (fun c8 => ?_)
      · replace hf := fc_of_t hf c8
        exact w_X10_bestSet_b59 Cx fu K8 hK8 x0 x1 x2 x3 x4 x6 st3 hf (lv_sub hl [0, 1, 2, 3, 4, 5] rfl) hM
      · replace hf := fc_of_f hf c8
        exact w_X10_bestSet_b46 Cx fu K8 hK8 x0 x1 x2 x6 st3 hf (lv_sub hl [0, 1, 2, 5] rfl) hM
theorem w_X10_bestSet_b8 {p : Program} {l : Launch} {e : Env} {s : State} {m : MethodId} {args : Array Value} {below : List Frame} {meth : Method} {c : Code} {D : va_G} {X : cc_X} {r : Int32} {st' : cc_S} (Cx : cc_C p s m args meth c cX10_bestSet 7 (some .int) RX10 D X) (fu : Nat) (n : Nat) : ∀ (x0 : Nat) (x1 : Int32) (x2 : Int32) (x3 : Int32) (x4 : Int64) (x6 : Int32) (st : cc_S), C_X10_bestSet_b8 X fu n x0 x1 x2 x3 x4 x6 st = some (r, st') → ∀ (H : Heap) (locs : List Loc) (ls : Array Slot), lv_has ls 7 [(0, .ref (cx_a X x0)), (1, .int x1), (2, .int x2), (3, .int x3), (4, .long x4), (6, .int x6)] → cc_H D X s.heap st H locs → W p l e (mm_R 5 124) s m args below meth c H locs 0 0 (MQ below (cc_Qi D X r st') args s 0 0 (cc_A X)) (F0 m 8 ls []) := by
  induction n with
  | zero => exact fun _ _ _ _ _ _ _ hf => fc_no hf
  | succ n ih =>
    intro x0 x1 x2 x3 x4 x6 st hf H locs ls hl hM
    exact w_X10_bestSet_b8F Cx fu (fun x0 x1 x2 x3 x4 x6 st => C_X10_bestSet_b8 X fu n x0 x1 x2 x3 x4 x6 st) (fun x0 x1 x2 x3 x4 x6 st H locs ls hf hl hM => ih x0 x1 x2 x3 x4 x6 st hf H locs ls hl hM) x0 x1 x2 x3 x4 x6 st hf hl hM
theorem w_X10_bestSet {p : Program} {l : Launch} {e : Env} {s : State} {m : MethodId} {args : Array Value} {below : List Frame} {meth : Method} {c : Code} {D : va_G} {X : cc_X} {r : Int32} {st' : cc_S} (Cx : cc_C p s m args meth c cX10_bestSet 7 (some .int) RX10 D X) (fu : Nat) (x0 : Nat) (x1 : Int32) (x2 : Int32) (st : cc_S) (hf : C_X10_bestSet X fu x0 x1 x2 st = some (r, st')) {H : Heap} {locs : List Loc} {ls : Array Slot} (hl : lv_has ls 7 [(0, .ref (cx_a X x0)), (1, .int x1), (2, .int x2)]) (hM : cc_H D X s.heap st H locs) : W p l e (mm_R 5 124) s m args below meth c H locs 0 0 (MQ below (cc_Qi D X r st') args s 0 0 (cc_A X)) (F0 m 0 ls []) := by
  unfold C_X10_bestSet at hf
  refine lv_iconst (v := (0 : Int32)) Cx.1 Cx.2.1 (dd_at td_X10_bestSet 0 rfl) (by decide) ?_
  refine lv_istore_n (lv' := [(3, .int (0 : Int32)), (0, .ref (cx_a X x0)), (1, .int x1), (2, .int x2)]) Cx.1 Cx.2.1 (dd_at td_X10_bestSet 1 rfl) rfl hl (by decide) rfl (fun ls hl => ?_)
  refine lv_lconst (v := (0 : Int64)) Cx.1 Cx.2.1 (dd_at td_X10_bestSet 2 rfl) (by decide) ?_
  refine lv_lstore (lv' := [(4, .long (0 : Int64)), (3, .int (0 : Int32)), (0, .ref (cx_a X x0)), (1, .int x1), (2, .int x2)]) Cx.1 Cx.2.1 (dd_at td_X10_bestSet 3 rfl) hl (by decide) rfl (fun ls hl => ?_)
  refine lv_iconst (v := (0 : Int32)) Cx.1 Cx.2.1 (dd_at td_X10_bestSet 4 rfl) (by decide) ?_
  refine lv_istore (lv' := [(6, .int (0 : Int32)), (4, .long (0 : Int64)), (3, .int (0 : Int32)), (0, .ref (cx_a X x0)), (1, .int x1), (2, .int x2)]) Cx.1 Cx.2.1 (dd_at td_X10_bestSet 5 rfl) hl (by decide) rfl (fun ls hl => ?_)
  exact w_X10_bestSet_b8 Cx fu fu x0 x1 x2 (0 : Int32) (0 : Int64) (0 : Int32) st hf _ _ _ (lv_sub hl [3, 4, 5, 2, 1, 0] rfl) hM
theorem c_X10_bestSet (l : Launch) (D : va_G) (X : cc_X) (fu : Nat) (x0 : Nat) (x1 : Int32) (x2 : Int32) (st : cc_S) : cc_Mi l D X yX10_bestSet cX10_bestSet 7 (some .int) 5 124 [.ref (cx_a X x0), .int x1, .int x2] st (C_X10_bestSet X fu x0 x1 x2 st) := by
  intro r st' hf
  refine cc_enter (cc := cX10_bestSet) (nL := 7) (ret := some .int) (by decide +kernel) rfl (Nat.le_of_ble_eq_true rfl) ?_
  intro p e s m args below meth c ls Cx hl hM
  exact w_X10_bestSet Cx fu x0 x1 x2 st hf hl hM

/-! X10_waysToSpend -/
def tb_X10_waysToSpend : List (Nat × Instr × Nat) := [(0, .iconst 0, 1), (1, .istore_n 3, 1), (2, .iload_n 3, 1), (3, .aload_n 0, 1), (4, .getfield 31, 3), (7, .if_icmp .gt 26, 3), (10, .aload_n 0, 1), (11, .getfield 24, 3), (14, .iconst 0, 1), (15, .aaload, 1), (16, .iload_n 3, 1), (17, .iload_n 3, 1), (18, .ifCond .ne 7, 3), (21, .lconst 1, 1), (22, .goto 4, 3), (25, .lconst 0, 1), (26, .lastore, 1), (27, .iinc 3 1, 3), (30, .goto (-28), 3), (33, .iconst 1, 1), (34, .istore_n 3, 1), (35, .iload_n 3, 1), (36, .iload_n 1, 1), (37, .if_icmp .gt 100, 3), (40, .iconst 0, 1), (41, .istore 4, 2), (43, .iload 4, 2), (45, .aload_n 0, 1), (46, .getfield 31, 3), (49, .if_icmp .gt 82, 3), (52, .lconst 0, 1), (53, .lstore 5, 2), (55, .iconst 0, 1), (56, .istore 7, 2), (58, .iload 7, 2), (60, .aload_n 0, 1), (61, .getfield 27, 3), (64, .if_icmp .ge 50, 3), (67, .aload_n 0, 1), (68, .iload 7, 2), (70, .iload_n 3, 1), (71, .iload 4, 2), (73, .iconst 0, 1), (74, .iconst 0, 1), (75, .invokevirtual 63, 3), (78, .ifCond .eq 10, 3), (81, .iload 4, 2), (83, .iconst 1, 1), (84, .isub, 1), (85, .goto 5, 3), (88, .iload 4, 2), (90, .istore 8, 2), (92, .lload 5, 2), (94, .aload_n 0, 1), (95, .getfield 24, 3), (98, .iload_n 3, 1), (99, .iconst 1, 1), (100, .isub, 1), (101, .aaload, 1), (102, .iload 8, 2), (104, .laload, 1), (105, .ladd, 1), (106, .lstore 5, 2), (108, .iinc 7 1, 3), (111, .goto (-53), 3), (114, .aload_n 0, 1), (115, .getfield 24, 3), (118, .iload_n 3, 1), (119, .aaload, 1), (120, .iload 4, 2), (122, .lload 5, 2), (124, .lastore, 1), (125, .iinc 4 1, 3), (128, .goto (-85), 3), (131, .iinc 3 1, 3), (134, .goto (-99), 3), (137, .aload_n 0, 1), (138, .getfield 24, 3), (141, .iload_n 1, 1), (142, .aaload, 1), (143, .iload_n 2, 1), (144, .laload, 1), (145, .lreturn, 1)]
theorem td_X10_waysToSpend : tb_X10_waysToSpend.all (fun q => decide (decode cX10_waysToSpend q.1 = .ok (q.2.1, q.2.2))) = true := by decide +kernel
theorem hd_X10_waysToSpend : yX10_waysToSpend.cls = RX10 ∧ yX10_waysToSpend.cls ≠ "java/lang/invoke/MethodHandle" ∧ yX10_waysToSpend.cls ≠ "java/lang/invoke/VarHandle" ∧ (parseMethodDescriptor yX10_waysToSpend.desc).map (fun d => d.parameters.length) = some 2 := by decide +kernel
theorem hs_X10_waysToSpend : yX10_waysToSpend.name ≠ "<init>" ∧ (parseMethodDescriptor yX10_waysToSpend.desc).map (fun d => d.parameters.length) = some 2 := by decide +kernel
theorem w_X10_waysToSpend_b90 {p : Program} {l : Launch} {e : Env} {s : State} {m : MethodId} {args : Array Value} {below : List Frame} {meth : Method} {c : Code} {D : va_G} {X : cc_X} {r : Int64} {st' : cc_S} (Cx : cc_C p s m args meth c cX10_waysToSpend 9 (some .long) RX10 D X) (fu : Nat) (K35 : Nat → Int32 → Int32 → Int32 → cc_S → Option (Int64 × cc_S)) (hK35 : ∀ (x0 : Nat) (x1 : Int32) (x2 : Int32) (x3 : Int32) (st : cc_S) (H : Heap) (locs : List Loc) (ls : Array Slot), K35 x0 x1 x2 x3 st = some (r, st') → lv_has ls 9 [(0, .ref (cx_a X x0)), (1, .int x1), (2, .int x2), (3, .int x3)] → cc_H D X s.heap st H locs → W p l e (mm_R 3 72) s m args below meth c H locs 0 0 (MQ below (cc_Ql D X r st') args s 0 0 (cc_A X)) (F0 m 35 ls [])) (K43 : Nat → Int32 → Int32 → Int32 → Int32 → cc_S → Option (Int64 × cc_S)) (hK43 : ∀ (x0 : Nat) (x1 : Int32) (x2 : Int32) (x3 : Int32) (x4 : Int32) (st : cc_S) (H : Heap) (locs : List Loc) (ls : Array Slot), K43 x0 x1 x2 x3 x4 st = some (r, st') → lv_has ls 9 [(0, .ref (cx_a X x0)), (1, .int x1), (2, .int x2), (3, .int x3), (4, .int x4)] → cc_H D X s.heap st H locs → W p l e (mm_R 3 72) s m args below meth c H locs 0 0 (MQ below (cc_Ql D X r st') args s 0 0 (cc_A X)) (F0 m 43 ls [])) (K58 : Nat → Int32 → Int32 → Int32 → Int32 → Int64 → Int32 → cc_S → Option (Int64 × cc_S)) (hK58 : ∀ (x0 : Nat) (x1 : Int32) (x2 : Int32) (x3 : Int32) (x4 : Int32) (x5 : Int64) (x7 : Int32) (st : cc_S) (H : Heap) (locs : List Loc) (ls : Array Slot), K58 x0 x1 x2 x3 x4 x5 x7 st = some (r, st') → lv_has ls 9 [(0, .ref (cx_a X x0)), (1, .int x1), (2, .int x2), (3, .int x3), (4, .int x4), (5, .long x5), (7, .int x7)] → cc_H D X s.heap st H locs → W p l e (mm_R 3 72) s m args below meth c H locs 0 0 (MQ below (cc_Ql D X r st') args s 0 0 (cc_A X)) (F0 m 58 ls [])) (x0 : Nat) (x1 : Int32) (x2 : Int32) (x3 : Int32) (x4 : Int32) (x5 : Int64) (x7 : Int32) (s0 : Int32) (st : cc_S) (hf : C_X10_waysToSpend_b90 X fu K35 K43 K58 x0 x1 x2 x3 x4 x5 x7 s0 st = some (r, st')) {H : Heap} {locs : List Loc} {ls : Array Slot} (hl : lv_has ls 9 [(0, .ref (cx_a X x0)), (1, .int x1), (2, .int x2), (3, .int x3), (4, .int x4), (5, .long x5), (7, .int x7)]) (hM : cc_H D X s.heap st H locs) : W p l e (mm_R 3 72) s m args below meth c H locs 0 0 (MQ below (cc_Ql D X r st') args s 0 0 (cc_A X)) (F0 m 90 ls [.int s0]) := by
  unfold C_X10_waysToSpend_b90 at hf
  refine lv_istore (lv' := [(8, .int s0), (0, .ref (cx_a X x0)), (1, .int x1), (2, .int x2), (3, .int x3), (4, .int x4), (5, .long x5), (7, .int x7)]) Cx.1 Cx.2.1 (dd_at td_X10_waysToSpend 51 rfl) hl (by decide) rfl (fun ls hl => ?_)
  refine lv_lload Cx.1 Cx.2.1 (dd_at td_X10_waysToSpend 52 rfl) (lv_at hl 6 rfl) ?_
  refine lv_aload_n Cx.1 Cx.2.1 (dd_at td_X10_waysToSpend 53 rfl) rfl (lv_at hl 1 rfl) ?_
  obtain ⟨g25, hf⟩ := fc_of_gd hf
  refine cc_gA (ci := 12) (C := RX10) (T := TX10) (N := 8) (k := 3) (ref := "EclipsesKept$Years") Cx hM g25 rfl cc_inX10 rfl (by decide) cw420 (fun _ h => h) (dd_at td_X10_waysToSpend 54 rfl) rfl ?_
  refine lv_iload_n Cx.1 Cx.2.1 (dd_at td_X10_waysToSpend 55 rfl) rfl (lv_at hl 4 rfl) ?_
  refine lv_iconst (v := (1 : Int32)) Cx.1 Cx.2.1 (dd_at td_X10_waysToSpend 56 rfl) (by decide) ?_
  refine lv_isub Cx.1 Cx.2.1 (dd_at td_X10_waysToSpend 57 rfl) ?_
  obtain ⟨g26, hf⟩ := fc_of_gd hf
  refine cc_aldg Cx hM g26 (dd_at td_X10_waysToSpend 58 rfl) ?_
  refine lv_iload Cx.1 Cx.2.1 (dd_at td_X10_waysToSpend 59 rfl) (lv_at hl 0 rfl) ?_
  obtain ⟨g27, hf⟩ := fc_of_gd hf
  refine cc_lald Cx hM g27 (dd_at td_X10_waysToSpend 60 rfl) ?_
  refine lv_ladd Cx.1 Cx.2.1 (dd_at td_X10_waysToSpend 61 rfl) ?_
  refine lv_topl (fun v28 ev28 => ?_)
  replace hf := fc_of_nm hf v28 ev28
  refine lv_lstore (lv' := [(5, .long v28), (8, .int s0), (0, .ref (cx_a X x0)), (1, .int x1), (2, .int x2), (3, .int x3), (4, .int x4), (7, .int x7)]) Cx.1 Cx.2.1 (dd_at td_X10_waysToSpend 62 rfl) hl (by decide) rfl (fun ls hl => ?_)
  obtain ⟨v29, ev29⟩ : ∃ y : Int32, y = x7 + (1 : Int32) := ⟨_, rfl⟩
  replace hf := fc_of_nm hf v29 ev29
  refine lv_iinc (v := v29) (lv' := [(7, .int v29), (5, .long v28), (8, .int s0), (0, .ref (cx_a X x0)), (1, .int x1), (2, .int x2), (3, .int x3), (4, .int x4)]) Cx.1 Cx.2.1 (dd_at td_X10_waysToSpend 63 rfl) hl (k := 7) rfl (by rw [ev29]; rfl) (by decide) rfl (fun ls hl => ?_)
  refine lv_goto (tgt := 58) Cx.1 Cx.2.1 (dd_at td_X10_waysToSpend 64 rfl) (by decide) ?_
  exact hK58 x0 x1 x2 x3 x4 v28 v29 st _ _ _ hf (lv_sub hl [3, 4, 5, 6, 7, 1, 0] rfl) hM
theorem w_X10_waysToSpend_b58F {p : Program} {l : Launch} {e : Env} {s : State} {m : MethodId} {args : Array Value} {below : List Frame} {meth : Method} {c : Code} {D : va_G} {X : cc_X} {r : Int64} {st' : cc_S} (Cx : cc_C p s m args meth c cX10_waysToSpend 9 (some .long) RX10 D X) (fu : Nat) (K35 : Nat → Int32 → Int32 → Int32 → cc_S → Option (Int64 × cc_S)) (hK35 : ∀ (x0 : Nat) (x1 : Int32) (x2 : Int32) (x3 : Int32) (st : cc_S) (H : Heap) (locs : List Loc) (ls : Array Slot), K35 x0 x1 x2 x3 st = some (r, st') → lv_has ls 9 [(0, .ref (cx_a X x0)), (1, .int x1), (2, .int x2), (3, .int x3)] → cc_H D X s.heap st H locs → W p l e (mm_R 3 72) s m args below meth c H locs 0 0 (MQ below (cc_Ql D X r st') args s 0 0 (cc_A X)) (F0 m 35 ls [])) (K43 : Nat → Int32 → Int32 → Int32 → Int32 → cc_S → Option (Int64 × cc_S)) (hK43 : ∀ (x0 : Nat) (x1 : Int32) (x2 : Int32) (x3 : Int32) (x4 : Int32) (st : cc_S) (H : Heap) (locs : List Loc) (ls : Array Slot), K43 x0 x1 x2 x3 x4 st = some (r, st') → lv_has ls 9 [(0, .ref (cx_a X x0)), (1, .int x1), (2, .int x2), (3, .int x3), (4, .int x4)] → cc_H D X s.heap st H locs → W p l e (mm_R 3 72) s m args below meth c H locs 0 0 (MQ below (cc_Ql D X r st') args s 0 0 (cc_A X)) (F0 m 43 ls [])) (K58 : Nat → Int32 → Int32 → Int32 → Int32 → Int64 → Int32 → cc_S → Option (Int64 × cc_S)) (hK58 : ∀ (x0 : Nat) (x1 : Int32) (x2 : Int32) (x3 : Int32) (x4 : Int32) (x5 : Int64) (x7 : Int32) (st : cc_S) (H : Heap) (locs : List Loc) (ls : Array Slot), K58 x0 x1 x2 x3 x4 x5 x7 st = some (r, st') → lv_has ls 9 [(0, .ref (cx_a X x0)), (1, .int x1), (2, .int x2), (3, .int x3), (4, .int x4), (5, .long x5), (7, .int x7)] → cc_H D X s.heap st H locs → W p l e (mm_R 3 72) s m args below meth c H locs 0 0 (MQ below (cc_Ql D X r st') args s 0 0 (cc_A X)) (F0 m 58 ls [])) (x0 : Nat) (x1 : Int32) (x2 : Int32) (x3 : Int32) (x4 : Int32) (x5 : Int64) (x7 : Int32) (st : cc_S) (hf : C_X10_waysToSpend_b58F X fu K35 K43 K58 x0 x1 x2 x3 x4 x5 x7 st = some (r, st')) {H : Heap} {locs : List Loc} {ls : Array Slot} (hl : lv_has ls 9 [(0, .ref (cx_a X x0)), (1, .int x1), (2, .int x2), (3, .int x3), (4, .int x4), (5, .long x5), (7, .int x7)]) (hM : cc_H D X s.heap st H locs) : W p l e (mm_R 3 72) s m args below meth c H locs 0 0 (MQ below (cc_Ql D X r st') args s 0 0 (cc_A X)) (F0 m 58 ls []) := by
  unfold C_X10_waysToSpend_b58F at hf
  refine lv_iload Cx.1 Cx.2.1 (dd_at td_X10_waysToSpend 34 rfl) (lv_at hl 6 rfl) ?_
  refine lv_aload_n Cx.1 Cx.2.1 (dd_at td_X10_waysToSpend 35 rfl) rfl (lv_at hl 0 rfl) ?_
  obtain ⟨g15, hf⟩ := fc_of_gd hf
  refine cc_gI (ci := 12) (C := RX10) (T := TX10) (N := 8) (k := 4) (ref := "EclipsesKept$Years") Cx hM g15 rfl cc_inX10 rfl (by decide) cw421 (fun _ h => h) (dd_at td_X10_waysToSpend 36 rfl) rfl ?_
  refine lv_icmp_ge (tgt := 114) Cx.1 Cx.2.1 (dd_at td_X10_waysToSpend 37 rfl) (by decide) (fun c16 => ?_) (fun c16 => ?_)
  · replace hf := fc_of_t hf c16
    refine lv_aload_n Cx.1 Cx.2.1 (dd_at td_X10_waysToSpend 65 rfl) rfl (lv_at hl 0 rfl) ?_
    refine cc_gA (ci := 12) (C := RX10) (T := TX10) (N := 8) (k := 3) (ref := "EclipsesKept$Years") Cx hM g15 rfl cc_inX10 rfl (by decide) cw420 (fun _ h => h) (dd_at td_X10_waysToSpend 66 rfl) rfl ?_
    refine lv_iload_n Cx.1 Cx.2.1 (dd_at td_X10_waysToSpend 67 rfl) rfl (lv_at hl 3 rfl) ?_
    obtain ⟨g17, hf⟩ := fc_of_gd hf
    refine cc_aldg Cx hM g17 (dd_at td_X10_waysToSpend 68 rfl) ?_
    refine lv_iload Cx.1 Cx.2.1 (dd_at td_X10_waysToSpend 69 rfl) (lv_at hl 4 rfl) ?_
    refine lv_lload Cx.1 Cx.2.1 (dd_at td_X10_waysToSpend 70 rfl) (lv_at hl 5 rfl) ?_
    obtain ⟨g18, hf⟩ := fc_of_gd hf
    refine cc_last Cx hM g18 (dd_at td_X10_waysToSpend 71 rfl) (fun st19 H locs est19 hM => ?_)
    replace hf := fc_of_nm hf st19 est19
    obtain ⟨v20, ev20⟩ : ∃ y : Int32, y = x4 + (1 : Int32) := ⟨_, rfl⟩
    replace hf := fc_of_nm hf v20 ev20
    refine lv_iinc (v := v20) (lv' := [(4, .int v20), (0, .ref (cx_a X x0)), (1, .int x1), (2, .int x2), (3, .int x3), (5, .long x5), (7, .int x7)]) Cx.1 Cx.2.1 (dd_at td_X10_waysToSpend 72 rfl) hl (k := 4) rfl (by rw [ev20]; rfl) (by decide) rfl (fun ls hl => ?_)
    refine lv_goto (tgt := 43) Cx.1 Cx.2.1 (dd_at td_X10_waysToSpend 73 rfl) (by decide) ?_
    exact hK43 x0 x1 x2 x3 v20 st19 _ _ _ hf (lv_sub hl [1, 2, 3, 4, 0] rfl) hM
  · replace hf := fc_of_f hf c16
    refine lv_aload_n Cx.1 Cx.2.1 (dd_at td_X10_waysToSpend 38 rfl) rfl (lv_at hl 0 rfl) ?_
    refine lv_iload Cx.1 Cx.2.1 (dd_at td_X10_waysToSpend 39 rfl) (lv_at hl 6 rfl) ?_
    refine lv_iload_n Cx.1 Cx.2.1 (dd_at td_X10_waysToSpend 40 rfl) rfl (lv_at hl 3 rfl) ?_
    refine lv_iload Cx.1 Cx.2.1 (dd_at td_X10_waysToSpend 41 rfl) (lv_at hl 4 rfl) ?_
    refine lv_iconst (v := (0 : Int32)) Cx.1 Cx.2.1 (dd_at td_X10_waysToSpend 42 rfl) (by decide) ?_
    refine lv_iconst (v := (0 : Int32)) Cx.1 Cx.2.1 (dd_at td_X10_waysToSpend 43 rfl) (by decide) ?_
    obtain ⟨r23, st21, hx22, hf⟩ := fc_of_bn hf
    refine cc_ai hM (cc_rV (ci := 12) (As := [.int x7, .int x3, .int x4, .int (0 : Int32), .int (0 : Int32)]) (rest := []) (n := 5) Cx hM g15 rfl (c_X10_serves l D X fu x0 x7 x3 x4 (0 : Int32) (0 : Int32) st r23 st21 hx22) (cc_gdV cw444 cw445 cw446 cw431 cw436) hd_X10_serves ⟨Nat.le_of_ble_eq_true rfl, Nat.le_of_ble_eq_true rfl⟩ rfl hl.1 rfl (Nat.le_of_ble_eq_true rfl) (dd_at td_X10_waysToSpend 44 rfl) ⟨Nat.le_refl 0, Nat.le_refl 0⟩) (fun H locs hM => ?_)
    refine lv_if_eq (tgt := 88) Cx.1 Cx.2.1 (dd_at td_X10_waysToSpend 45 rfl) (by decide) (fun c24 => ?_) (fun c24 => ?_)
    · replace hf := fc_of_t hf c24
      refine lv_iload Cx.1 Cx.2.1 (dd_at td_X10_waysToSpend 50 rfl) (lv_at hl 4 rfl) ?_
      exact w_X10_waysToSpend_b90 Cx fu K35 hK35 K43 hK43 K58 hK58 x0 x1 x2 x3 x4 x5 x7 x4 st21 hf (lv_sub hl [0, 1, 2, 3, 4, 5, 6] rfl) hM
    · replace hf := fc_of_f hf c24
      refine lv_iload Cx.1 Cx.2.1 (dd_at td_X10_waysToSpend 46 rfl) (lv_at hl 4 rfl) ?_
      refine lv_iconst (v := (1 : Int32)) Cx.1 Cx.2.1 (dd_at td_X10_waysToSpend 47 rfl) (by decide) ?_
      refine lv_isub Cx.1 Cx.2.1 (dd_at td_X10_waysToSpend 48 rfl) ?_
      refine lv_goto (tgt := 90) Cx.1 Cx.2.1 (dd_at td_X10_waysToSpend 49 rfl) (by decide) ?_
      exact w_X10_waysToSpend_b90 Cx fu K35 hK35 K43 hK43 K58 hK58 x0 x1 x2 x3 x4 x5 x7 (x4 - (1 : Int32)) st21 hf (lv_sub hl [0, 1, 2, 3, 4, 5, 6] rfl) hM
theorem w_X10_waysToSpend_b58 {p : Program} {l : Launch} {e : Env} {s : State} {m : MethodId} {args : Array Value} {below : List Frame} {meth : Method} {c : Code} {D : va_G} {X : cc_X} {r : Int64} {st' : cc_S} (Cx : cc_C p s m args meth c cX10_waysToSpend 9 (some .long) RX10 D X) (fu : Nat) (K35 : Nat → Int32 → Int32 → Int32 → cc_S → Option (Int64 × cc_S)) (hK35 : ∀ (x0 : Nat) (x1 : Int32) (x2 : Int32) (x3 : Int32) (st : cc_S) (H : Heap) (locs : List Loc) (ls : Array Slot), K35 x0 x1 x2 x3 st = some (r, st') → lv_has ls 9 [(0, .ref (cx_a X x0)), (1, .int x1), (2, .int x2), (3, .int x3)] → cc_H D X s.heap st H locs → W p l e (mm_R 3 72) s m args below meth c H locs 0 0 (MQ below (cc_Ql D X r st') args s 0 0 (cc_A X)) (F0 m 35 ls [])) (K43 : Nat → Int32 → Int32 → Int32 → Int32 → cc_S → Option (Int64 × cc_S)) (hK43 : ∀ (x0 : Nat) (x1 : Int32) (x2 : Int32) (x3 : Int32) (x4 : Int32) (st : cc_S) (H : Heap) (locs : List Loc) (ls : Array Slot), K43 x0 x1 x2 x3 x4 st = some (r, st') → lv_has ls 9 [(0, .ref (cx_a X x0)), (1, .int x1), (2, .int x2), (3, .int x3), (4, .int x4)] → cc_H D X s.heap st H locs → W p l e (mm_R 3 72) s m args below meth c H locs 0 0 (MQ below (cc_Ql D X r st') args s 0 0 (cc_A X)) (F0 m 43 ls [])) (n : Nat) : ∀ (x0 : Nat) (x1 : Int32) (x2 : Int32) (x3 : Int32) (x4 : Int32) (x5 : Int64) (x7 : Int32) (st : cc_S), C_X10_waysToSpend_b58 X fu K35 K43 n x0 x1 x2 x3 x4 x5 x7 st = some (r, st') → ∀ (H : Heap) (locs : List Loc) (ls : Array Slot), lv_has ls 9 [(0, .ref (cx_a X x0)), (1, .int x1), (2, .int x2), (3, .int x3), (4, .int x4), (5, .long x5), (7, .int x7)] → cc_H D X s.heap st H locs → W p l e (mm_R 3 72) s m args below meth c H locs 0 0 (MQ below (cc_Ql D X r st') args s 0 0 (cc_A X)) (F0 m 58 ls []) := by
  induction n with
  | zero => exact fun _ _ _ _ _ _ _ _ hf => fc_no hf
  | succ n ih =>
    intro x0 x1 x2 x3 x4 x5 x7 st hf H locs ls hl hM
    exact w_X10_waysToSpend_b58F Cx fu K35 hK35 K43 hK43 (fun x0 x1 x2 x3 x4 x5 x7 st => C_X10_waysToSpend_b58 X fu K35 K43 n x0 x1 x2 x3 x4 x5 x7 st) (fun x0 x1 x2 x3 x4 x5 x7 st H locs ls hf hl hM => ih x0 x1 x2 x3 x4 x5 x7 st hf H locs ls hl hM) x0 x1 x2 x3 x4 x5 x7 st hf hl hM
theorem w_X10_waysToSpend_b43F {p : Program} {l : Launch} {e : Env} {s : State} {m : MethodId} {args : Array Value} {below : List Frame} {meth : Method} {c : Code} {D : va_G} {X : cc_X} {r : Int64} {st' : cc_S} (Cx : cc_C p s m args meth c cX10_waysToSpend 9 (some .long) RX10 D X) (fu : Nat) (K35 : Nat → Int32 → Int32 → Int32 → cc_S → Option (Int64 × cc_S)) (hK35 : ∀ (x0 : Nat) (x1 : Int32) (x2 : Int32) (x3 : Int32) (st : cc_S) (H : Heap) (locs : List Loc) (ls : Array Slot), K35 x0 x1 x2 x3 st = some (r, st') → lv_has ls 9 [(0, .ref (cx_a X x0)), (1, .int x1), (2, .int x2), (3, .int x3)] → cc_H D X s.heap st H locs → W p l e (mm_R 3 72) s m args below meth c H locs 0 0 (MQ below (cc_Ql D X r st') args s 0 0 (cc_A X)) (F0 m 35 ls [])) (K43 : Nat → Int32 → Int32 → Int32 → Int32 → cc_S → Option (Int64 × cc_S)) (hK43 : ∀ (x0 : Nat) (x1 : Int32) (x2 : Int32) (x3 : Int32) (x4 : Int32) (st : cc_S) (H : Heap) (locs : List Loc) (ls : Array Slot), K43 x0 x1 x2 x3 x4 st = some (r, st') → lv_has ls 9 [(0, .ref (cx_a X x0)), (1, .int x1), (2, .int x2), (3, .int x3), (4, .int x4)] → cc_H D X s.heap st H locs → W p l e (mm_R 3 72) s m args below meth c H locs 0 0 (MQ below (cc_Ql D X r st') args s 0 0 (cc_A X)) (F0 m 43 ls [])) (x0 : Nat) (x1 : Int32) (x2 : Int32) (x3 : Int32) (x4 : Int32) (st : cc_S) (hf : C_X10_waysToSpend_b43F X fu K35 K43 x0 x1 x2 x3 x4 st = some (r, st')) {H : Heap} {locs : List Loc} {ls : Array Slot} (hl : lv_has ls 9 [(0, .ref (cx_a X x0)), (1, .int x1), (2, .int x2), (3, .int x3), (4, .int x4)]) (hM : cc_H D X s.heap st H locs) : W p l e (mm_R 3 72) s m args below meth c H locs 0 0 (MQ below (cc_Ql D X r st') args s 0 0 (cc_A X)) (F0 m 43 ls []) := by
  unfold C_X10_waysToSpend_b43F at hf
  refine lv_iload Cx.1 Cx.2.1 (dd_at td_X10_waysToSpend 26 rfl) (lv_at hl 4 rfl) ?_
  refine lv_aload_n Cx.1 Cx.2.1 (dd_at td_X10_waysToSpend 27 rfl) rfl (lv_at hl 0 rfl) ?_
  obtain ⟨g12, hf⟩ := fc_of_gd hf
  refine cc_gI (ci := 12) (C := RX10) (T := TX10) (N := 8) (k := 5) (ref := "EclipsesKept$Years") Cx hM g12 rfl cc_inX10 rfl (by decide) cw422 (fun _ h => h) (dd_at td_X10_waysToSpend 28 rfl) rfl ?_
  refine lv_icmp_gt (tgt := 131) Cx.1 Cx.2.1 (dd_at td_X10_waysToSpend 29 rfl) (by decide) (fun c13 => ?_) (fun c13 => ?_)
  · replace hf := fc_of_t hf c13
    obtain ⟨v14, ev14⟩ : ∃ y : Int32, y = x3 + (1 : Int32) := ⟨_, rfl⟩
    replace hf := fc_of_nm hf v14 ev14
    refine lv_iinc (v := v14) (lv' := [(3, .int v14), (0, .ref (cx_a X x0)), (1, .int x1), (2, .int x2), (4, .int x4)]) Cx.1 Cx.2.1 (dd_at td_X10_waysToSpend 74 rfl) hl (k := 3) rfl (by rw [ev14]; rfl) (by decide) rfl (fun ls hl => ?_)
    refine lv_goto (tgt := 35) Cx.1 Cx.2.1 (dd_at td_X10_waysToSpend 75 rfl) (by decide) ?_
    exact hK35 x0 x1 x2 v14 st _ _ _ hf (lv_sub hl [1, 2, 3, 0] rfl) hM
  · replace hf := fc_of_f hf c13
    refine lv_lconst (v := (0 : Int64)) Cx.1 Cx.2.1 (dd_at td_X10_waysToSpend 30 rfl) (by decide) ?_
    refine lv_lstore (lv' := [(5, .long (0 : Int64)), (0, .ref (cx_a X x0)), (1, .int x1), (2, .int x2), (3, .int x3), (4, .int x4)]) Cx.1 Cx.2.1 (dd_at td_X10_waysToSpend 31 rfl) hl (by decide) rfl (fun ls hl => ?_)
    refine lv_iconst (v := (0 : Int32)) Cx.1 Cx.2.1 (dd_at td_X10_waysToSpend 32 rfl) (by decide) ?_
    refine lv_istore (lv' := [(7, .int (0 : Int32)), (5, .long (0 : Int64)), (0, .ref (cx_a X x0)), (1, .int x1), (2, .int x2), (3, .int x3), (4, .int x4)]) Cx.1 Cx.2.1 (dd_at td_X10_waysToSpend 33 rfl) hl (by decide) rfl (fun ls hl => ?_)
    exact w_X10_waysToSpend_b58 Cx fu K35 hK35 K43 hK43 fu x0 x1 x2 x3 x4 (0 : Int64) (0 : Int32) st hf _ _ _ (lv_sub hl [2, 3, 4, 5, 6, 1, 0] rfl) hM
theorem w_X10_waysToSpend_b43 {p : Program} {l : Launch} {e : Env} {s : State} {m : MethodId} {args : Array Value} {below : List Frame} {meth : Method} {c : Code} {D : va_G} {X : cc_X} {r : Int64} {st' : cc_S} (Cx : cc_C p s m args meth c cX10_waysToSpend 9 (some .long) RX10 D X) (fu : Nat) (K35 : Nat → Int32 → Int32 → Int32 → cc_S → Option (Int64 × cc_S)) (hK35 : ∀ (x0 : Nat) (x1 : Int32) (x2 : Int32) (x3 : Int32) (st : cc_S) (H : Heap) (locs : List Loc) (ls : Array Slot), K35 x0 x1 x2 x3 st = some (r, st') → lv_has ls 9 [(0, .ref (cx_a X x0)), (1, .int x1), (2, .int x2), (3, .int x3)] → cc_H D X s.heap st H locs → W p l e (mm_R 3 72) s m args below meth c H locs 0 0 (MQ below (cc_Ql D X r st') args s 0 0 (cc_A X)) (F0 m 35 ls [])) (n : Nat) : ∀ (x0 : Nat) (x1 : Int32) (x2 : Int32) (x3 : Int32) (x4 : Int32) (st : cc_S), C_X10_waysToSpend_b43 X fu K35 n x0 x1 x2 x3 x4 st = some (r, st') → ∀ (H : Heap) (locs : List Loc) (ls : Array Slot), lv_has ls 9 [(0, .ref (cx_a X x0)), (1, .int x1), (2, .int x2), (3, .int x3), (4, .int x4)] → cc_H D X s.heap st H locs → W p l e (mm_R 3 72) s m args below meth c H locs 0 0 (MQ below (cc_Ql D X r st') args s 0 0 (cc_A X)) (F0 m 43 ls []) := by
  induction n with
  | zero => exact fun _ _ _ _ _ _ hf => fc_no hf
  | succ n ih =>
    intro x0 x1 x2 x3 x4 st hf H locs ls hl hM
    exact w_X10_waysToSpend_b43F Cx fu K35 hK35 (fun x0 x1 x2 x3 x4 st => C_X10_waysToSpend_b43 X fu K35 n x0 x1 x2 x3 x4 st) (fun x0 x1 x2 x3 x4 st H locs ls hf hl hM => ih x0 x1 x2 x3 x4 st hf H locs ls hl hM) x0 x1 x2 x3 x4 st hf hl hM
theorem w_X10_waysToSpend_b35F {p : Program} {l : Launch} {e : Env} {s : State} {m : MethodId} {args : Array Value} {below : List Frame} {meth : Method} {c : Code} {D : va_G} {X : cc_X} {r : Int64} {st' : cc_S} (Cx : cc_C p s m args meth c cX10_waysToSpend 9 (some .long) RX10 D X) (fu : Nat) (K35 : Nat → Int32 → Int32 → Int32 → cc_S → Option (Int64 × cc_S)) (hK35 : ∀ (x0 : Nat) (x1 : Int32) (x2 : Int32) (x3 : Int32) (st : cc_S) (H : Heap) (locs : List Loc) (ls : Array Slot), K35 x0 x1 x2 x3 st = some (r, st') → lv_has ls 9 [(0, .ref (cx_a X x0)), (1, .int x1), (2, .int x2), (3, .int x3)] → cc_H D X s.heap st H locs → W p l e (mm_R 3 72) s m args below meth c H locs 0 0 (MQ below (cc_Ql D X r st') args s 0 0 (cc_A X)) (F0 m 35 ls [])) (x0 : Nat) (x1 : Int32) (x2 : Int32) (x3 : Int32) (st : cc_S) (hf : C_X10_waysToSpend_b35F X fu K35 x0 x1 x2 x3 st = some (r, st')) {H : Heap} {locs : List Loc} {ls : Array Slot} (hl : lv_has ls 9 [(0, .ref (cx_a X x0)), (1, .int x1), (2, .int x2), (3, .int x3)]) (hM : cc_H D X s.heap st H locs) : W p l e (mm_R 3 72) s m args below meth c H locs 0 0 (MQ below (cc_Ql D X r st') args s 0 0 (cc_A X)) (F0 m 35 ls []) := by
  unfold C_X10_waysToSpend_b35F at hf
  refine lv_iload_n Cx.1 Cx.2.1 (dd_at td_X10_waysToSpend 21 rfl) rfl (lv_at hl 3 rfl) ?_
  refine lv_iload_n Cx.1 Cx.2.1 (dd_at td_X10_waysToSpend 22 rfl) rfl (lv_at hl 1 rfl) ?_
  refine lv_icmp_gt (tgt := 137) Cx.1 Cx.2.1 (dd_at td_X10_waysToSpend 23 rfl) (by decide) (fun c5 => ?_) (fun c5 => ?_)
  · replace hf := fc_of_t hf c5
    refine lv_aload_n Cx.1 Cx.2.1 (dd_at td_X10_waysToSpend 76 rfl) rfl (lv_at hl 0 rfl) ?_
    obtain ⟨g6, hf⟩ := fc_of_gd hf
    refine cc_gA (ci := 12) (C := RX10) (T := TX10) (N := 8) (k := 3) (ref := "EclipsesKept$Years") Cx hM g6 rfl cc_inX10 rfl (by decide) cw420 (fun _ h => h) (dd_at td_X10_waysToSpend 77 rfl) rfl ?_
    refine lv_iload_n Cx.1 Cx.2.1 (dd_at td_X10_waysToSpend 78 rfl) rfl (lv_at hl 1 rfl) ?_
    obtain ⟨g7, hf⟩ := fc_of_gd hf
    refine cc_aldg Cx hM g7 (dd_at td_X10_waysToSpend 79 rfl) ?_
    refine lv_iload_n Cx.1 Cx.2.1 (dd_at td_X10_waysToSpend 80 rfl) rfl (lv_at hl 2 rfl) ?_
    obtain ⟨g8, hf⟩ := fc_of_gd hf
    refine cc_lald Cx hM g8 (dd_at td_X10_waysToSpend 81 rfl) ?_
    exact cc_rl Cx hM (dd_at td_X10_waysToSpend 82 rfl) hf
  · replace hf := fc_of_f hf c5
    refine lv_iconst (v := (0 : Int32)) Cx.1 Cx.2.1 (dd_at td_X10_waysToSpend 24 rfl) (by decide) ?_
    refine lv_istore (lv' := [(4, .int (0 : Int32)), (0, .ref (cx_a X x0)), (1, .int x1), (2, .int x2), (3, .int x3)]) Cx.1 Cx.2.1 (dd_at td_X10_waysToSpend 25 rfl) hl (by decide) rfl (fun ls hl => ?_)
    exact w_X10_waysToSpend_b43 Cx fu K35 hK35 fu x0 x1 x2 x3 (0 : Int32) st hf _ _ _ (lv_sub hl [1, 2, 3, 4, 0] rfl) hM
theorem w_X10_waysToSpend_b35 {p : Program} {l : Launch} {e : Env} {s : State} {m : MethodId} {args : Array Value} {below : List Frame} {meth : Method} {c : Code} {D : va_G} {X : cc_X} {r : Int64} {st' : cc_S} (Cx : cc_C p s m args meth c cX10_waysToSpend 9 (some .long) RX10 D X) (fu : Nat) (n : Nat) : ∀ (x0 : Nat) (x1 : Int32) (x2 : Int32) (x3 : Int32) (st : cc_S), C_X10_waysToSpend_b35 X fu n x0 x1 x2 x3 st = some (r, st') → ∀ (H : Heap) (locs : List Loc) (ls : Array Slot), lv_has ls 9 [(0, .ref (cx_a X x0)), (1, .int x1), (2, .int x2), (3, .int x3)] → cc_H D X s.heap st H locs → W p l e (mm_R 3 72) s m args below meth c H locs 0 0 (MQ below (cc_Ql D X r st') args s 0 0 (cc_A X)) (F0 m 35 ls []) := by
  induction n with
  | zero => exact fun _ _ _ _ _ hf => fc_no hf
  | succ n ih =>
    intro x0 x1 x2 x3 st hf H locs ls hl hM
    exact w_X10_waysToSpend_b35F Cx fu (fun x0 x1 x2 x3 st => C_X10_waysToSpend_b35 X fu n x0 x1 x2 x3 st) (fun x0 x1 x2 x3 st H locs ls hf hl hM => ih x0 x1 x2 x3 st hf H locs ls hl hM) x0 x1 x2 x3 st hf hl hM
theorem w_X10_waysToSpend_b26 {p : Program} {l : Launch} {e : Env} {s : State} {m : MethodId} {args : Array Value} {below : List Frame} {meth : Method} {c : Code} {D : va_G} {X : cc_X} {r : Int64} {st' : cc_S} (Cx : cc_C p s m args meth c cX10_waysToSpend 9 (some .long) RX10 D X) (fu : Nat) (K2 : Nat → Int32 → Int32 → Int32 → cc_S → Option (Int64 × cc_S)) (hK2 : ∀ (x0 : Nat) (x1 : Int32) (x2 : Int32) (x3 : Int32) (st : cc_S) (H : Heap) (locs : List Loc) (ls : Array Slot), K2 x0 x1 x2 x3 st = some (r, st') → lv_has ls 9 [(0, .ref (cx_a X x0)), (1, .int x1), (2, .int x2), (3, .int x3)] → cc_H D X s.heap st H locs → W p l e (mm_R 3 72) s m args below meth c H locs 0 0 (MQ below (cc_Ql D X r st') args s 0 0 (cc_A X)) (F0 m 2 ls [])) (x0 : Nat) (x1 : Int32) (x2 : Int32) (x3 : Int32) (s0 : Int64) (s1 : Int32) (s2i : Nat) (s2k : Nat) (st : cc_S) (hf : C_X10_waysToSpend_b26 X fu K2 x0 x1 x2 x3 s0 s1 s2i s2k st = some (r, st')) {H : Heap} {locs : List Loc} {ls : Array Slot} (hl : lv_has ls 9 [(0, .ref (cx_a X x0)), (1, .int x1), (2, .int x2), (3, .int x3)]) (hM : cc_H D X s.heap st H locs) : W p l e (mm_R 3 72) s m args below meth c H locs 0 0 (MQ below (cc_Ql D X r st') args s 0 0 (cc_A X)) (F0 m 26 ls [.long s0, .int s1, .ref (cx_b X s2i s2k)]) := by
  unfold C_X10_waysToSpend_b26 at hf
  obtain ⟨g9, hf⟩ := fc_of_gd hf
  refine cc_last Cx hM g9 (dd_at td_X10_waysToSpend 16 rfl) (fun st10 H locs est10 hM => ?_)
  replace hf := fc_of_nm hf st10 est10
  obtain ⟨v11, ev11⟩ : ∃ y : Int32, y = x3 + (1 : Int32) := ⟨_, rfl⟩
  replace hf := fc_of_nm hf v11 ev11
  refine lv_iinc (v := v11) (lv' := [(3, .int v11), (0, .ref (cx_a X x0)), (1, .int x1), (2, .int x2)]) Cx.1 Cx.2.1 (dd_at td_X10_waysToSpend 17 rfl) hl (k := 3) rfl (by rw [ev11]; rfl) (by decide) rfl (fun ls hl => ?_)
  refine lv_goto (tgt := 2) Cx.1 Cx.2.1 (dd_at td_X10_waysToSpend 18 rfl) (by decide) ?_
  exact hK2 x0 x1 x2 v11 st10 _ _ _ hf (lv_sub hl [1, 2, 3, 0] rfl) hM
theorem w_X10_waysToSpend_b2F {p : Program} {l : Launch} {e : Env} {s : State} {m : MethodId} {args : Array Value} {below : List Frame} {meth : Method} {c : Code} {D : va_G} {X : cc_X} {r : Int64} {st' : cc_S} (Cx : cc_C p s m args meth c cX10_waysToSpend 9 (some .long) RX10 D X) (fu : Nat) (K2 : Nat → Int32 → Int32 → Int32 → cc_S → Option (Int64 × cc_S)) (hK2 : ∀ (x0 : Nat) (x1 : Int32) (x2 : Int32) (x3 : Int32) (st : cc_S) (H : Heap) (locs : List Loc) (ls : Array Slot), K2 x0 x1 x2 x3 st = some (r, st') → lv_has ls 9 [(0, .ref (cx_a X x0)), (1, .int x1), (2, .int x2), (3, .int x3)] → cc_H D X s.heap st H locs → W p l e (mm_R 3 72) s m args below meth c H locs 0 0 (MQ below (cc_Ql D X r st') args s 0 0 (cc_A X)) (F0 m 2 ls [])) (x0 : Nat) (x1 : Int32) (x2 : Int32) (x3 : Int32) (st : cc_S) (hf : C_X10_waysToSpend_b2F X fu K2 x0 x1 x2 x3 st = some (r, st')) {H : Heap} {locs : List Loc} {ls : Array Slot} (hl : lv_has ls 9 [(0, .ref (cx_a X x0)), (1, .int x1), (2, .int x2), (3, .int x3)]) (hM : cc_H D X s.heap st H locs) : W p l e (mm_R 3 72) s m args below meth c H locs 0 0 (MQ below (cc_Ql D X r st') args s 0 0 (cc_A X)) (F0 m 2 ls []) := by
  unfold C_X10_waysToSpend_b2F at hf
  refine lv_iload_n Cx.1 Cx.2.1 (dd_at td_X10_waysToSpend 2 rfl) rfl (lv_at hl 3 rfl) ?_
  refine lv_aload_n Cx.1 Cx.2.1 (dd_at td_X10_waysToSpend 3 rfl) rfl (lv_at hl 0 rfl) ?_
  obtain ⟨g1, hf⟩ := fc_of_gd hf
  refine cc_gI (ci := 12) (C := RX10) (T := TX10) (N := 8) (k := 5) (ref := "EclipsesKept$Years") Cx hM g1 rfl cc_inX10 rfl (by decide) cw422 (fun _ h => h) (dd_at td_X10_waysToSpend 4 rfl) rfl ?_
  refine lv_icmp_gt (tgt := 33) Cx.1 Cx.2.1 (dd_at td_X10_waysToSpend 5 rfl) (by decide) (fun c2 => ?_) (fun c2 => ?_)
  · replace hf := fc_of_t hf c2
    refine lv_iconst (v := (1 : Int32)) Cx.1 Cx.2.1 (dd_at td_X10_waysToSpend 19 rfl) (by decide) ?_
    refine lv_istore_n (lv' := [(3, .int (1 : Int32)), (0, .ref (cx_a X x0)), (1, .int x1), (2, .int x2)]) Cx.1 Cx.2.1 (dd_at td_X10_waysToSpend 20 rfl) rfl hl (by decide) rfl (fun ls hl => ?_)
    exact w_X10_waysToSpend_b35 Cx fu fu x0 x1 x2 (1 : Int32) st hf _ _ _ (lv_sub hl [1, 2, 3, 0] rfl) hM
  · replace hf := fc_of_f hf c2
    refine lv_aload_n Cx.1 Cx.2.1 (dd_at td_X10_waysToSpend 6 rfl) rfl (lv_at hl 0 rfl) ?_
    refine cc_gA (ci := 12) (C := RX10) (T := TX10) (N := 8) (k := 3) (ref := "EclipsesKept$Years") Cx hM g1 rfl cc_inX10 rfl (by decide) cw420 (fun _ h => h) (dd_at td_X10_waysToSpend 7 rfl) rfl ?_
    refine lv_iconst (v := (0 : Int32)) Cx.1 Cx.2.1 (dd_at td_X10_waysToSpend 8 rfl) (by decide) ?_
    obtain ⟨g3, hf⟩ := fc_of_gd hf
    refine cc_aldg Cx hM g3 (dd_at td_X10_waysToSpend 9 rfl) ?_
    refine lv_iload_n Cx.1 Cx.2.1 (dd_at td_X10_waysToSpend 10 rfl) rfl (lv_at hl 3 rfl) ?_
    refine lv_iload_n Cx.1 Cx.2.1 (dd_at td_X10_waysToSpend 11 rfl) rfl (lv_at hl 3 rfl) ?_
    refine lv_if_ne (tgt := 25) Cx.1 Cx.2.1 (dd_at td_X10_waysToSpend 12 rfl) (by decide) (fun c4 => ?_) (fun c4 => ?_)
    · replace hf := fc_of_f hf c4
      refine lv_lconst (v := (0 : Int64)) Cx.1 Cx.2.1 (dd_at td_X10_waysToSpend 15 rfl) (by decide) ?_
      exact w_X10_waysToSpend_b26 Cx fu K2 hK2 x0 x1 x2 x3 (0 : Int64) x3 x0 (100 * 3 + (0 : Int32).toNatClampNeg) st hf (lv_sub hl [0, 1, 2, 3] rfl) hM
    · replace hf := fc_of_t hf c4
      refine lv_lconst (v := (1 : Int64)) Cx.1 Cx.2.1 (dd_at td_X10_waysToSpend 13 rfl) (by decide) ?_
      refine lv_goto (tgt := 26) Cx.1 Cx.2.1 (dd_at td_X10_waysToSpend 14 rfl) (by decide) ?_
      exact w_X10_waysToSpend_b26 Cx fu K2 hK2 x0 x1 x2 x3 (1 : Int64) x3 x0 (100 * 3 + (0 : Int32).toNatClampNeg) st hf (lv_sub hl [0, 1, 2, 3] rfl) hM
theorem w_X10_waysToSpend_b2 {p : Program} {l : Launch} {e : Env} {s : State} {m : MethodId} {args : Array Value} {below : List Frame} {meth : Method} {c : Code} {D : va_G} {X : cc_X} {r : Int64} {st' : cc_S} (Cx : cc_C p s m args meth c cX10_waysToSpend 9 (some .long) RX10 D X) (fu : Nat) (n : Nat) : ∀ (x0 : Nat) (x1 : Int32) (x2 : Int32) (x3 : Int32) (st : cc_S), C_X10_waysToSpend_b2 X fu n x0 x1 x2 x3 st = some (r, st') → ∀ (H : Heap) (locs : List Loc) (ls : Array Slot), lv_has ls 9 [(0, .ref (cx_a X x0)), (1, .int x1), (2, .int x2), (3, .int x3)] → cc_H D X s.heap st H locs → W p l e (mm_R 3 72) s m args below meth c H locs 0 0 (MQ below (cc_Ql D X r st') args s 0 0 (cc_A X)) (F0 m 2 ls []) := by
  induction n with
  | zero => exact fun _ _ _ _ _ hf => fc_no hf
  | succ n ih =>
    intro x0 x1 x2 x3 st hf H locs ls hl hM
    exact w_X10_waysToSpend_b2F Cx fu (fun x0 x1 x2 x3 st => C_X10_waysToSpend_b2 X fu n x0 x1 x2 x3 st) (fun x0 x1 x2 x3 st H locs ls hf hl hM => ih x0 x1 x2 x3 st hf H locs ls hl hM) x0 x1 x2 x3 st hf hl hM
theorem w_X10_waysToSpend {p : Program} {l : Launch} {e : Env} {s : State} {m : MethodId} {args : Array Value} {below : List Frame} {meth : Method} {c : Code} {D : va_G} {X : cc_X} {r : Int64} {st' : cc_S} (Cx : cc_C p s m args meth c cX10_waysToSpend 9 (some .long) RX10 D X) (fu : Nat) (x0 : Nat) (x1 : Int32) (x2 : Int32) (st : cc_S) (hf : C_X10_waysToSpend X fu x0 x1 x2 st = some (r, st')) {H : Heap} {locs : List Loc} {ls : Array Slot} (hl : lv_has ls 9 [(0, .ref (cx_a X x0)), (1, .int x1), (2, .int x2)]) (hM : cc_H D X s.heap st H locs) : W p l e (mm_R 3 72) s m args below meth c H locs 0 0 (MQ below (cc_Ql D X r st') args s 0 0 (cc_A X)) (F0 m 0 ls []) := by
  unfold C_X10_waysToSpend at hf
  refine lv_iconst (v := (0 : Int32)) Cx.1 Cx.2.1 (dd_at td_X10_waysToSpend 0 rfl) (by decide) ?_
  refine lv_istore_n (lv' := [(3, .int (0 : Int32)), (0, .ref (cx_a X x0)), (1, .int x1), (2, .int x2)]) Cx.1 Cx.2.1 (dd_at td_X10_waysToSpend 1 rfl) rfl hl (by decide) rfl (fun ls hl => ?_)
  exact w_X10_waysToSpend_b2 Cx fu fu x0 x1 x2 (0 : Int32) st hf _ _ _ (lv_sub hl [1, 2, 3, 0] rfl) hM
theorem c_X10_waysToSpend (l : Launch) (D : va_G) (X : cc_X) (fu : Nat) (x0 : Nat) (x1 : Int32) (x2 : Int32) (st : cc_S) : cc_Ml l D X yX10_waysToSpend cX10_waysToSpend 9 (some .long) 3 72 [.ref (cx_a X x0), .int x1, .int x2] st (C_X10_waysToSpend X fu x0 x1 x2 st) := by
  intro r st' hf
  refine cc_enter (cc := cX10_waysToSpend) (nL := 9) (ret := some .long) (by decide +kernel) rfl (Nat.le_of_ble_eq_true rfl) ?_
  intro p e s m args below meth c ls Cx hl hM
  exact w_X10_waysToSpend Cx fu x0 x1 x2 st hf hl hM

/-! J9_floorDiv_f86c9 -/
def tb_J9_floorDiv_f86c9 : List (Nat × Instr × Nat) := [(0, .lload_n 0, 1), (1, .lload_n 2, 1), (2, .ldiv, 1), (3, .lstore 4, 2), (5, .lload_n 0, 1), (6, .lload_n 2, 1), (7, .lxor, 1), (8, .lconst 0, 1), (9, .lcmp, 1), (10, .ifCond .ge 17, 3), (13, .lload 4, 2), (15, .lload_n 2, 1), (16, .lmul, 1), (17, .lload_n 0, 1), (18, .lcmp, 1), (19, .ifCond .eq 8, 3), (22, .lload 4, 2), (24, .lconst 1, 1), (25, .lsub, 1), (26, .lreturn, 1), (27, .lload 4, 2), (29, .lreturn, 1)]
theorem td_J9_floorDiv_f86c9 : tb_J9_floorDiv_f86c9.all (fun q => decide (decode cJ9_floorDiv_f86c9 q.1 = .ok (q.2.1, q.2.2))) = true := by decide +kernel
theorem hd_J9_floorDiv_f86c9 : yJ9_floorDiv_f86c9.cls ≠ "java/lang/invoke/MethodHandle" ∧ yJ9_floorDiv_f86c9.cls ≠ "java/lang/invoke/VarHandle" ∧ (parseMethodDescriptor yJ9_floorDiv_f86c9.desc).map (fun d => d.parameters.length) = some 2 := by decide +kernel
theorem w_J9_floorDiv_f86c9 {p : Program} {l : Launch} {e : Env} {s : State} {m : MethodId} {args : Array Value} {below : List Frame} {meth : Method} {c : Code} {D : va_G} {X : cc_X} {r : Int64} {st' : cc_S} (Cx : cc_C p s m args meth c cJ9_floorDiv_f86c9 6 (some .long) RJ9 D X) (fu : Nat) (x0 : Int64) (x2 : Int64) (st : cc_S) (hf : C_J9_floorDiv_f86c9 X fu x0 x2 st = some (r, st')) {H : Heap} {locs : List Loc} {ls : Array Slot} (hl : lv_has ls 6 [(0, .long x0), (2, .long x2)]) (hM : cc_H D X s.heap st H locs) : W p l e (mm_R 0 0) s m args below meth c H locs 0 0 (MQ below (cc_Ql D X r st') args s 0 0 (cc_A X)) (F0 m 0 ls []) := by
  unfold C_J9_floorDiv_f86c9 at hf
  refine lv_lload_n Cx.1 Cx.2.1 (dd_at td_J9_floorDiv_f86c9 0 rfl) rfl (lv_at hl 0 rfl) ?_
  refine lv_lload_n Cx.1 Cx.2.1 (dd_at td_J9_floorDiv_f86c9 1 rfl) rfl (lv_at hl 1 rfl) ?_
  obtain ⟨g1, hf⟩ := fc_of_gd hf
  refine lv_ldiv Cx.1 Cx.2.1 (dd_at td_J9_floorDiv_f86c9 2 rfl) (fc_of_nzl g1) ?_
  refine lv_topl (fun v2 ev2 => ?_)
  replace hf := fc_of_nm hf v2 ev2
  refine lv_lstore (lv' := [(4, .long v2), (0, .long x0), (2, .long x2)]) Cx.1 Cx.2.1 (dd_at td_J9_floorDiv_f86c9 3 rfl) hl (by decide) rfl (fun ls hl => ?_)
  refine lv_lload_n Cx.1 Cx.2.1 (dd_at td_J9_floorDiv_f86c9 4 rfl) rfl (lv_at hl 1 rfl) ?_
  refine lv_lload_n Cx.1 Cx.2.1 (dd_at td_J9_floorDiv_f86c9 5 rfl) rfl (lv_at hl 2 rfl) ?_
  refine lv_lxor Cx.1 Cx.2.1 (dd_at td_J9_floorDiv_f86c9 6 rfl) ?_
  refine lv_lconst (v := (0 : Int64)) Cx.1 Cx.2.1 (dd_at td_J9_floorDiv_f86c9 7 rfl) (by decide) ?_
  refine W.lcmp Cx.1 Cx.2.1 (dd_at td_J9_floorDiv_f86c9 8 rfl) ?_
  refine lv_if_ge (tgt := 27) Cx.1 Cx.2.1 (dd_at td_J9_floorDiv_f86c9 9 rfl) (by decide) (fun c3 => ?_) (fun c3 => ?_)
  · replace hf := fc_of_t hf c3
    refine lv_lload Cx.1 Cx.2.1 (dd_at td_J9_floorDiv_f86c9 20 rfl) (lv_at hl 0 rfl) ?_
    exact cc_rl Cx hM (dd_at td_J9_floorDiv_f86c9 21 rfl) hf
  · replace hf := fc_of_f hf c3
    refine lv_lload Cx.1 Cx.2.1 (dd_at td_J9_floorDiv_f86c9 10 rfl) (lv_at hl 0 rfl) ?_
    refine lv_lload_n Cx.1 Cx.2.1 (dd_at td_J9_floorDiv_f86c9 11 rfl) rfl (lv_at hl 2 rfl) ?_
    refine lv_lmul Cx.1 Cx.2.1 (dd_at td_J9_floorDiv_f86c9 12 rfl) ?_
    refine lv_lload_n Cx.1 Cx.2.1 (dd_at td_J9_floorDiv_f86c9 13 rfl) rfl (lv_at hl 1 rfl) ?_
    refine W.lcmp Cx.1 Cx.2.1 (dd_at td_J9_floorDiv_f86c9 14 rfl) ?_
    refine lv_if_eq (tgt := 27) Cx.1 Cx.2.1 (dd_at td_J9_floorDiv_f86c9 15 rfl) (by decide) (fun c4 => ?_) (fun c4 => ?_)
    · replace hf := fc_of_t hf c4
      refine lv_lload Cx.1 Cx.2.1 (dd_at td_J9_floorDiv_f86c9 20 rfl) (lv_at hl 0 rfl) ?_
      exact cc_rl Cx hM (dd_at td_J9_floorDiv_f86c9 21 rfl) hf
    · replace hf := fc_of_f hf c4
      refine lv_lload Cx.1 Cx.2.1 (dd_at td_J9_floorDiv_f86c9 16 rfl) (lv_at hl 0 rfl) ?_
      refine lv_lconst (v := (1 : Int64)) Cx.1 Cx.2.1 (dd_at td_J9_floorDiv_f86c9 17 rfl) (by decide) ?_
      refine lv_lsub Cx.1 Cx.2.1 (dd_at td_J9_floorDiv_f86c9 18 rfl) ?_
      exact cc_rl Cx hM (dd_at td_J9_floorDiv_f86c9 19 rfl) hf
theorem c_J9_floorDiv_f86c9 (l : Launch) (D : va_G) (X : cc_X) (fu : Nat) (x0 : Int64) (x2 : Int64) (st : cc_S) : cc_Ml l D X yJ9_floorDiv_f86c9 cJ9_floorDiv_f86c9 6 (some .long) 0 0 [.long x0, .long x2] st (C_J9_floorDiv_f86c9 X fu x0 x2 st) := by
  intro r st' hf
  refine cc_enter (cc := cJ9_floorDiv_f86c9) (nL := 6) (ret := some .long) (by decide +kernel) rfl (Nat.le_of_ble_eq_true rfl) ?_
  intro p e s m args below meth c ls Cx hl hM
  exact w_J9_floorDiv_f86c9 Cx fu x0 x2 st hf hl hM

/-! X10_leastWise -/
def tb_X10_leastWise : List (Nat × Instr × Nat) := [(0, .lconst 1, 1), (1, .aload_n 0, 1), (2, .getfield 15, 3), (5, .iload_n 1, 1), (6, .iconst 1, 1), (7, .isub, 1), (8, .laload, 1), (9, .invokestatic 79, 3), (12, .lstore_n 3, 1), (13, .aload_n 0, 1), (14, .getfield 21, 3), (17, .iload_n 1, 1), (18, .iconst 1, 1), (19, .isub, 1), (20, .aaload, 1), (21, .iload_n 2, 1), (22, .laload, 1), (23, .aload_n 0, 1), (24, .getfield 21, 3), (27, .iload_n 1, 1), (28, .iconst 1, 1), (29, .isub, 1), (30, .aaload, 1), (31, .iload_n 2, 1), (32, .iconst 1, 1), (33, .isub, 1), (34, .laload, 1), (35, .lsub, 1), (36, .aload_n 0, 1), (37, .getfield 34, 3), (40, .i2l, 1), (41, .lload_n 3, 1), (42, .lmul, 1), (43, .lsub, 1), (44, .lstore 5, 2), (46, .lconst 0, 1), (47, .lload 5, 2), (49, .lload_n 3, 1), (50, .invokestatic 85, 3), (53, .lconst 1, 1), (54, .ladd, 1), (55, .invokestatic 79, 3), (58, .lreturn, 1)]
theorem td_X10_leastWise : tb_X10_leastWise.all (fun q => decide (decode cX10_leastWise q.1 = .ok (q.2.1, q.2.2))) = true := by decide +kernel
theorem hd_X10_leastWise : yX10_leastWise.cls = RX10 ∧ yX10_leastWise.cls ≠ "java/lang/invoke/MethodHandle" ∧ yX10_leastWise.cls ≠ "java/lang/invoke/VarHandle" ∧ (parseMethodDescriptor yX10_leastWise.desc).map (fun d => d.parameters.length) = some 2 := by decide +kernel
theorem hs_X10_leastWise : yX10_leastWise.name ≠ "<init>" ∧ (parseMethodDescriptor yX10_leastWise.desc).map (fun d => d.parameters.length) = some 2 := by decide +kernel
theorem w_X10_leastWise {p : Program} {l : Launch} {e : Env} {s : State} {m : MethodId} {args : Array Value} {below : List Frame} {meth : Method} {c : Code} {D : va_G} {X : cc_X} {r : Int64} {st' : cc_S} (Cx : cc_C p s m args meth c cX10_leastWise 7 (some .long) RX10 D X) (fu : Nat) (x0 : Nat) (x1 : Int32) (x2 : Int32) (st : cc_S) (hf : C_X10_leastWise X fu x0 x1 x2 st = some (r, st')) {H : Heap} {locs : List Loc} {ls : Array Slot} (hl : lv_has ls 7 [(0, .ref (cx_a X x0)), (1, .int x1), (2, .int x2)]) (hM : cc_H D X s.heap st H locs) : W p l e (mm_R 1 40) s m args below meth c H locs 0 0 (MQ below (cc_Ql D X r st') args s 0 0 (cc_A X)) (F0 m 0 ls []) := by
  unfold C_X10_leastWise at hf
  refine lv_lconst (v := (1 : Int64)) Cx.1 Cx.2.1 (dd_at td_X10_leastWise 0 rfl) (by decide) ?_
  refine lv_aload_n Cx.1 Cx.2.1 (dd_at td_X10_leastWise 1 rfl) rfl (lv_at hl 0 rfl) ?_
  obtain ⟨g1, hf⟩ := fc_of_gd hf
  refine cc_gA (ci := 12) (C := RX10) (T := TX10) (N := 8) (k := 1) (ref := "EclipsesKept$Years") Cx hM g1 rfl cc_inX10 rfl (by decide) cw417 (fun _ h => h) (dd_at td_X10_leastWise 2 rfl) rfl ?_
  refine lv_iload_n Cx.1 Cx.2.1 (dd_at td_X10_leastWise 3 rfl) rfl (lv_at hl 1 rfl) ?_
  refine lv_iconst (v := (1 : Int32)) Cx.1 Cx.2.1 (dd_at td_X10_leastWise 4 rfl) (by decide) ?_
  refine lv_isub Cx.1 Cx.2.1 (dd_at td_X10_leastWise 5 rfl) ?_
  obtain ⟨g2, hf⟩ := fc_of_gd hf
  refine cc_lald Cx hM g2 (dd_at td_X10_leastWise 6 rfl) ?_
  refine va_mmax_long Cx.1 Cx.2.1 (Cx.2.2.2.1.trans hl.1.symm) Cx.2.2.2.2.1 (Cx.2.2.2.2.2.1 _ cw458) (Cx.2.2.2.2.2.1 _ cw459) (Cx.2.2.2.2.2.1 _ cw373) (Cx.2.2.2.2.2.1 _ cw460) (Nat.le_of_ble_eq_true rfl) (Nat.le_of_ble_eq_true rfl) (Nat.le_refl 0) (Nat.le_refl 0) (dd_at td_X10_leastWise 7 rfl) ?_
  refine lv_topl (fun v3 ev3 => ?_)
  replace hf := fc_of_nm hf v3 ev3
  refine lv_lstore_n (lv' := [(3, .long v3), (0, .ref (cx_a X x0)), (1, .int x1), (2, .int x2)]) Cx.1 Cx.2.1 (dd_at td_X10_leastWise 8 rfl) rfl hl (by decide) rfl (fun ls hl => ?_)
  refine lv_aload_n Cx.1 Cx.2.1 (dd_at td_X10_leastWise 9 rfl) rfl (lv_at hl 1 rfl) ?_
  refine cc_gA (ci := 12) (C := RX10) (T := TX10) (N := 8) (k := 2) (ref := "EclipsesKept$Years") Cx hM g1 rfl cc_inX10 rfl (by decide) cw419 (fun _ h => h) (dd_at td_X10_leastWise 10 rfl) rfl ?_
  refine lv_iload_n Cx.1 Cx.2.1 (dd_at td_X10_leastWise 11 rfl) rfl (lv_at hl 2 rfl) ?_
  refine lv_iconst (v := (1 : Int32)) Cx.1 Cx.2.1 (dd_at td_X10_leastWise 12 rfl) (by decide) ?_
  refine lv_isub Cx.1 Cx.2.1 (dd_at td_X10_leastWise 13 rfl) ?_
  obtain ⟨g4, hf⟩ := fc_of_gd hf
  refine cc_aldg Cx hM g4 (dd_at td_X10_leastWise 14 rfl) ?_
  refine lv_iload_n Cx.1 Cx.2.1 (dd_at td_X10_leastWise 15 rfl) rfl (lv_at hl 3 rfl) ?_
  obtain ⟨g5, hf⟩ := fc_of_gd hf
  refine cc_lald Cx hM g5 (dd_at td_X10_leastWise 16 rfl) ?_
  refine lv_aload_n Cx.1 Cx.2.1 (dd_at td_X10_leastWise 17 rfl) rfl (lv_at hl 1 rfl) ?_
  refine cc_gA (ci := 12) (C := RX10) (T := TX10) (N := 8) (k := 2) (ref := "EclipsesKept$Years") Cx hM g1 rfl cc_inX10 rfl (by decide) cw419 (fun _ h => h) (dd_at td_X10_leastWise 18 rfl) rfl ?_
  refine lv_iload_n Cx.1 Cx.2.1 (dd_at td_X10_leastWise 19 rfl) rfl (lv_at hl 2 rfl) ?_
  refine lv_iconst (v := (1 : Int32)) Cx.1 Cx.2.1 (dd_at td_X10_leastWise 20 rfl) (by decide) ?_
  refine lv_isub Cx.1 Cx.2.1 (dd_at td_X10_leastWise 21 rfl) ?_
  obtain ⟨g6, hf⟩ := fc_of_gd hf
  refine cc_aldg Cx hM g6 (dd_at td_X10_leastWise 22 rfl) ?_
  refine lv_iload_n Cx.1 Cx.2.1 (dd_at td_X10_leastWise 23 rfl) rfl (lv_at hl 3 rfl) ?_
  refine lv_iconst (v := (1 : Int32)) Cx.1 Cx.2.1 (dd_at td_X10_leastWise 24 rfl) (by decide) ?_
  refine lv_isub Cx.1 Cx.2.1 (dd_at td_X10_leastWise 25 rfl) ?_
  obtain ⟨g7, hf⟩ := fc_of_gd hf
  refine cc_lald Cx hM g7 (dd_at td_X10_leastWise 26 rfl) ?_
  refine lv_lsub Cx.1 Cx.2.1 (dd_at td_X10_leastWise 27 rfl) ?_
  refine lv_aload_n Cx.1 Cx.2.1 (dd_at td_X10_leastWise 28 rfl) rfl (lv_at hl 1 rfl) ?_
  refine cc_gI (ci := 12) (C := RX10) (T := TX10) (N := 8) (k := 6) (ref := "EclipsesKept$Years") Cx hM g1 rfl cc_inX10 rfl (by decide) cw423 (fun _ h => h) (dd_at td_X10_leastWise 29 rfl) rfl ?_
  refine lv_i2l Cx.1 Cx.2.1 (dd_at td_X10_leastWise 30 rfl) rfl ?_
  refine lv_lload_n Cx.1 Cx.2.1 (dd_at td_X10_leastWise 31 rfl) rfl (lv_at hl 0 rfl) ?_
  refine lv_lmul Cx.1 Cx.2.1 (dd_at td_X10_leastWise 32 rfl) ?_
  refine lv_lsub Cx.1 Cx.2.1 (dd_at td_X10_leastWise 33 rfl) ?_
  refine lv_topl (fun v8 ev8 => ?_)
  replace hf := fc_of_nm hf v8 ev8
  refine lv_lstore (lv' := [(5, .long v8), (3, .long v3), (0, .ref (cx_a X x0)), (1, .int x1), (2, .int x2)]) Cx.1 Cx.2.1 (dd_at td_X10_leastWise 34 rfl) hl (by decide) rfl (fun ls hl => ?_)
  refine lv_lconst (v := (0 : Int64)) Cx.1 Cx.2.1 (dd_at td_X10_leastWise 35 rfl) (by decide) ?_
  refine lv_lload Cx.1 Cx.2.1 (dd_at td_X10_leastWise 36 rfl) (lv_at hl 0 rfl) ?_
  refine lv_lload_n Cx.1 Cx.2.1 (dd_at td_X10_leastWise 37 rfl) rfl (lv_at hl 1 rfl) ?_
  obtain ⟨r11, st9, hx10, hf⟩ := fc_of_bn hf
  refine cc_all hM (cc_rS (As := [.long v8, .long v3]) (rest := [.long (0 : Int64)]) (n := 2) Cx hM (c_J9_floorDiv_f86c9 l D X fu v8 v3 st r11 st9 hx10) (cc_gdS cw461 cw462 cw373 cw456) hd_J9_floorDiv_f86c9 ⟨Nat.le_of_ble_eq_true rfl, Nat.le_of_ble_eq_true rfl⟩ rfl hl.1 rfl (Nat.le_of_ble_eq_true rfl) (dd_at td_X10_leastWise 38 rfl) ⟨Nat.le_refl 0, Nat.le_refl 0⟩) (fun H locs hM => ?_)
  refine lv_lconst (v := (1 : Int64)) Cx.1 Cx.2.1 (dd_at td_X10_leastWise 39 rfl) (by decide) ?_
  refine lv_ladd Cx.1 Cx.2.1 (dd_at td_X10_leastWise 40 rfl) ?_
  refine va_mmax_long Cx.1 Cx.2.1 (Cx.2.2.2.1.trans hl.1.symm) Cx.2.2.2.2.1 (Cx.2.2.2.2.2.1 _ cw458) (Cx.2.2.2.2.2.1 _ cw459) (Cx.2.2.2.2.2.1 _ cw373) (Cx.2.2.2.2.2.1 _ cw460) (Nat.le_of_ble_eq_true rfl) (Nat.le_of_ble_eq_true rfl) (Nat.le_refl 0) (Nat.le_refl 0) (dd_at td_X10_leastWise 41 rfl) ?_
  exact cc_rl Cx hM (dd_at td_X10_leastWise 42 rfl) hf
theorem c_X10_leastWise (l : Launch) (D : va_G) (X : cc_X) (fu : Nat) (x0 : Nat) (x1 : Int32) (x2 : Int32) (st : cc_S) : cc_Ml l D X yX10_leastWise cX10_leastWise 7 (some .long) 1 40 [.ref (cx_a X x0), .int x1, .int x2] st (C_X10_leastWise X fu x0 x1 x2 st) := by
  intro r st' hf
  refine cc_enter (cc := cX10_leastWise) (nL := 7) (ret := some .long) (by decide +kernel) rfl (Nat.le_of_ble_eq_true rfl) ?_
  intro p e s m args below meth c ls Cx hl hM
  exact w_X10_leastWise Cx fu x0 x1 x2 st hf hl hM

