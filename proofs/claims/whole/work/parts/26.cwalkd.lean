/-! J6_bitCount_0f7a4 -/
def tb_J6_bitCount_0f7a4 : List (Nat × Instr × Nat) := [(0, .iload_n 0, 1), (1, .iload_n 0, 1), (2, .iconst 1, 1), (3, .iushr, 1), (4, .ldc_w 265, 3), (7, .iand, 1), (8, .isub, 1), (9, .istore_n 0, 1), (10, .iload_n 0, 1), (11, .ldc_w 266, 3), (14, .iand, 1), (15, .iload_n 0, 1), (16, .iconst 2, 1), (17, .iushr, 1), (18, .ldc_w 266, 3), (21, .iand, 1), (22, .iadd, 1), (23, .istore_n 0, 1), (24, .iload_n 0, 1), (25, .iload_n 0, 1), (26, .iconst 4, 1), (27, .iushr, 1), (28, .iadd, 1), (29, .ldc_w 267, 3), (32, .iand, 1), (33, .istore_n 0, 1), (34, .iload_n 0, 1), (35, .iload_n 0, 1), (36, .bipush 8, 2), (38, .iushr, 1), (39, .iadd, 1), (40, .istore_n 0, 1), (41, .iload_n 0, 1), (42, .iload_n 0, 1), (43, .bipush 16, 2), (45, .iushr, 1), (46, .iadd, 1), (47, .istore_n 0, 1), (48, .iload_n 0, 1), (49, .bipush 63, 2), (51, .iand, 1), (52, .ireturn, 1)]
theorem td_J6_bitCount_0f7a4 : tb_J6_bitCount_0f7a4.all (fun q => decide (decode cJ6_bitCount_0f7a4 q.1 = .ok (q.2.1, q.2.2))) = true := by decide +kernel
theorem hd_J6_bitCount_0f7a4 : yJ6_bitCount_0f7a4.cls ≠ "java/lang/invoke/MethodHandle" ∧ yJ6_bitCount_0f7a4.cls ≠ "java/lang/invoke/VarHandle" ∧ (parseMethodDescriptor yJ6_bitCount_0f7a4.desc).map (fun d => d.parameters.length) = some 1 := by decide +kernel
theorem w_J6_bitCount_0f7a4 {p : Program} {l : Launch} {e : Env} {s : State} {m : MethodId} {args : Array Value} {below : List Frame} {meth : Method} {c : Code} {D : va_G} {X : cc_X} {r : Int32} {st' : cc_S} (Cx : cc_C p s m args meth c cJ6_bitCount_0f7a4 1 (some .int) RJ6 D X) (fu : Nat) (x0 : Int32) (st : cc_S) (hf : C_J6_bitCount_0f7a4 X fu x0 st = some (r, st')) {H : Heap} {locs : List Loc} {ls : Array Slot} (hl : lv_has ls 1 [(0, .int x0)]) (hM : cc_H D X s.heap st H locs) : W p l e (mm_R 0 0) s m args below meth c H locs 0 0 (MQ below (cc_Qi D X r st') args s 0 0 (cc_A X)) (F0 m 0 ls []) := by
  unfold C_J6_bitCount_0f7a4 at hf
  refine lv_iload_n Cx.1 Cx.2.1 (dd_at td_J6_bitCount_0f7a4 0 rfl) rfl (lv_at hl 0 rfl) ?_
  refine lv_iload_n Cx.1 Cx.2.1 (dd_at td_J6_bitCount_0f7a4 1 rfl) rfl (lv_at hl 0 rfl) ?_
  refine lv_iconst (v := (1 : Int32)) Cx.1 Cx.2.1 (dd_at td_J6_bitCount_0f7a4 2 rfl) (by decide) ?_
  refine lv_iushr Cx.1 Cx.2.1 (dd_at td_J6_bitCount_0f7a4 3 rfl) rfl ?_
  refine lv_ldcw (v := (1431655765 : Int32)) Cx.1 Cx.2.1 Cx.2.2.2.2.1 (Cx.2.2.2.2.2.1 _ cw468) (dd_at td_J6_bitCount_0f7a4 4 rfl) ?_
  refine lv_iand Cx.1 Cx.2.1 (dd_at td_J6_bitCount_0f7a4 5 rfl) ?_
  refine lv_isub Cx.1 Cx.2.1 (dd_at td_J6_bitCount_0f7a4 6 rfl) ?_
  refine lv_topi (fun v1 ev1 => ?_)
  replace hf := fc_of_nm hf v1 ev1
  refine lv_istore_n (lv' := [(0, .int v1)]) Cx.1 Cx.2.1 (dd_at td_J6_bitCount_0f7a4 7 rfl) rfl hl (by decide) rfl (fun ls hl => ?_)
  refine lv_iload_n Cx.1 Cx.2.1 (dd_at td_J6_bitCount_0f7a4 8 rfl) rfl (lv_at hl 0 rfl) ?_
  refine lv_ldcw (v := (858993459 : Int32)) Cx.1 Cx.2.1 Cx.2.2.2.2.1 (Cx.2.2.2.2.2.1 _ cw469) (dd_at td_J6_bitCount_0f7a4 9 rfl) ?_
  refine lv_iand Cx.1 Cx.2.1 (dd_at td_J6_bitCount_0f7a4 10 rfl) ?_
  refine lv_iload_n Cx.1 Cx.2.1 (dd_at td_J6_bitCount_0f7a4 11 rfl) rfl (lv_at hl 0 rfl) ?_
  refine lv_iconst (v := (2 : Int32)) Cx.1 Cx.2.1 (dd_at td_J6_bitCount_0f7a4 12 rfl) (by decide) ?_
  refine lv_iushr Cx.1 Cx.2.1 (dd_at td_J6_bitCount_0f7a4 13 rfl) rfl ?_
  refine lv_ldcw (v := (858993459 : Int32)) Cx.1 Cx.2.1 Cx.2.2.2.2.1 (Cx.2.2.2.2.2.1 _ cw469) (dd_at td_J6_bitCount_0f7a4 14 rfl) ?_
  refine lv_iand Cx.1 Cx.2.1 (dd_at td_J6_bitCount_0f7a4 15 rfl) ?_
  refine lv_iadd Cx.1 Cx.2.1 (dd_at td_J6_bitCount_0f7a4 16 rfl) ?_
  refine lv_topi (fun v2 ev2 => ?_)
  replace hf := fc_of_nm hf v2 ev2
  refine lv_istore_n (lv' := [(0, .int v2)]) Cx.1 Cx.2.1 (dd_at td_J6_bitCount_0f7a4 17 rfl) rfl hl (by decide) rfl (fun ls hl => ?_)
  refine lv_iload_n Cx.1 Cx.2.1 (dd_at td_J6_bitCount_0f7a4 18 rfl) rfl (lv_at hl 0 rfl) ?_
  refine lv_iload_n Cx.1 Cx.2.1 (dd_at td_J6_bitCount_0f7a4 19 rfl) rfl (lv_at hl 0 rfl) ?_
  refine lv_iconst (v := (4 : Int32)) Cx.1 Cx.2.1 (dd_at td_J6_bitCount_0f7a4 20 rfl) (by decide) ?_
  refine lv_iushr Cx.1 Cx.2.1 (dd_at td_J6_bitCount_0f7a4 21 rfl) rfl ?_
  refine lv_iadd Cx.1 Cx.2.1 (dd_at td_J6_bitCount_0f7a4 22 rfl) ?_
  refine lv_ldcw (v := (252645135 : Int32)) Cx.1 Cx.2.1 Cx.2.2.2.2.1 (Cx.2.2.2.2.2.1 _ cw470) (dd_at td_J6_bitCount_0f7a4 23 rfl) ?_
  refine lv_iand Cx.1 Cx.2.1 (dd_at td_J6_bitCount_0f7a4 24 rfl) ?_
  refine lv_topi (fun v3 ev3 => ?_)
  replace hf := fc_of_nm hf v3 ev3
  refine lv_istore_n (lv' := [(0, .int v3)]) Cx.1 Cx.2.1 (dd_at td_J6_bitCount_0f7a4 25 rfl) rfl hl (by decide) rfl (fun ls hl => ?_)
  refine lv_iload_n Cx.1 Cx.2.1 (dd_at td_J6_bitCount_0f7a4 26 rfl) rfl (lv_at hl 0 rfl) ?_
  refine lv_iload_n Cx.1 Cx.2.1 (dd_at td_J6_bitCount_0f7a4 27 rfl) rfl (lv_at hl 0 rfl) ?_
  refine lv_bipush (v := (8 : Int32)) Cx.1 Cx.2.1 (dd_at td_J6_bitCount_0f7a4 28 rfl) (by decide) ?_
  refine lv_iushr Cx.1 Cx.2.1 (dd_at td_J6_bitCount_0f7a4 29 rfl) rfl ?_
  refine lv_iadd Cx.1 Cx.2.1 (dd_at td_J6_bitCount_0f7a4 30 rfl) ?_
  refine lv_topi (fun v4 ev4 => ?_)
  replace hf := fc_of_nm hf v4 ev4
  refine lv_istore_n (lv' := [(0, .int v4)]) Cx.1 Cx.2.1 (dd_at td_J6_bitCount_0f7a4 31 rfl) rfl hl (by decide) rfl (fun ls hl => ?_)
  refine lv_iload_n Cx.1 Cx.2.1 (dd_at td_J6_bitCount_0f7a4 32 rfl) rfl (lv_at hl 0 rfl) ?_
  refine lv_iload_n Cx.1 Cx.2.1 (dd_at td_J6_bitCount_0f7a4 33 rfl) rfl (lv_at hl 0 rfl) ?_
  refine lv_bipush (v := (16 : Int32)) Cx.1 Cx.2.1 (dd_at td_J6_bitCount_0f7a4 34 rfl) (by decide) ?_
  refine lv_iushr Cx.1 Cx.2.1 (dd_at td_J6_bitCount_0f7a4 35 rfl) rfl ?_
  refine lv_iadd Cx.1 Cx.2.1 (dd_at td_J6_bitCount_0f7a4 36 rfl) ?_
  refine lv_topi (fun v5 ev5 => ?_)
  replace hf := fc_of_nm hf v5 ev5
  refine lv_istore_n (lv' := [(0, .int v5)]) Cx.1 Cx.2.1 (dd_at td_J6_bitCount_0f7a4 37 rfl) rfl hl (by decide) rfl (fun ls hl => ?_)
  refine lv_iload_n Cx.1 Cx.2.1 (dd_at td_J6_bitCount_0f7a4 38 rfl) rfl (lv_at hl 0 rfl) ?_
  refine lv_bipush (v := (63 : Int32)) Cx.1 Cx.2.1 (dd_at td_J6_bitCount_0f7a4 39 rfl) (by decide) ?_
  refine lv_iand Cx.1 Cx.2.1 (dd_at td_J6_bitCount_0f7a4 40 rfl) ?_
  exact cc_ri Cx hM (dd_at td_J6_bitCount_0f7a4 41 rfl) hf
theorem c_J6_bitCount_0f7a4 (l : Launch) (D : va_G) (X : cc_X) (fu : Nat) (x0 : Int32) (st : cc_S) : cc_Mi l D X yJ6_bitCount_0f7a4 cJ6_bitCount_0f7a4 1 (some .int) 0 0 [.int x0] st (C_J6_bitCount_0f7a4 X fu x0 st) := by
  intro r st' hf
  refine cc_enter (cc := cJ6_bitCount_0f7a4) (nL := 1) (ret := some .int) (by decide +kernel) rfl (Nat.le_of_ble_eq_true rfl) ?_
  intro p e s m args below meth c ls Cx hl hM
  exact w_J6_bitCount_0f7a4 Cx fu x0 st hf hl hM

/-! X10_gain -/
def tb_X10_gain : List (Nat × Instr × Nat) := [(0, .aload_n 1, 1), (1, .getfield 101, 3), (4, .istore_n 3, 1), (5, .iconst 0, 1), (6, .istore 4, 2), (8, .iconst 0, 1), (9, .istore 5, 2), (11, .iload 5, 2), (13, .aload_n 1, 1), (14, .getfield 92, 3), (17, .if_icmp .ge 60, 3), (20, .iload_n 2, 1), (21, .iload 5, 2), (23, .ishr, 1), (24, .iconst 1, 1), (25, .iand, 1), (26, .iconst 1, 1), (27, .if_icmp .ne 33, 3), (30, .iload_n 3, 1), (31, .ifCond .le 29, 3), (34, .iload 4, 2), (36, .aload_n 0, 1), (37, .getfield 9, 3), (40, .iload 5, 2), (42, .iload_n 3, 1), (43, .aload_n 1, 1), (44, .getfield 104, 3), (47, .iload 5, 2), (49, .iaload, 1), (50, .invokestatic 49, 3), (53, .iaload, 1), (54, .iadd, 1), (55, .istore 4, 2), (57, .iinc 3 (-1), 3), (60, .iload 4, 2), (62, .aload_n 0, 1), (63, .getfield 34, 3), (66, .iload_n 3, 1), (67, .imul, 1), (68, .isub, 1), (69, .istore 4, 2), (71, .iinc 5 1, 3), (74, .goto (-63), 3), (77, .iload 4, 2), (79, .ireturn, 1)]
theorem td_X10_gain : tb_X10_gain.all (fun q => decide (decode cX10_gain q.1 = .ok (q.2.1, q.2.2))) = true := by decide +kernel
theorem hd_X10_gain : yX10_gain.cls = RX10 ∧ yX10_gain.cls ≠ "java/lang/invoke/MethodHandle" ∧ yX10_gain.cls ≠ "java/lang/invoke/VarHandle" ∧ (parseMethodDescriptor yX10_gain.desc).map (fun d => d.parameters.length) = some 2 := by decide +kernel
theorem hs_X10_gain : yX10_gain.name ≠ "<init>" ∧ (parseMethodDescriptor yX10_gain.desc).map (fun d => d.parameters.length) = some 2 := by decide +kernel
theorem w_X10_gain_b60 {p : Program} {l : Launch} {e : Env} {s : State} {m : MethodId} {args : Array Value} {below : List Frame} {meth : Method} {c : Code} {D : va_G} {X : cc_X} {r : Int32} {st' : cc_S} (Cx : cc_C p s m args meth c cX10_gain 6 (some .int) RX10 D X) (fu : Nat) (K11 : Nat → Nat → Int32 → Int32 → Int32 → Int32 → cc_S → Option (Int32 × cc_S)) (hK11 : ∀ (x0 : Nat) (x1 : Nat) (x2 : Int32) (x3 : Int32) (x4 : Int32) (x5 : Int32) (st : cc_S) (H : Heap) (locs : List Loc) (ls : Array Slot), K11 x0 x1 x2 x3 x4 x5 st = some (r, st') → lv_has ls 6 [(0, .ref (cx_a X x0)), (1, .ref (cx_a X x1)), (2, .int x2), (3, .int x3), (4, .int x4), (5, .int x5)] → cc_H D X s.heap st H locs → W p l e (mm_R 1 22) s m args below meth c H locs 0 0 (MQ below (cc_Qi D X r st') args s 0 0 (cc_A X)) (F0 m 11 ls [])) (x0 : Nat) (x1 : Nat) (x2 : Int32) (x3 : Int32) (x4 : Int32) (x5 : Int32) (st : cc_S) (hf : C_X10_gain_b60 X fu K11 x0 x1 x2 x3 x4 x5 st = some (r, st')) {H : Heap} {locs : List Loc} {ls : Array Slot} (hl : lv_has ls 6 [(0, .ref (cx_a X x0)), (1, .ref (cx_a X x1)), (2, .int x2), (3, .int x3), (4, .int x4), (5, .int x5)]) (hM : cc_H D X s.heap st H locs) : W p l e (mm_R 1 22) s m args below meth c H locs 0 0 (MQ below (cc_Qi D X r st') args s 0 0 (cc_A X)) (F0 m 60 ls []) := by
  unfold C_X10_gain_b60 at hf
  refine lv_iload Cx.1 Cx.2.1 (dd_at td_X10_gain 34 rfl) (lv_at hl 4 rfl) ?_
  refine lv_aload_n Cx.1 Cx.2.1 (dd_at td_X10_gain 35 rfl) rfl (lv_at hl 0 rfl) ?_
  obtain ⟨g15, hf⟩ := fc_of_gd hf
  refine cc_gI (ci := 12) (C := RX10) (T := TX10) (N := 8) (k := 6) (ref := "EclipsesKept$Years") Cx hM g15 rfl cc_inX10 rfl (by decide) cw423 (fun _ h => h) (dd_at td_X10_gain 36 rfl) rfl ?_
  refine lv_iload_n Cx.1 Cx.2.1 (dd_at td_X10_gain 37 rfl) rfl (lv_at hl 3 rfl) ?_
  refine lv_imul Cx.1 Cx.2.1 (dd_at td_X10_gain 38 rfl) ?_
  refine lv_isub Cx.1 Cx.2.1 (dd_at td_X10_gain 39 rfl) ?_
  refine lv_topi (fun v16 ev16 => ?_)
  replace hf := fc_of_nm hf v16 ev16
  refine lv_istore (lv' := [(4, .int v16), (0, .ref (cx_a X x0)), (1, .ref (cx_a X x1)), (2, .int x2), (3, .int x3), (5, .int x5)]) Cx.1 Cx.2.1 (dd_at td_X10_gain 40 rfl) hl (by decide) rfl (fun ls hl => ?_)
  obtain ⟨v17, ev17⟩ : ∃ y : Int32, y = x5 + (1 : Int32) := ⟨_, rfl⟩
  replace hf := fc_of_nm hf v17 ev17
  refine lv_iinc (v := v17) (lv' := [(5, .int v17), (4, .int v16), (0, .ref (cx_a X x0)), (1, .ref (cx_a X x1)), (2, .int x2), (3, .int x3)]) Cx.1 Cx.2.1 (dd_at td_X10_gain 41 rfl) hl (k := 5) rfl (by rw [ev17]; rfl) (by decide) rfl (fun ls hl => ?_)
  refine lv_goto (tgt := 11) Cx.1 Cx.2.1 (dd_at td_X10_gain 42 rfl) (by decide) ?_
  exact hK11 x0 x1 x2 x3 v16 v17 st _ _ _ hf (lv_sub hl [2, 3, 4, 5, 1, 0] rfl) hM
theorem w_X10_gain_b11F {p : Program} {l : Launch} {e : Env} {s : State} {m : MethodId} {args : Array Value} {below : List Frame} {meth : Method} {c : Code} {D : va_G} {X : cc_X} {r : Int32} {st' : cc_S} (Cx : cc_C p s m args meth c cX10_gain 6 (some .int) RX10 D X) (fu : Nat) (K11 : Nat → Nat → Int32 → Int32 → Int32 → Int32 → cc_S → Option (Int32 × cc_S)) (hK11 : ∀ (x0 : Nat) (x1 : Nat) (x2 : Int32) (x3 : Int32) (x4 : Int32) (x5 : Int32) (st : cc_S) (H : Heap) (locs : List Loc) (ls : Array Slot), K11 x0 x1 x2 x3 x4 x5 st = some (r, st') → lv_has ls 6 [(0, .ref (cx_a X x0)), (1, .ref (cx_a X x1)), (2, .int x2), (3, .int x3), (4, .int x4), (5, .int x5)] → cc_H D X s.heap st H locs → W p l e (mm_R 1 22) s m args below meth c H locs 0 0 (MQ below (cc_Qi D X r st') args s 0 0 (cc_A X)) (F0 m 11 ls [])) (x0 : Nat) (x1 : Nat) (x2 : Int32) (x3 : Int32) (x4 : Int32) (x5 : Int32) (st : cc_S) (hf : C_X10_gain_b11F X fu K11 x0 x1 x2 x3 x4 x5 st = some (r, st')) {H : Heap} {locs : List Loc} {ls : Array Slot} (hl : lv_has ls 6 [(0, .ref (cx_a X x0)), (1, .ref (cx_a X x1)), (2, .int x2), (3, .int x3), (4, .int x4), (5, .int x5)]) (hM : cc_H D X s.heap st H locs) : W p l e (mm_R 1 22) s m args below meth c H locs 0 0 (MQ below (cc_Qi D X r st') args s 0 0 (cc_A X)) (F0 m 11 ls []) := by
  unfold C_X10_gain_b11F at hf
  refine lv_iload Cx.1 Cx.2.1 (dd_at td_X10_gain 7 rfl) (lv_at hl 5 rfl) ?_
  refine lv_aload_n Cx.1 Cx.2.1 (dd_at td_X10_gain 8 rfl) rfl (lv_at hl 1 rfl) ?_
  obtain ⟨g3, hf⟩ := fc_of_gd hf
  refine cc_gI (ci := 9) (C := RX7) (T := TX7) (N := 17) (k := 10) (ref := "EclipsesKept$State") Cx hM g3 rfl cc_inX7 rfl (by decide) cw465 (fun _ h => h) (dd_at td_X10_gain 9 rfl) rfl ?_
  refine lv_icmp_ge (tgt := 77) Cx.1 Cx.2.1 (dd_at td_X10_gain 10 rfl) (by decide) (fun c4 => ?_) (fun c4 => ?_)
  · replace hf := fc_of_t hf c4
    refine lv_iload Cx.1 Cx.2.1 (dd_at td_X10_gain 43 rfl) (lv_at hl 4 rfl) ?_
    exact cc_ri Cx hM (dd_at td_X10_gain 44 rfl) hf
  · replace hf := fc_of_f hf c4
    refine lv_iload_n Cx.1 Cx.2.1 (dd_at td_X10_gain 11 rfl) rfl (lv_at hl 2 rfl) ?_
    refine lv_iload Cx.1 Cx.2.1 (dd_at td_X10_gain 12 rfl) (lv_at hl 5 rfl) ?_
    refine lv_ishr Cx.1 Cx.2.1 (dd_at td_X10_gain 13 rfl) ?_
    refine lv_iconst (v := (1 : Int32)) Cx.1 Cx.2.1 (dd_at td_X10_gain 14 rfl) (by decide) ?_
    refine lv_iand Cx.1 Cx.2.1 (dd_at td_X10_gain 15 rfl) ?_
    refine lv_iconst (v := (1 : Int32)) Cx.1 Cx.2.1 (dd_at td_X10_gain 16 rfl) (by decide) ?_
    refine lv_icmp_ne (tgt := 60) Cx.1 Cx.2.1 (dd_at td_X10_gain 17 rfl) (by decide) (fun c5 => ?_) (fun c5 => ?_)
    · replace hf := fc_of_f hf c5
      exact w_X10_gain_b60 Cx fu K11 hK11 x0 x1 x2 x3 x4 x5 st hf (lv_sub hl [0, 1, 2, 3, 4, 5] rfl) hM
    · replace hf := fc_of_t hf c5
      refine lv_iload_n Cx.1 Cx.2.1 (dd_at td_X10_gain 18 rfl) rfl (lv_at hl 3 rfl) ?_
      refine lv_if_le (tgt := 60) Cx.1 Cx.2.1 (dd_at td_X10_gain 19 rfl) (by decide) (fun c6 => ?_) (fun c6 => ?_)
      · replace hf := fc_of_t hf c6
        exact w_X10_gain_b60 Cx fu K11 hK11 x0 x1 x2 x3 x4 x5 st hf (lv_sub hl [0, 1, 2, 3, 4, 5] rfl) hM
      · replace hf := fc_of_f hf c6
        refine lv_iload Cx.1 Cx.2.1 (dd_at td_X10_gain 20 rfl) (lv_at hl 4 rfl) ?_
        refine lv_aload_n Cx.1 Cx.2.1 (dd_at td_X10_gain 21 rfl) rfl (lv_at hl 0 rfl) ?_
        obtain ⟨g7, hf⟩ := fc_of_gd hf
        refine cc_gA (ci := 12) (C := RX10) (T := TX10) (N := 8) (k := 0) (ref := "EclipsesKept$Years") Cx hM g7 rfl cc_inX10 rfl (by decide) cw416 (fun _ h => h) (dd_at td_X10_gain 22 rfl) rfl ?_
        refine lv_iload Cx.1 Cx.2.1 (dd_at td_X10_gain 23 rfl) (lv_at hl 5 rfl) ?_
        refine lv_iload_n Cx.1 Cx.2.1 (dd_at td_X10_gain 24 rfl) rfl (lv_at hl 3 rfl) ?_
        refine lv_aload_n Cx.1 Cx.2.1 (dd_at td_X10_gain 25 rfl) rfl (lv_at hl 1 rfl) ?_
        refine cc_gA (ci := 9) (C := RX7) (T := TX7) (N := 17) (k := 3) (ref := "EclipsesKept$State") Cx hM g3 rfl cc_inX7 rfl (by decide) cw466 (fun _ h => h) (dd_at td_X10_gain 26 rfl) rfl ?_
        refine lv_iload Cx.1 Cx.2.1 (dd_at td_X10_gain 27 rfl) (lv_at hl 5 rfl) ?_
        obtain ⟨g8, hf⟩ := fc_of_gd hf
        refine cc_iald Cx hM g8 (dd_at td_X10_gain 28 rfl) ?_
        obtain ⟨r11, st9, hx10, hf⟩ := fc_of_bn hf
        refine cc_ai hM (cc_rS (As := [.int x5, .int x3, .int (cc_G st x1 3 x5.toNatClampNeg)]) (rest := [.ref (cx_b X x0 0), .int x4]) (n := 3) Cx hM (c_X10_place l D X fu x5 x3 (cc_G st x1 3 x5.toNatClampNeg) st r11 st9 hx10) (cc_gdS cw429 cw430 cw431 cw425) hd_X10_place ⟨Nat.le_of_ble_eq_true rfl, Nat.le_of_ble_eq_true rfl⟩ rfl hl.1 rfl (Nat.le_of_ble_eq_true rfl) (dd_at td_X10_gain 29 rfl) ⟨Nat.le_refl 0, Nat.le_refl 0⟩) (fun H locs hM => ?_)
        obtain ⟨g12, hf⟩ := fc_of_gd hf
        refine cc_iald Cx hM g12 (dd_at td_X10_gain 30 rfl) ?_
        refine lv_iadd Cx.1 Cx.2.1 (dd_at td_X10_gain 31 rfl) ?_
        refine lv_topi (fun v13 ev13 => ?_)
        replace hf := fc_of_nm hf v13 ev13
        refine lv_istore (lv' := [(4, .int v13), (0, .ref (cx_a X x0)), (1, .ref (cx_a X x1)), (2, .int x2), (3, .int x3), (5, .int x5)]) Cx.1 Cx.2.1 (dd_at td_X10_gain 32 rfl) hl (by decide) rfl (fun ls hl => ?_)
        obtain ⟨v14, ev14⟩ : ∃ y : Int32, y = x3 + (-1 : Int32) := ⟨_, rfl⟩
        replace hf := fc_of_nm hf v14 ev14
        refine lv_iinc (v := v14) (lv' := [(3, .int v14), (4, .int v13), (0, .ref (cx_a X x0)), (1, .ref (cx_a X x1)), (2, .int x2), (5, .int x5)]) Cx.1 Cx.2.1 (dd_at td_X10_gain 33 rfl) hl (k := 4) rfl (by rw [ev14]; rfl) (by decide) rfl (fun ls hl => ?_)
        exact w_X10_gain_b60 Cx fu K11 hK11 x0 x1 x2 v14 v13 x5 st9 hf (lv_sub hl [2, 3, 4, 0, 1, 5] rfl) hM
theorem w_X10_gain_b11 {p : Program} {l : Launch} {e : Env} {s : State} {m : MethodId} {args : Array Value} {below : List Frame} {meth : Method} {c : Code} {D : va_G} {X : cc_X} {r : Int32} {st' : cc_S} (Cx : cc_C p s m args meth c cX10_gain 6 (some .int) RX10 D X) (fu : Nat) (n : Nat) : ∀ (x0 : Nat) (x1 : Nat) (x2 : Int32) (x3 : Int32) (x4 : Int32) (x5 : Int32) (st : cc_S), C_X10_gain_b11 X fu n x0 x1 x2 x3 x4 x5 st = some (r, st') → ∀ (H : Heap) (locs : List Loc) (ls : Array Slot), lv_has ls 6 [(0, .ref (cx_a X x0)), (1, .ref (cx_a X x1)), (2, .int x2), (3, .int x3), (4, .int x4), (5, .int x5)] → cc_H D X s.heap st H locs → W p l e (mm_R 1 22) s m args below meth c H locs 0 0 (MQ below (cc_Qi D X r st') args s 0 0 (cc_A X)) (F0 m 11 ls []) := by
  induction n with
  | zero => exact fun _ _ _ _ _ _ _ hf => fc_no hf
  | succ n ih =>
    intro x0 x1 x2 x3 x4 x5 st hf H locs ls hl hM
    exact w_X10_gain_b11F Cx fu (fun x0 x1 x2 x3 x4 x5 st => C_X10_gain_b11 X fu n x0 x1 x2 x3 x4 x5 st) (fun x0 x1 x2 x3 x4 x5 st H locs ls hf hl hM => ih x0 x1 x2 x3 x4 x5 st hf H locs ls hl hM) x0 x1 x2 x3 x4 x5 st hf hl hM
theorem w_X10_gain {p : Program} {l : Launch} {e : Env} {s : State} {m : MethodId} {args : Array Value} {below : List Frame} {meth : Method} {c : Code} {D : va_G} {X : cc_X} {r : Int32} {st' : cc_S} (Cx : cc_C p s m args meth c cX10_gain 6 (some .int) RX10 D X) (fu : Nat) (x0 : Nat) (x1 : Nat) (x2 : Int32) (st : cc_S) (hf : C_X10_gain X fu x0 x1 x2 st = some (r, st')) {H : Heap} {locs : List Loc} {ls : Array Slot} (hl : lv_has ls 6 [(0, .ref (cx_a X x0)), (1, .ref (cx_a X x1)), (2, .int x2)]) (hM : cc_H D X s.heap st H locs) : W p l e (mm_R 1 22) s m args below meth c H locs 0 0 (MQ below (cc_Qi D X r st') args s 0 0 (cc_A X)) (F0 m 0 ls []) := by
  unfold C_X10_gain at hf
  refine lv_aload_n Cx.1 Cx.2.1 (dd_at td_X10_gain 0 rfl) rfl (lv_at hl 1 rfl) ?_
  obtain ⟨g1, hf⟩ := fc_of_gd hf
  refine cc_gI (ci := 9) (C := RX7) (T := TX7) (N := 17) (k := 13) (ref := "EclipsesKept$State") Cx hM g1 rfl cc_inX7 rfl (by decide) cw464 (fun _ h => h) (dd_at td_X10_gain 1 rfl) rfl ?_
  refine lv_topi (fun v2 ev2 => ?_)
  replace hf := fc_of_nm hf v2 ev2
  refine lv_istore_n (lv' := [(3, .int v2), (0, .ref (cx_a X x0)), (1, .ref (cx_a X x1)), (2, .int x2)]) Cx.1 Cx.2.1 (dd_at td_X10_gain 2 rfl) rfl hl (by decide) rfl (fun ls hl => ?_)
  refine lv_iconst (v := (0 : Int32)) Cx.1 Cx.2.1 (dd_at td_X10_gain 3 rfl) (by decide) ?_
  refine lv_istore (lv' := [(4, .int (0 : Int32)), (3, .int v2), (0, .ref (cx_a X x0)), (1, .ref (cx_a X x1)), (2, .int x2)]) Cx.1 Cx.2.1 (dd_at td_X10_gain 4 rfl) hl (by decide) rfl (fun ls hl => ?_)
  refine lv_iconst (v := (0 : Int32)) Cx.1 Cx.2.1 (dd_at td_X10_gain 5 rfl) (by decide) ?_
  refine lv_istore (lv' := [(5, .int (0 : Int32)), (4, .int (0 : Int32)), (3, .int v2), (0, .ref (cx_a X x0)), (1, .ref (cx_a X x1)), (2, .int x2)]) Cx.1 Cx.2.1 (dd_at td_X10_gain 6 rfl) hl (by decide) rfl (fun ls hl => ?_)
  exact w_X10_gain_b11 Cx fu fu x0 x1 x2 v2 (0 : Int32) (0 : Int32) st hf _ _ _ (lv_sub hl [3, 4, 5, 2, 1, 0] rfl) hM
theorem c_X10_gain (l : Launch) (D : va_G) (X : cc_X) (fu : Nat) (x0 : Nat) (x1 : Nat) (x2 : Int32) (st : cc_S) : cc_Mi l D X yX10_gain cX10_gain 6 (some .int) 1 22 [.ref (cx_a X x0), .ref (cx_a X x1), .int x2] st (C_X10_gain X fu x0 x1 x2 st) := by
  intro r st' hf
  refine cc_enter (cc := cX10_gain) (nL := 6) (ret := some .int) (by decide +kernel) rfl (Nat.le_of_ble_eq_true rfl) ?_
  intro p e s m args below meth c ls Cx hl hM
  exact w_X10_gain Cx fu x0 x1 x2 st hf hl hM

/-! X10_bestPlan -/
def tb_X10_bestPlan : List (Nat × Instr × Nat) := [(0, .iconst 0, 1), (1, .istore_n 2, 1), (2, .aload_n 0, 1), (3, .aload_n 1, 1), (4, .iconst 0, 1), (5, .invokevirtual 88, 3), (8, .istore_n 3, 1), (9, .iconst 1, 1), (10, .istore 4, 2), (12, .iload 4, 2), (14, .iconst 1, 1), (15, .aload_n 1, 1), (16, .getfield 92, 3), (19, .ishl, 1), (20, .if_icmp .ge 42, 3), (23, .iload 4, 2), (25, .invokestatic 95, 3), (28, .aload_n 1, 1), (29, .getfield 101, 3), (32, .if_icmp .gt 24, 3), (35, .aload_n 0, 1), (36, .aload_n 1, 1), (37, .iload 4, 2), (39, .invokevirtual 88, 3), (42, .istore 5, 2), (44, .iload 5, 2), (46, .iload_n 3, 1), (47, .if_icmp .le 9, 3), (50, .iload 4, 2), (52, .istore_n 2, 1), (53, .iload 5, 2), (55, .istore_n 3, 1), (56, .iinc 4 1, 3), (59, .goto (-47), 3), (62, .iload_n 2, 1), (63, .ireturn, 1)]
theorem td_X10_bestPlan : tb_X10_bestPlan.all (fun q => decide (decode cX10_bestPlan q.1 = .ok (q.2.1, q.2.2))) = true := by decide +kernel
theorem hd_X10_bestPlan : yX10_bestPlan.cls = RX10 ∧ yX10_bestPlan.cls ≠ "java/lang/invoke/MethodHandle" ∧ yX10_bestPlan.cls ≠ "java/lang/invoke/VarHandle" ∧ (parseMethodDescriptor yX10_bestPlan.desc).map (fun d => d.parameters.length) = some 1 := by decide +kernel
theorem hs_X10_bestPlan : yX10_bestPlan.name ≠ "<init>" ∧ (parseMethodDescriptor yX10_bestPlan.desc).map (fun d => d.parameters.length) = some 1 := by decide +kernel
theorem w_X10_bestPlan_b56 {p : Program} {l : Launch} {e : Env} {s : State} {m : MethodId} {args : Array Value} {below : List Frame} {meth : Method} {c : Code} {D : va_G} {X : cc_X} {r : Int32} {st' : cc_S} (Cx : cc_C p s m args meth c cX10_bestPlan 6 (some .int) RX10 D X) (fu : Nat) (K12 : Nat → Nat → Int32 → Int32 → Int32 → cc_S → Option (Int32 × cc_S)) (hK12 : ∀ (x0 : Nat) (x1 : Nat) (x2 : Int32) (x3 : Int32) (x4 : Int32) (st : cc_S) (H : Heap) (locs : List Loc) (ls : Array Slot), K12 x0 x1 x2 x3 x4 st = some (r, st') → lv_has ls 6 [(0, .ref (cx_a X x0)), (1, .ref (cx_a X x1)), (2, .int x2), (3, .int x3), (4, .int x4)] → cc_H D X s.heap st H locs → W p l e (mm_R 2 47) s m args below meth c H locs 0 0 (MQ below (cc_Qi D X r st') args s 0 0 (cc_A X)) (F0 m 12 ls [])) (x0 : Nat) (x1 : Nat) (x2 : Int32) (x3 : Int32) (x4 : Int32) (st : cc_S) (hf : C_X10_bestPlan_b56 X fu K12 x0 x1 x2 x3 x4 st = some (r, st')) {H : Heap} {locs : List Loc} {ls : Array Slot} (hl : lv_has ls 6 [(0, .ref (cx_a X x0)), (1, .ref (cx_a X x1)), (2, .int x2), (3, .int x3), (4, .int x4)]) (hM : cc_H D X s.heap st H locs) : W p l e (mm_R 2 47) s m args below meth c H locs 0 0 (MQ below (cc_Qi D X r st') args s 0 0 (cc_A X)) (F0 m 56 ls []) := by
  unfold C_X10_bestPlan_b56 at hf
  obtain ⟨v16, ev16⟩ : ∃ y : Int32, y = x4 + (1 : Int32) := ⟨_, rfl⟩
  replace hf := fc_of_nm hf v16 ev16
  refine lv_iinc (v := v16) (lv' := [(4, .int v16), (0, .ref (cx_a X x0)), (1, .ref (cx_a X x1)), (2, .int x2), (3, .int x3)]) Cx.1 Cx.2.1 (dd_at td_X10_bestPlan 32 rfl) hl (k := 4) rfl (by rw [ev16]; rfl) (by decide) rfl (fun ls hl => ?_)
  refine lv_goto (tgt := 12) Cx.1 Cx.2.1 (dd_at td_X10_bestPlan 33 rfl) (by decide) ?_
  exact hK12 x0 x1 x2 x3 v16 st _ _ _ hf (lv_sub hl [1, 2, 3, 4, 0] rfl) hM
theorem w_X10_bestPlan_b12F {p : Program} {l : Launch} {e : Env} {s : State} {m : MethodId} {args : Array Value} {below : List Frame} {meth : Method} {c : Code} {D : va_G} {X : cc_X} {r : Int32} {st' : cc_S} (Cx : cc_C p s m args meth c cX10_bestPlan 6 (some .int) RX10 D X) (fu : Nat) (K12 : Nat → Nat → Int32 → Int32 → Int32 → cc_S → Option (Int32 × cc_S)) (hK12 : ∀ (x0 : Nat) (x1 : Nat) (x2 : Int32) (x3 : Int32) (x4 : Int32) (st : cc_S) (H : Heap) (locs : List Loc) (ls : Array Slot), K12 x0 x1 x2 x3 x4 st = some (r, st') → lv_has ls 6 [(0, .ref (cx_a X x0)), (1, .ref (cx_a X x1)), (2, .int x2), (3, .int x3), (4, .int x4)] → cc_H D X s.heap st H locs → W p l e (mm_R 2 47) s m args below meth c H locs 0 0 (MQ below (cc_Qi D X r st') args s 0 0 (cc_A X)) (F0 m 12 ls [])) (x0 : Nat) (x1 : Nat) (x2 : Int32) (x3 : Int32) (x4 : Int32) (st : cc_S) (hf : C_X10_bestPlan_b12F X fu K12 x0 x1 x2 x3 x4 st = some (r, st')) {H : Heap} {locs : List Loc} {ls : Array Slot} (hl : lv_has ls 6 [(0, .ref (cx_a X x0)), (1, .ref (cx_a X x1)), (2, .int x2), (3, .int x3), (4, .int x4)]) (hM : cc_H D X s.heap st H locs) : W p l e (mm_R 2 47) s m args below meth c H locs 0 0 (MQ below (cc_Qi D X r st') args s 0 0 (cc_A X)) (F0 m 12 ls []) := by
  unfold C_X10_bestPlan_b12F at hf
  refine lv_iload Cx.1 Cx.2.1 (dd_at td_X10_bestPlan 9 rfl) (lv_at hl 4 rfl) ?_
  refine lv_iconst (v := (1 : Int32)) Cx.1 Cx.2.1 (dd_at td_X10_bestPlan 10 rfl) (by decide) ?_
  refine lv_aload_n Cx.1 Cx.2.1 (dd_at td_X10_bestPlan 11 rfl) rfl (lv_at hl 1 rfl) ?_
  obtain ⟨g5, hf⟩ := fc_of_gd hf
  refine cc_gI (ci := 9) (C := RX7) (T := TX7) (N := 17) (k := 10) (ref := "EclipsesKept$State") Cx hM g5 rfl cc_inX7 rfl (by decide) cw465 (fun _ h => h) (dd_at td_X10_bestPlan 12 rfl) rfl ?_
  refine lv_ishl Cx.1 Cx.2.1 (dd_at td_X10_bestPlan 13 rfl) ?_
  refine lv_icmp_ge (tgt := 62) Cx.1 Cx.2.1 (dd_at td_X10_bestPlan 14 rfl) (by decide) (fun c6 => ?_) (fun c6 => ?_)
  · replace hf := fc_of_t hf c6
    refine lv_iload_n Cx.1 Cx.2.1 (dd_at td_X10_bestPlan 34 rfl) rfl (lv_at hl 2 rfl) ?_
    exact cc_ri Cx hM (dd_at td_X10_bestPlan 35 rfl) hf
  · replace hf := fc_of_f hf c6
    refine lv_iload Cx.1 Cx.2.1 (dd_at td_X10_bestPlan 15 rfl) (lv_at hl 4 rfl) ?_
    obtain ⟨r9, st7, hx8, hf⟩ := fc_of_bn hf
    refine cc_ai hM (cc_rS (As := [.int x4]) (rest := []) (n := 1) Cx hM (c_J6_bitCount_0f7a4 l D X fu x4 st r9 st7 hx8) (cc_gdS cw475 cw476 cw477 cw467) hd_J6_bitCount_0f7a4 ⟨Nat.le_of_ble_eq_true rfl, Nat.le_of_ble_eq_true rfl⟩ rfl hl.1 rfl (Nat.le_of_ble_eq_true rfl) (dd_at td_X10_bestPlan 16 rfl) ⟨Nat.le_refl 0, Nat.le_refl 0⟩) (fun H locs hM => ?_)
    refine lv_aload_n Cx.1 Cx.2.1 (dd_at td_X10_bestPlan 17 rfl) rfl (lv_at hl 1 rfl) ?_
    refine cc_gI (ci := 9) (C := RX7) (T := TX7) (N := 17) (k := 13) (ref := "EclipsesKept$State") Cx hM g5 rfl cc_inX7 rfl (by decide) cw464 (fun _ h => h) (dd_at td_X10_bestPlan 18 rfl) rfl ?_
    refine lv_icmp_gt (tgt := 56) Cx.1 Cx.2.1 (dd_at td_X10_bestPlan 19 rfl) (by decide) (fun c10 => ?_) (fun c10 => ?_)
    · replace hf := fc_of_t hf c10
      exact w_X10_bestPlan_b56 Cx fu K12 hK12 x0 x1 x2 x3 x4 st7 hf (lv_sub hl [0, 1, 2, 3, 4] rfl) hM
    · replace hf := fc_of_f hf c10
      refine lv_aload_n Cx.1 Cx.2.1 (dd_at td_X10_bestPlan 20 rfl) rfl (lv_at hl 0 rfl) ?_
      refine lv_aload_n Cx.1 Cx.2.1 (dd_at td_X10_bestPlan 21 rfl) rfl (lv_at hl 1 rfl) ?_
      refine lv_iload Cx.1 Cx.2.1 (dd_at td_X10_bestPlan 22 rfl) (lv_at hl 4 rfl) ?_
      obtain ⟨g11, hf⟩ := fc_of_gd hf
      obtain ⟨r14, st12, hx13, hf⟩ := fc_of_bn hf
      refine cc_ai hM (cc_rV (ci := 12) (As := [.ref (cx_a X x1), .int x4]) (rest := []) (n := 2) Cx hM g11 rfl (c_X10_gain l D X fu x0 x1 x4 st7 r14 st12 hx13) (cc_gdV cw472 cw473 cw474 cw431 cw463) hd_X10_gain ⟨Nat.le_of_ble_eq_true rfl, Nat.le_of_ble_eq_true rfl⟩ rfl hl.1 rfl (Nat.le_of_ble_eq_true rfl) (dd_at td_X10_bestPlan 23 rfl) ⟨Nat.le_refl 0, Nat.le_refl 0⟩) (fun H locs hM => ?_)
      refine lv_istore (lv' := [(5, .int r14), (0, .ref (cx_a X x0)), (1, .ref (cx_a X x1)), (2, .int x2), (3, .int x3), (4, .int x4)]) Cx.1 Cx.2.1 (dd_at td_X10_bestPlan 24 rfl) hl (by decide) rfl (fun ls hl => ?_)
      refine lv_iload Cx.1 Cx.2.1 (dd_at td_X10_bestPlan 25 rfl) (lv_at hl 0 rfl) ?_
      refine lv_iload_n Cx.1 Cx.2.1 (dd_at td_X10_bestPlan 26 rfl) rfl (lv_at hl 4 rfl) ?_
      refine lv_icmp_le (tgt := 56) Cx.1 Cx.2.1 (dd_at td_X10_bestPlan 27 rfl) (by decide) (fun c15 => ?_) (fun c15 => ?_)
      · replace hf := fc_of_t hf c15
        exact w_X10_bestPlan_b56 Cx fu K12 hK12 x0 x1 x2 x3 x4 st12 hf (lv_sub hl [1, 2, 3, 4, 5] rfl) hM
      · replace hf := fc_of_f hf c15
        refine lv_iload Cx.1 Cx.2.1 (dd_at td_X10_bestPlan 28 rfl) (lv_at hl 5 rfl) ?_
        refine lv_istore_n (lv' := [(2, .int x4), (5, .int r14), (0, .ref (cx_a X x0)), (1, .ref (cx_a X x1)), (3, .int x3), (4, .int x4)]) Cx.1 Cx.2.1 (dd_at td_X10_bestPlan 29 rfl) rfl hl (by decide) rfl (fun ls hl => ?_)
        refine lv_iload Cx.1 Cx.2.1 (dd_at td_X10_bestPlan 30 rfl) (lv_at hl 1 rfl) ?_
        refine lv_istore_n (lv' := [(3, .int r14), (2, .int x4), (5, .int r14), (0, .ref (cx_a X x0)), (1, .ref (cx_a X x1)), (4, .int x4)]) Cx.1 Cx.2.1 (dd_at td_X10_bestPlan 31 rfl) rfl hl (by decide) rfl (fun ls hl => ?_)
        exact w_X10_bestPlan_b56 Cx fu K12 hK12 x0 x1 x4 r14 x4 st12 hf (lv_sub hl [3, 4, 1, 0, 5] rfl) hM
theorem w_X10_bestPlan_b12 {p : Program} {l : Launch} {e : Env} {s : State} {m : MethodId} {args : Array Value} {below : List Frame} {meth : Method} {c : Code} {D : va_G} {X : cc_X} {r : Int32} {st' : cc_S} (Cx : cc_C p s m args meth c cX10_bestPlan 6 (some .int) RX10 D X) (fu : Nat) (n : Nat) : ∀ (x0 : Nat) (x1 : Nat) (x2 : Int32) (x3 : Int32) (x4 : Int32) (st : cc_S), C_X10_bestPlan_b12 X fu n x0 x1 x2 x3 x4 st = some (r, st') → ∀ (H : Heap) (locs : List Loc) (ls : Array Slot), lv_has ls 6 [(0, .ref (cx_a X x0)), (1, .ref (cx_a X x1)), (2, .int x2), (3, .int x3), (4, .int x4)] → cc_H D X s.heap st H locs → W p l e (mm_R 2 47) s m args below meth c H locs 0 0 (MQ below (cc_Qi D X r st') args s 0 0 (cc_A X)) (F0 m 12 ls []) := by
  induction n with
  | zero => exact fun _ _ _ _ _ _ hf => fc_no hf
  | succ n ih =>
    intro x0 x1 x2 x3 x4 st hf H locs ls hl hM
    exact w_X10_bestPlan_b12F Cx fu (fun x0 x1 x2 x3 x4 st => C_X10_bestPlan_b12 X fu n x0 x1 x2 x3 x4 st) (fun x0 x1 x2 x3 x4 st H locs ls hf hl hM => ih x0 x1 x2 x3 x4 st hf H locs ls hl hM) x0 x1 x2 x3 x4 st hf hl hM
theorem w_X10_bestPlan {p : Program} {l : Launch} {e : Env} {s : State} {m : MethodId} {args : Array Value} {below : List Frame} {meth : Method} {c : Code} {D : va_G} {X : cc_X} {r : Int32} {st' : cc_S} (Cx : cc_C p s m args meth c cX10_bestPlan 6 (some .int) RX10 D X) (fu : Nat) (x0 : Nat) (x1 : Nat) (st : cc_S) (hf : C_X10_bestPlan X fu x0 x1 st = some (r, st')) {H : Heap} {locs : List Loc} {ls : Array Slot} (hl : lv_has ls 6 [(0, .ref (cx_a X x0)), (1, .ref (cx_a X x1))]) (hM : cc_H D X s.heap st H locs) : W p l e (mm_R 2 47) s m args below meth c H locs 0 0 (MQ below (cc_Qi D X r st') args s 0 0 (cc_A X)) (F0 m 0 ls []) := by
  unfold C_X10_bestPlan at hf
  refine lv_iconst (v := (0 : Int32)) Cx.1 Cx.2.1 (dd_at td_X10_bestPlan 0 rfl) (by decide) ?_
  refine lv_istore_n (lv' := [(2, .int (0 : Int32)), (0, .ref (cx_a X x0)), (1, .ref (cx_a X x1))]) Cx.1 Cx.2.1 (dd_at td_X10_bestPlan 1 rfl) rfl hl (by decide) rfl (fun ls hl => ?_)
  refine lv_aload_n Cx.1 Cx.2.1 (dd_at td_X10_bestPlan 2 rfl) rfl (lv_at hl 1 rfl) ?_
  refine lv_aload_n Cx.1 Cx.2.1 (dd_at td_X10_bestPlan 3 rfl) rfl (lv_at hl 2 rfl) ?_
  refine lv_iconst (v := (0 : Int32)) Cx.1 Cx.2.1 (dd_at td_X10_bestPlan 4 rfl) (by decide) ?_
  obtain ⟨g1, hf⟩ := fc_of_gd hf
  obtain ⟨r4, st2, hx3, hf⟩ := fc_of_bn hf
  refine cc_ai hM (cc_rV (ci := 12) (As := [.ref (cx_a X x1), .int (0 : Int32)]) (rest := []) (n := 2) Cx hM g1 rfl (c_X10_gain l D X fu x0 x1 (0 : Int32) st r4 st2 hx3) (cc_gdV cw472 cw473 cw474 cw431 cw463) hd_X10_gain ⟨Nat.le_of_ble_eq_true rfl, Nat.le_of_ble_eq_true rfl⟩ rfl hl.1 rfl (Nat.le_of_ble_eq_true rfl) (dd_at td_X10_bestPlan 5 rfl) ⟨Nat.le_refl 0, Nat.le_refl 0⟩) (fun H locs hM => ?_)
  refine lv_istore_n (lv' := [(3, .int r4), (2, .int (0 : Int32)), (0, .ref (cx_a X x0)), (1, .ref (cx_a X x1))]) Cx.1 Cx.2.1 (dd_at td_X10_bestPlan 6 rfl) rfl hl (by decide) rfl (fun ls hl => ?_)
  refine lv_iconst (v := (1 : Int32)) Cx.1 Cx.2.1 (dd_at td_X10_bestPlan 7 rfl) (by decide) ?_
  refine lv_istore (lv' := [(4, .int (1 : Int32)), (3, .int r4), (2, .int (0 : Int32)), (0, .ref (cx_a X x0)), (1, .ref (cx_a X x1))]) Cx.1 Cx.2.1 (dd_at td_X10_bestPlan 8 rfl) hl (by decide) rfl (fun ls hl => ?_)
  exact w_X10_bestPlan_b12 Cx fu fu x0 x1 (0 : Int32) r4 (1 : Int32) st2 hf _ _ _ (lv_sub hl [3, 4, 2, 1, 0] rfl) hM
theorem c_X10_bestPlan (l : Launch) (D : va_G) (X : cc_X) (fu : Nat) (x0 : Nat) (x1 : Nat) (st : cc_S) : cc_Mi l D X yX10_bestPlan cX10_bestPlan 6 (some .int) 2 47 [.ref (cx_a X x0), .ref (cx_a X x1)] st (C_X10_bestPlan X fu x0 x1 st) := by
  intro r st' hf
  refine cc_enter (cc := cX10_bestPlan) (nL := 6) (ret := some .int) (by decide +kernel) rfl (Nat.le_of_ble_eq_true rfl) ?_
  intro p e s m args below meth c ls Cx hl hM
  exact w_X10_bestPlan Cx fu x0 x1 st hf hl hM

/-! X11_of -/
def tb_X11_of : List (Nat × Instr × Nat) := [(0, .aload_n 0, 1), (1, .getfield 12, 3), (4, .iload_n 1, 1), (5, .invokevirtual 69, 3), (8, .astore_n 3, 1), (9, .aload_n 3, 1), (10, .ifnonnull 5, 3), (13, .iconst (-1), 1), (14, .ireturn, 1), (15, .iload_n 2, 1), (16, .tableswitch 75 0 3 #[32, 37, 42, 52], 32), (48, .aload_n 3, 1), (49, .getfield 73, 3), (52, .ireturn, 1), (53, .aload_n 3, 1), (54, .getfield 78, 3), (57, .ireturn, 1), (58, .aload_n 0, 1), (59, .getfield 12, 3), (62, .getfield 81, 3), (65, .iload_n 1, 1), (66, .iaload, 1), (67, .ireturn, 1), (68, .aload_n 0, 1), (69, .getfield 12, 3), (72, .iload_n 1, 1), (73, .aload_n 0, 1), (74, .getfield 12, 3), (77, .getfield 84, 3), (80, .aload_n 0, 1), (81, .getfield 12, 3), (84, .getfield 87, 3), (87, .invokevirtual 90, 3), (90, .ireturn, 1), (91, .iconst (-1), 1), (92, .ireturn, 1)]
theorem td_X11_of : tb_X11_of.all (fun q => decide (decode cX11_of q.1 = .ok (q.2.1, q.2.2))) = true := by decide +kernel
theorem hd_X11_of : yX11_of.cls = RX11 ∧ yX11_of.cls ≠ "java/lang/invoke/MethodHandle" ∧ yX11_of.cls ≠ "java/lang/invoke/VarHandle" ∧ (parseMethodDescriptor yX11_of.desc).map (fun d => d.parameters.length) = some 2 := by decide +kernel
theorem hs_X11_of : yX11_of.name ≠ "<init>" ∧ (parseMethodDescriptor yX11_of.desc).map (fun d => d.parameters.length) = some 2 := by decide +kernel
theorem w_X11_of {p : Program} {l : Launch} {e : Env} {s : State} {m : MethodId} {args : Array Value} {below : List Frame} {meth : Method} {c : Code} {D : va_G} {X : cc_X} {r : Int32} {st' : cc_S} (Cx : cc_C p s m args meth c cX11_of 4 (some .int) RX11 D X) (fu : Nat) (x0 : Nat) (x1 : Int32) (x2 : Int32) (st : cc_S) (hf : C_X11_of X fu x0 x1 x2 st = some (r, st')) {H : Heap} {locs : List Loc} {ls : Array Slot} (hl : lv_has ls 4 [(0, .ref (cx_a X x0)), (1, .int x1), (2, .int x2)]) (hM : cc_H D X s.heap st H locs) : W p l e (mm_R 5 135) s m args below meth c H locs 0 0 (MQ below (cc_Qi D X r st') args s 0 0 (cc_A X)) (F0 m 0 ls []) := by
  unfold C_X11_of at hf
  refine lv_aload_n Cx.1 Cx.2.1 (dd_at td_X11_of 0 rfl) rfl (lv_at hl 0 rfl) ?_
  obtain ⟨g1, hf⟩ := fc_of_gd hf
  refine cc_gO (ci := 13) (C := RX11) (T := TX11) (N := 8) (k := 0) (ref := "EclipsesKept") Cx hM g1 rfl cc_inX11 rfl (by decide) cw498 (fun _ h => h) (dd_at td_X11_of 1 rfl) rfl ?_
  show W p l e (mm_R 5 135) s m args below meth c H locs 0 0 (MQ below (cc_Qi D X r st') args s 0 0 (cc_A X)) (F0 m 4 ls [.ref (cx_a X 1)])
  refine lv_iload_n Cx.1 Cx.2.1 (dd_at td_X11_of 2 rfl) rfl (lv_at hl 1 rfl) ?_
  obtain ⟨g2, hf⟩ := fc_of_gd hf
  obtain ⟨r5, st3, hx4, hf⟩ := fc_of_bn hf
  refine cc_aq hM (cc_rV (ci := 9) (As := [.int x1]) (rest := []) (n := 1) Cx hM g2 rfl (c_X7_needOf l D X fu 1 x1 st r5 st3 hx4) (cc_gdV cw562 cw366 cw367 cw345 cw341) hd_X7_needOf ⟨Nat.le_of_ble_eq_true rfl, Nat.le_of_ble_eq_true rfl⟩ rfl hl.1 rfl (Nat.le_of_ble_eq_true rfl) (dd_at td_X11_of 3 rfl) ⟨Nat.le_refl 0, Nat.le_refl 0⟩) (fun H locs hq hM => ?_) (fun y6 H locs hq hM => ?_)
  · replace hf := fc_of_mn hf hq
    refine lv_astore_nN (lv' := [(3, .null), (0, .ref (cx_a X x0)), (1, .int x1), (2, .int x2)]) Cx.1 Cx.2.1 (dd_at td_X11_of 4 rfl) rfl hl (by decide) rfl (fun ls hl => ?_)
    refine lv_aload_nN Cx.1 Cx.2.1 (dd_at td_X11_of 5 rfl) rfl (lv_at hl 0 rfl) ?_
    refine lv_ifnonnullN Cx.1 Cx.2.1 (dd_at td_X11_of 6 rfl) ?_
    refine lv_iconst (v := (-1 : Int32)) Cx.1 Cx.2.1 (dd_at td_X11_of 7 rfl) (by decide) ?_
    exact cc_ri Cx hM (dd_at td_X11_of 8 rfl) hf
  · replace hf := fc_of_ms hf hq
    refine lv_astore_n (lv' := [(3, .ref (cx_a X y6)), (0, .ref (cx_a X x0)), (1, .int x1), (2, .int x2)]) Cx.1 Cx.2.1 (dd_at td_X11_of 4 rfl) rfl hl (by decide) rfl (fun ls hl => ?_)
    refine lv_aload_n Cx.1 Cx.2.1 (dd_at td_X11_of 5 rfl) rfl (lv_at hl 0 rfl) ?_
    refine lv_ifnonnull (tgt := 15) Cx.1 Cx.2.1 (dd_at td_X11_of 6 rfl) (by decide) ?_
    refine lv_iload_n Cx.1 Cx.2.1 (dd_at td_X11_of 9 rfl) rfl (lv_at hl 3 rfl) ?_
    by_cases c7 : x2 = (0 : Int32)
    · replace hf := fc_of_t hf c7
      refine lv_tableIn (off := 32) (tgt := 48) Cx.1 Cx.2.1 (dd_at td_X11_of 10 rfl) (by rw [c7]; decide) (by rw [c7]; decide) (by rw [c7]; decide) (by decide) ?_
      refine lv_aload_n Cx.1 Cx.2.1 (dd_at td_X11_of 11 rfl) rfl (lv_at hl 0 rfl) ?_
      obtain ⟨g8, hf⟩ := fc_of_gd hf
      refine cc_gIn (k := 0) Cx hM g8 (by decide) (by decide) cw557 (dd_at td_X11_of 12 rfl) ?_
      exact cc_ri Cx hM (dd_at td_X11_of 13 rfl) hf
    · replace hf := fc_of_f hf c7
      by_cases c9 : x2 = (1 : Int32)
      · replace hf := fc_of_t hf c9
        refine lv_tableIn (off := 37) (tgt := 53) Cx.1 Cx.2.1 (dd_at td_X11_of 10 rfl) (by rw [c9]; decide) (by rw [c9]; decide) (by rw [c9]; decide) (by decide) ?_
        refine lv_aload_n Cx.1 Cx.2.1 (dd_at td_X11_of 14 rfl) rfl (lv_at hl 0 rfl) ?_
        obtain ⟨g10, hf⟩ := fc_of_gd hf
        refine cc_gIn (k := 2) Cx hM g10 (by decide) (by decide) cw558 (dd_at td_X11_of 15 rfl) ?_
        exact cc_ri Cx hM (dd_at td_X11_of 16 rfl) hf
      · replace hf := fc_of_f hf c9
        by_cases c11 : x2 = (2 : Int32)
        · replace hf := fc_of_t hf c11
          refine lv_tableIn (off := 42) (tgt := 58) Cx.1 Cx.2.1 (dd_at td_X11_of 10 rfl) (by rw [c11]; decide) (by rw [c11]; decide) (by rw [c11]; decide) (by decide) ?_
          refine lv_aload_n Cx.1 Cx.2.1 (dd_at td_X11_of 17 rfl) rfl (lv_at hl 1 rfl) ?_
          refine cc_gO (ci := 13) (C := RX11) (T := TX11) (N := 8) (k := 0) (ref := "EclipsesKept") Cx hM g1 rfl cc_inX11 rfl (by decide) cw498 (fun _ h => h) (dd_at td_X11_of 18 rfl) rfl ?_
          show W p l e (mm_R 5 135) s m args below meth c H locs 0 0 (MQ below (cc_Qi D X r st') args s 0 0 (cc_A X)) (F0 m 62 ls [.ref (cx_a X 1)])
          refine cc_gA (ci := 9) (C := RX7) (T := TX7) (N := 17) (k := 1) (ref := "EclipsesKept$State") Cx hM g2 rfl cc_inX7 rfl (by decide) cw559 (fun _ h => h) (dd_at td_X11_of 19 rfl) rfl ?_
          refine lv_iload_n Cx.1 Cx.2.1 (dd_at td_X11_of 20 rfl) rfl (lv_at hl 2 rfl) ?_
          obtain ⟨g12, hf⟩ := fc_of_gd hf
          refine cc_iald Cx hM g12 (dd_at td_X11_of 21 rfl) ?_
          exact cc_ri Cx hM (dd_at td_X11_of 22 rfl) hf
        · replace hf := fc_of_f hf c11
          by_cases c13 : x2 = (3 : Int32)
          · replace hf := fc_of_t hf c13
            refine lv_tableIn (off := 52) (tgt := 68) Cx.1 Cx.2.1 (dd_at td_X11_of 10 rfl) (by rw [c13]; decide) (by rw [c13]; decide) (by rw [c13]; decide) (by decide) ?_
            refine lv_aload_n Cx.1 Cx.2.1 (dd_at td_X11_of 23 rfl) rfl (lv_at hl 1 rfl) ?_
            refine cc_gO (ci := 13) (C := RX11) (T := TX11) (N := 8) (k := 0) (ref := "EclipsesKept") Cx hM g1 rfl cc_inX11 rfl (by decide) cw498 (fun _ h => h) (dd_at td_X11_of 24 rfl) rfl ?_
            show W p l e (mm_R 5 135) s m args below meth c H locs 0 0 (MQ below (cc_Qi D X r st') args s 0 0 (cc_A X)) (F0 m 72 ls [.ref (cx_a X 1)])
            refine lv_iload_n Cx.1 Cx.2.1 (dd_at td_X11_of 25 rfl) rfl (lv_at hl 2 rfl) ?_
            refine lv_aload_n Cx.1 Cx.2.1 (dd_at td_X11_of 26 rfl) rfl (lv_at hl 1 rfl) ?_
            refine cc_gO (ci := 13) (C := RX11) (T := TX11) (N := 8) (k := 0) (ref := "EclipsesKept") Cx hM g1 rfl cc_inX11 rfl (by decide) cw498 (fun _ h => h) (dd_at td_X11_of 27 rfl) rfl ?_
            show W p l e (mm_R 5 135) s m args below meth c H locs 0 0 (MQ below (cc_Qi D X r st') args s 0 0 (cc_A X)) (F0 m 77 ls [.ref (cx_a X 1), .int x1, .ref (cx_a X 1)])
            refine cc_gI (ci := 9) (C := RX7) (T := TX7) (N := 17) (k := 15) (ref := "EclipsesKept$State") Cx hM g2 rfl cc_inX7 rfl (by decide) cw560 (fun _ h => h) (dd_at td_X11_of 28 rfl) rfl ?_
            refine lv_aload_n Cx.1 Cx.2.1 (dd_at td_X11_of 29 rfl) rfl (lv_at hl 1 rfl) ?_
            refine cc_gO (ci := 13) (C := RX11) (T := TX11) (N := 8) (k := 0) (ref := "EclipsesKept") Cx hM g1 rfl cc_inX11 rfl (by decide) cw498 (fun _ h => h) (dd_at td_X11_of 30 rfl) rfl ?_
            show W p l e (mm_R 5 135) s m args below meth c H locs 0 0 (MQ below (cc_Qi D X r st') args s 0 0 (cc_A X)) (F0 m 84 ls [.ref (cx_a X 1), .int (cc_I st3 1 15), .int x1, .ref (cx_a X 1)])
            refine cc_gI (ci := 9) (C := RX7) (T := TX7) (N := 17) (k := 13) (ref := "EclipsesKept$State") Cx hM g2 rfl cc_inX7 rfl (by decide) cw561 (fun _ h => h) (dd_at td_X11_of 31 rfl) rfl ?_
            obtain ⟨r16, st14, hx15, hf⟩ := fc_of_bn hf
            refine cc_ai hM (cc_rV (ci := 9) (As := [.int x1, .int (cc_I st3 1 15), .int (cc_I st3 1 13)]) (rest := []) (n := 3) Cx hM g2 rfl (c_X7_worthOf l D X fu 1 x1 (cc_I st3 1 15) (cc_I st3 1 13) st3 r16 st14 hx15) (cc_gdV cw563 cw397 cw398 cw345 cw395) hd_X7_worthOf ⟨Nat.le_of_ble_eq_true rfl, Nat.le_of_ble_eq_true rfl⟩ rfl hl.1 rfl (Nat.le_of_ble_eq_true rfl) (dd_at td_X11_of 32 rfl) ⟨Nat.le_refl 0, Nat.le_refl 0⟩) (fun H locs hM => ?_)
            exact cc_ri Cx hM (dd_at td_X11_of 33 rfl) hf
          · replace hf := fc_of_f hf c13
            refine lv_tableOut (tgt := 91) Cx.1 Cx.2.1 (dd_at td_X11_of 10 rfl) (by have q0 := lv_neT c7 (a := 0) (by decide); have q1 := lv_neT c9 (a := 1) (by decide); have q2 := lv_neT c11 (a := 2) (by decide); have q3 := lv_neT c13 (a := 3) (by decide); omega) (by decide) ?_
            refine lv_iconst (v := (-1 : Int32)) Cx.1 Cx.2.1 (dd_at td_X11_of 34 rfl) (by decide) ?_
            exact cc_ri Cx hM (dd_at td_X11_of 35 rfl) hf
theorem c_X11_of (l : Launch) (D : va_G) (X : cc_X) (fu : Nat) (x0 : Nat) (x1 : Int32) (x2 : Int32) (st : cc_S) : cc_Mi l D X yX11_of cX11_of 4 (some .int) 5 135 [.ref (cx_a X x0), .int x1, .int x2] st (C_X11_of X fu x0 x1 x2 st) := by
  intro r st' hf
  refine cc_enter (cc := cX11_of) (nL := 4) (ret := some .int) (by decide +kernel) rfl (Nat.le_of_ble_eq_true rfl) ?_
  intro p e s m args below meth c ls Cx hl hM
  exact w_X11_of Cx fu x0 x1 x2 st hf hl hM

/-! X11_isWithin -/
def tb_X11_isWithin : List (Nat × Instr × Nat) := [(0, .iload_n 0, 1), (1, .ifCond .lt 12, 3), (4, .iload_n 0, 1), (5, .iload_n 1, 1), (6, .if_icmp .gt 7, 3), (9, .iconst 1, 1), (10, .goto 4, 3), (13, .iconst 0, 1), (14, .ireturn, 1)]
theorem td_X11_isWithin : tb_X11_isWithin.all (fun q => decide (decode cX11_isWithin q.1 = .ok (q.2.1, q.2.2))) = true := by decide +kernel
theorem hd_X11_isWithin : yX11_isWithin.cls ≠ "java/lang/invoke/MethodHandle" ∧ yX11_isWithin.cls ≠ "java/lang/invoke/VarHandle" ∧ (parseMethodDescriptor yX11_isWithin.desc).map (fun d => d.parameters.length) = some 2 := by decide +kernel
theorem w_X11_isWithin {p : Program} {l : Launch} {e : Env} {s : State} {m : MethodId} {args : Array Value} {below : List Frame} {meth : Method} {c : Code} {D : va_G} {X : cc_X} {r : Int32} {st' : cc_S} (Cx : cc_C p s m args meth c cX11_isWithin 2 (some .boolean) RX11 D X) (fu : Nat) (x0 : Int32) (x1 : Int32) (st : cc_S) (hf : C_X11_isWithin X fu x0 x1 st = some (r, st')) {H : Heap} {locs : List Loc} {ls : Array Slot} (hl : lv_has ls 2 [(0, .int x0), (1, .int x1)]) (hM : cc_H D X s.heap st H locs) : W p l e (mm_R 0 0) s m args below meth c H locs 0 0 (MQ below (cc_Qi D X r st') args s 0 0 (cc_A X)) (F0 m 0 ls []) := by
  unfold C_X11_isWithin at hf
  refine lv_iload_n Cx.1 Cx.2.1 (dd_at td_X11_isWithin 0 rfl) rfl (lv_at hl 0 rfl) ?_
  refine lv_if_lt (tgt := 13) Cx.1 Cx.2.1 (dd_at td_X11_isWithin 1 rfl) (by decide) (fun c1 => ?_) (fun c1 => ?_)
  · replace hf := fc_of_t hf c1
    refine lv_iconst (v := (0 : Int32)) Cx.1 Cx.2.1 (dd_at td_X11_isWithin 7 rfl) (by decide) ?_
    exact cc_rz Cx hM (dd_at td_X11_isWithin 8 rfl) rfl hf
  · replace hf := fc_of_f hf c1
    refine lv_iload_n Cx.1 Cx.2.1 (dd_at td_X11_isWithin 2 rfl) rfl (lv_at hl 0 rfl) ?_
    refine lv_iload_n Cx.1 Cx.2.1 (dd_at td_X11_isWithin 3 rfl) rfl (lv_at hl 1 rfl) ?_
    refine lv_icmp_gt (tgt := 13) Cx.1 Cx.2.1 (dd_at td_X11_isWithin 4 rfl) (by decide) (fun c2 => ?_) (fun c2 => ?_)
    · replace hf := fc_of_t hf c2
      refine lv_iconst (v := (0 : Int32)) Cx.1 Cx.2.1 (dd_at td_X11_isWithin 7 rfl) (by decide) ?_
      exact cc_rz Cx hM (dd_at td_X11_isWithin 8 rfl) rfl hf
    · replace hf := fc_of_f hf c2
      refine lv_iconst (v := (1 : Int32)) Cx.1 Cx.2.1 (dd_at td_X11_isWithin 5 rfl) (by decide) ?_
      refine lv_goto (tgt := 14) Cx.1 Cx.2.1 (dd_at td_X11_isWithin 6 rfl) (by decide) ?_
      exact cc_rz Cx hM (dd_at td_X11_isWithin 8 rfl) rfl hf
theorem c_X11_isWithin (l : Launch) (D : va_G) (X : cc_X) (fu : Nat) (x0 : Int32) (x1 : Int32) (st : cc_S) : cc_Mi l D X yX11_isWithin cX11_isWithin 2 (some .boolean) 0 0 [.int x0, .int x1] st (C_X11_isWithin X fu x0 x1 st) := by
  intro r st' hf
  refine cc_enter (cc := cX11_isWithin) (nL := 2) (ret := some .boolean) (by decide +kernel) rfl (Nat.le_of_ble_eq_true rfl) ?_
  intro p e s m args below meth c ls Cx hl hM
  exact w_X11_isWithin Cx fu x0 x1 st hf hl hM

/-! X11_worth -/
def tb_X11_worth : List (Nat × Instr × Nat) := [(0, .aload_n 0, 1), (1, .getfield 12, 3), (4, .iload_n 1, 1), (5, .invokevirtual 94, 3), (8, .ifCond .ne 5, 3), (11, .iconst (-1), 1), (12, .ireturn, 1), (13, .iload_n 2, 1), (14, .bipush 60, 2), (16, .invokestatic 54, 3), (19, .ifCond .eq 12, 3), (22, .iload_n 3, 1), (23, .bipush 8, 2), (25, .invokestatic 54, 3), (28, .ifCond .ne 6, 3), (31, .bipush (-2), 2), (33, .ireturn, 1), (34, .aload_n 0, 1), (35, .getfield 12, 3), (38, .iload_n 1, 1), (39, .aload_n 0, 1), (40, .getfield 12, 3), (43, .getfield 84, 3), (46, .iload_n 2, 1), (47, .iadd, 1), (48, .iload_n 3, 1), (49, .invokevirtual 90, 3), (52, .ireturn, 1)]
theorem td_X11_worth : tb_X11_worth.all (fun q => decide (decode cX11_worth q.1 = .ok (q.2.1, q.2.2))) = true := by decide +kernel
theorem hd_X11_worth : yX11_worth.cls = RX11 ∧ yX11_worth.cls ≠ "java/lang/invoke/MethodHandle" ∧ yX11_worth.cls ≠ "java/lang/invoke/VarHandle" ∧ (parseMethodDescriptor yX11_worth.desc).map (fun d => d.parameters.length) = some 3 := by decide +kernel
theorem hs_X11_worth : yX11_worth.name ≠ "<init>" ∧ (parseMethodDescriptor yX11_worth.desc).map (fun d => d.parameters.length) = some 3 := by decide +kernel
theorem w_X11_worth {p : Program} {l : Launch} {e : Env} {s : State} {m : MethodId} {args : Array Value} {below : List Frame} {meth : Method} {c : Code} {D : va_G} {X : cc_X} {r : Int32} {st' : cc_S} (Cx : cc_C p s m args meth c cX11_worth 4 (some .int) RX11 D X) (fu : Nat) (x0 : Nat) (x1 : Int32) (x2 : Int32) (x3 : Int32) (st : cc_S) (hf : C_X11_worth X fu x0 x1 x2 x3 st = some (r, st')) {H : Heap} {locs : List Loc} {ls : Array Slot} (hl : lv_has ls 4 [(0, .ref (cx_a X x0)), (1, .int x1), (2, .int x2), (3, .int x3)]) (hM : cc_H D X s.heap st H locs) : W p l e (mm_R 5 135) s m args below meth c H locs 0 0 (MQ below (cc_Qi D X r st') args s 0 0 (cc_A X)) (F0 m 0 ls []) := by
  unfold C_X11_worth at hf
  refine lv_aload_n Cx.1 Cx.2.1 (dd_at td_X11_worth 0 rfl) rfl (lv_at hl 0 rfl) ?_
  obtain ⟨g1, hf⟩ := fc_of_gd hf
  refine cc_gO (ci := 13) (C := RX11) (T := TX11) (N := 8) (k := 0) (ref := "EclipsesKept") Cx hM g1 rfl cc_inX11 rfl (by decide) cw498 (fun _ h => h) (dd_at td_X11_worth 1 rfl) rfl ?_
  show W p l e (mm_R 5 135) s m args below meth c H locs 0 0 (MQ below (cc_Qi D X r st') args s 0 0 (cc_A X)) (F0 m 4 ls [.ref (cx_a X 1)])
  refine lv_iload_n Cx.1 Cx.2.1 (dd_at td_X11_worth 2 rfl) rfl (lv_at hl 1 rfl) ?_
  obtain ⟨g2, hf⟩ := fc_of_gd hf
  obtain ⟨r5, st3, hx4, hf⟩ := fc_of_bn hf
  refine cc_ai hM (cc_rV (ci := 9) (As := [.int x1]) (rest := []) (n := 1) Cx hM g2 rfl (c_X7_has l D X fu 1 x1 st r5 st3 hx4) (cc_gdV cw565 cw343 cw344 cw345 cw340) hd_X7_has ⟨Nat.le_of_ble_eq_true rfl, Nat.le_of_ble_eq_true rfl⟩ rfl hl.1 rfl (Nat.le_of_ble_eq_true rfl) (dd_at td_X11_worth 3 rfl) ⟨Nat.le_refl 0, Nat.le_refl 0⟩) (fun H locs hM => ?_)
  refine lv_if_ne (tgt := 13) Cx.1 Cx.2.1 (dd_at td_X11_worth 4 rfl) (by decide) (fun c6 => ?_) (fun c6 => ?_)
  · replace hf := fc_of_f hf c6
    refine lv_iload_n Cx.1 Cx.2.1 (dd_at td_X11_worth 7 rfl) rfl (lv_at hl 2 rfl) ?_
    refine lv_bipush (v := (60 : Int32)) Cx.1 Cx.2.1 (dd_at td_X11_worth 8 rfl) (by decide) ?_
    obtain ⟨r9, st7, hx8, hf⟩ := fc_of_bn hf
    refine cc_ai hM (cc_rS (As := [.int x2, .int (60 : Int32)]) (rest := []) (n := 2) Cx hM (c_X11_isWithin l D X fu x2 (60 : Int32) st3 r9 st7 hx8) (cc_gdS cw547 cw548 cw549 cw520) hd_X11_isWithin ⟨Nat.le_of_ble_eq_true rfl, Nat.le_of_ble_eq_true rfl⟩ rfl hl.1 rfl (Nat.le_of_ble_eq_true rfl) (dd_at td_X11_worth 9 rfl) ⟨Nat.le_refl 0, Nat.le_refl 0⟩) (fun H locs hM => ?_)
    refine lv_if_eq (tgt := 31) Cx.1 Cx.2.1 (dd_at td_X11_worth 10 rfl) (by decide) (fun c10 => ?_) (fun c10 => ?_)
    · replace hf := fc_of_t hf c10
      refine lv_bipush (v := (-2 : Int32)) Cx.1 Cx.2.1 (dd_at td_X11_worth 15 rfl) (by decide) ?_
      exact cc_ri Cx hM (dd_at td_X11_worth 16 rfl) hf
    · replace hf := fc_of_f hf c10
      refine lv_iload_n Cx.1 Cx.2.1 (dd_at td_X11_worth 11 rfl) rfl (lv_at hl 3 rfl) ?_
      refine lv_bipush (v := (8 : Int32)) Cx.1 Cx.2.1 (dd_at td_X11_worth 12 rfl) (by decide) ?_
      obtain ⟨r13, st11, hx12, hf⟩ := fc_of_bn hf
      refine cc_ai hM (cc_rS (As := [.int x3, .int (8 : Int32)]) (rest := []) (n := 2) Cx hM (c_X11_isWithin l D X fu x3 (8 : Int32) st7 r13 st11 hx12) (cc_gdS cw547 cw548 cw549 cw520) hd_X11_isWithin ⟨Nat.le_of_ble_eq_true rfl, Nat.le_of_ble_eq_true rfl⟩ rfl hl.1 rfl (Nat.le_of_ble_eq_true rfl) (dd_at td_X11_worth 13 rfl) ⟨Nat.le_refl 0, Nat.le_refl 0⟩) (fun H locs hM => ?_)
      refine lv_if_ne (tgt := 34) Cx.1 Cx.2.1 (dd_at td_X11_worth 14 rfl) (by decide) (fun c14 => ?_) (fun c14 => ?_)
      · replace hf := fc_of_f hf c14
        refine lv_aload_n Cx.1 Cx.2.1 (dd_at td_X11_worth 17 rfl) rfl (lv_at hl 0 rfl) ?_
        refine cc_gO (ci := 13) (C := RX11) (T := TX11) (N := 8) (k := 0) (ref := "EclipsesKept") Cx hM g1 rfl cc_inX11 rfl (by decide) cw498 (fun _ h => h) (dd_at td_X11_worth 18 rfl) rfl ?_
        show W p l e (mm_R 5 135) s m args below meth c H locs 0 0 (MQ below (cc_Qi D X r st') args s 0 0 (cc_A X)) (F0 m 38 ls [.ref (cx_a X 1)])
        refine lv_iload_n Cx.1 Cx.2.1 (dd_at td_X11_worth 19 rfl) rfl (lv_at hl 1 rfl) ?_
        refine lv_aload_n Cx.1 Cx.2.1 (dd_at td_X11_worth 20 rfl) rfl (lv_at hl 0 rfl) ?_
        refine cc_gO (ci := 13) (C := RX11) (T := TX11) (N := 8) (k := 0) (ref := "EclipsesKept") Cx hM g1 rfl cc_inX11 rfl (by decide) cw498 (fun _ h => h) (dd_at td_X11_worth 21 rfl) rfl ?_
        show W p l e (mm_R 5 135) s m args below meth c H locs 0 0 (MQ below (cc_Qi D X r st') args s 0 0 (cc_A X)) (F0 m 43 ls [.ref (cx_a X 1), .int x1, .ref (cx_a X 1)])
        refine cc_gI (ci := 9) (C := RX7) (T := TX7) (N := 17) (k := 15) (ref := "EclipsesKept$State") Cx hM g2 rfl cc_inX7 rfl (by decide) cw560 (fun _ h => h) (dd_at td_X11_worth 22 rfl) rfl ?_
        refine lv_iload_n Cx.1 Cx.2.1 (dd_at td_X11_worth 23 rfl) rfl (lv_at hl 2 rfl) ?_
        refine lv_iadd Cx.1 Cx.2.1 (dd_at td_X11_worth 24 rfl) ?_
        refine lv_iload_n Cx.1 Cx.2.1 (dd_at td_X11_worth 25 rfl) rfl (lv_at hl 3 rfl) ?_
        obtain ⟨r17, st15, hx16, hf⟩ := fc_of_bn hf
        refine cc_ai hM (cc_rV (ci := 9) (As := [.int x1, .int ((cc_I st11 1 15) + x2), .int x3]) (rest := []) (n := 3) Cx hM g2 rfl (c_X7_worthOf l D X fu 1 x1 ((cc_I st11 1 15) + x2) x3 st11 r17 st15 hx16) (cc_gdV cw563 cw397 cw398 cw345 cw395) hd_X7_worthOf ⟨Nat.le_of_ble_eq_true rfl, Nat.le_of_ble_eq_true rfl⟩ rfl hl.1 rfl (Nat.le_of_ble_eq_true rfl) (dd_at td_X11_worth 26 rfl) ⟨Nat.le_refl 0, Nat.le_refl 0⟩) (fun H locs hM => ?_)
        exact cc_ri Cx hM (dd_at td_X11_worth 27 rfl) hf
      · replace hf := fc_of_t hf c14
        refine lv_bipush (v := (-2 : Int32)) Cx.1 Cx.2.1 (dd_at td_X11_worth 15 rfl) (by decide) ?_
        exact cc_ri Cx hM (dd_at td_X11_worth 16 rfl) hf
  · replace hf := fc_of_t hf c6
    refine lv_iconst (v := (-1 : Int32)) Cx.1 Cx.2.1 (dd_at td_X11_worth 5 rfl) (by decide) ?_
    exact cc_ri Cx hM (dd_at td_X11_worth 6 rfl) hf
theorem c_X11_worth (l : Launch) (D : va_G) (X : cc_X) (fu : Nat) (x0 : Nat) (x1 : Int32) (x2 : Int32) (x3 : Int32) (st : cc_S) : cc_Mi l D X yX11_worth cX11_worth 4 (some .int) 5 135 [.ref (cx_a X x0), .int x1, .int x2, .int x3] st (C_X11_worth X fu x0 x1 x2 x3 st) := by
  intro r st' hf
  refine cc_enter (cc := cX11_worth) (nL := 4) (ret := some .int) (by decide +kernel) rfl (Nat.le_of_ble_eq_true rfl) ?_
  intro p e s m args below meth c ls Cx hl hM
  exact w_X11_worth Cx fu x0 x1 x2 x3 st hf hl hM

/-! X11_serve -/
def tb_X11_serve : List (Nat × Instr × Nat) := [(0, .aload_n 0, 1), (1, .getfield 12, 3), (4, .iload_n 1, 1), (5, .invokevirtual 94, 3), (8, .ifCond .ne 6, 3), (11, .ldc 98, 2), (13, .ireturn, 1), (14, .aload_n 0, 1), (15, .getfield 12, 3), (18, .getfield 87, 3), (21, .iconst 1, 1), (22, .if_icmp .lt 31, 3), (25, .aload_n 0, 1), (26, .getfield 12, 3), (29, .getfield 84, 3), (32, .sipush 9999, 3), (35, .if_icmp .ge 18, 3), (38, .aload_n 0, 1), (39, .getfield 12, 3), (42, .getfield 81, 3), (45, .iload_n 1, 1), (46, .iaload, 1), (47, .sipush 9999, 3), (50, .if_icmp .lt 6, 3), (53, .ldc 99, 2), (55, .ireturn, 1), (56, .aload_n 0, 1), (57, .getfield 12, 3), (60, .iload_n 1, 1), (61, .aload_n 0, 1), (62, .getfield 12, 3), (65, .getfield 84, 3), (68, .aload_n 0, 1), (69, .getfield 12, 3), (72, .getfield 87, 3), (75, .invokevirtual 90, 3), (78, .istore_n 2, 1), (79, .aload_n 0, 1), (80, .getfield 12, 3), (83, .dup, 1), (84, .getfield 87, 3), (87, .iconst 1, 1), (88, .isub, 1), (89, .putfield 87, 3), (92, .aload_n 0, 1), (93, .getfield 12, 3), (96, .getfield 81, 3), (99, .iload_n 1, 1), (100, .dup2, 1), (101, .iaload, 1), (102, .iconst 1, 1), (103, .iadd, 1), (104, .iastore, 1), (105, .aload_n 0, 1), (106, .getfield 12, 3), (109, .iload_n 2, 1), (110, .invokevirtual 100, 3), (113, .ireturn, 1)]
theorem td_X11_serve : tb_X11_serve.all (fun q => decide (decode cX11_serve q.1 = .ok (q.2.1, q.2.2))) = true := by decide +kernel
theorem hd_X11_serve : yX11_serve.cls = RX11 ∧ yX11_serve.cls ≠ "java/lang/invoke/MethodHandle" ∧ yX11_serve.cls ≠ "java/lang/invoke/VarHandle" ∧ (parseMethodDescriptor yX11_serve.desc).map (fun d => d.parameters.length) = some 1 := by decide +kernel
theorem hs_X11_serve : yX11_serve.name ≠ "<init>" ∧ (parseMethodDescriptor yX11_serve.desc).map (fun d => d.parameters.length) = some 1 := by decide +kernel
theorem w_X11_serve {p : Program} {l : Launch} {e : Env} {s : State} {m : MethodId} {args : Array Value} {below : List Frame} {meth : Method} {c : Code} {D : va_G} {X : cc_X} {r : Int32} {st' : cc_S} (Cx : cc_C p s m args meth c cX11_serve 3 (some .int) RX11 D X) (fu : Nat) (x0 : Nat) (x1 : Int32) (st : cc_S) (hf : C_X11_serve X fu x0 x1 st = some (r, st')) {H : Heap} {locs : List Loc} {ls : Array Slot} (hl : lv_has ls 3 [(0, .ref (cx_a X x0)), (1, .int x1)]) (hM : cc_H D X s.heap st H locs) : W p l e (mm_R 5 135) s m args below meth c H locs 0 0 (MQ below (cc_Qi D X r st') args s 0 0 (cc_A X)) (F0 m 0 ls []) := by
  unfold C_X11_serve at hf
  refine lv_aload_n Cx.1 Cx.2.1 (dd_at td_X11_serve 0 rfl) rfl (lv_at hl 0 rfl) ?_
  obtain ⟨g1, hf⟩ := fc_of_gd hf
  refine cc_gO (ci := 13) (C := RX11) (T := TX11) (N := 8) (k := 0) (ref := "EclipsesKept") Cx hM g1 rfl cc_inX11 rfl (by decide) cw498 (fun _ h => h) (dd_at td_X11_serve 1 rfl) rfl ?_
  show W p l e (mm_R 5 135) s m args below meth c H locs 0 0 (MQ below (cc_Qi D X r st') args s 0 0 (cc_A X)) (F0 m 4 ls [.ref (cx_a X 1)])
  refine lv_iload_n Cx.1 Cx.2.1 (dd_at td_X11_serve 2 rfl) rfl (lv_at hl 1 rfl) ?_
  obtain ⟨g2, hf⟩ := fc_of_gd hf
  obtain ⟨r5, st3, hx4, hf⟩ := fc_of_bn hf
  refine cc_ai hM (cc_rV (ci := 9) (As := [.int x1]) (rest := []) (n := 1) Cx hM g2 rfl (c_X7_has l D X fu 1 x1 st r5 st3 hx4) (cc_gdV cw565 cw343 cw344 cw345 cw340) hd_X7_has ⟨Nat.le_of_ble_eq_true rfl, Nat.le_of_ble_eq_true rfl⟩ rfl hl.1 rfl (Nat.le_of_ble_eq_true rfl) (dd_at td_X11_serve 3 rfl) ⟨Nat.le_refl 0, Nat.le_refl 0⟩) (fun H locs hM => ?_)
  refine lv_if_ne (tgt := 14) Cx.1 Cx.2.1 (dd_at td_X11_serve 4 rfl) (by decide) (fun c6 => ?_) (fun c6 => ?_)
  · replace hf := fc_of_f hf c6
    refine lv_aload_n Cx.1 Cx.2.1 (dd_at td_X11_serve 7 rfl) rfl (lv_at hl 0 rfl) ?_
    refine cc_gO (ci := 13) (C := RX11) (T := TX11) (N := 8) (k := 0) (ref := "EclipsesKept") Cx hM g1 rfl cc_inX11 rfl (by decide) cw498 (fun _ h => h) (dd_at td_X11_serve 8 rfl) rfl ?_
    show W p l e (mm_R 5 135) s m args below meth c H locs 0 0 (MQ below (cc_Qi D X r st') args s 0 0 (cc_A X)) (F0 m 18 ls [.ref (cx_a X 1)])
    refine cc_gI (ci := 9) (C := RX7) (T := TX7) (N := 17) (k := 13) (ref := "EclipsesKept$State") Cx hM g2 rfl cc_inX7 rfl (by decide) cw561 (fun _ h => h) (dd_at td_X11_serve 9 rfl) rfl ?_
    refine lv_iconst (v := (1 : Int32)) Cx.1 Cx.2.1 (dd_at td_X11_serve 10 rfl) (by decide) ?_
    refine lv_icmp_lt (tgt := 53) Cx.1 Cx.2.1 (dd_at td_X11_serve 11 rfl) (by decide) (fun c7 => ?_) (fun c7 => ?_)
    · replace hf := fc_of_t hf c7
      refine lv_ldc (v := (-10000002 : Int32)) Cx.1 Cx.2.1 Cx.2.2.2.2.1 (Cx.2.2.2.2.2.1 _ cw568) (dd_at td_X11_serve 24 rfl) ?_
      exact cc_ri Cx hM (dd_at td_X11_serve 25 rfl) hf
    · replace hf := fc_of_f hf c7
      refine lv_aload_n Cx.1 Cx.2.1 (dd_at td_X11_serve 12 rfl) rfl (lv_at hl 0 rfl) ?_
      refine cc_gO (ci := 13) (C := RX11) (T := TX11) (N := 8) (k := 0) (ref := "EclipsesKept") Cx hM g1 rfl cc_inX11 rfl (by decide) cw498 (fun _ h => h) (dd_at td_X11_serve 13 rfl) rfl ?_
      show W p l e (mm_R 5 135) s m args below meth c H locs 0 0 (MQ below (cc_Qi D X r st') args s 0 0 (cc_A X)) (F0 m 29 ls [.ref (cx_a X 1)])
      refine cc_gI (ci := 9) (C := RX7) (T := TX7) (N := 17) (k := 15) (ref := "EclipsesKept$State") Cx hM g2 rfl cc_inX7 rfl (by decide) cw560 (fun _ h => h) (dd_at td_X11_serve 14 rfl) rfl ?_
      refine lv_sipush (v := (9999 : Int32)) Cx.1 Cx.2.1 (dd_at td_X11_serve 15 rfl) (by decide) ?_
      refine lv_icmp_ge (tgt := 53) Cx.1 Cx.2.1 (dd_at td_X11_serve 16 rfl) (by decide) (fun c8 => ?_) (fun c8 => ?_)
      · replace hf := fc_of_t hf c8
        refine lv_ldc (v := (-10000002 : Int32)) Cx.1 Cx.2.1 Cx.2.2.2.2.1 (Cx.2.2.2.2.2.1 _ cw568) (dd_at td_X11_serve 24 rfl) ?_
        exact cc_ri Cx hM (dd_at td_X11_serve 25 rfl) hf
      · replace hf := fc_of_f hf c8
        refine lv_aload_n Cx.1 Cx.2.1 (dd_at td_X11_serve 17 rfl) rfl (lv_at hl 0 rfl) ?_
        refine cc_gO (ci := 13) (C := RX11) (T := TX11) (N := 8) (k := 0) (ref := "EclipsesKept") Cx hM g1 rfl cc_inX11 rfl (by decide) cw498 (fun _ h => h) (dd_at td_X11_serve 18 rfl) rfl ?_
        show W p l e (mm_R 5 135) s m args below meth c H locs 0 0 (MQ below (cc_Qi D X r st') args s 0 0 (cc_A X)) (F0 m 42 ls [.ref (cx_a X 1)])
        refine cc_gA (ci := 9) (C := RX7) (T := TX7) (N := 17) (k := 1) (ref := "EclipsesKept$State") Cx hM g2 rfl cc_inX7 rfl (by decide) cw559 (fun _ h => h) (dd_at td_X11_serve 19 rfl) rfl ?_
        refine lv_iload_n Cx.1 Cx.2.1 (dd_at td_X11_serve 20 rfl) rfl (lv_at hl 1 rfl) ?_
        obtain ⟨g9, hf⟩ := fc_of_gd hf
        refine cc_iald Cx hM g9 (dd_at td_X11_serve 21 rfl) ?_
        refine lv_sipush (v := (9999 : Int32)) Cx.1 Cx.2.1 (dd_at td_X11_serve 22 rfl) (by decide) ?_
        refine lv_icmp_lt (tgt := 56) Cx.1 Cx.2.1 (dd_at td_X11_serve 23 rfl) (by decide) (fun c10 => ?_) (fun c10 => ?_)
        · replace hf := fc_of_t hf c10
          refine lv_aload_n Cx.1 Cx.2.1 (dd_at td_X11_serve 26 rfl) rfl (lv_at hl 0 rfl) ?_
          refine cc_gO (ci := 13) (C := RX11) (T := TX11) (N := 8) (k := 0) (ref := "EclipsesKept") Cx hM g1 rfl cc_inX11 rfl (by decide) cw498 (fun _ h => h) (dd_at td_X11_serve 27 rfl) rfl ?_
          show W p l e (mm_R 5 135) s m args below meth c H locs 0 0 (MQ below (cc_Qi D X r st') args s 0 0 (cc_A X)) (F0 m 60 ls [.ref (cx_a X 1)])
          refine lv_iload_n Cx.1 Cx.2.1 (dd_at td_X11_serve 28 rfl) rfl (lv_at hl 1 rfl) ?_
          refine lv_aload_n Cx.1 Cx.2.1 (dd_at td_X11_serve 29 rfl) rfl (lv_at hl 0 rfl) ?_
          refine cc_gO (ci := 13) (C := RX11) (T := TX11) (N := 8) (k := 0) (ref := "EclipsesKept") Cx hM g1 rfl cc_inX11 rfl (by decide) cw498 (fun _ h => h) (dd_at td_X11_serve 30 rfl) rfl ?_
          show W p l e (mm_R 5 135) s m args below meth c H locs 0 0 (MQ below (cc_Qi D X r st') args s 0 0 (cc_A X)) (F0 m 65 ls [.ref (cx_a X 1), .int x1, .ref (cx_a X 1)])
          refine cc_gI (ci := 9) (C := RX7) (T := TX7) (N := 17) (k := 15) (ref := "EclipsesKept$State") Cx hM g2 rfl cc_inX7 rfl (by decide) cw560 (fun _ h => h) (dd_at td_X11_serve 31 rfl) rfl ?_
          refine lv_aload_n Cx.1 Cx.2.1 (dd_at td_X11_serve 32 rfl) rfl (lv_at hl 0 rfl) ?_
          refine cc_gO (ci := 13) (C := RX11) (T := TX11) (N := 8) (k := 0) (ref := "EclipsesKept") Cx hM g1 rfl cc_inX11 rfl (by decide) cw498 (fun _ h => h) (dd_at td_X11_serve 33 rfl) rfl ?_
          show W p l e (mm_R 5 135) s m args below meth c H locs 0 0 (MQ below (cc_Qi D X r st') args s 0 0 (cc_A X)) (F0 m 72 ls [.ref (cx_a X 1), .int (cc_I st3 1 15), .int x1, .ref (cx_a X 1)])
          refine cc_gI (ci := 9) (C := RX7) (T := TX7) (N := 17) (k := 13) (ref := "EclipsesKept$State") Cx hM g2 rfl cc_inX7 rfl (by decide) cw561 (fun _ h => h) (dd_at td_X11_serve 34 rfl) rfl ?_
          obtain ⟨r13, st11, hx12, hf⟩ := fc_of_bn hf
          refine cc_ai hM (cc_rV (ci := 9) (As := [.int x1, .int (cc_I st3 1 15), .int (cc_I st3 1 13)]) (rest := []) (n := 3) Cx hM g2 rfl (c_X7_worthOf l D X fu 1 x1 (cc_I st3 1 15) (cc_I st3 1 13) st3 r13 st11 hx12) (cc_gdV cw563 cw397 cw398 cw345 cw395) hd_X7_worthOf ⟨Nat.le_of_ble_eq_true rfl, Nat.le_of_ble_eq_true rfl⟩ rfl hl.1 rfl (Nat.le_of_ble_eq_true rfl) (dd_at td_X11_serve 35 rfl) ⟨Nat.le_refl 0, Nat.le_refl 0⟩) (fun H locs hM => ?_)
          refine lv_istore_n (lv' := [(2, .int r13), (0, .ref (cx_a X x0)), (1, .int x1)]) Cx.1 Cx.2.1 (dd_at td_X11_serve 36 rfl) rfl hl (by decide) rfl (fun ls hl => ?_)
          refine lv_aload_n Cx.1 Cx.2.1 (dd_at td_X11_serve 37 rfl) rfl (lv_at hl 1 rfl) ?_
          refine cc_gO (ci := 13) (C := RX11) (T := TX11) (N := 8) (k := 0) (ref := "EclipsesKept") Cx hM g1 rfl cc_inX11 rfl (by decide) cw498 (fun _ h => h) (dd_at td_X11_serve 38 rfl) rfl ?_
          show W p l e (mm_R 5 135) s m args below meth c H locs 0 0 (MQ below (cc_Qi D X r st') args s 0 0 (cc_A X)) (F0 m 83 ls [.ref (cx_a X 1)])
          refine lv_dup Cx.1 Cx.2.1 (dd_at td_X11_serve 39 rfl) rfl ?_
          refine cc_gI (ci := 9) (C := RX7) (T := TX7) (N := 17) (k := 13) (ref := "EclipsesKept$State") Cx hM g2 rfl cc_inX7 rfl (by decide) cw561 (fun _ h => h) (dd_at td_X11_serve 40 rfl) rfl ?_
          refine lv_iconst (v := (1 : Int32)) Cx.1 Cx.2.1 (dd_at td_X11_serve 41 rfl) (by decide) ?_
          refine lv_isub Cx.1 Cx.2.1 (dd_at td_X11_serve 42 rfl) ?_
          refine cc_pI (ci := 9) (C := RX7) (T := TX7) (N := 17) (k := 13) (ref := "EclipsesKept$State") (ty0 := tyX7) Cx hM g2 rfl cc_inX7 rfl (by decide) cw561 (fun _ h => h) tyX7_ok nmX7 rfl rfl rfl (dd_at td_X11_serve 43 rfl) rfl (fun st14 H locs est14 hM => ?_)
          replace hf := fc_of_nm hf st14 est14
          refine lv_aload_n Cx.1 Cx.2.1 (dd_at td_X11_serve 44 rfl) rfl (lv_at hl 1 rfl) ?_
          refine cc_gO (ci := 13) (C := RX11) (T := TX11) (N := 8) (k := 0) (ref := "EclipsesKept") Cx hM g1 rfl cc_inX11 rfl (by decide) cw498 (fun _ h => h) (dd_at td_X11_serve 45 rfl) rfl ?_
          show W p l e (mm_R 5 135) s m args below meth c H locs 0 0 (MQ below (cc_Qi D X r st') args s 0 0 (cc_A X)) (F0 m 96 ls [.ref (cx_a X 1)])
          refine cc_gA (ci := 9) (C := RX7) (T := TX7) (N := 17) (k := 1) (ref := "EclipsesKept$State") Cx hM g2 rfl cc_inX7 rfl (by decide) cw559 (fun _ h => h) (dd_at td_X11_serve 46 rfl) rfl ?_
          refine lv_iload_n Cx.1 Cx.2.1 (dd_at td_X11_serve 47 rfl) rfl (lv_at hl 2 rfl) ?_
          refine lv_dup2_11 Cx.1 Cx.2.1 (dd_at td_X11_serve 48 rfl) rfl rfl ?_
          obtain ⟨g15, hf⟩ := fc_of_gd hf
          refine cc_iald Cx hM g15 (dd_at td_X11_serve 49 rfl) ?_
          refine lv_iconst (v := (1 : Int32)) Cx.1 Cx.2.1 (dd_at td_X11_serve 50 rfl) (by decide) ?_
          refine lv_iadd Cx.1 Cx.2.1 (dd_at td_X11_serve 51 rfl) ?_
          obtain ⟨g16, hf⟩ := fc_of_gd hf
          refine cc_iast Cx hM g16 (dd_at td_X11_serve 52 rfl) (fun st17 H locs est17 hM => ?_)
          replace hf := fc_of_nm hf st17 est17
          refine lv_aload_n Cx.1 Cx.2.1 (dd_at td_X11_serve 53 rfl) rfl (lv_at hl 1 rfl) ?_
          refine cc_gO (ci := 13) (C := RX11) (T := TX11) (N := 8) (k := 0) (ref := "EclipsesKept") Cx hM g1 rfl cc_inX11 rfl (by decide) cw498 (fun _ h => h) (dd_at td_X11_serve 54 rfl) rfl ?_
          show W p l e (mm_R 5 135) s m args below meth c H locs 0 0 (MQ below (cc_Qi D X r st') args s 0 0 (cc_A X)) (F0 m 109 ls [.ref (cx_a X 1)])
          refine lv_iload_n Cx.1 Cx.2.1 (dd_at td_X11_serve 55 rfl) rfl (lv_at hl 0 rfl) ?_
          obtain ⟨r20, st18, hx19, hf⟩ := fc_of_bn hf
          refine cc_ai hM (cc_rV (ci := 9) (As := [.int r13]) (rest := []) (n := 1) Cx hM g2 rfl (c_X7_endYear l D X fu 1 r13 st17 r20 st18 hx19) (cc_gdV cw569 cw570 cw571 cw345 cw349) hd_X7_endYear ⟨Nat.le_of_ble_eq_true rfl, Nat.le_of_ble_eq_true rfl⟩ rfl hl.1 rfl (Nat.le_of_ble_eq_true rfl) (dd_at td_X11_serve 56 rfl) ⟨Nat.le_refl 0, Nat.le_refl 0⟩) (fun H locs hM => ?_)
          exact cc_ri Cx hM (dd_at td_X11_serve 57 rfl) hf
        · replace hf := fc_of_f hf c10
          refine lv_ldc (v := (-10000002 : Int32)) Cx.1 Cx.2.1 Cx.2.2.2.2.1 (Cx.2.2.2.2.2.1 _ cw568) (dd_at td_X11_serve 24 rfl) ?_
          exact cc_ri Cx hM (dd_at td_X11_serve 25 rfl) hf
  · replace hf := fc_of_t hf c6
    refine lv_ldc (v := (-10000001 : Int32)) Cx.1 Cx.2.1 Cx.2.2.2.2.1 (Cx.2.2.2.2.2.1 _ cw567) (dd_at td_X11_serve 5 rfl) ?_
    exact cc_ri Cx hM (dd_at td_X11_serve 6 rfl) hf
theorem c_X11_serve (l : Launch) (D : va_G) (X : cc_X) (fu : Nat) (x0 : Nat) (x1 : Int32) (st : cc_S) : cc_Mi l D X yX11_serve cX11_serve 3 (some .int) 5 135 [.ref (cx_a X x0), .int x1] st (C_X11_serve X fu x0 x1 st) := by
  intro r st' hf
  refine cc_enter (cc := cX11_serve) (nL := 3) (ret := some .int) (by decide +kernel) rfl (Nat.le_of_ble_eq_true rfl) ?_
  intro p e s m args below meth c ls Cx hl hM
  exact w_X11_serve Cx fu x0 x1 st hf hl hM

/-! X11_spare -/
def tb_X11_spare : List (Nat × Instr × Nat) := [(0, .aload_n 0, 1), (1, .getfield 12, 3), (4, .iload_n 1, 1), (5, .invokevirtual 94, 3), (8, .ifCond .ne 6, 3), (11, .ldc 98, 2), (13, .ireturn, 1), (14, .aload_n 0, 1), (15, .getfield 12, 3), (18, .getfield 84, 3), (21, .sipush 9999, 3), (24, .if_icmp .lt 6, 3), (27, .ldc 99, 2), (29, .ireturn, 1), (30, .aload_n 0, 1), (31, .getfield 12, 3), (34, .iconst 0, 1), (35, .invokevirtual 100, 3), (38, .ireturn, 1)]
theorem td_X11_spare : tb_X11_spare.all (fun q => decide (decode cX11_spare q.1 = .ok (q.2.1, q.2.2))) = true := by decide +kernel
theorem hd_X11_spare : yX11_spare.cls = RX11 ∧ yX11_spare.cls ≠ "java/lang/invoke/MethodHandle" ∧ yX11_spare.cls ≠ "java/lang/invoke/VarHandle" ∧ (parseMethodDescriptor yX11_spare.desc).map (fun d => d.parameters.length) = some 1 := by decide +kernel
theorem hs_X11_spare : yX11_spare.name ≠ "<init>" ∧ (parseMethodDescriptor yX11_spare.desc).map (fun d => d.parameters.length) = some 1 := by decide +kernel
theorem w_X11_spare {p : Program} {l : Launch} {e : Env} {s : State} {m : MethodId} {args : Array Value} {below : List Frame} {meth : Method} {c : Code} {D : va_G} {X : cc_X} {r : Int32} {st' : cc_S} (Cx : cc_C p s m args meth c cX11_spare 2 (some .int) RX11 D X) (fu : Nat) (x0 : Nat) (x1 : Int32) (st : cc_S) (hf : C_X11_spare X fu x0 x1 st = some (r, st')) {H : Heap} {locs : List Loc} {ls : Array Slot} (hl : lv_has ls 2 [(0, .ref (cx_a X x0)), (1, .int x1)]) (hM : cc_H D X s.heap st H locs) : W p l e (mm_R 2 62) s m args below meth c H locs 0 0 (MQ below (cc_Qi D X r st') args s 0 0 (cc_A X)) (F0 m 0 ls []) := by
  unfold C_X11_spare at hf
  refine lv_aload_n Cx.1 Cx.2.1 (dd_at td_X11_spare 0 rfl) rfl (lv_at hl 0 rfl) ?_
  obtain ⟨g1, hf⟩ := fc_of_gd hf
  refine cc_gO (ci := 13) (C := RX11) (T := TX11) (N := 8) (k := 0) (ref := "EclipsesKept") Cx hM g1 rfl cc_inX11 rfl (by decide) cw498 (fun _ h => h) (dd_at td_X11_spare 1 rfl) rfl ?_
  show W p l e (mm_R 2 62) s m args below meth c H locs 0 0 (MQ below (cc_Qi D X r st') args s 0 0 (cc_A X)) (F0 m 4 ls [.ref (cx_a X 1)])
  refine lv_iload_n Cx.1 Cx.2.1 (dd_at td_X11_spare 2 rfl) rfl (lv_at hl 1 rfl) ?_
  obtain ⟨g2, hf⟩ := fc_of_gd hf
  obtain ⟨r5, st3, hx4, hf⟩ := fc_of_bn hf
  refine cc_ai hM (cc_rV (ci := 9) (As := [.int x1]) (rest := []) (n := 1) Cx hM g2 rfl (c_X7_has l D X fu 1 x1 st r5 st3 hx4) (cc_gdV cw565 cw343 cw344 cw345 cw340) hd_X7_has ⟨Nat.le_of_ble_eq_true rfl, Nat.le_of_ble_eq_true rfl⟩ rfl hl.1 rfl (Nat.le_of_ble_eq_true rfl) (dd_at td_X11_spare 3 rfl) ⟨Nat.le_refl 0, Nat.le_refl 0⟩) (fun H locs hM => ?_)
  refine lv_if_ne (tgt := 14) Cx.1 Cx.2.1 (dd_at td_X11_spare 4 rfl) (by decide) (fun c6 => ?_) (fun c6 => ?_)
  · replace hf := fc_of_f hf c6
    refine lv_aload_n Cx.1 Cx.2.1 (dd_at td_X11_spare 7 rfl) rfl (lv_at hl 0 rfl) ?_
    refine cc_gO (ci := 13) (C := RX11) (T := TX11) (N := 8) (k := 0) (ref := "EclipsesKept") Cx hM g1 rfl cc_inX11 rfl (by decide) cw498 (fun _ h => h) (dd_at td_X11_spare 8 rfl) rfl ?_
    show W p l e (mm_R 2 62) s m args below meth c H locs 0 0 (MQ below (cc_Qi D X r st') args s 0 0 (cc_A X)) (F0 m 18 ls [.ref (cx_a X 1)])
    refine cc_gI (ci := 9) (C := RX7) (T := TX7) (N := 17) (k := 15) (ref := "EclipsesKept$State") Cx hM g2 rfl cc_inX7 rfl (by decide) cw560 (fun _ h => h) (dd_at td_X11_spare 9 rfl) rfl ?_
    refine lv_sipush (v := (9999 : Int32)) Cx.1 Cx.2.1 (dd_at td_X11_spare 10 rfl) (by decide) ?_
    refine lv_icmp_lt (tgt := 30) Cx.1 Cx.2.1 (dd_at td_X11_spare 11 rfl) (by decide) (fun c7 => ?_) (fun c7 => ?_)
    · replace hf := fc_of_t hf c7
      refine lv_aload_n Cx.1 Cx.2.1 (dd_at td_X11_spare 14 rfl) rfl (lv_at hl 0 rfl) ?_
      refine cc_gO (ci := 13) (C := RX11) (T := TX11) (N := 8) (k := 0) (ref := "EclipsesKept") Cx hM g1 rfl cc_inX11 rfl (by decide) cw498 (fun _ h => h) (dd_at td_X11_spare 15 rfl) rfl ?_
      show W p l e (mm_R 2 62) s m args below meth c H locs 0 0 (MQ below (cc_Qi D X r st') args s 0 0 (cc_A X)) (F0 m 34 ls [.ref (cx_a X 1)])
      refine lv_iconst (v := (0 : Int32)) Cx.1 Cx.2.1 (dd_at td_X11_spare 16 rfl) (by decide) ?_
      obtain ⟨r10, st8, hx9, hf⟩ := fc_of_bn hf
      refine cc_ai hM (cc_rV (ci := 9) (As := [.int (0 : Int32)]) (rest := []) (n := 1) Cx hM g2 rfl (c_X7_endYear l D X fu 1 (0 : Int32) st3 r10 st8 hx9) (cc_gdV cw569 cw570 cw571 cw345 cw349) hd_X7_endYear ⟨Nat.le_of_ble_eq_true rfl, Nat.le_of_ble_eq_true rfl⟩ rfl hl.1 rfl (Nat.le_of_ble_eq_true rfl) (dd_at td_X11_spare 17 rfl) ⟨Nat.le_refl 0, Nat.le_refl 0⟩) (fun H locs hM => ?_)
      exact cc_ri Cx hM (dd_at td_X11_spare 18 rfl) hf
    · replace hf := fc_of_f hf c7
      refine lv_ldc (v := (-10000002 : Int32)) Cx.1 Cx.2.1 Cx.2.2.2.2.1 (Cx.2.2.2.2.2.1 _ cw568) (dd_at td_X11_spare 12 rfl) ?_
      exact cc_ri Cx hM (dd_at td_X11_spare 13 rfl) hf
  · replace hf := fc_of_t hf c6
    refine lv_ldc (v := (-10000001 : Int32)) Cx.1 Cx.2.1 Cx.2.2.2.2.1 (Cx.2.2.2.2.2.1 _ cw567) (dd_at td_X11_spare 5 rfl) ?_
    exact cc_ri Cx hM (dd_at td_X11_spare 6 rfl) hf
theorem c_X11_spare (l : Launch) (D : va_G) (X : cc_X) (fu : Nat) (x0 : Nat) (x1 : Int32) (st : cc_S) : cc_Mi l D X yX11_spare cX11_spare 2 (some .int) 2 62 [.ref (cx_a X x0), .int x1] st (C_X11_spare X fu x0 x1 st) := by
  intro r st' hf
  refine cc_enter (cc := cX11_spare) (nL := 2) (ret := some .int) (by decide +kernel) rfl (Nat.le_of_ble_eq_true rfl) ?_
  intro p e s m args below meth c ls Cx hl hM
  exact w_X11_spare Cx fu x0 x1 st hf hl hM

/-! X11_darks -/
def tb_X11_darks : List (Nat × Instr × Nat) := [(0, .iload_n 1, 1), (1, .bipush 8, 2), (3, .invokestatic 54, 3), (6, .ifCond .ne 6, 3), (9, .bipush (-2), 2), (11, .ireturn, 1), (12, .aload_n 0, 1), (13, .getfield 12, 3), (16, .getfield 87, 3), (19, .istore_n 2, 1), (20, .aload_n 0, 1), (21, .getfield 12, 3), (24, .iload_n 1, 1), (25, .putfield 87, 3), (28, .iload_n 2, 1), (29, .ireturn, 1)]
theorem td_X11_darks : tb_X11_darks.all (fun q => decide (decode cX11_darks q.1 = .ok (q.2.1, q.2.2))) = true := by decide +kernel
theorem hd_X11_darks : yX11_darks.cls = RX11 ∧ yX11_darks.cls ≠ "java/lang/invoke/MethodHandle" ∧ yX11_darks.cls ≠ "java/lang/invoke/VarHandle" ∧ (parseMethodDescriptor yX11_darks.desc).map (fun d => d.parameters.length) = some 1 := by decide +kernel
theorem hs_X11_darks : yX11_darks.name ≠ "<init>" ∧ (parseMethodDescriptor yX11_darks.desc).map (fun d => d.parameters.length) = some 1 := by decide +kernel
theorem w_X11_darks {p : Program} {l : Launch} {e : Env} {s : State} {m : MethodId} {args : Array Value} {below : List Frame} {meth : Method} {c : Code} {D : va_G} {X : cc_X} {r : Int32} {st' : cc_S} (Cx : cc_C p s m args meth c cX11_darks 3 (some .int) RX11 D X) (fu : Nat) (x0 : Nat) (x1 : Int32) (st : cc_S) (hf : C_X11_darks X fu x0 x1 st = some (r, st')) {H : Heap} {locs : List Loc} {ls : Array Slot} (hl : lv_has ls 3 [(0, .ref (cx_a X x0)), (1, .int x1)]) (hM : cc_H D X s.heap st H locs) : W p l e (mm_R 1 21) s m args below meth c H locs 0 0 (MQ below (cc_Qi D X r st') args s 0 0 (cc_A X)) (F0 m 0 ls []) := by
  unfold C_X11_darks at hf
  refine lv_iload_n Cx.1 Cx.2.1 (dd_at td_X11_darks 0 rfl) rfl (lv_at hl 1 rfl) ?_
  refine lv_bipush (v := (8 : Int32)) Cx.1 Cx.2.1 (dd_at td_X11_darks 1 rfl) (by decide) ?_
  obtain ⟨r3, st1, hx2, hf⟩ := fc_of_bn hf
  refine cc_ai hM (cc_rS (As := [.int x1, .int (8 : Int32)]) (rest := []) (n := 2) Cx hM (c_X11_isWithin l D X fu x1 (8 : Int32) st r3 st1 hx2) (cc_gdS cw547 cw548 cw549 cw520) hd_X11_isWithin ⟨Nat.le_of_ble_eq_true rfl, Nat.le_of_ble_eq_true rfl⟩ rfl hl.1 rfl (Nat.le_of_ble_eq_true rfl) (dd_at td_X11_darks 2 rfl) ⟨Nat.le_refl 0, Nat.le_refl 0⟩) (fun H locs hM => ?_)
  refine lv_if_ne (tgt := 12) Cx.1 Cx.2.1 (dd_at td_X11_darks 3 rfl) (by decide) (fun c4 => ?_) (fun c4 => ?_)
  · replace hf := fc_of_f hf c4
    refine lv_aload_n Cx.1 Cx.2.1 (dd_at td_X11_darks 6 rfl) rfl (lv_at hl 0 rfl) ?_
    obtain ⟨g5, hf⟩ := fc_of_gd hf
    refine cc_gO (ci := 13) (C := RX11) (T := TX11) (N := 8) (k := 0) (ref := "EclipsesKept") Cx hM g5 rfl cc_inX11 rfl (by decide) cw498 (fun _ h => h) (dd_at td_X11_darks 7 rfl) rfl ?_
    show W p l e (mm_R 1 21) s m args below meth c H locs 0 0 (MQ below (cc_Qi D X r st') args s 0 0 (cc_A X)) (F0 m 16 ls [.ref (cx_a X 1)])
    obtain ⟨g6, hf⟩ := fc_of_gd hf
    refine cc_gI (ci := 9) (C := RX7) (T := TX7) (N := 17) (k := 13) (ref := "EclipsesKept$State") Cx hM g6 rfl cc_inX7 rfl (by decide) cw561 (fun _ h => h) (dd_at td_X11_darks 8 rfl) rfl ?_
    refine lv_topi (fun v7 ev7 => ?_)
    replace hf := fc_of_nm hf v7 ev7
    refine lv_istore_n (lv' := [(2, .int v7), (0, .ref (cx_a X x0)), (1, .int x1)]) Cx.1 Cx.2.1 (dd_at td_X11_darks 9 rfl) rfl hl (by decide) rfl (fun ls hl => ?_)
    refine lv_aload_n Cx.1 Cx.2.1 (dd_at td_X11_darks 10 rfl) rfl (lv_at hl 1 rfl) ?_
    refine cc_gO (ci := 13) (C := RX11) (T := TX11) (N := 8) (k := 0) (ref := "EclipsesKept") Cx hM g5 rfl cc_inX11 rfl (by decide) cw498 (fun _ h => h) (dd_at td_X11_darks 11 rfl) rfl ?_
    show W p l e (mm_R 1 21) s m args below meth c H locs 0 0 (MQ below (cc_Qi D X r st') args s 0 0 (cc_A X)) (F0 m 24 ls [.ref (cx_a X 1)])
    refine lv_iload_n Cx.1 Cx.2.1 (dd_at td_X11_darks 12 rfl) rfl (lv_at hl 2 rfl) ?_
    refine cc_pI (ci := 9) (C := RX7) (T := TX7) (N := 17) (k := 13) (ref := "EclipsesKept$State") (ty0 := tyX7) Cx hM g6 rfl cc_inX7 rfl (by decide) cw561 (fun _ h => h) tyX7_ok nmX7 rfl rfl rfl (dd_at td_X11_darks 13 rfl) rfl (fun st8 H locs est8 hM => ?_)
    replace hf := fc_of_nm hf st8 est8
    refine lv_iload_n Cx.1 Cx.2.1 (dd_at td_X11_darks 14 rfl) rfl (lv_at hl 0 rfl) ?_
    exact cc_ri Cx hM (dd_at td_X11_darks 15 rfl) hf
  · replace hf := fc_of_t hf c4
    refine lv_bipush (v := (-2 : Int32)) Cx.1 Cx.2.1 (dd_at td_X11_darks 4 rfl) (by decide) ?_
    exact cc_ri Cx hM (dd_at td_X11_darks 5 rfl) hf
theorem c_X11_darks (l : Launch) (D : va_G) (X : cc_X) (fu : Nat) (x0 : Nat) (x1 : Int32) (st : cc_S) : cc_Mi l D X yX11_darks cX11_darks 3 (some .int) 1 21 [.ref (cx_a X x0), .int x1] st (C_X11_darks X fu x0 x1 st) := by
  intro r st' hf
  refine cc_enter (cc := cX11_darks) (nL := 3) (ret := some .int) (by decide +kernel) rfl (Nat.le_of_ble_eq_true rfl) ?_
  intro p e s m args below meth c ls Cx hl hM
  exact w_X11_darks Cx fu x0 x1 st hf hl hM

/-! X11_row -/
def tb_X11_row : List (Nat × Instr × Nat) := [(0, .aload_n 0, 1), (1, .getfield 12, 3), (4, .iload_n 1, 1), (5, .invokevirtual 69, 3), (8, .astore 4, 2), (10, .aload 4, 2), (12, .ifnull 11, 3), (15, .iload_n 2, 1), (16, .iconst 3, 1), (17, .invokestatic 54, 3), (20, .ifCond .ne 5, 3), (23, .iconst (-1), 1), (24, .ireturn, 1), (25, .iload_n 3, 1), (26, .bipush 9, 2), (28, .invokestatic 54, 3), (31, .ifCond .ne 6, 3), (34, .bipush (-2), 2), (36, .ireturn, 1), (37, .aload 4, 2), (39, .instanceof 104, 3), (42, .ifCond .ne 6, 3), (45, .bipush (-3), 2), (47, .ireturn, 1), (48, .aload_n 0, 1), (49, .getfield 12, 3), (52, .getfield 106, 3), (55, .iload_n 1, 1), (56, .iconst 4, 1), (57, .imul, 1), (58, .iload_n 2, 1), (59, .iadd, 1), (60, .iaload, 1), (61, .istore 5, 2), (63, .aload_n 0, 1), (64, .getfield 12, 3), (67, .getfield 106, 3), (70, .iload_n 1, 1), (71, .iconst 4, 1), (72, .imul, 1), (73, .iload_n 2, 1), (74, .iadd, 1), (75, .iload_n 3, 1), (76, .iastore, 1), (77, .iload 5, 2), (79, .ireturn, 1)]
theorem td_X11_row : tb_X11_row.all (fun q => decide (decode cX11_row q.1 = .ok (q.2.1, q.2.2))) = true := by decide +kernel
theorem hd_X11_row : yX11_row.cls = RX11 ∧ yX11_row.cls ≠ "java/lang/invoke/MethodHandle" ∧ yX11_row.cls ≠ "java/lang/invoke/VarHandle" ∧ (parseMethodDescriptor yX11_row.desc).map (fun d => d.parameters.length) = some 3 := by decide +kernel
theorem hs_X11_row : yX11_row.name ≠ "<init>" ∧ (parseMethodDescriptor yX11_row.desc).map (fun d => d.parameters.length) = some 3 := by decide +kernel
theorem i_X11_row_104 {p : Program} {l : Launch} {e : Env} {R : Room} {s : State} {m : MethodId} {args : Array Value} {below : List Frame} {meth : Method} {c : Code} {H H0 : Heap} {locs : List Loc} {cells slots : Nat} {Q : State → Prop} {pc : Nat} {ls : Array Slot} {rest : List Value} {D : va_G} {X : cc_X} {st : cc_S} {i : Nat} (Cx : cc_C p s m args meth c cX11_row 6 (some .int) RX11 D X) (hM : cc_H D X H0 st H locs) (hid : cc_go X i [3, 4, 5, 6, 7, 8, 11] = true) (hdg : decode cX11_row pc = .ok (.instanceof 104, 3)) (kk : W p l e R s m args below meth c H locs cells slots Q (F0 m (pc + 3) ls (.int (cc_io (cx_K X i) 11) :: rest))) : W p l e R s m args below meth c H locs cells slots Q (F0 m pc ls (.ref (cx_a X i) :: rest)) := by
  have hc := cc_go_c hid
  simp only [List.mem_cons, List.not_mem_nil, or_false] at hc
  have hown := Cx.2.2.2.2.1
  have hts := Cx.2.2.2.2.2.1
  rcases hc with h | h | h | h | h | h | h
  · have hid := cc_go_1 hid h
    rw [h] at kk
    exact va_instNo (C := RX1) Cx.1 Cx.2.1 hown (hts _ cw531) (Cx.2.2.2.2.2.2.2.2.1.1 ("EclipsesKept$Bird", "EclipsesKept$Told") (List.mem_of_getElem? (i := 3) rfl)) (cc_rcv Cx hM hid rfl) hdg kk
  · have hid := cc_go_1 hid h
    rw [h] at kk
    exact va_instNo (C := RX2) Cx.1 Cx.2.1 hown (hts _ cw531) (Cx.2.2.2.2.2.2.2.2.1.1 ("EclipsesKept$Child", "EclipsesKept$Told") (List.mem_of_getElem? (i := 7) rfl)) (cc_rcv Cx hM hid rfl) hdg kk
  · have hid := cc_go_1 hid h
    rw [h] at kk
    exact va_instNo (C := RX3) Cx.1 Cx.2.1 hown (hts _ cw531) (Cx.2.2.2.2.2.2.2.2.1.1 ("EclipsesKept$Crown", "EclipsesKept$Told") (List.mem_of_getElem? (i := 12) rfl)) (cc_rcv Cx hM hid rfl) hdg kk
  · have hid := cc_go_1 hid h
    rw [h] at kk
    exact va_instNo (C := RX4) Cx.1 Cx.2.1 hown (hts _ cw531) (Cx.2.2.2.2.2.2.2.2.1.1 ("EclipsesKept$Need", "EclipsesKept$Told") (List.mem_of_getElem? (i := 18) rfl)) (cc_rcv Cx hM hid rfl) hdg kk
  · have hid := cc_go_1 hid h
    rw [h] at kk
    exact va_instNo (C := RX5) Cx.1 Cx.2.1 hown (hts _ cw531) (Cx.2.2.2.2.2.2.2.2.1.1 ("EclipsesKept$Photo", "EclipsesKept$Told") (List.mem_of_getElem? (i := 23) rfl)) (cc_rcv Cx hM hid rfl) hdg kk
  · have hid := cc_go_1 hid h
    rw [h] at kk
    exact va_instNo (C := RX6) Cx.1 Cx.2.1 hown (hts _ cw531) (Cx.2.2.2.2.2.2.2.2.1.1 ("EclipsesKept$Siege", "EclipsesKept$Told") (List.mem_of_getElem? (i := 28) rfl)) (cc_rcv Cx hM hid rfl) hdg kk
  · have hid := cc_go_1 hid h
    rw [h] at kk
    exact va_instS Cx.1 Cx.2.1 hown (hts _ cw531) ((Cx.2.2.2.2.2.2.2.1.1 11 _ rfl).2) (cc_rcv Cx hM hid rfl) hdg kk
theorem w_X11_row {p : Program} {l : Launch} {e : Env} {s : State} {m : MethodId} {args : Array Value} {below : List Frame} {meth : Method} {c : Code} {D : va_G} {X : cc_X} {r : Int32} {st' : cc_S} (Cx : cc_C p s m args meth c cX11_row 6 (some .int) RX11 D X) (fu : Nat) (x0 : Nat) (x1 : Int32) (x2 : Int32) (x3 : Int32) (st : cc_S) (hf : C_X11_row X fu x0 x1 x2 x3 st = some (r, st')) {H : Heap} {locs : List Loc} {ls : Array Slot} (hl : lv_has ls 6 [(0, .ref (cx_a X x0)), (1, .int x1), (2, .int x2), (3, .int x3)]) (hM : cc_H D X s.heap st H locs) : W p l e (mm_R 2 42) s m args below meth c H locs 0 0 (MQ below (cc_Qi D X r st') args s 0 0 (cc_A X)) (F0 m 0 ls []) := by
  unfold C_X11_row at hf
  refine lv_aload_n Cx.1 Cx.2.1 (dd_at td_X11_row 0 rfl) rfl (lv_at hl 0 rfl) ?_
  obtain ⟨g1, hf⟩ := fc_of_gd hf
  refine cc_gO (ci := 13) (C := RX11) (T := TX11) (N := 8) (k := 0) (ref := "EclipsesKept") Cx hM g1 rfl cc_inX11 rfl (by decide) cw498 (fun _ h => h) (dd_at td_X11_row 1 rfl) rfl ?_
  show W p l e (mm_R 2 42) s m args below meth c H locs 0 0 (MQ below (cc_Qi D X r st') args s 0 0 (cc_A X)) (F0 m 4 ls [.ref (cx_a X 1)])
  refine lv_iload_n Cx.1 Cx.2.1 (dd_at td_X11_row 2 rfl) rfl (lv_at hl 1 rfl) ?_
  obtain ⟨g2, hf⟩ := fc_of_gd hf
  obtain ⟨r5, st3, hx4, hf⟩ := fc_of_bn hf
  refine cc_aq hM (cc_rV (ci := 9) (As := [.int x1]) (rest := []) (n := 1) Cx hM g2 rfl (c_X7_needOf l D X fu 1 x1 st r5 st3 hx4) (cc_gdV cw562 cw366 cw367 cw345 cw341) hd_X7_needOf ⟨Nat.le_of_ble_eq_true rfl, Nat.le_of_ble_eq_true rfl⟩ rfl hl.1 rfl (Nat.le_of_ble_eq_true rfl) (dd_at td_X11_row 3 rfl) ⟨Nat.le_refl 0, Nat.le_refl 0⟩) (fun H locs hq hM => ?_) (fun y6 H locs hq hM => ?_)
  · replace hf := fc_of_mn hf hq
    refine lv_astoreN (lv' := [(4, .null), (0, .ref (cx_a X x0)), (1, .int x1), (2, .int x2), (3, .int x3)]) Cx.1 Cx.2.1 (dd_at td_X11_row 4 rfl) hl (by decide) rfl (fun ls hl => ?_)
    refine lv_aloadN Cx.1 Cx.2.1 (dd_at td_X11_row 5 rfl) (lv_at hl 0 rfl) ?_
    refine lv_ifnullN (tgt := 23) Cx.1 Cx.2.1 (dd_at td_X11_row 6 rfl) (by decide) ?_
    refine lv_iconst (v := (-1 : Int32)) Cx.1 Cx.2.1 (dd_at td_X11_row 11 rfl) (by decide) ?_
    exact cc_ri Cx hM (dd_at td_X11_row 12 rfl) hf
  · replace hf := fc_of_ms hf hq
    refine lv_astore (lv' := [(4, .ref (cx_a X y6)), (0, .ref (cx_a X x0)), (1, .int x1), (2, .int x2), (3, .int x3)]) Cx.1 Cx.2.1 (dd_at td_X11_row 4 rfl) hl (by decide) rfl (fun ls hl => ?_)
    refine lv_aload Cx.1 Cx.2.1 (dd_at td_X11_row 5 rfl) (lv_at hl 0 rfl) ?_
    refine lv_ifnull Cx.1 Cx.2.1 (dd_at td_X11_row 6 rfl) ?_
    refine lv_iload_n Cx.1 Cx.2.1 (dd_at td_X11_row 7 rfl) rfl (lv_at hl 3 rfl) ?_
    refine lv_iconst (v := (3 : Int32)) Cx.1 Cx.2.1 (dd_at td_X11_row 8 rfl) (by decide) ?_
    obtain ⟨r9, st7, hx8, hf⟩ := fc_of_bn hf
    refine cc_ai hM (cc_rS (As := [.int x2, .int (3 : Int32)]) (rest := []) (n := 2) Cx hM (c_X11_isWithin l D X fu x2 (3 : Int32) st3 r9 st7 hx8) (cc_gdS cw547 cw548 cw549 cw520) hd_X11_isWithin ⟨Nat.le_of_ble_eq_true rfl, Nat.le_of_ble_eq_true rfl⟩ rfl hl.1 rfl (Nat.le_of_ble_eq_true rfl) (dd_at td_X11_row 9 rfl) ⟨Nat.le_refl 0, Nat.le_refl 0⟩) (fun H locs hM => ?_)
    refine lv_if_ne (tgt := 25) Cx.1 Cx.2.1 (dd_at td_X11_row 10 rfl) (by decide) (fun c10 => ?_) (fun c10 => ?_)
    · replace hf := fc_of_f hf c10
      refine lv_iload_n Cx.1 Cx.2.1 (dd_at td_X11_row 13 rfl) rfl (lv_at hl 4 rfl) ?_
      refine lv_bipush (v := (9 : Int32)) Cx.1 Cx.2.1 (dd_at td_X11_row 14 rfl) (by decide) ?_
      obtain ⟨r13, st11, hx12, hf⟩ := fc_of_bn hf
      refine cc_ai hM (cc_rS (As := [.int x3, .int (9 : Int32)]) (rest := []) (n := 2) Cx hM (c_X11_isWithin l D X fu x3 (9 : Int32) st7 r13 st11 hx12) (cc_gdS cw547 cw548 cw549 cw520) hd_X11_isWithin ⟨Nat.le_of_ble_eq_true rfl, Nat.le_of_ble_eq_true rfl⟩ rfl hl.1 rfl (Nat.le_of_ble_eq_true rfl) (dd_at td_X11_row 15 rfl) ⟨Nat.le_refl 0, Nat.le_refl 0⟩) (fun H locs hM => ?_)
      refine lv_if_ne (tgt := 37) Cx.1 Cx.2.1 (dd_at td_X11_row 16 rfl) (by decide) (fun c14 => ?_) (fun c14 => ?_)
      · replace hf := fc_of_f hf c14
        refine lv_aload Cx.1 Cx.2.1 (dd_at td_X11_row 19 rfl) (lv_at hl 0 rfl) ?_
        obtain ⟨g15, hf⟩ := fc_of_gd hf
        refine i_X11_row_104 Cx hM g15 (dd_at td_X11_row 20 rfl) ?_
        refine lv_if_ne (tgt := 48) Cx.1 Cx.2.1 (dd_at td_X11_row 21 rfl) (by decide) (fun c16 => ?_) (fun c16 => ?_)
        · replace hf := fc_of_f hf c16
          refine lv_aload_n Cx.1 Cx.2.1 (dd_at td_X11_row 24 rfl) rfl (lv_at hl 1 rfl) ?_
          refine cc_gO (ci := 13) (C := RX11) (T := TX11) (N := 8) (k := 0) (ref := "EclipsesKept") Cx hM g1 rfl cc_inX11 rfl (by decide) cw498 (fun _ h => h) (dd_at td_X11_row 25 rfl) rfl ?_
          show W p l e (mm_R 2 42) s m args below meth c H locs 0 0 (MQ below (cc_Qi D X r st') args s 0 0 (cc_A X)) (F0 m 52 ls [.ref (cx_a X 1)])
          refine cc_gA (ci := 9) (C := RX7) (T := TX7) (N := 17) (k := 2) (ref := "EclipsesKept$State") Cx hM g2 rfl cc_inX7 rfl (by decide) cw577 (fun _ h => h) (dd_at td_X11_row 26 rfl) rfl ?_
          refine lv_iload_n Cx.1 Cx.2.1 (dd_at td_X11_row 27 rfl) rfl (lv_at hl 2 rfl) ?_
          refine lv_iconst (v := (4 : Int32)) Cx.1 Cx.2.1 (dd_at td_X11_row 28 rfl) (by decide) ?_
          refine lv_imul Cx.1 Cx.2.1 (dd_at td_X11_row 29 rfl) ?_
          refine lv_iload_n Cx.1 Cx.2.1 (dd_at td_X11_row 30 rfl) rfl (lv_at hl 3 rfl) ?_
          refine lv_iadd Cx.1 Cx.2.1 (dd_at td_X11_row 31 rfl) ?_
          obtain ⟨g17, hf⟩ := fc_of_gd hf
          refine cc_iald Cx hM g17 (dd_at td_X11_row 32 rfl) ?_
          refine lv_topi (fun v18 ev18 => ?_)
          replace hf := fc_of_nm hf v18 ev18
          refine lv_istore (lv' := [(5, .int v18), (4, .ref (cx_a X y6)), (0, .ref (cx_a X x0)), (1, .int x1), (2, .int x2), (3, .int x3)]) Cx.1 Cx.2.1 (dd_at td_X11_row 33 rfl) hl (by decide) rfl (fun ls hl => ?_)
          refine lv_aload_n Cx.1 Cx.2.1 (dd_at td_X11_row 34 rfl) rfl (lv_at hl 2 rfl) ?_
          refine cc_gO (ci := 13) (C := RX11) (T := TX11) (N := 8) (k := 0) (ref := "EclipsesKept") Cx hM g1 rfl cc_inX11 rfl (by decide) cw498 (fun _ h => h) (dd_at td_X11_row 35 rfl) rfl ?_
          show W p l e (mm_R 2 42) s m args below meth c H locs 0 0 (MQ below (cc_Qi D X r st') args s 0 0 (cc_A X)) (F0 m 67 ls [.ref (cx_a X 1)])
          refine cc_gA (ci := 9) (C := RX7) (T := TX7) (N := 17) (k := 2) (ref := "EclipsesKept$State") Cx hM g2 rfl cc_inX7 rfl (by decide) cw577 (fun _ h => h) (dd_at td_X11_row 36 rfl) rfl ?_
          refine lv_iload_n Cx.1 Cx.2.1 (dd_at td_X11_row 37 rfl) rfl (lv_at hl 3 rfl) ?_
          refine lv_iconst (v := (4 : Int32)) Cx.1 Cx.2.1 (dd_at td_X11_row 38 rfl) (by decide) ?_
          refine lv_imul Cx.1 Cx.2.1 (dd_at td_X11_row 39 rfl) ?_
          refine lv_iload_n Cx.1 Cx.2.1 (dd_at td_X11_row 40 rfl) rfl (lv_at hl 4 rfl) ?_
          refine lv_iadd Cx.1 Cx.2.1 (dd_at td_X11_row 41 rfl) ?_
          refine lv_iload_n Cx.1 Cx.2.1 (dd_at td_X11_row 42 rfl) rfl (lv_at hl 5 rfl) ?_
          obtain ⟨g19, hf⟩ := fc_of_gd hf
          refine cc_iast Cx hM g19 (dd_at td_X11_row 43 rfl) (fun st20 H locs est20 hM => ?_)
          replace hf := fc_of_nm hf st20 est20
          refine lv_iload Cx.1 Cx.2.1 (dd_at td_X11_row 44 rfl) (lv_at hl 0 rfl) ?_
          exact cc_ri Cx hM (dd_at td_X11_row 45 rfl) hf
        · replace hf := fc_of_t hf c16
          refine lv_bipush (v := (-3 : Int32)) Cx.1 Cx.2.1 (dd_at td_X11_row 22 rfl) (by decide) ?_
          exact cc_ri Cx hM (dd_at td_X11_row 23 rfl) hf
      · replace hf := fc_of_t hf c14
        refine lv_bipush (v := (-2 : Int32)) Cx.1 Cx.2.1 (dd_at td_X11_row 17 rfl) (by decide) ?_
        exact cc_ri Cx hM (dd_at td_X11_row 18 rfl) hf
    · replace hf := fc_of_t hf c10
      refine lv_iconst (v := (-1 : Int32)) Cx.1 Cx.2.1 (dd_at td_X11_row 11 rfl) (by decide) ?_
      exact cc_ri Cx hM (dd_at td_X11_row 12 rfl) hf
theorem c_X11_row (l : Launch) (D : va_G) (X : cc_X) (fu : Nat) (x0 : Nat) (x1 : Int32) (x2 : Int32) (x3 : Int32) (st : cc_S) : cc_Mi l D X yX11_row cX11_row 6 (some .int) 2 42 [.ref (cx_a X x0), .int x1, .int x2, .int x3] st (C_X11_row X fu x0 x1 x2 x3 st) := by
  intro r st' hf
  refine cc_enter (cc := cX11_row) (nL := 6) (ret := some .int) (by decide +kernel) rfl (Nat.le_of_ble_eq_true rfl) ?_
  intro p e s m args below meth c ls Cx hl hM
  exact w_X11_row Cx fu x0 x1 x2 x3 st hf hl hM

/-! X11_told -/
def tb_X11_told : List (Nat × Instr × Nat) := [(0, .iload_n 1, 1), (1, .tableswitch 63 0 3 #[31, 39, 47, 55], 31), (32, .aload_n 0, 1), (33, .getfield 12, 3), (36, .getfield 84, 3), (39, .ireturn, 1), (40, .aload_n 0, 1), (41, .getfield 12, 3), (44, .getfield 87, 3), (47, .ireturn, 1), (48, .aload_n 0, 1), (49, .getfield 12, 3), (52, .getfield 141, 3), (55, .ireturn, 1), (56, .aload_n 0, 1), (57, .getfield 12, 3), (60, .invokevirtual 144, 3), (63, .ireturn, 1), (64, .ldc 98, 2), (66, .ireturn, 1)]
theorem td_X11_told : tb_X11_told.all (fun q => decide (decode cX11_told q.1 = .ok (q.2.1, q.2.2))) = true := by decide +kernel
theorem hd_X11_told : yX11_told.cls = RX11 ∧ yX11_told.cls ≠ "java/lang/invoke/MethodHandle" ∧ yX11_told.cls ≠ "java/lang/invoke/VarHandle" ∧ (parseMethodDescriptor yX11_told.desc).map (fun d => d.parameters.length) = some 1 := by decide +kernel
theorem hs_X11_told : yX11_told.name ≠ "<init>" ∧ (parseMethodDescriptor yX11_told.desc).map (fun d => d.parameters.length) = some 1 := by decide +kernel
theorem w_X11_told {p : Program} {l : Launch} {e : Env} {s : State} {m : MethodId} {args : Array Value} {below : List Frame} {meth : Method} {c : Code} {D : va_G} {X : cc_X} {r : Int32} {st' : cc_S} (Cx : cc_C p s m args meth c cX11_told 2 (some .int) RX11 D X) (fu : Nat) (x0 : Nat) (x1 : Int32) (st : cc_S) (hf : C_X11_told X fu x0 x1 st = some (r, st')) {H : Heap} {locs : List Loc} {ls : Array Slot} (hl : lv_has ls 2 [(0, .ref (cx_a X x0)), (1, .int x1)]) (hM : cc_H D X s.heap st H locs) : W p l e (mm_R 1 20) s m args below meth c H locs 0 0 (MQ below (cc_Qi D X r st') args s 0 0 (cc_A X)) (F0 m 0 ls []) := by
  unfold C_X11_told at hf
  refine lv_iload_n Cx.1 Cx.2.1 (dd_at td_X11_told 0 rfl) rfl (lv_at hl 1 rfl) ?_
  by_cases c1 : x1 = (0 : Int32)
  · replace hf := fc_of_t hf c1
    refine lv_tableIn (off := 31) (tgt := 32) Cx.1 Cx.2.1 (dd_at td_X11_told 1 rfl) (by rw [c1]; decide) (by rw [c1]; decide) (by rw [c1]; decide) (by decide) ?_
    refine lv_aload_n Cx.1 Cx.2.1 (dd_at td_X11_told 2 rfl) rfl (lv_at hl 0 rfl) ?_
    obtain ⟨g2, hf⟩ := fc_of_gd hf
    refine cc_gO (ci := 13) (C := RX11) (T := TX11) (N := 8) (k := 0) (ref := "EclipsesKept") Cx hM g2 rfl cc_inX11 rfl (by decide) cw498 (fun _ h => h) (dd_at td_X11_told 3 rfl) rfl ?_
    show W p l e (mm_R 1 20) s m args below meth c H locs 0 0 (MQ below (cc_Qi D X r st') args s 0 0 (cc_A X)) (F0 m 36 ls [.ref (cx_a X 1)])
    obtain ⟨g3, hf⟩ := fc_of_gd hf
    refine cc_gI (ci := 9) (C := RX7) (T := TX7) (N := 17) (k := 15) (ref := "EclipsesKept$State") Cx hM g3 rfl cc_inX7 rfl (by decide) cw560 (fun _ h => h) (dd_at td_X11_told 4 rfl) rfl ?_
    exact cc_ri Cx hM (dd_at td_X11_told 5 rfl) hf
  · replace hf := fc_of_f hf c1
    by_cases c4 : x1 = (1 : Int32)
    · replace hf := fc_of_t hf c4
      refine lv_tableIn (off := 39) (tgt := 40) Cx.1 Cx.2.1 (dd_at td_X11_told 1 rfl) (by rw [c4]; decide) (by rw [c4]; decide) (by rw [c4]; decide) (by decide) ?_
      refine lv_aload_n Cx.1 Cx.2.1 (dd_at td_X11_told 6 rfl) rfl (lv_at hl 0 rfl) ?_
      obtain ⟨g5, hf⟩ := fc_of_gd hf
      refine cc_gO (ci := 13) (C := RX11) (T := TX11) (N := 8) (k := 0) (ref := "EclipsesKept") Cx hM g5 rfl cc_inX11 rfl (by decide) cw498 (fun _ h => h) (dd_at td_X11_told 7 rfl) rfl ?_
      show W p l e (mm_R 1 20) s m args below meth c H locs 0 0 (MQ below (cc_Qi D X r st') args s 0 0 (cc_A X)) (F0 m 44 ls [.ref (cx_a X 1)])
      obtain ⟨g6, hf⟩ := fc_of_gd hf
      refine cc_gI (ci := 9) (C := RX7) (T := TX7) (N := 17) (k := 13) (ref := "EclipsesKept$State") Cx hM g6 rfl cc_inX7 rfl (by decide) cw561 (fun _ h => h) (dd_at td_X11_told 8 rfl) rfl ?_
      exact cc_ri Cx hM (dd_at td_X11_told 9 rfl) hf
    · replace hf := fc_of_f hf c4
      by_cases c7 : x1 = (2 : Int32)
      · replace hf := fc_of_t hf c7
        refine lv_tableIn (off := 47) (tgt := 48) Cx.1 Cx.2.1 (dd_at td_X11_told 1 rfl) (by rw [c7]; decide) (by rw [c7]; decide) (by rw [c7]; decide) (by decide) ?_
        refine lv_aload_n Cx.1 Cx.2.1 (dd_at td_X11_told 10 rfl) rfl (lv_at hl 0 rfl) ?_
        obtain ⟨g8, hf⟩ := fc_of_gd hf
        refine cc_gO (ci := 13) (C := RX11) (T := TX11) (N := 8) (k := 0) (ref := "EclipsesKept") Cx hM g8 rfl cc_inX11 rfl (by decide) cw498 (fun _ h => h) (dd_at td_X11_told 11 rfl) rfl ?_
        show W p l e (mm_R 1 20) s m args below meth c H locs 0 0 (MQ below (cc_Qi D X r st') args s 0 0 (cc_A X)) (F0 m 52 ls [.ref (cx_a X 1)])
        obtain ⟨g9, hf⟩ := fc_of_gd hf
        refine cc_gI (ci := 9) (C := RX7) (T := TX7) (N := 17) (k := 14) (ref := "EclipsesKept$State") Cx hM g9 rfl cc_inX7 rfl (by decide) cw737 (fun _ h => h) (dd_at td_X11_told 12 rfl) rfl ?_
        exact cc_ri Cx hM (dd_at td_X11_told 13 rfl) hf
      · replace hf := fc_of_f hf c7
        by_cases c10 : x1 = (3 : Int32)
        · replace hf := fc_of_t hf c10
          refine lv_tableIn (off := 55) (tgt := 56) Cx.1 Cx.2.1 (dd_at td_X11_told 1 rfl) (by rw [c10]; decide) (by rw [c10]; decide) (by rw [c10]; decide) (by decide) ?_
          refine lv_aload_n Cx.1 Cx.2.1 (dd_at td_X11_told 14 rfl) rfl (lv_at hl 0 rfl) ?_
          obtain ⟨g11, hf⟩ := fc_of_gd hf
          refine cc_gO (ci := 13) (C := RX11) (T := TX11) (N := 8) (k := 0) (ref := "EclipsesKept") Cx hM g11 rfl cc_inX11 rfl (by decide) cw498 (fun _ h => h) (dd_at td_X11_told 15 rfl) rfl ?_
          show W p l e (mm_R 1 20) s m args below meth c H locs 0 0 (MQ below (cc_Qi D X r st') args s 0 0 (cc_A X)) (F0 m 60 ls [.ref (cx_a X 1)])
          obtain ⟨g12, hf⟩ := fc_of_gd hf
          obtain ⟨r15, st13, hx14, hf⟩ := fc_of_bn hf
          refine cc_ai hM (cc_rV (ci := 9) (As := []) (rest := []) (n := 0) Cx hM g12 rfl (c_X7_keepCost l D X fu 1 st r15 st13 hx14) (cc_gdV cw738 cw355 cw356 cw345 cw347) hd_X7_keepCost ⟨Nat.le_of_ble_eq_true rfl, Nat.le_of_ble_eq_true rfl⟩ rfl hl.1 rfl (Nat.le_of_ble_eq_true rfl) (dd_at td_X11_told 16 rfl) ⟨Nat.le_refl 0, Nat.le_refl 0⟩) (fun H locs hM => ?_)
          exact cc_ri Cx hM (dd_at td_X11_told 17 rfl) hf
        · replace hf := fc_of_f hf c10
          refine lv_tableOut (tgt := 64) Cx.1 Cx.2.1 (dd_at td_X11_told 1 rfl) (by have q0 := lv_neT c1 (a := 0) (by decide); have q1 := lv_neT c4 (a := 1) (by decide); have q2 := lv_neT c7 (a := 2) (by decide); have q3 := lv_neT c10 (a := 3) (by decide); omega) (by decide) ?_
          refine lv_ldc (v := (-10000001 : Int32)) Cx.1 Cx.2.1 Cx.2.2.2.2.1 (Cx.2.2.2.2.2.1 _ cw567) (dd_at td_X11_told 18 rfl) ?_
          exact cc_ri Cx hM (dd_at td_X11_told 19 rfl) hf
theorem c_X11_told (l : Launch) (D : va_G) (X : cc_X) (fu : Nat) (x0 : Nat) (x1 : Int32) (st : cc_S) : cc_Mi l D X yX11_told cX11_told 2 (some .int) 1 20 [.ref (cx_a X x0), .int x1] st (C_X11_told X fu x0 x1 st) := by
  intro r st' hf
  refine cc_enter (cc := cX11_told) (nL := 2) (ret := some .int) (by decide +kernel) rfl (Nat.le_of_ble_eq_true rfl) ?_
  intro p e s m args below meth c ls Cx hl hM
  exact w_X11_told Cx fu x0 x1 st hf hl hM

/-! X11_commonOf -/
def tb_X11_commonOf : List (Nat × Instr × Nat) := [(0, .lload_n 0, 1), (1, .lstore 4, 2), (3, .lload_n 2, 1), (4, .lstore 6, 2), (6, .iconst 0, 1), (7, .istore 8, 2), (9, .iload 8, 2), (11, .sipush 1000, 3), (14, .if_icmp .ge 31, 3), (17, .lload 6, 2), (19, .lconst 0, 1), (20, .lcmp, 1), (21, .ifCond .eq 24, 3), (24, .lload 4, 2), (26, .lload 6, 2), (28, .lrem, 1), (29, .lstore 9, 2), (31, .lload 6, 2), (33, .lstore 4, 2), (35, .lload 9, 2), (37, .lstore 6, 2), (39, .iinc 8 1, 3), (42, .goto (-33), 3), (45, .lload 4, 2), (47, .lreturn, 1)]
theorem td_X11_commonOf : tb_X11_commonOf.all (fun q => decide (decode cX11_commonOf q.1 = .ok (q.2.1, q.2.2))) = true := by decide +kernel
theorem hd_X11_commonOf : yX11_commonOf.cls ≠ "java/lang/invoke/MethodHandle" ∧ yX11_commonOf.cls ≠ "java/lang/invoke/VarHandle" ∧ (parseMethodDescriptor yX11_commonOf.desc).map (fun d => d.parameters.length) = some 2 := by decide +kernel
theorem w_X11_commonOf_b9F {p : Program} {l : Launch} {e : Env} {s : State} {m : MethodId} {args : Array Value} {below : List Frame} {meth : Method} {c : Code} {D : va_G} {X : cc_X} {r : Int64} {st' : cc_S} (Cx : cc_C p s m args meth c cX11_commonOf 11 (some .long) RX11 D X) (fu : Nat) (K9 : Int64 → Int64 → Int32 → cc_S → Option (Int64 × cc_S)) (hK9 : ∀ (x4 : Int64) (x6 : Int64) (x8 : Int32) (st : cc_S) (H : Heap) (locs : List Loc) (ls : Array Slot), K9 x4 x6 x8 st = some (r, st') → lv_has ls 11 [(4, .long x4), (6, .long x6), (8, .int x8)] → cc_H D X s.heap st H locs → W p l e (mm_R 0 0) s m args below meth c H locs 0 0 (MQ below (cc_Ql D X r st') args s 0 0 (cc_A X)) (F0 m 9 ls [])) (x4 : Int64) (x6 : Int64) (x8 : Int32) (st : cc_S) (hf : C_X11_commonOf_b9F X fu K9 x4 x6 x8 st = some (r, st')) {H : Heap} {locs : List Loc} {ls : Array Slot} (hl : lv_has ls 11 [(4, .long x4), (6, .long x6), (8, .int x8)]) (hM : cc_H D X s.heap st H locs) : W p l e (mm_R 0 0) s m args below meth c H locs 0 0 (MQ below (cc_Ql D X r st') args s 0 0 (cc_A X)) (F0 m 9 ls []) := by
  unfold C_X11_commonOf_b9F at hf
  refine lv_iload Cx.1 Cx.2.1 (dd_at td_X11_commonOf 6 rfl) (lv_at hl 2 rfl) ?_
  refine lv_sipush (v := (1000 : Int32)) Cx.1 Cx.2.1 (dd_at td_X11_commonOf 7 rfl) (by decide) ?_
  refine lv_icmp_ge (tgt := 45) Cx.1 Cx.2.1 (dd_at td_X11_commonOf 8 rfl) (by decide) (fun c1 => ?_) (fun c1 => ?_)
  · replace hf := fc_of_t hf c1
    refine lv_lload Cx.1 Cx.2.1 (dd_at td_X11_commonOf 23 rfl) (lv_at hl 0 rfl) ?_
    exact cc_rl Cx hM (dd_at td_X11_commonOf 24 rfl) hf
  · replace hf := fc_of_f hf c1
    refine lv_lload Cx.1 Cx.2.1 (dd_at td_X11_commonOf 9 rfl) (lv_at hl 1 rfl) ?_
    refine lv_lconst (v := (0 : Int64)) Cx.1 Cx.2.1 (dd_at td_X11_commonOf 10 rfl) (by decide) ?_
    refine W.lcmp Cx.1 Cx.2.1 (dd_at td_X11_commonOf 11 rfl) ?_
    refine lv_if_eq (tgt := 45) Cx.1 Cx.2.1 (dd_at td_X11_commonOf 12 rfl) (by decide) (fun c2 => ?_) (fun c2 => ?_)
    · replace hf := fc_of_t hf c2
      refine lv_lload Cx.1 Cx.2.1 (dd_at td_X11_commonOf 23 rfl) (lv_at hl 0 rfl) ?_
      exact cc_rl Cx hM (dd_at td_X11_commonOf 24 rfl) hf
    · replace hf := fc_of_f hf c2
      refine lv_lload Cx.1 Cx.2.1 (dd_at td_X11_commonOf 13 rfl) (lv_at hl 0 rfl) ?_
      refine lv_lload Cx.1 Cx.2.1 (dd_at td_X11_commonOf 14 rfl) (lv_at hl 1 rfl) ?_
      obtain ⟨g3, hf⟩ := fc_of_gd hf
      refine lv_lrem Cx.1 Cx.2.1 (dd_at td_X11_commonOf 15 rfl) (fc_of_nzl g3) ?_
      refine lv_topl (fun v4 ev4 => ?_)
      replace hf := fc_of_nm hf v4 ev4
      refine lv_lstore (lv' := [(9, .long v4), (4, .long x4), (6, .long x6), (8, .int x8)]) Cx.1 Cx.2.1 (dd_at td_X11_commonOf 16 rfl) hl (by decide) rfl (fun ls hl => ?_)
      refine lv_lload Cx.1 Cx.2.1 (dd_at td_X11_commonOf 17 rfl) (lv_at hl 2 rfl) ?_
      refine lv_lstore (lv' := [(4, .long x6), (9, .long v4), (6, .long x6), (8, .int x8)]) Cx.1 Cx.2.1 (dd_at td_X11_commonOf 18 rfl) hl (by decide) rfl (fun ls hl => ?_)
      refine lv_lload Cx.1 Cx.2.1 (dd_at td_X11_commonOf 19 rfl) (lv_at hl 1 rfl) ?_
      refine lv_lstore (lv' := [(6, .long v4), (4, .long x6), (9, .long v4), (8, .int x8)]) Cx.1 Cx.2.1 (dd_at td_X11_commonOf 20 rfl) hl (by decide) rfl (fun ls hl => ?_)
      obtain ⟨v5, ev5⟩ : ∃ y : Int32, y = x8 + (1 : Int32) := ⟨_, rfl⟩
      replace hf := fc_of_nm hf v5 ev5
      refine lv_iinc (v := v5) (lv' := [(8, .int v5), (6, .long v4), (4, .long x6), (9, .long v4)]) Cx.1 Cx.2.1 (dd_at td_X11_commonOf 21 rfl) hl (k := 3) rfl (by rw [ev5]; rfl) (by decide) rfl (fun ls hl => ?_)
      refine lv_goto (tgt := 9) Cx.1 Cx.2.1 (dd_at td_X11_commonOf 22 rfl) (by decide) ?_
      exact hK9 x6 v4 v5 st _ _ _ hf (lv_sub hl [2, 1, 0] rfl) hM
theorem w_X11_commonOf_b9 {p : Program} {l : Launch} {e : Env} {s : State} {m : MethodId} {args : Array Value} {below : List Frame} {meth : Method} {c : Code} {D : va_G} {X : cc_X} {r : Int64} {st' : cc_S} (Cx : cc_C p s m args meth c cX11_commonOf 11 (some .long) RX11 D X) (fu : Nat) (n : Nat) : ∀ (x4 : Int64) (x6 : Int64) (x8 : Int32) (st : cc_S), C_X11_commonOf_b9 X fu n x4 x6 x8 st = some (r, st') → ∀ (H : Heap) (locs : List Loc) (ls : Array Slot), lv_has ls 11 [(4, .long x4), (6, .long x6), (8, .int x8)] → cc_H D X s.heap st H locs → W p l e (mm_R 0 0) s m args below meth c H locs 0 0 (MQ below (cc_Ql D X r st') args s 0 0 (cc_A X)) (F0 m 9 ls []) := by
  induction n with
  | zero => exact fun _ _ _ _ hf => fc_no hf
  | succ n ih =>
    intro x4 x6 x8 st hf H locs ls hl hM
    exact w_X11_commonOf_b9F Cx fu (fun x4 x6 x8 st => C_X11_commonOf_b9 X fu n x4 x6 x8 st) (fun x4 x6 x8 st H locs ls hf hl hM => ih x4 x6 x8 st hf H locs ls hl hM) x4 x6 x8 st hf hl hM
theorem w_X11_commonOf {p : Program} {l : Launch} {e : Env} {s : State} {m : MethodId} {args : Array Value} {below : List Frame} {meth : Method} {c : Code} {D : va_G} {X : cc_X} {r : Int64} {st' : cc_S} (Cx : cc_C p s m args meth c cX11_commonOf 11 (some .long) RX11 D X) (fu : Nat) (x0 : Int64) (x2 : Int64) (st : cc_S) (hf : C_X11_commonOf X fu x0 x2 st = some (r, st')) {H : Heap} {locs : List Loc} {ls : Array Slot} (hl : lv_has ls 11 [(0, .long x0), (2, .long x2)]) (hM : cc_H D X s.heap st H locs) : W p l e (mm_R 0 0) s m args below meth c H locs 0 0 (MQ below (cc_Ql D X r st') args s 0 0 (cc_A X)) (F0 m 0 ls []) := by
  unfold C_X11_commonOf at hf
  refine lv_lload_n Cx.1 Cx.2.1 (dd_at td_X11_commonOf 0 rfl) rfl (lv_at hl 0 rfl) ?_
  refine lv_lstore (lv' := [(4, .long x0), (0, .long x0), (2, .long x2)]) Cx.1 Cx.2.1 (dd_at td_X11_commonOf 1 rfl) hl (by decide) rfl (fun ls hl => ?_)
  refine lv_lload_n Cx.1 Cx.2.1 (dd_at td_X11_commonOf 2 rfl) rfl (lv_at hl 2 rfl) ?_
  refine lv_lstore (lv' := [(6, .long x2), (4, .long x0), (0, .long x0), (2, .long x2)]) Cx.1 Cx.2.1 (dd_at td_X11_commonOf 3 rfl) hl (by decide) rfl (fun ls hl => ?_)
  refine lv_iconst (v := (0 : Int32)) Cx.1 Cx.2.1 (dd_at td_X11_commonOf 4 rfl) (by decide) ?_
  refine lv_istore (lv' := [(8, .int (0 : Int32)), (6, .long x2), (4, .long x0), (0, .long x0), (2, .long x2)]) Cx.1 Cx.2.1 (dd_at td_X11_commonOf 5 rfl) hl (by decide) rfl (fun ls hl => ?_)
  exact w_X11_commonOf_b9 Cx fu fu x0 x2 (0 : Int32) st hf _ _ _ (lv_sub hl [2, 1, 0] rfl) hM
theorem c_X11_commonOf (l : Launch) (D : va_G) (X : cc_X) (fu : Nat) (x0 : Int64) (x2 : Int64) (st : cc_S) : cc_Ml l D X yX11_commonOf cX11_commonOf 11 (some .long) 0 0 [.long x0, .long x2] st (C_X11_commonOf X fu x0 x2 st) := by
  intro r st' hf
  refine cc_enter (cc := cX11_commonOf) (nL := 11) (ret := some .long) (by decide +kernel) rfl (Nat.le_of_ble_eq_true rfl) ?_
  intro p e s m args below meth c ls Cx hl hM
  exact w_X11_commonOf Cx fu x0 x2 st hf hl hM

/-! X11_fraction -/
def tb_X11_fraction : List (Nat × Instr × Nat) := [(0, .lconst 1, 1), (1, .lload_n 0, 1), (2, .invokestatic 302, 3), (5, .lload_n 2, 1), (6, .invokestatic 307, 3), (9, .invokestatic 311, 3), (12, .lstore 5, 2), (14, .iload 4, 2), (16, .ifCond .ne 10, 3), (19, .lload_n 0, 1), (20, .lload 5, 2), (22, .ldiv, 1), (23, .goto 7, 3), (26, .lload_n 2, 1), (27, .lload 5, 2), (29, .ldiv, 1), (30, .lreturn, 1)]
theorem td_X11_fraction : tb_X11_fraction.all (fun q => decide (decode cX11_fraction q.1 = .ok (q.2.1, q.2.2))) = true := by decide +kernel
theorem hd_X11_fraction : yX11_fraction.cls ≠ "java/lang/invoke/MethodHandle" ∧ yX11_fraction.cls ≠ "java/lang/invoke/VarHandle" ∧ (parseMethodDescriptor yX11_fraction.desc).map (fun d => d.parameters.length) = some 3 := by decide +kernel
theorem w_X11_fraction {p : Program} {l : Launch} {e : Env} {s : State} {m : MethodId} {args : Array Value} {below : List Frame} {meth : Method} {c : Code} {D : va_G} {X : cc_X} {r : Int64} {st' : cc_S} (Cx : cc_C p s m args meth c cX11_fraction 7 (some .long) RX11 D X) (fu : Nat) (x0 : Int64) (x2 : Int64) (x4 : Int32) (st : cc_S) (hf : C_X11_fraction X fu x0 x2 x4 st = some (r, st')) {H : Heap} {locs : List Loc} {ls : Array Slot} (hl : lv_has ls 7 [(0, .long x0), (2, .long x2), (4, .int x4)]) (hM : cc_H D X s.heap st H locs) : W p l e (mm_R 1 40) s m args below meth c H locs 0 0 (MQ below (cc_Ql D X r st') args s 0 0 (cc_A X)) (F0 m 0 ls []) := by
  unfold C_X11_fraction at hf
  refine lv_lconst (v := (1 : Int64)) Cx.1 Cx.2.1 (dd_at td_X11_fraction 0 rfl) (by decide) ?_
  refine lv_lload_n Cx.1 Cx.2.1 (dd_at td_X11_fraction 1 rfl) rfl (lv_at hl 0 rfl) ?_
  refine va_mabs_long Cx.1 Cx.2.1 (Cx.2.2.2.1.trans hl.1.symm) Cx.2.2.2.2.1 (Cx.2.2.2.2.2.1 _ cw742) (Cx.2.2.2.2.2.1 _ cw743) (Cx.2.2.2.2.2.1 _ cw373) (Cx.2.2.2.2.2.1 _ cw744) (Nat.le_of_ble_eq_true rfl) (Nat.le_of_ble_eq_true rfl) (Nat.le_refl 0) (Nat.le_refl 0) (dd_at td_X11_fraction 2 rfl) ?_
  refine lv_lload_n Cx.1 Cx.2.1 (dd_at td_X11_fraction 3 rfl) rfl (lv_at hl 1 rfl) ?_
  obtain ⟨r3, st1, hx2, hf⟩ := fc_of_bn hf
  refine cc_all hM (cc_rS (As := [.long (if 0 < x0 then x0 else -x0), .long x2]) (rest := [.long (1 : Int64)]) (n := 2) Cx hM (c_X11_commonOf l D X fu (if 0 < x0 then x0 else -x0) x2 st r3 st1 hx2) (cc_gdS cw746 cw747 cw549 cw740) hd_X11_commonOf ⟨Nat.le_of_ble_eq_true rfl, Nat.le_of_ble_eq_true rfl⟩ rfl hl.1 rfl (Nat.le_of_ble_eq_true rfl) (dd_at td_X11_fraction 4 rfl) ⟨Nat.le_refl 0, Nat.le_refl 0⟩) (fun H locs hM => ?_)
  refine va_mmax_long Cx.1 Cx.2.1 (Cx.2.2.2.1.trans hl.1.symm) Cx.2.2.2.2.1 (Cx.2.2.2.2.2.1 _ cw745) (Cx.2.2.2.2.2.1 _ cw459) (Cx.2.2.2.2.2.1 _ cw373) (Cx.2.2.2.2.2.1 _ cw460) (Nat.le_of_ble_eq_true rfl) (Nat.le_of_ble_eq_true rfl) (Nat.le_refl 0) (Nat.le_refl 0) (dd_at td_X11_fraction 5 rfl) ?_
  refine lv_topl (fun v4 ev4 => ?_)
  replace hf := fc_of_nm hf v4 ev4
  refine lv_lstore (lv' := [(5, .long v4), (0, .long x0), (2, .long x2), (4, .int x4)]) Cx.1 Cx.2.1 (dd_at td_X11_fraction 6 rfl) hl (by decide) rfl (fun ls hl => ?_)
  refine lv_iload Cx.1 Cx.2.1 (dd_at td_X11_fraction 7 rfl) (lv_at hl 3 rfl) ?_
  refine lv_if_ne (tgt := 26) Cx.1 Cx.2.1 (dd_at td_X11_fraction 8 rfl) (by decide) (fun c5 => ?_) (fun c5 => ?_)
  · replace hf := fc_of_f hf c5
    refine lv_lload_n Cx.1 Cx.2.1 (dd_at td_X11_fraction 13 rfl) rfl (lv_at hl 2 rfl) ?_
    refine lv_lload Cx.1 Cx.2.1 (dd_at td_X11_fraction 14 rfl) (lv_at hl 0 rfl) ?_
    obtain ⟨g6, hf⟩ := fc_of_gd hf
    refine lv_ldiv Cx.1 Cx.2.1 (dd_at td_X11_fraction 15 rfl) (fc_of_nzl g6) ?_
    exact cc_rl Cx hM (dd_at td_X11_fraction 16 rfl) hf
  · replace hf := fc_of_t hf c5
    refine lv_lload_n Cx.1 Cx.2.1 (dd_at td_X11_fraction 9 rfl) rfl (lv_at hl 1 rfl) ?_
    refine lv_lload Cx.1 Cx.2.1 (dd_at td_X11_fraction 10 rfl) (lv_at hl 0 rfl) ?_
    obtain ⟨g7, hf⟩ := fc_of_gd hf
    refine lv_ldiv Cx.1 Cx.2.1 (dd_at td_X11_fraction 11 rfl) (fc_of_nzl g7) ?_
    refine lv_goto (tgt := 30) Cx.1 Cx.2.1 (dd_at td_X11_fraction 12 rfl) (by decide) ?_
    exact cc_rl Cx hM (dd_at td_X11_fraction 16 rfl) hf
theorem c_X11_fraction (l : Launch) (D : va_G) (X : cc_X) (fu : Nat) (x0 : Int64) (x2 : Int64) (x4 : Int32) (st : cc_S) : cc_Ml l D X yX11_fraction cX11_fraction 7 (some .long) 1 40 [.long x0, .long x2, .int x4] st (C_X11_fraction X fu x0 x2 x4 st) := by
  intro r st' hf
  refine cc_enter (cc := cX11_fraction) (nL := 7) (ret := some .long) (by decide +kernel) rfl (Nat.le_of_ble_eq_true rfl) ?_
  intro p e s m args below meth c ls Cx hl hM
  exact w_X11_fraction Cx fu x0 x2 x4 st hf hl hM

/-! X11_isAsked -/
def tb_X11_isAsked : List (Nat × Instr × Nat) := [(0, .iload_n 1, 1), (1, .bipush 8, 2), (3, .invokestatic 54, 3), (6, .ifCond .eq 25, 3), (9, .iload_n 2, 1), (10, .iconst 1, 1), (11, .invokestatic 54, 3), (14, .ifCond .eq 17, 3), (17, .aload_n 0, 1), (18, .getfield 12, 3), (21, .getfield 58, 3), (24, .ifCond .le 7, 3), (27, .iconst 1, 1), (28, .goto 4, 3), (31, .iconst 0, 1), (32, .ireturn, 1)]
theorem td_X11_isAsked : tb_X11_isAsked.all (fun q => decide (decode cX11_isAsked q.1 = .ok (q.2.1, q.2.2))) = true := by decide +kernel
theorem hd_X11_isAsked : yX11_isAsked.cls = RX11 ∧ yX11_isAsked.cls ≠ "java/lang/invoke/MethodHandle" ∧ yX11_isAsked.cls ≠ "java/lang/invoke/VarHandle" ∧ (parseMethodDescriptor yX11_isAsked.desc).map (fun d => d.parameters.length) = some 2 := by decide +kernel
theorem hs_X11_isAsked : yX11_isAsked.name ≠ "<init>" ∧ (parseMethodDescriptor yX11_isAsked.desc).map (fun d => d.parameters.length) = some 2 := by decide +kernel
theorem w_X11_isAsked {p : Program} {l : Launch} {e : Env} {s : State} {m : MethodId} {args : Array Value} {below : List Frame} {meth : Method} {c : Code} {D : va_G} {X : cc_X} {r : Int32} {st' : cc_S} (Cx : cc_C p s m args meth c cX11_isAsked 3 (some .boolean) RX11 D X) (fu : Nat) (x0 : Nat) (x1 : Int32) (x2 : Int32) (st : cc_S) (hf : C_X11_isAsked X fu x0 x1 x2 st = some (r, st')) {H : Heap} {locs : List Loc} {ls : Array Slot} (hl : lv_has ls 3 [(0, .ref (cx_a X x0)), (1, .int x1), (2, .int x2)]) (hM : cc_H D X s.heap st H locs) : W p l e (mm_R 1 21) s m args below meth c H locs 0 0 (MQ below (cc_Qi D X r st') args s 0 0 (cc_A X)) (F0 m 0 ls []) := by
  unfold C_X11_isAsked at hf
  refine lv_iload_n Cx.1 Cx.2.1 (dd_at td_X11_isAsked 0 rfl) rfl (lv_at hl 1 rfl) ?_
  refine lv_bipush (v := (8 : Int32)) Cx.1 Cx.2.1 (dd_at td_X11_isAsked 1 rfl) (by decide) ?_
  obtain ⟨r3, st1, hx2, hf⟩ := fc_of_bn hf
  refine cc_ai hM (cc_rS (As := [.int x1, .int (8 : Int32)]) (rest := []) (n := 2) Cx hM (c_X11_isWithin l D X fu x1 (8 : Int32) st r3 st1 hx2) (cc_gdS cw547 cw548 cw549 cw520) hd_X11_isWithin ⟨Nat.le_of_ble_eq_true rfl, Nat.le_of_ble_eq_true rfl⟩ rfl hl.1 rfl (Nat.le_of_ble_eq_true rfl) (dd_at td_X11_isAsked 2 rfl) ⟨Nat.le_refl 0, Nat.le_refl 0⟩) (fun H locs hM => ?_)
  refine lv_if_eq (tgt := 31) Cx.1 Cx.2.1 (dd_at td_X11_isAsked 3 rfl) (by decide) (fun c4 => ?_) (fun c4 => ?_)
  · replace hf := fc_of_t hf c4
    refine lv_iconst (v := (0 : Int32)) Cx.1 Cx.2.1 (dd_at td_X11_isAsked 14 rfl) (by decide) ?_
    exact cc_rz Cx hM (dd_at td_X11_isAsked 15 rfl) rfl hf
  · replace hf := fc_of_f hf c4
    refine lv_iload_n Cx.1 Cx.2.1 (dd_at td_X11_isAsked 4 rfl) rfl (lv_at hl 2 rfl) ?_
    refine lv_iconst (v := (1 : Int32)) Cx.1 Cx.2.1 (dd_at td_X11_isAsked 5 rfl) (by decide) ?_
    obtain ⟨r7, st5, hx6, hf⟩ := fc_of_bn hf
    refine cc_ai hM (cc_rS (As := [.int x2, .int (1 : Int32)]) (rest := []) (n := 2) Cx hM (c_X11_isWithin l D X fu x2 (1 : Int32) st1 r7 st5 hx6) (cc_gdS cw547 cw548 cw549 cw520) hd_X11_isWithin ⟨Nat.le_of_ble_eq_true rfl, Nat.le_of_ble_eq_true rfl⟩ rfl hl.1 rfl (Nat.le_of_ble_eq_true rfl) (dd_at td_X11_isAsked 6 rfl) ⟨Nat.le_refl 0, Nat.le_refl 0⟩) (fun H locs hM => ?_)
    refine lv_if_eq (tgt := 31) Cx.1 Cx.2.1 (dd_at td_X11_isAsked 7 rfl) (by decide) (fun c8 => ?_) (fun c8 => ?_)
    · replace hf := fc_of_t hf c8
      refine lv_iconst (v := (0 : Int32)) Cx.1 Cx.2.1 (dd_at td_X11_isAsked 14 rfl) (by decide) ?_
      exact cc_rz Cx hM (dd_at td_X11_isAsked 15 rfl) rfl hf
    · replace hf := fc_of_f hf c8
      refine lv_aload_n Cx.1 Cx.2.1 (dd_at td_X11_isAsked 8 rfl) rfl (lv_at hl 0 rfl) ?_
      obtain ⟨g9, hf⟩ := fc_of_gd hf
      refine cc_gO (ci := 13) (C := RX11) (T := TX11) (N := 8) (k := 0) (ref := "EclipsesKept") Cx hM g9 rfl cc_inX11 rfl (by decide) cw498 (fun _ h => h) (dd_at td_X11_isAsked 9 rfl) rfl ?_
      show W p l e (mm_R 1 21) s m args below meth c H locs 0 0 (MQ below (cc_Qi D X r st') args s 0 0 (cc_A X)) (F0 m 21 ls [.ref (cx_a X 1)])
      obtain ⟨g10, hf⟩ := fc_of_gd hf
      refine cc_gI (ci := 9) (C := RX7) (T := TX7) (N := 17) (k := 9) (ref := "EclipsesKept$State") Cx hM g10 rfl cc_inX7 rfl (by decide) cw546 (fun _ h => h) (dd_at td_X11_isAsked 10 rfl) rfl ?_
      refine lv_if_le (tgt := 31) Cx.1 Cx.2.1 (dd_at td_X11_isAsked 11 rfl) (by decide) (fun c11 => ?_) (fun c11 => ?_)
      · replace hf := fc_of_t hf c11
        refine lv_iconst (v := (0 : Int32)) Cx.1 Cx.2.1 (dd_at td_X11_isAsked 14 rfl) (by decide) ?_
        exact cc_rz Cx hM (dd_at td_X11_isAsked 15 rfl) rfl hf
      · replace hf := fc_of_f hf c11
        refine lv_iconst (v := (1 : Int32)) Cx.1 Cx.2.1 (dd_at td_X11_isAsked 12 rfl) (by decide) ?_
        refine lv_goto (tgt := 32) Cx.1 Cx.2.1 (dd_at td_X11_isAsked 13 rfl) (by decide) ?_
        exact cc_rz Cx hM (dd_at td_X11_isAsked 15 rfl) rfl hf
theorem c_X11_isAsked (l : Launch) (D : va_G) (X : cc_X) (fu : Nat) (x0 : Nat) (x1 : Int32) (x2 : Int32) (st : cc_S) : cc_Mi l D X yX11_isAsked cX11_isAsked 3 (some .boolean) 1 21 [.ref (cx_a X x0), .int x1, .int x2] st (C_X11_isAsked X fu x0 x1 x2 st) := by
  intro r st' hf
  refine cc_enter (cc := cX11_isAsked) (nL := 3) (ret := some .boolean) (by decide +kernel) rfl (Nat.le_of_ble_eq_true rfl) ?_
  intro p e s m args below meth c ls Cx hl hM
  exact w_X11_isAsked Cx fu x0 x1 x2 st hf hl hM

