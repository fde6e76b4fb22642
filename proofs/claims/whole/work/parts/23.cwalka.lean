/-! X0_isOne -/
def tb_X0_isOne : List (Nat × Instr × Nat) := [(0, .aload_n 0, 1), (1, .getfield 45, 3), (4, .ireturn, 1)]
theorem td_X0_isOne : tb_X0_isOne.all (fun q => decide (decode cX0_isOne q.1 = .ok (q.2.1, q.2.2))) = true := by decide +kernel
theorem hd_X0_isOne : yX0_isOne.cls = RX0 ∧ yX0_isOne.cls ≠ "java/lang/invoke/MethodHandle" ∧ yX0_isOne.cls ≠ "java/lang/invoke/VarHandle" ∧ (parseMethodDescriptor yX0_isOne.desc).map (fun d => d.parameters.length) = some 0 := by decide +kernel
theorem hs_X0_isOne : yX0_isOne.name ≠ "<init>" ∧ (parseMethodDescriptor yX0_isOne.desc).map (fun d => d.parameters.length) = some 0 := by decide +kernel
theorem w_X0_isOne {p : Program} {l : Launch} {e : Env} {s : State} {m : MethodId} {args : Array Value} {below : List Frame} {meth : Method} {c : Code} {D : va_G} {X : cc_X} {r : Int32} {st' : cc_S} (Cx : cc_C p s m args meth c cX0_isOne 1 (some .boolean) RX0 D X) (fu : Nat) (x0 : Nat) (st : cc_S) (hf : C_X0_isOne X fu x0 st = some (r, st')) {H : Heap} {locs : List Loc} {ls : Array Slot} (hl : lv_has ls 1 [(0, .ref (cx_a X x0))]) (hM : cc_H D X s.heap st H locs) : W p l e (mm_R 0 0) s m args below meth c H locs 0 0 (MQ below (cc_Qi D X r st') args s 0 0 (cc_A X)) (F0 m 0 ls []) := by
  unfold C_X0_isOne at hf
  refine lv_aload_n Cx.1 Cx.2.1 (dd_at td_X0_isOne 0 rfl) rfl (lv_at hl 0 rfl) ?_
  obtain ⟨g1, hf⟩ := fc_of_gd hf
  refine cc_gI (ci := 2) (C := RX0) (T := TX0) (N := 10) (k := 1) (ref := "EclipsesKept$Archive") Cx hM g1 rfl cc_inX0 rfl (by decide) cw170 (fun _ h => h) (dd_at td_X0_isOne 1 rfl) rfl ?_
  obtain ⟨g2, hf⟩ := fc_of_gd hf
  exact cc_rz Cx hM (dd_at td_X0_isOne 2 rfl) (fc_of_zb g2) hf
theorem c_X0_isOne (l : Launch) (D : va_G) (X : cc_X) (fu : Nat) (x0 : Nat) (st : cc_S) : cc_Mi l D X yX0_isOne cX0_isOne 1 (some .boolean) 0 0 [.ref (cx_a X x0)] st (C_X0_isOne X fu x0 st) := by
  intro r st' hf
  refine cc_enter (cc := cX0_isOne) (nL := 1) (ret := some .boolean) (by decide +kernel) rfl (Nat.le_of_ble_eq_true rfl) ?_
  intro p e s m args below meth c ls Cx hl hM
  exact w_X0_isOne Cx fu x0 st hf hl hM

/-! X0_place -/
def tb_X0_place : List (Nat × Instr × Nat) := [(0, .aload_n 0, 1), (1, .getfield 9, 3), (4, .ireturn, 1)]
theorem td_X0_place : tb_X0_place.all (fun q => decide (decode cX0_place q.1 = .ok (q.2.1, q.2.2))) = true := by decide +kernel
theorem hd_X0_place : yX0_place.cls = RX0 ∧ yX0_place.cls ≠ "java/lang/invoke/MethodHandle" ∧ yX0_place.cls ≠ "java/lang/invoke/VarHandle" ∧ (parseMethodDescriptor yX0_place.desc).map (fun d => d.parameters.length) = some 0 := by decide +kernel
theorem hs_X0_place : yX0_place.name ≠ "<init>" ∧ (parseMethodDescriptor yX0_place.desc).map (fun d => d.parameters.length) = some 0 := by decide +kernel
theorem w_X0_place {p : Program} {l : Launch} {e : Env} {s : State} {m : MethodId} {args : Array Value} {below : List Frame} {meth : Method} {c : Code} {D : va_G} {X : cc_X} {r : Int32} {st' : cc_S} (Cx : cc_C p s m args meth c cX0_place 1 (some .int) RX0 D X) (fu : Nat) (x0 : Nat) (st : cc_S) (hf : C_X0_place X fu x0 st = some (r, st')) {H : Heap} {locs : List Loc} {ls : Array Slot} (hl : lv_has ls 1 [(0, .ref (cx_a X x0))]) (hM : cc_H D X s.heap st H locs) : W p l e (mm_R 0 0) s m args below meth c H locs 0 0 (MQ below (cc_Qi D X r st') args s 0 0 (cc_A X)) (F0 m 0 ls []) := by
  unfold C_X0_place at hf
  refine lv_aload_n Cx.1 Cx.2.1 (dd_at td_X0_place 0 rfl) rfl (lv_at hl 0 rfl) ?_
  obtain ⟨g1, hf⟩ := fc_of_gd hf
  refine cc_gI (ci := 2) (C := RX0) (T := TX0) (N := 10) (k := 2) (ref := "EclipsesKept$Archive") Cx hM g1 rfl cc_inX0 rfl (by decide) cw43 (fun _ h => h) (dd_at td_X0_place 1 rfl) rfl ?_
  exact cc_ri Cx hM (dd_at td_X0_place 2 rfl) hf
theorem c_X0_place (l : Launch) (D : va_G) (X : cc_X) (fu : Nat) (x0 : Nat) (st : cc_S) : cc_Mi l D X yX0_place cX0_place 1 (some .int) 0 0 [.ref (cx_a X x0)] st (C_X0_place X fu x0 st) := by
  intro r st' hf
  refine cc_enter (cc := cX0_place) (nL := 1) (ret := some .int) (by decide +kernel) rfl (Nat.le_of_ble_eq_true rfl) ?_
  intro p e s m args below meth c ls Cx hl hM
  exact w_X0_place Cx fu x0 st hf hl hM

/-! X0_passes -/
def tb_X0_passes : List (Nat × Instr × Nat) := [(0, .iload_n 0, 1), (1, .bipush 16, 2), (3, .ishr, 1), (4, .lookupswitch 93 #[(99, 80), (105, 52), (107, 58), (118, 64), (121, 70)], 52), (56, .iload_n 1, 1), (57, .istore 6, 2), (59, .goto 42, 3), (62, .iload_n 2, 1), (63, .istore 6, 2), (65, .goto 36, 3), (68, .iload_n 3, 1), (69, .istore 6, 2), (71, .goto 30, 3), (74, .iload 4, 2), (76, .bipush 10, 2), (78, .irem, 1), (79, .istore 6, 2), (81, .goto 20, 3), (84, .iload 4, 2), (86, .bipush 10, 2), (88, .idiv, 1), (89, .bipush 10, 2), (91, .irem, 1), (92, .istore 6, 2), (94, .goto 7, 3), (97, .iload 5, 2), (99, .istore 6, 2), (101, .iload_n 0, 1), (102, .sipush 255, 3), (105, .iand, 1), (106, .istore 7, 2), (108, .iload_n 0, 1), (109, .bipush 8, 2), (111, .ishr, 1), (112, .sipush 255, 3), (115, .iand, 1), (116, .lookupswitch 54 #[(60, 28), (61, 41)], 28), (144, .iload 6, 2), (146, .iload 7, 2), (148, .if_icmp .ge 7, 3), (151, .iconst 1, 1), (152, .goto 4, 3), (155, .iconst 0, 1), (156, .ireturn, 1), (157, .iload 6, 2), (159, .iload 7, 2), (161, .if_icmp .ne 7, 3), (164, .iconst 1, 1), (165, .goto 4, 3), (168, .iconst 0, 1), (169, .ireturn, 1), (170, .iload 6, 2), (172, .iload 7, 2), (174, .if_icmp .le 7, 3), (177, .iconst 1, 1), (178, .goto 4, 3), (181, .iconst 0, 1), (182, .ireturn, 1)]
theorem td_X0_passes : tb_X0_passes.all (fun q => decide (decode cX0_passes q.1 = .ok (q.2.1, q.2.2))) = true := by decide +kernel
theorem hd_X0_passes : yX0_passes.cls ≠ "java/lang/invoke/MethodHandle" ∧ yX0_passes.cls ≠ "java/lang/invoke/VarHandle" ∧ (parseMethodDescriptor yX0_passes.desc).map (fun d => d.parameters.length) = some 6 := by decide +kernel
theorem w_X0_passes_b101 {p : Program} {l : Launch} {e : Env} {s : State} {m : MethodId} {args : Array Value} {below : List Frame} {meth : Method} {c : Code} {D : va_G} {X : cc_X} {r : Int32} {st' : cc_S} (Cx : cc_C p s m args meth c cX0_passes 8 (some .boolean) RX0 D X) (fu : Nat) (x0 : Int32) (x6 : Int32) (st : cc_S) (hf : C_X0_passes_b101 X fu x0 x6 st = some (r, st')) {H : Heap} {locs : List Loc} {ls : Array Slot} (hl : lv_has ls 8 [(0, .int x0), (6, .int x6)]) (hM : cc_H D X s.heap st H locs) : W p l e (mm_R 0 0) s m args below meth c H locs 0 0 (MQ below (cc_Qi D X r st') args s 0 0 (cc_A X)) (F0 m 101 ls []) := by
  unfold C_X0_passes_b101 at hf
  refine lv_iload_n Cx.1 Cx.2.1 (dd_at td_X0_passes 27 rfl) rfl (lv_at hl 0 rfl) ?_
  refine lv_sipush (v := (255 : Int32)) Cx.1 Cx.2.1 (dd_at td_X0_passes 28 rfl) (by decide) ?_
  refine lv_iand Cx.1 Cx.2.1 (dd_at td_X0_passes 29 rfl) ?_
  refine lv_topi (fun v9 ev9 => ?_)
  replace hf := fc_of_nm hf v9 ev9
  refine lv_istore (lv' := [(7, .int v9), (0, .int x0), (6, .int x6)]) Cx.1 Cx.2.1 (dd_at td_X0_passes 30 rfl) hl (by decide) rfl (fun ls hl => ?_)
  refine lv_iload_n Cx.1 Cx.2.1 (dd_at td_X0_passes 31 rfl) rfl (lv_at hl 1 rfl) ?_
  refine lv_bipush (v := (8 : Int32)) Cx.1 Cx.2.1 (dd_at td_X0_passes 32 rfl) (by decide) ?_
  refine lv_ishr Cx.1 Cx.2.1 (dd_at td_X0_passes 33 rfl) ?_
  refine lv_sipush (v := (255 : Int32)) Cx.1 Cx.2.1 (dd_at td_X0_passes 34 rfl) (by decide) ?_
  refine lv_iand Cx.1 Cx.2.1 (dd_at td_X0_passes 35 rfl) ?_
  refine lv_topi (fun v10 ev10 => ?_)
  replace hf := fc_of_nm hf v10 ev10
  by_cases c11 : v10 = (60 : Int32)
  · replace hf := fc_of_t hf c11
    refine lv_lookup (off := 28) (tgt := 144) Cx.1 Cx.2.1 (dd_at td_X0_passes 36 rfl) (by decide) (by rw [c11]; decide) (by decide) ?_
    refine lv_iload Cx.1 Cx.2.1 (dd_at td_X0_passes 37 rfl) (lv_at hl 2 rfl) ?_
    refine lv_iload Cx.1 Cx.2.1 (dd_at td_X0_passes 38 rfl) (lv_at hl 0 rfl) ?_
    refine lv_icmp_ge (tgt := 155) Cx.1 Cx.2.1 (dd_at td_X0_passes 39 rfl) (by decide) (fun c12 => ?_) (fun c12 => ?_)
    · replace hf := fc_of_t hf c12
      refine lv_iconst (v := (0 : Int32)) Cx.1 Cx.2.1 (dd_at td_X0_passes 42 rfl) (by decide) ?_
      exact cc_rz Cx hM (dd_at td_X0_passes 43 rfl) rfl hf
    · replace hf := fc_of_f hf c12
      refine lv_iconst (v := (1 : Int32)) Cx.1 Cx.2.1 (dd_at td_X0_passes 40 rfl) (by decide) ?_
      refine lv_goto (tgt := 156) Cx.1 Cx.2.1 (dd_at td_X0_passes 41 rfl) (by decide) ?_
      exact cc_rz Cx hM (dd_at td_X0_passes 43 rfl) rfl hf
  · replace hf := fc_of_f hf c11
    by_cases c13 : v10 = (61 : Int32)
    · replace hf := fc_of_t hf c13
      refine lv_lookup (off := 41) (tgt := 157) Cx.1 Cx.2.1 (dd_at td_X0_passes 36 rfl) (by decide) (by rw [c13]; decide) (by decide) ?_
      refine lv_iload Cx.1 Cx.2.1 (dd_at td_X0_passes 44 rfl) (lv_at hl 2 rfl) ?_
      refine lv_iload Cx.1 Cx.2.1 (dd_at td_X0_passes 45 rfl) (lv_at hl 0 rfl) ?_
      refine lv_icmp_ne (tgt := 168) Cx.1 Cx.2.1 (dd_at td_X0_passes 46 rfl) (by decide) (fun c14 => ?_) (fun c14 => ?_)
      · replace hf := fc_of_f hf c14
        refine lv_iconst (v := (0 : Int32)) Cx.1 Cx.2.1 (dd_at td_X0_passes 49 rfl) (by decide) ?_
        exact cc_rz Cx hM (dd_at td_X0_passes 50 rfl) rfl hf
      · replace hf := fc_of_t hf c14
        refine lv_iconst (v := (1 : Int32)) Cx.1 Cx.2.1 (dd_at td_X0_passes 47 rfl) (by decide) ?_
        refine lv_goto (tgt := 169) Cx.1 Cx.2.1 (dd_at td_X0_passes 48 rfl) (by decide) ?_
        exact cc_rz Cx hM (dd_at td_X0_passes 50 rfl) rfl hf
    · replace hf := fc_of_f hf c13
      refine lv_lookup (off := 54) (tgt := 170) Cx.1 Cx.2.1 (dd_at td_X0_passes 36 rfl) (by decide) (by show Op.lookupswitch.offset [(60, 28), (61, 41)] 54 _ = _; rw [lv_osw c11 (by decide), lv_osw c13 (by decide)]; rfl) (by decide) ?_
      refine lv_iload Cx.1 Cx.2.1 (dd_at td_X0_passes 51 rfl) (lv_at hl 2 rfl) ?_
      refine lv_iload Cx.1 Cx.2.1 (dd_at td_X0_passes 52 rfl) (lv_at hl 0 rfl) ?_
      refine lv_icmp_le (tgt := 181) Cx.1 Cx.2.1 (dd_at td_X0_passes 53 rfl) (by decide) (fun c15 => ?_) (fun c15 => ?_)
      · replace hf := fc_of_t hf c15
        refine lv_iconst (v := (0 : Int32)) Cx.1 Cx.2.1 (dd_at td_X0_passes 56 rfl) (by decide) ?_
        exact cc_rz Cx hM (dd_at td_X0_passes 57 rfl) rfl hf
      · replace hf := fc_of_f hf c15
        refine lv_iconst (v := (1 : Int32)) Cx.1 Cx.2.1 (dd_at td_X0_passes 54 rfl) (by decide) ?_
        refine lv_goto (tgt := 182) Cx.1 Cx.2.1 (dd_at td_X0_passes 55 rfl) (by decide) ?_
        exact cc_rz Cx hM (dd_at td_X0_passes 57 rfl) rfl hf
theorem w_X0_passes {p : Program} {l : Launch} {e : Env} {s : State} {m : MethodId} {args : Array Value} {below : List Frame} {meth : Method} {c : Code} {D : va_G} {X : cc_X} {r : Int32} {st' : cc_S} (Cx : cc_C p s m args meth c cX0_passes 8 (some .boolean) RX0 D X) (fu : Nat) (x0 : Int32) (x1 : Int32) (x2 : Int32) (x3 : Int32) (x4 : Int32) (x5 : Int32) (st : cc_S) (hf : C_X0_passes X fu x0 x1 x2 x3 x4 x5 st = some (r, st')) {H : Heap} {locs : List Loc} {ls : Array Slot} (hl : lv_has ls 8 [(0, .int x0), (1, .int x1), (2, .int x2), (3, .int x3), (4, .int x4), (5, .int x5)]) (hM : cc_H D X s.heap st H locs) : W p l e (mm_R 0 0) s m args below meth c H locs 0 0 (MQ below (cc_Qi D X r st') args s 0 0 (cc_A X)) (F0 m 0 ls []) := by
  unfold C_X0_passes at hf
  refine lv_iload_n Cx.1 Cx.2.1 (dd_at td_X0_passes 0 rfl) rfl (lv_at hl 0 rfl) ?_
  refine lv_bipush (v := (16 : Int32)) Cx.1 Cx.2.1 (dd_at td_X0_passes 1 rfl) (by decide) ?_
  refine lv_ishr Cx.1 Cx.2.1 (dd_at td_X0_passes 2 rfl) ?_
  refine lv_topi (fun v1 ev1 => ?_)
  replace hf := fc_of_nm hf v1 ev1
  by_cases c2 : v1 = (99 : Int32)
  · replace hf := fc_of_t hf c2
    refine lv_lookup (off := 80) (tgt := 84) Cx.1 Cx.2.1 (dd_at td_X0_passes 3 rfl) (by decide) (by rw [c2]; decide) (by decide) ?_
    refine lv_iload Cx.1 Cx.2.1 (dd_at td_X0_passes 18 rfl) (lv_at hl 4 rfl) ?_
    refine lv_bipush (v := (10 : Int32)) Cx.1 Cx.2.1 (dd_at td_X0_passes 19 rfl) (by decide) ?_
    refine lv_idiv Cx.1 Cx.2.1 (dd_at td_X0_passes 20 rfl) (by decide) ?_
    refine lv_bipush (v := (10 : Int32)) Cx.1 Cx.2.1 (dd_at td_X0_passes 21 rfl) (by decide) ?_
    refine lv_irem Cx.1 Cx.2.1 (dd_at td_X0_passes 22 rfl) (by decide) ?_
    refine lv_topi (fun v3 ev3 => ?_)
    replace hf := fc_of_nm hf v3 ev3
    refine lv_istore (lv' := [(6, .int v3), (0, .int x0), (1, .int x1), (2, .int x2), (3, .int x3), (4, .int x4), (5, .int x5)]) Cx.1 Cx.2.1 (dd_at td_X0_passes 23 rfl) hl (by decide) rfl (fun ls hl => ?_)
    refine lv_goto (tgt := 101) Cx.1 Cx.2.1 (dd_at td_X0_passes 24 rfl) (by decide) ?_
    exact w_X0_passes_b101 Cx fu x0 v3 st hf (lv_sub hl [1, 0] rfl) hM
  · replace hf := fc_of_f hf c2
    by_cases c4 : v1 = (105 : Int32)
    · replace hf := fc_of_t hf c4
      refine lv_lookup (off := 52) (tgt := 56) Cx.1 Cx.2.1 (dd_at td_X0_passes 3 rfl) (by decide) (by rw [c4]; decide) (by decide) ?_
      refine lv_iload_n Cx.1 Cx.2.1 (dd_at td_X0_passes 4 rfl) rfl (lv_at hl 1 rfl) ?_
      refine lv_istore (lv' := [(6, .int x1), (0, .int x0), (1, .int x1), (2, .int x2), (3, .int x3), (4, .int x4), (5, .int x5)]) Cx.1 Cx.2.1 (dd_at td_X0_passes 5 rfl) hl (by decide) rfl (fun ls hl => ?_)
      refine lv_goto (tgt := 101) Cx.1 Cx.2.1 (dd_at td_X0_passes 6 rfl) (by decide) ?_
      exact w_X0_passes_b101 Cx fu x0 x1 st hf (lv_sub hl [1, 0] rfl) hM
    · replace hf := fc_of_f hf c4
      by_cases c5 : v1 = (107 : Int32)
      · replace hf := fc_of_t hf c5
        refine lv_lookup (off := 58) (tgt := 62) Cx.1 Cx.2.1 (dd_at td_X0_passes 3 rfl) (by decide) (by rw [c5]; decide) (by decide) ?_
        refine lv_iload_n Cx.1 Cx.2.1 (dd_at td_X0_passes 7 rfl) rfl (lv_at hl 2 rfl) ?_
        refine lv_istore (lv' := [(6, .int x2), (0, .int x0), (1, .int x1), (2, .int x2), (3, .int x3), (4, .int x4), (5, .int x5)]) Cx.1 Cx.2.1 (dd_at td_X0_passes 8 rfl) hl (by decide) rfl (fun ls hl => ?_)
        refine lv_goto (tgt := 101) Cx.1 Cx.2.1 (dd_at td_X0_passes 9 rfl) (by decide) ?_
        exact w_X0_passes_b101 Cx fu x0 x2 st hf (lv_sub hl [1, 0] rfl) hM
      · replace hf := fc_of_f hf c5
        by_cases c6 : v1 = (118 : Int32)
        · replace hf := fc_of_t hf c6
          refine lv_lookup (off := 64) (tgt := 68) Cx.1 Cx.2.1 (dd_at td_X0_passes 3 rfl) (by decide) (by rw [c6]; decide) (by decide) ?_
          refine lv_iload_n Cx.1 Cx.2.1 (dd_at td_X0_passes 10 rfl) rfl (lv_at hl 3 rfl) ?_
          refine lv_istore (lv' := [(6, .int x3), (0, .int x0), (1, .int x1), (2, .int x2), (3, .int x3), (4, .int x4), (5, .int x5)]) Cx.1 Cx.2.1 (dd_at td_X0_passes 11 rfl) hl (by decide) rfl (fun ls hl => ?_)
          refine lv_goto (tgt := 101) Cx.1 Cx.2.1 (dd_at td_X0_passes 12 rfl) (by decide) ?_
          exact w_X0_passes_b101 Cx fu x0 x3 st hf (lv_sub hl [1, 0] rfl) hM
        · replace hf := fc_of_f hf c6
          by_cases c7 : v1 = (121 : Int32)
          · replace hf := fc_of_t hf c7
            refine lv_lookup (off := 70) (tgt := 74) Cx.1 Cx.2.1 (dd_at td_X0_passes 3 rfl) (by decide) (by rw [c7]; decide) (by decide) ?_
            refine lv_iload Cx.1 Cx.2.1 (dd_at td_X0_passes 13 rfl) (lv_at hl 4 rfl) ?_
            refine lv_bipush (v := (10 : Int32)) Cx.1 Cx.2.1 (dd_at td_X0_passes 14 rfl) (by decide) ?_
            refine lv_irem Cx.1 Cx.2.1 (dd_at td_X0_passes 15 rfl) (by decide) ?_
            refine lv_topi (fun v8 ev8 => ?_)
            replace hf := fc_of_nm hf v8 ev8
            refine lv_istore (lv' := [(6, .int v8), (0, .int x0), (1, .int x1), (2, .int x2), (3, .int x3), (4, .int x4), (5, .int x5)]) Cx.1 Cx.2.1 (dd_at td_X0_passes 16 rfl) hl (by decide) rfl (fun ls hl => ?_)
            refine lv_goto (tgt := 101) Cx.1 Cx.2.1 (dd_at td_X0_passes 17 rfl) (by decide) ?_
            exact w_X0_passes_b101 Cx fu x0 v8 st hf (lv_sub hl [1, 0] rfl) hM
          · replace hf := fc_of_f hf c7
            refine lv_lookup (off := 93) (tgt := 97) Cx.1 Cx.2.1 (dd_at td_X0_passes 3 rfl) (by decide) (by show Op.lookupswitch.offset [(99, 80), (105, 52), (107, 58), (118, 64), (121, 70)] 93 _ = _; rw [lv_osw c2 (by decide), lv_osw c4 (by decide), lv_osw c5 (by decide), lv_osw c6 (by decide), lv_osw c7 (by decide)]; rfl) (by decide) ?_
            refine lv_iload Cx.1 Cx.2.1 (dd_at td_X0_passes 25 rfl) (lv_at hl 5 rfl) ?_
            refine lv_istore (lv' := [(6, .int x5), (0, .int x0), (1, .int x1), (2, .int x2), (3, .int x3), (4, .int x4), (5, .int x5)]) Cx.1 Cx.2.1 (dd_at td_X0_passes 26 rfl) hl (by decide) rfl (fun ls hl => ?_)
            exact w_X0_passes_b101 Cx fu x0 x5 st hf (lv_sub hl [1, 0] rfl) hM
theorem c_X0_passes (l : Launch) (D : va_G) (X : cc_X) (fu : Nat) (x0 : Int32) (x1 : Int32) (x2 : Int32) (x3 : Int32) (x4 : Int32) (x5 : Int32) (st : cc_S) : cc_Mi l D X yX0_passes cX0_passes 8 (some .boolean) 0 0 [.int x0, .int x1, .int x2, .int x3, .int x4, .int x5] st (C_X0_passes X fu x0 x1 x2 x3 x4 x5 st) := by
  intro r st' hf
  refine cc_enter (cc := cX0_passes) (nL := 8) (ret := some .boolean) (by decide +kernel) rfl (Nat.le_of_ble_eq_true rfl) ?_
  intro p e s m args below meth c ls Cx hl hM
  exact w_X0_passes Cx fu x0 x1 x2 x3 x4 x5 st hf hl hM

/-! X0_holdsFor -/
def tb_X0_holdsFor : List (Nat × Instr × Nat) := [(0, .iconst 0, 1), (1, .istore 7, 2), (3, .aload_n 0, 1), (4, .getfield 22, 3), (7, .iload_n 1, 1), (8, .iaload, 1), (9, .istore 8, 2), (11, .iload 8, 2), (13, .aload_n 0, 1), (14, .getfield 22, 3), (17, .iload_n 1, 1), (18, .iconst 1, 1), (19, .iadd, 1), (20, .iaload, 1), (21, .if_icmp .ge 125, 3), (24, .aload_n 0, 1), (25, .getfield 25, 3), (28, .iload 8, 2), (30, .iaload, 1), (31, .istore 9, 2), (33, .iload 7, 2), (35, .iconst 1, 1), (36, .iand, 1), (37, .istore 10, 2), (39, .iload 9, 2), (41, .lookupswitch 71 #[(33, 35), (38, 44), (124, 59)], 35), (76, .iload 7, 2), (78, .iconst 1, 1), (79, .ixor, 1), (80, .istore 7, 2), (82, .goto 58, 3), (85, .iload 7, 2), (87, .iconst 1, 1), (88, .ishr, 1), (89, .iload 10, 2), (91, .bipush (-2), 2), (93, .ior, 1), (94, .iand, 1), (95, .istore 7, 2), (97, .goto 43, 3), (100, .iload 7, 2), (102, .iconst 1, 1), (103, .ishr, 1), (104, .iload 10, 2), (106, .ior, 1), (107, .istore 7, 2), (109, .goto 31, 3), (112, .iload 7, 2), (114, .iconst 1, 1), (115, .ishl, 1), (116, .iload 9, 2), (118, .iload_n 2, 1), (119, .iload_n 3, 1), (120, .iload 4, 2), (122, .iload 5, 2), (124, .iload 6, 2), (126, .invokestatic 121, 3), (129, .ifCond .eq 7, 3), (132, .iconst 1, 1), (133, .goto 4, 3), (136, .iconst 0, 1), (137, .ior, 1), (138, .istore 7, 2), (140, .iinc 8 1, 3), (143, .goto (-132), 3), (146, .iload 7, 2), (148, .iconst 1, 1), (149, .iand, 1), (150, .iconst 1, 1), (151, .if_icmp .ne 7, 3), (154, .iconst 1, 1), (155, .goto 4, 3), (158, .iconst 0, 1), (159, .ireturn, 1)]
theorem td_X0_holdsFor : tb_X0_holdsFor.all (fun q => decide (decode cX0_holdsFor q.1 = .ok (q.2.1, q.2.2))) = true := by decide +kernel
theorem hd_X0_holdsFor : yX0_holdsFor.cls = RX0 ∧ yX0_holdsFor.cls ≠ "java/lang/invoke/MethodHandle" ∧ yX0_holdsFor.cls ≠ "java/lang/invoke/VarHandle" ∧ (parseMethodDescriptor yX0_holdsFor.desc).map (fun d => d.parameters.length) = some 6 := by decide +kernel
theorem hs_X0_holdsFor : yX0_holdsFor.name ≠ "<init>" ∧ (parseMethodDescriptor yX0_holdsFor.desc).map (fun d => d.parameters.length) = some 6 := by decide +kernel
theorem w_X0_holdsFor_b140 {p : Program} {l : Launch} {e : Env} {s : State} {m : MethodId} {args : Array Value} {below : List Frame} {meth : Method} {c : Code} {D : va_G} {X : cc_X} {r : Int32} {st' : cc_S} (Cx : cc_C p s m args meth c cX0_holdsFor 11 (some .boolean) RX0 D X) (fu : Nat) (K11 : Nat → Int32 → Int32 → Int32 → Int32 → Int32 → Int32 → Int32 → Int32 → cc_S → Option (Int32 × cc_S)) (hK11 : ∀ (x0 : Nat) (x1 : Int32) (x2 : Int32) (x3 : Int32) (x4 : Int32) (x5 : Int32) (x6 : Int32) (x7 : Int32) (x8 : Int32) (st : cc_S) (H : Heap) (locs : List Loc) (ls : Array Slot), K11 x0 x1 x2 x3 x4 x5 x6 x7 x8 st = some (r, st') → lv_has ls 11 [(0, .ref (cx_a X x0)), (1, .int x1), (2, .int x2), (3, .int x3), (4, .int x4), (5, .int x5), (6, .int x6), (7, .int x7), (8, .int x8)] → cc_H D X s.heap st H locs → W p l e (mm_R 1 27) s m args below meth c H locs 0 0 (MQ below (cc_Qi D X r st') args s 0 0 (cc_A X)) (F0 m 11 ls [])) (x0 : Nat) (x1 : Int32) (x2 : Int32) (x3 : Int32) (x4 : Int32) (x5 : Int32) (x6 : Int32) (x7 : Int32) (x8 : Int32) (st : cc_S) (hf : C_X0_holdsFor_b140 X fu K11 x0 x1 x2 x3 x4 x5 x6 x7 x8 st = some (r, st')) {H : Heap} {locs : List Loc} {ls : Array Slot} (hl : lv_has ls 11 [(0, .ref (cx_a X x0)), (1, .int x1), (2, .int x2), (3, .int x3), (4, .int x4), (5, .int x5), (6, .int x6), (7, .int x7), (8, .int x8)]) (hM : cc_H D X s.heap st H locs) : W p l e (mm_R 1 27) s m args below meth c H locs 0 0 (MQ below (cc_Qi D X r st') args s 0 0 (cc_A X)) (F0 m 140 ls []) := by
  unfold C_X0_holdsFor_b140 at hf
  obtain ⟨v21, ev21⟩ : ∃ y : Int32, y = x8 + (1 : Int32) := ⟨_, rfl⟩
  replace hf := fc_of_nm hf v21 ev21
  refine lv_iinc (v := v21) (lv' := [(8, .int v21), (0, .ref (cx_a X x0)), (1, .int x1), (2, .int x2), (3, .int x3), (4, .int x4), (5, .int x5), (6, .int x6), (7, .int x7)]) Cx.1 Cx.2.1 (dd_at td_X0_holdsFor 63 rfl) hl (k := 8) rfl (by rw [ev21]; rfl) (by decide) rfl (fun ls hl => ?_)
  refine lv_goto (tgt := 11) Cx.1 Cx.2.1 (dd_at td_X0_holdsFor 64 rfl) (by decide) ?_
  exact hK11 x0 x1 x2 x3 x4 x5 x6 x7 v21 st _ _ _ hf (lv_sub hl [1, 2, 3, 4, 5, 6, 7, 8, 0] rfl) hM
theorem w_X0_holdsFor_b137 {p : Program} {l : Launch} {e : Env} {s : State} {m : MethodId} {args : Array Value} {below : List Frame} {meth : Method} {c : Code} {D : va_G} {X : cc_X} {r : Int32} {st' : cc_S} (Cx : cc_C p s m args meth c cX0_holdsFor 11 (some .boolean) RX0 D X) (fu : Nat) (K11 : Nat → Int32 → Int32 → Int32 → Int32 → Int32 → Int32 → Int32 → Int32 → cc_S → Option (Int32 × cc_S)) (hK11 : ∀ (x0 : Nat) (x1 : Int32) (x2 : Int32) (x3 : Int32) (x4 : Int32) (x5 : Int32) (x6 : Int32) (x7 : Int32) (x8 : Int32) (st : cc_S) (H : Heap) (locs : List Loc) (ls : Array Slot), K11 x0 x1 x2 x3 x4 x5 x6 x7 x8 st = some (r, st') → lv_has ls 11 [(0, .ref (cx_a X x0)), (1, .int x1), (2, .int x2), (3, .int x3), (4, .int x4), (5, .int x5), (6, .int x6), (7, .int x7), (8, .int x8)] → cc_H D X s.heap st H locs → W p l e (mm_R 1 27) s m args below meth c H locs 0 0 (MQ below (cc_Qi D X r st') args s 0 0 (cc_A X)) (F0 m 11 ls [])) (x0 : Nat) (x1 : Int32) (x2 : Int32) (x3 : Int32) (x4 : Int32) (x5 : Int32) (x6 : Int32) (x8 : Int32) (s0 : Int32) (s1 : Int32) (st : cc_S) (hf : C_X0_holdsFor_b137 X fu K11 x0 x1 x2 x3 x4 x5 x6 x8 s0 s1 st = some (r, st')) {H : Heap} {locs : List Loc} {ls : Array Slot} (hl : lv_has ls 11 [(0, .ref (cx_a X x0)), (1, .int x1), (2, .int x2), (3, .int x3), (4, .int x4), (5, .int x5), (6, .int x6), (8, .int x8)]) (hM : cc_H D X s.heap st H locs) : W p l e (mm_R 1 27) s m args below meth c H locs 0 0 (MQ below (cc_Qi D X r st') args s 0 0 (cc_A X)) (F0 m 137 ls [.int s0, .int s1]) := by
  unfold C_X0_holdsFor_b137 at hf
  refine lv_ior Cx.1 Cx.2.1 (dd_at td_X0_holdsFor 61 rfl) ?_
  refine lv_topi (fun v22 ev22 => ?_)
  replace hf := fc_of_nm hf v22 ev22
  refine lv_istore (lv' := [(7, .int v22), (0, .ref (cx_a X x0)), (1, .int x1), (2, .int x2), (3, .int x3), (4, .int x4), (5, .int x5), (6, .int x6), (8, .int x8)]) Cx.1 Cx.2.1 (dd_at td_X0_holdsFor 62 rfl) hl (by decide) rfl (fun ls hl => ?_)
  exact w_X0_holdsFor_b140 Cx fu K11 hK11 x0 x1 x2 x3 x4 x5 x6 v22 x8 st hf (lv_sub hl [1, 2, 3, 4, 5, 6, 7, 0, 8] rfl) hM
theorem w_X0_holdsFor_b11F {p : Program} {l : Launch} {e : Env} {s : State} {m : MethodId} {args : Array Value} {below : List Frame} {meth : Method} {c : Code} {D : va_G} {X : cc_X} {r : Int32} {st' : cc_S} (Cx : cc_C p s m args meth c cX0_holdsFor 11 (some .boolean) RX0 D X) (fu : Nat) (K11 : Nat → Int32 → Int32 → Int32 → Int32 → Int32 → Int32 → Int32 → Int32 → cc_S → Option (Int32 × cc_S)) (hK11 : ∀ (x0 : Nat) (x1 : Int32) (x2 : Int32) (x3 : Int32) (x4 : Int32) (x5 : Int32) (x6 : Int32) (x7 : Int32) (x8 : Int32) (st : cc_S) (H : Heap) (locs : List Loc) (ls : Array Slot), K11 x0 x1 x2 x3 x4 x5 x6 x7 x8 st = some (r, st') → lv_has ls 11 [(0, .ref (cx_a X x0)), (1, .int x1), (2, .int x2), (3, .int x3), (4, .int x4), (5, .int x5), (6, .int x6), (7, .int x7), (8, .int x8)] → cc_H D X s.heap st H locs → W p l e (mm_R 1 27) s m args below meth c H locs 0 0 (MQ below (cc_Qi D X r st') args s 0 0 (cc_A X)) (F0 m 11 ls [])) (x0 : Nat) (x1 : Int32) (x2 : Int32) (x3 : Int32) (x4 : Int32) (x5 : Int32) (x6 : Int32) (x7 : Int32) (x8 : Int32) (st : cc_S) (hf : C_X0_holdsFor_b11F X fu K11 x0 x1 x2 x3 x4 x5 x6 x7 x8 st = some (r, st')) {H : Heap} {locs : List Loc} {ls : Array Slot} (hl : lv_has ls 11 [(0, .ref (cx_a X x0)), (1, .int x1), (2, .int x2), (3, .int x3), (4, .int x4), (5, .int x5), (6, .int x6), (7, .int x7), (8, .int x8)]) (hM : cc_H D X s.heap st H locs) : W p l e (mm_R 1 27) s m args below meth c H locs 0 0 (MQ below (cc_Qi D X r st') args s 0 0 (cc_A X)) (F0 m 11 ls []) := by
  unfold C_X0_holdsFor_b11F at hf
  refine lv_iload Cx.1 Cx.2.1 (dd_at td_X0_holdsFor 7 rfl) (lv_at hl 8 rfl) ?_
  refine lv_aload_n Cx.1 Cx.2.1 (dd_at td_X0_holdsFor 8 rfl) rfl (lv_at hl 0 rfl) ?_
  obtain ⟨g4, hf⟩ := fc_of_gd hf
  refine cc_gA (ci := 2) (C := RX0) (T := TX0) (N := 10) (k := 5) (ref := "EclipsesKept$Archive") Cx hM g4 rfl cc_inX0 rfl (by decide) cw157 (fun _ h => h) (dd_at td_X0_holdsFor 9 rfl) rfl ?_
  refine lv_iload_n Cx.1 Cx.2.1 (dd_at td_X0_holdsFor 10 rfl) rfl (lv_at hl 1 rfl) ?_
  refine lv_iconst (v := (1 : Int32)) Cx.1 Cx.2.1 (dd_at td_X0_holdsFor 11 rfl) (by decide) ?_
  refine lv_iadd Cx.1 Cx.2.1 (dd_at td_X0_holdsFor 12 rfl) ?_
  obtain ⟨g5, hf⟩ := fc_of_gd hf
  refine cc_iald Cx hM g5 (dd_at td_X0_holdsFor 13 rfl) ?_
  refine lv_icmp_ge (tgt := 146) Cx.1 Cx.2.1 (dd_at td_X0_holdsFor 14 rfl) (by decide) (fun c6 => ?_) (fun c6 => ?_)
  · replace hf := fc_of_t hf c6
    refine lv_iload Cx.1 Cx.2.1 (dd_at td_X0_holdsFor 65 rfl) (lv_at hl 7 rfl) ?_
    refine lv_iconst (v := (1 : Int32)) Cx.1 Cx.2.1 (dd_at td_X0_holdsFor 66 rfl) (by decide) ?_
    refine lv_iand Cx.1 Cx.2.1 (dd_at td_X0_holdsFor 67 rfl) ?_
    refine lv_iconst (v := (1 : Int32)) Cx.1 Cx.2.1 (dd_at td_X0_holdsFor 68 rfl) (by decide) ?_
    refine lv_icmp_ne (tgt := 158) Cx.1 Cx.2.1 (dd_at td_X0_holdsFor 69 rfl) (by decide) (fun c7 => ?_) (fun c7 => ?_)
    · replace hf := fc_of_f hf c7
      refine lv_iconst (v := (0 : Int32)) Cx.1 Cx.2.1 (dd_at td_X0_holdsFor 72 rfl) (by decide) ?_
      exact cc_rz Cx hM (dd_at td_X0_holdsFor 73 rfl) rfl hf
    · replace hf := fc_of_t hf c7
      refine lv_iconst (v := (1 : Int32)) Cx.1 Cx.2.1 (dd_at td_X0_holdsFor 70 rfl) (by decide) ?_
      refine lv_goto (tgt := 159) Cx.1 Cx.2.1 (dd_at td_X0_holdsFor 71 rfl) (by decide) ?_
      exact cc_rz Cx hM (dd_at td_X0_holdsFor 73 rfl) rfl hf
  · replace hf := fc_of_f hf c6
    refine lv_aload_n Cx.1 Cx.2.1 (dd_at td_X0_holdsFor 15 rfl) rfl (lv_at hl 0 rfl) ?_
    refine cc_gA (ci := 2) (C := RX0) (T := TX0) (N := 10) (k := 6) (ref := "EclipsesKept$Archive") Cx hM g4 rfl cc_inX0 rfl (by decide) cw68 (fun _ h => h) (dd_at td_X0_holdsFor 16 rfl) rfl ?_
    refine lv_iload Cx.1 Cx.2.1 (dd_at td_X0_holdsFor 17 rfl) (lv_at hl 8 rfl) ?_
    obtain ⟨g8, hf⟩ := fc_of_gd hf
    refine cc_iald Cx hM g8 (dd_at td_X0_holdsFor 18 rfl) ?_
    refine lv_topi (fun v9 ev9 => ?_)
    replace hf := fc_of_nm hf v9 ev9
    refine lv_istore (lv' := [(9, .int v9), (0, .ref (cx_a X x0)), (1, .int x1), (2, .int x2), (3, .int x3), (4, .int x4), (5, .int x5), (6, .int x6), (7, .int x7), (8, .int x8)]) Cx.1 Cx.2.1 (dd_at td_X0_holdsFor 19 rfl) hl (by decide) rfl (fun ls hl => ?_)
    refine lv_iload Cx.1 Cx.2.1 (dd_at td_X0_holdsFor 20 rfl) (lv_at hl 8 rfl) ?_
    refine lv_iconst (v := (1 : Int32)) Cx.1 Cx.2.1 (dd_at td_X0_holdsFor 21 rfl) (by decide) ?_
    refine lv_iand Cx.1 Cx.2.1 (dd_at td_X0_holdsFor 22 rfl) ?_
    refine lv_topi (fun v10 ev10 => ?_)
    replace hf := fc_of_nm hf v10 ev10
    refine lv_istore (lv' := [(10, .int v10), (9, .int v9), (0, .ref (cx_a X x0)), (1, .int x1), (2, .int x2), (3, .int x3), (4, .int x4), (5, .int x5), (6, .int x6), (7, .int x7), (8, .int x8)]) Cx.1 Cx.2.1 (dd_at td_X0_holdsFor 23 rfl) hl (by decide) rfl (fun ls hl => ?_)
    refine lv_iload Cx.1 Cx.2.1 (dd_at td_X0_holdsFor 24 rfl) (lv_at hl 1 rfl) ?_
    by_cases c11 : v9 = (33 : Int32)
    · replace hf := fc_of_t hf c11
      refine lv_lookup (off := 35) (tgt := 76) Cx.1 Cx.2.1 (dd_at td_X0_holdsFor 25 rfl) (by decide) (by rw [c11]; decide) (by decide) ?_
      refine lv_iload Cx.1 Cx.2.1 (dd_at td_X0_holdsFor 26 rfl) (lv_at hl 9 rfl) ?_
      refine lv_iconst (v := (1 : Int32)) Cx.1 Cx.2.1 (dd_at td_X0_holdsFor 27 rfl) (by decide) ?_
      refine lv_ixor Cx.1 Cx.2.1 (dd_at td_X0_holdsFor 28 rfl) ?_
      refine lv_topi (fun v12 ev12 => ?_)
      replace hf := fc_of_nm hf v12 ev12
      refine lv_istore (lv' := [(7, .int v12), (10, .int v10), (9, .int v9), (0, .ref (cx_a X x0)), (1, .int x1), (2, .int x2), (3, .int x3), (4, .int x4), (5, .int x5), (6, .int x6), (8, .int x8)]) Cx.1 Cx.2.1 (dd_at td_X0_holdsFor 29 rfl) hl (by decide) rfl (fun ls hl => ?_)
      refine lv_goto (tgt := 140) Cx.1 Cx.2.1 (dd_at td_X0_holdsFor 30 rfl) (by decide) ?_
      exact w_X0_holdsFor_b140 Cx fu K11 hK11 x0 x1 x2 x3 x4 x5 x6 v12 x8 st hf (lv_sub hl [3, 4, 5, 6, 7, 8, 9, 0, 10] rfl) hM
    · replace hf := fc_of_f hf c11
      by_cases c13 : v9 = (38 : Int32)
      · replace hf := fc_of_t hf c13
        refine lv_lookup (off := 44) (tgt := 85) Cx.1 Cx.2.1 (dd_at td_X0_holdsFor 25 rfl) (by decide) (by rw [c13]; decide) (by decide) ?_
        refine lv_iload Cx.1 Cx.2.1 (dd_at td_X0_holdsFor 31 rfl) (lv_at hl 9 rfl) ?_
        refine lv_iconst (v := (1 : Int32)) Cx.1 Cx.2.1 (dd_at td_X0_holdsFor 32 rfl) (by decide) ?_
        refine lv_ishr Cx.1 Cx.2.1 (dd_at td_X0_holdsFor 33 rfl) ?_
        refine lv_iload Cx.1 Cx.2.1 (dd_at td_X0_holdsFor 34 rfl) (lv_at hl 0 rfl) ?_
        refine lv_bipush (v := (-2 : Int32)) Cx.1 Cx.2.1 (dd_at td_X0_holdsFor 35 rfl) (by decide) ?_
        refine lv_ior Cx.1 Cx.2.1 (dd_at td_X0_holdsFor 36 rfl) ?_
        refine lv_iand Cx.1 Cx.2.1 (dd_at td_X0_holdsFor 37 rfl) ?_
        refine lv_topi (fun v14 ev14 => ?_)
        replace hf := fc_of_nm hf v14 ev14
        refine lv_istore (lv' := [(7, .int v14), (10, .int v10), (9, .int v9), (0, .ref (cx_a X x0)), (1, .int x1), (2, .int x2), (3, .int x3), (4, .int x4), (5, .int x5), (6, .int x6), (8, .int x8)]) Cx.1 Cx.2.1 (dd_at td_X0_holdsFor 38 rfl) hl (by decide) rfl (fun ls hl => ?_)
        refine lv_goto (tgt := 140) Cx.1 Cx.2.1 (dd_at td_X0_holdsFor 39 rfl) (by decide) ?_
        exact w_X0_holdsFor_b140 Cx fu K11 hK11 x0 x1 x2 x3 x4 x5 x6 v14 x8 st hf (lv_sub hl [3, 4, 5, 6, 7, 8, 9, 0, 10] rfl) hM
      · replace hf := fc_of_f hf c13
        by_cases c15 : v9 = (124 : Int32)
        · replace hf := fc_of_t hf c15
          refine lv_lookup (off := 59) (tgt := 100) Cx.1 Cx.2.1 (dd_at td_X0_holdsFor 25 rfl) (by decide) (by rw [c15]; decide) (by decide) ?_
          refine lv_iload Cx.1 Cx.2.1 (dd_at td_X0_holdsFor 40 rfl) (lv_at hl 9 rfl) ?_
          refine lv_iconst (v := (1 : Int32)) Cx.1 Cx.2.1 (dd_at td_X0_holdsFor 41 rfl) (by decide) ?_
          refine lv_ishr Cx.1 Cx.2.1 (dd_at td_X0_holdsFor 42 rfl) ?_
          refine lv_iload Cx.1 Cx.2.1 (dd_at td_X0_holdsFor 43 rfl) (lv_at hl 0 rfl) ?_
          refine lv_ior Cx.1 Cx.2.1 (dd_at td_X0_holdsFor 44 rfl) ?_
          refine lv_topi (fun v16 ev16 => ?_)
          replace hf := fc_of_nm hf v16 ev16
          refine lv_istore (lv' := [(7, .int v16), (10, .int v10), (9, .int v9), (0, .ref (cx_a X x0)), (1, .int x1), (2, .int x2), (3, .int x3), (4, .int x4), (5, .int x5), (6, .int x6), (8, .int x8)]) Cx.1 Cx.2.1 (dd_at td_X0_holdsFor 45 rfl) hl (by decide) rfl (fun ls hl => ?_)
          refine lv_goto (tgt := 140) Cx.1 Cx.2.1 (dd_at td_X0_holdsFor 46 rfl) (by decide) ?_
          exact w_X0_holdsFor_b140 Cx fu K11 hK11 x0 x1 x2 x3 x4 x5 x6 v16 x8 st hf (lv_sub hl [3, 4, 5, 6, 7, 8, 9, 0, 10] rfl) hM
        · replace hf := fc_of_f hf c15
          refine lv_lookup (off := 71) (tgt := 112) Cx.1 Cx.2.1 (dd_at td_X0_holdsFor 25 rfl) (by decide) (by show Op.lookupswitch.offset [(33, 35), (38, 44), (124, 59)] 71 _ = _; rw [lv_osw c11 (by decide), lv_osw c13 (by decide), lv_osw c15 (by decide)]; rfl) (by decide) ?_
          refine lv_iload Cx.1 Cx.2.1 (dd_at td_X0_holdsFor 47 rfl) (lv_at hl 9 rfl) ?_
          refine lv_iconst (v := (1 : Int32)) Cx.1 Cx.2.1 (dd_at td_X0_holdsFor 48 rfl) (by decide) ?_
          refine lv_ishl Cx.1 Cx.2.1 (dd_at td_X0_holdsFor 49 rfl) ?_
          refine lv_iload Cx.1 Cx.2.1 (dd_at td_X0_holdsFor 50 rfl) (lv_at hl 1 rfl) ?_
          refine lv_iload_n Cx.1 Cx.2.1 (dd_at td_X0_holdsFor 51 rfl) rfl (lv_at hl 4 rfl) ?_
          refine lv_iload_n Cx.1 Cx.2.1 (dd_at td_X0_holdsFor 52 rfl) rfl (lv_at hl 5 rfl) ?_
          refine lv_iload Cx.1 Cx.2.1 (dd_at td_X0_holdsFor 53 rfl) (lv_at hl 6 rfl) ?_
          refine lv_iload Cx.1 Cx.2.1 (dd_at td_X0_holdsFor 54 rfl) (lv_at hl 7 rfl) ?_
          refine lv_iload Cx.1 Cx.2.1 (dd_at td_X0_holdsFor 55 rfl) (lv_at hl 8 rfl) ?_
          obtain ⟨r19, st17, hx18, hf⟩ := fc_of_bn hf
          refine cc_ai hM (cc_rS (As := [.int v9, .int x2, .int x3, .int x4, .int x5, .int x6]) (rest := [.int (x7 <<< ((1 : Int32) &&& 31))]) (n := 6) Cx hM (c_X0_passes l D X fu v9 x2 x3 x4 x5 x6 st r19 st17 hx18) (cc_gdS cw179 cw180 cw55 cw177) hd_X0_passes ⟨Nat.le_of_ble_eq_true rfl, Nat.le_of_ble_eq_true rfl⟩ rfl hl.1 rfl (Nat.le_of_ble_eq_true rfl) (dd_at td_X0_holdsFor 56 rfl) ⟨Nat.le_refl 0, Nat.le_refl 0⟩) (fun H locs hM => ?_)
          refine lv_if_eq (tgt := 136) Cx.1 Cx.2.1 (dd_at td_X0_holdsFor 57 rfl) (by decide) (fun c20 => ?_) (fun c20 => ?_)
          · replace hf := fc_of_t hf c20
            refine lv_iconst (v := (0 : Int32)) Cx.1 Cx.2.1 (dd_at td_X0_holdsFor 60 rfl) (by decide) ?_
            exact w_X0_holdsFor_b137 Cx fu K11 hK11 x0 x1 x2 x3 x4 x5 x6 x8 (0 : Int32) (x7 <<< ((1 : Int32) &&& 31)) st17 hf (lv_sub hl [2, 3, 4, 5, 6, 7, 8, 10] rfl) hM
          · replace hf := fc_of_f hf c20
            refine lv_iconst (v := (1 : Int32)) Cx.1 Cx.2.1 (dd_at td_X0_holdsFor 58 rfl) (by decide) ?_
            refine lv_goto (tgt := 137) Cx.1 Cx.2.1 (dd_at td_X0_holdsFor 59 rfl) (by decide) ?_
            exact w_X0_holdsFor_b137 Cx fu K11 hK11 x0 x1 x2 x3 x4 x5 x6 x8 (1 : Int32) (x7 <<< ((1 : Int32) &&& 31)) st17 hf (lv_sub hl [2, 3, 4, 5, 6, 7, 8, 10] rfl) hM
theorem w_X0_holdsFor_b11 {p : Program} {l : Launch} {e : Env} {s : State} {m : MethodId} {args : Array Value} {below : List Frame} {meth : Method} {c : Code} {D : va_G} {X : cc_X} {r : Int32} {st' : cc_S} (Cx : cc_C p s m args meth c cX0_holdsFor 11 (some .boolean) RX0 D X) (fu : Nat) (n : Nat) : ∀ (x0 : Nat) (x1 : Int32) (x2 : Int32) (x3 : Int32) (x4 : Int32) (x5 : Int32) (x6 : Int32) (x7 : Int32) (x8 : Int32) (st : cc_S), C_X0_holdsFor_b11 X fu n x0 x1 x2 x3 x4 x5 x6 x7 x8 st = some (r, st') → ∀ (H : Heap) (locs : List Loc) (ls : Array Slot), lv_has ls 11 [(0, .ref (cx_a X x0)), (1, .int x1), (2, .int x2), (3, .int x3), (4, .int x4), (5, .int x5), (6, .int x6), (7, .int x7), (8, .int x8)] → cc_H D X s.heap st H locs → W p l e (mm_R 1 27) s m args below meth c H locs 0 0 (MQ below (cc_Qi D X r st') args s 0 0 (cc_A X)) (F0 m 11 ls []) := by
  induction n with
  | zero => exact fun _ _ _ _ _ _ _ _ _ _ hf => fc_no hf
  | succ n ih =>
    intro x0 x1 x2 x3 x4 x5 x6 x7 x8 st hf H locs ls hl hM
    exact w_X0_holdsFor_b11F Cx fu (fun x0 x1 x2 x3 x4 x5 x6 x7 x8 st => C_X0_holdsFor_b11 X fu n x0 x1 x2 x3 x4 x5 x6 x7 x8 st) (fun x0 x1 x2 x3 x4 x5 x6 x7 x8 st H locs ls hf hl hM => ih x0 x1 x2 x3 x4 x5 x6 x7 x8 st hf H locs ls hl hM) x0 x1 x2 x3 x4 x5 x6 x7 x8 st hf hl hM
theorem w_X0_holdsFor {p : Program} {l : Launch} {e : Env} {s : State} {m : MethodId} {args : Array Value} {below : List Frame} {meth : Method} {c : Code} {D : va_G} {X : cc_X} {r : Int32} {st' : cc_S} (Cx : cc_C p s m args meth c cX0_holdsFor 11 (some .boolean) RX0 D X) (fu : Nat) (x0 : Nat) (x1 : Int32) (x2 : Int32) (x3 : Int32) (x4 : Int32) (x5 : Int32) (x6 : Int32) (st : cc_S) (hf : C_X0_holdsFor X fu x0 x1 x2 x3 x4 x5 x6 st = some (r, st')) {H : Heap} {locs : List Loc} {ls : Array Slot} (hl : lv_has ls 11 [(0, .ref (cx_a X x0)), (1, .int x1), (2, .int x2), (3, .int x3), (4, .int x4), (5, .int x5), (6, .int x6)]) (hM : cc_H D X s.heap st H locs) : W p l e (mm_R 1 27) s m args below meth c H locs 0 0 (MQ below (cc_Qi D X r st') args s 0 0 (cc_A X)) (F0 m 0 ls []) := by
  unfold C_X0_holdsFor at hf
  refine lv_iconst (v := (0 : Int32)) Cx.1 Cx.2.1 (dd_at td_X0_holdsFor 0 rfl) (by decide) ?_
  refine lv_istore (lv' := [(7, .int (0 : Int32)), (0, .ref (cx_a X x0)), (1, .int x1), (2, .int x2), (3, .int x3), (4, .int x4), (5, .int x5), (6, .int x6)]) Cx.1 Cx.2.1 (dd_at td_X0_holdsFor 1 rfl) hl (by decide) rfl (fun ls hl => ?_)
  refine lv_aload_n Cx.1 Cx.2.1 (dd_at td_X0_holdsFor 2 rfl) rfl (lv_at hl 1 rfl) ?_
  obtain ⟨g1, hf⟩ := fc_of_gd hf
  refine cc_gA (ci := 2) (C := RX0) (T := TX0) (N := 10) (k := 5) (ref := "EclipsesKept$Archive") Cx hM g1 rfl cc_inX0 rfl (by decide) cw157 (fun _ h => h) (dd_at td_X0_holdsFor 3 rfl) rfl ?_
  refine lv_iload_n Cx.1 Cx.2.1 (dd_at td_X0_holdsFor 4 rfl) rfl (lv_at hl 2 rfl) ?_
  obtain ⟨g2, hf⟩ := fc_of_gd hf
  refine cc_iald Cx hM g2 (dd_at td_X0_holdsFor 5 rfl) ?_
  refine lv_topi (fun v3 ev3 => ?_)
  replace hf := fc_of_nm hf v3 ev3
  refine lv_istore (lv' := [(8, .int v3), (7, .int (0 : Int32)), (0, .ref (cx_a X x0)), (1, .int x1), (2, .int x2), (3, .int x3), (4, .int x4), (5, .int x5), (6, .int x6)]) Cx.1 Cx.2.1 (dd_at td_X0_holdsFor 6 rfl) hl (by decide) rfl (fun ls hl => ?_)
  exact w_X0_holdsFor_b11 Cx fu fu x0 x1 x2 x3 x4 x5 x6 (0 : Int32) v3 st hf _ _ _ (lv_sub hl [2, 3, 4, 5, 6, 7, 8, 1, 0] rfl) hM
theorem c_X0_holdsFor (l : Launch) (D : va_G) (X : cc_X) (fu : Nat) (x0 : Nat) (x1 : Int32) (x2 : Int32) (x3 : Int32) (x4 : Int32) (x5 : Int32) (x6 : Int32) (st : cc_S) : cc_Mi l D X yX0_holdsFor cX0_holdsFor 11 (some .boolean) 1 27 [.ref (cx_a X x0), .int x1, .int x2, .int x3, .int x4, .int x5, .int x6] st (C_X0_holdsFor X fu x0 x1 x2 x3 x4 x5 x6 st) := by
  intro r st' hf
  refine cc_enter (cc := cX0_holdsFor) (nL := 11) (ret := some .boolean) (by decide +kernel) rfl (Nat.le_of_ble_eq_true rfl) ?_
  intro p e s m args below meth c ls Cx hl hM
  exact w_X0_holdsFor Cx fu x0 x1 x2 x3 x4 x5 x6 st hf hl hM

/-! X0_baseOf -/
def tb_X0_baseOf : List (Nat × Instr × Nat) := [(0, .bipush 10, 2), (2, .istore 6, 2), (4, .iconst 0, 1), (5, .istore 7, 2), (7, .iload 7, 2), (9, .aload_n 0, 1), (10, .getfield 28, 3), (13, .if_icmp .ge 55, 3), (16, .aload_n 0, 1), (17, .getfield 15, 3), (20, .iload 7, 2), (22, .iaload, 1), (23, .ifCond .eq 39, 3), (26, .aload_n 0, 1), (27, .iload 7, 2), (29, .iload_n 1, 1), (30, .iload_n 2, 1), (31, .iload_n 3, 1), (32, .iload 4, 2), (34, .iload 5, 2), (36, .invokevirtual 117, 3), (39, .ifCond .eq 23, 3), (42, .iload 6, 2), (44, .aload_n 0, 1), (45, .getfield 15, 3), (48, .iload 7, 2), (50, .iaload, 1), (51, .aload_n 0, 1), (52, .getfield 19, 3), (55, .iload 7, 2), (57, .iaload, 1), (58, .imul, 1), (59, .iadd, 1), (60, .istore 6, 2), (62, .iinc 7 1, 3), (65, .goto (-58), 3), (68, .iload 6, 2), (70, .ireturn, 1)]
theorem td_X0_baseOf : tb_X0_baseOf.all (fun q => decide (decode cX0_baseOf q.1 = .ok (q.2.1, q.2.2))) = true := by decide +kernel
theorem hd_X0_baseOf : yX0_baseOf.cls = RX0 ∧ yX0_baseOf.cls ≠ "java/lang/invoke/MethodHandle" ∧ yX0_baseOf.cls ≠ "java/lang/invoke/VarHandle" ∧ (parseMethodDescriptor yX0_baseOf.desc).map (fun d => d.parameters.length) = some 5 := by decide +kernel
theorem hs_X0_baseOf : yX0_baseOf.name ≠ "<init>" ∧ (parseMethodDescriptor yX0_baseOf.desc).map (fun d => d.parameters.length) = some 5 := by decide +kernel
theorem w_X0_baseOf_b62 {p : Program} {l : Launch} {e : Env} {s : State} {m : MethodId} {args : Array Value} {below : List Frame} {meth : Method} {c : Code} {D : va_G} {X : cc_X} {r : Int32} {st' : cc_S} (Cx : cc_C p s m args meth c cX0_baseOf 8 (some .int) RX0 D X) (fu : Nat) (K7 : Nat → Int32 → Int32 → Int32 → Int32 → Int32 → Int32 → Int32 → cc_S → Option (Int32 × cc_S)) (hK7 : ∀ (x0 : Nat) (x1 : Int32) (x2 : Int32) (x3 : Int32) (x4 : Int32) (x5 : Int32) (x6 : Int32) (x7 : Int32) (st : cc_S) (H : Heap) (locs : List Loc) (ls : Array Slot), K7 x0 x1 x2 x3 x4 x5 x6 x7 st = some (r, st') → lv_has ls 8 [(0, .ref (cx_a X x0)), (1, .int x1), (2, .int x2), (3, .int x3), (4, .int x4), (5, .int x5), (6, .int x6), (7, .int x7)] → cc_H D X s.heap st H locs → W p l e (mm_R 2 57) s m args below meth c H locs 0 0 (MQ below (cc_Qi D X r st') args s 0 0 (cc_A X)) (F0 m 7 ls [])) (x0 : Nat) (x1 : Int32) (x2 : Int32) (x3 : Int32) (x4 : Int32) (x5 : Int32) (x6 : Int32) (x7 : Int32) (st : cc_S) (hf : C_X0_baseOf_b62 X fu K7 x0 x1 x2 x3 x4 x5 x6 x7 st = some (r, st')) {H : Heap} {locs : List Loc} {ls : Array Slot} (hl : lv_has ls 8 [(0, .ref (cx_a X x0)), (1, .int x1), (2, .int x2), (3, .int x3), (4, .int x4), (5, .int x5), (6, .int x6), (7, .int x7)]) (hM : cc_H D X s.heap st H locs) : W p l e (mm_R 2 57) s m args below meth c H locs 0 0 (MQ below (cc_Qi D X r st') args s 0 0 (cc_A X)) (F0 m 62 ls []) := by
  unfold C_X0_baseOf_b62 at hf
  obtain ⟨v12, ev12⟩ : ∃ y : Int32, y = x7 + (1 : Int32) := ⟨_, rfl⟩
  replace hf := fc_of_nm hf v12 ev12
  refine lv_iinc (v := v12) (lv' := [(7, .int v12), (0, .ref (cx_a X x0)), (1, .int x1), (2, .int x2), (3, .int x3), (4, .int x4), (5, .int x5), (6, .int x6)]) Cx.1 Cx.2.1 (dd_at td_X0_baseOf 34 rfl) hl (k := 7) rfl (by rw [ev12]; rfl) (by decide) rfl (fun ls hl => ?_)
  refine lv_goto (tgt := 7) Cx.1 Cx.2.1 (dd_at td_X0_baseOf 35 rfl) (by decide) ?_
  exact hK7 x0 x1 x2 x3 x4 x5 x6 v12 st _ _ _ hf (lv_sub hl [1, 2, 3, 4, 5, 6, 7, 0] rfl) hM
theorem w_X0_baseOf_b7F {p : Program} {l : Launch} {e : Env} {s : State} {m : MethodId} {args : Array Value} {below : List Frame} {meth : Method} {c : Code} {D : va_G} {X : cc_X} {r : Int32} {st' : cc_S} (Cx : cc_C p s m args meth c cX0_baseOf 8 (some .int) RX0 D X) (fu : Nat) (K7 : Nat → Int32 → Int32 → Int32 → Int32 → Int32 → Int32 → Int32 → cc_S → Option (Int32 × cc_S)) (hK7 : ∀ (x0 : Nat) (x1 : Int32) (x2 : Int32) (x3 : Int32) (x4 : Int32) (x5 : Int32) (x6 : Int32) (x7 : Int32) (st : cc_S) (H : Heap) (locs : List Loc) (ls : Array Slot), K7 x0 x1 x2 x3 x4 x5 x6 x7 st = some (r, st') → lv_has ls 8 [(0, .ref (cx_a X x0)), (1, .int x1), (2, .int x2), (3, .int x3), (4, .int x4), (5, .int x5), (6, .int x6), (7, .int x7)] → cc_H D X s.heap st H locs → W p l e (mm_R 2 57) s m args below meth c H locs 0 0 (MQ below (cc_Qi D X r st') args s 0 0 (cc_A X)) (F0 m 7 ls [])) (x0 : Nat) (x1 : Int32) (x2 : Int32) (x3 : Int32) (x4 : Int32) (x5 : Int32) (x6 : Int32) (x7 : Int32) (st : cc_S) (hf : C_X0_baseOf_b7F X fu K7 x0 x1 x2 x3 x4 x5 x6 x7 st = some (r, st')) {H : Heap} {locs : List Loc} {ls : Array Slot} (hl : lv_has ls 8 [(0, .ref (cx_a X x0)), (1, .int x1), (2, .int x2), (3, .int x3), (4, .int x4), (5, .int x5), (6, .int x6), (7, .int x7)]) (hM : cc_H D X s.heap st H locs) : W p l e (mm_R 2 57) s m args below meth c H locs 0 0 (MQ below (cc_Qi D X r st') args s 0 0 (cc_A X)) (F0 m 7 ls []) := by
  unfold C_X0_baseOf_b7F at hf
  refine lv_iload Cx.1 Cx.2.1 (dd_at td_X0_baseOf 4 rfl) (lv_at hl 7 rfl) ?_
  refine lv_aload_n Cx.1 Cx.2.1 (dd_at td_X0_baseOf 5 rfl) rfl (lv_at hl 0 rfl) ?_
  obtain ⟨g1, hf⟩ := fc_of_gd hf
  refine cc_gI (ci := 2) (C := RX0) (T := TX0) (N := 10) (k := 7) (ref := "EclipsesKept$Archive") Cx hM g1 rfl cc_inX0 rfl (by decide) cw155 (fun _ h => h) (dd_at td_X0_baseOf 6 rfl) rfl ?_
  refine lv_icmp_ge (tgt := 68) Cx.1 Cx.2.1 (dd_at td_X0_baseOf 7 rfl) (by decide) (fun c2 => ?_) (fun c2 => ?_)
  · replace hf := fc_of_t hf c2
    refine lv_iload Cx.1 Cx.2.1 (dd_at td_X0_baseOf 36 rfl) (lv_at hl 6 rfl) ?_
    exact cc_ri Cx hM (dd_at td_X0_baseOf 37 rfl) hf
  · replace hf := fc_of_f hf c2
    refine lv_aload_n Cx.1 Cx.2.1 (dd_at td_X0_baseOf 8 rfl) rfl (lv_at hl 0 rfl) ?_
    refine cc_gA (ci := 2) (C := RX0) (T := TX0) (N := 10) (k := 3) (ref := "EclipsesKept$Archive") Cx hM g1 rfl cc_inX0 rfl (by decide) cw154 (fun _ h => h) (dd_at td_X0_baseOf 9 rfl) rfl ?_
    refine lv_iload Cx.1 Cx.2.1 (dd_at td_X0_baseOf 10 rfl) (lv_at hl 7 rfl) ?_
    obtain ⟨g3, hf⟩ := fc_of_gd hf
    refine cc_iald Cx hM g3 (dd_at td_X0_baseOf 11 rfl) ?_
    refine lv_if_eq (tgt := 62) Cx.1 Cx.2.1 (dd_at td_X0_baseOf 12 rfl) (by decide) (fun c4 => ?_) (fun c4 => ?_)
    · replace hf := fc_of_t hf c4
      exact w_X0_baseOf_b62 Cx fu K7 hK7 x0 x1 x2 x3 x4 x5 x6 x7 st hf (lv_sub hl [0, 1, 2, 3, 4, 5, 6, 7] rfl) hM
    · replace hf := fc_of_f hf c4
      refine lv_aload_n Cx.1 Cx.2.1 (dd_at td_X0_baseOf 13 rfl) rfl (lv_at hl 0 rfl) ?_
      refine lv_iload Cx.1 Cx.2.1 (dd_at td_X0_baseOf 14 rfl) (lv_at hl 7 rfl) ?_
      refine lv_iload_n Cx.1 Cx.2.1 (dd_at td_X0_baseOf 15 rfl) rfl (lv_at hl 1 rfl) ?_
      refine lv_iload_n Cx.1 Cx.2.1 (dd_at td_X0_baseOf 16 rfl) rfl (lv_at hl 2 rfl) ?_
      refine lv_iload_n Cx.1 Cx.2.1 (dd_at td_X0_baseOf 17 rfl) rfl (lv_at hl 3 rfl) ?_
      refine lv_iload Cx.1 Cx.2.1 (dd_at td_X0_baseOf 18 rfl) (lv_at hl 4 rfl) ?_
      refine lv_iload Cx.1 Cx.2.1 (dd_at td_X0_baseOf 19 rfl) (lv_at hl 5 rfl) ?_
      obtain ⟨r7, st5, hx6, hf⟩ := fc_of_bn hf
      refine cc_ai hM (cc_rV (ci := 2) (As := [.int x7, .int x1, .int x2, .int x3, .int x4, .int x5]) (rest := []) (n := 6) Cx hM g1 rfl (c_X0_holdsFor l D X fu x0 x7 x1 x2 x3 x4 x5 st r7 st5 hx6) (cc_gdV cw182 cw183 cw184 cw55 cw178) hd_X0_holdsFor ⟨Nat.le_of_ble_eq_true rfl, Nat.le_of_ble_eq_true rfl⟩ rfl hl.1 rfl (Nat.le_of_ble_eq_true rfl) (dd_at td_X0_baseOf 20 rfl) ⟨Nat.le_refl 0, Nat.le_refl 0⟩) (fun H locs hM => ?_)
      refine lv_if_eq (tgt := 62) Cx.1 Cx.2.1 (dd_at td_X0_baseOf 21 rfl) (by decide) (fun c8 => ?_) (fun c8 => ?_)
      · replace hf := fc_of_t hf c8
        exact w_X0_baseOf_b62 Cx fu K7 hK7 x0 x1 x2 x3 x4 x5 x6 x7 st5 hf (lv_sub hl [0, 1, 2, 3, 4, 5, 6, 7] rfl) hM
      · replace hf := fc_of_f hf c8
        refine lv_iload Cx.1 Cx.2.1 (dd_at td_X0_baseOf 22 rfl) (lv_at hl 6 rfl) ?_
        refine lv_aload_n Cx.1 Cx.2.1 (dd_at td_X0_baseOf 23 rfl) rfl (lv_at hl 0 rfl) ?_
        refine cc_gA (ci := 2) (C := RX0) (T := TX0) (N := 10) (k := 3) (ref := "EclipsesKept$Archive") Cx hM g1 rfl cc_inX0 rfl (by decide) cw154 (fun _ h => h) (dd_at td_X0_baseOf 24 rfl) rfl ?_
        refine lv_iload Cx.1 Cx.2.1 (dd_at td_X0_baseOf 25 rfl) (lv_at hl 7 rfl) ?_
        obtain ⟨g9, hf⟩ := fc_of_gd hf
        refine cc_iald Cx hM g9 (dd_at td_X0_baseOf 26 rfl) ?_
        refine lv_aload_n Cx.1 Cx.2.1 (dd_at td_X0_baseOf 27 rfl) rfl (lv_at hl 0 rfl) ?_
        refine cc_gA (ci := 2) (C := RX0) (T := TX0) (N := 10) (k := 4) (ref := "EclipsesKept$Archive") Cx hM g1 rfl cc_inX0 rfl (by decide) cw156 (fun _ h => h) (dd_at td_X0_baseOf 28 rfl) rfl ?_
        refine lv_iload Cx.1 Cx.2.1 (dd_at td_X0_baseOf 29 rfl) (lv_at hl 7 rfl) ?_
        obtain ⟨g10, hf⟩ := fc_of_gd hf
        refine cc_iald Cx hM g10 (dd_at td_X0_baseOf 30 rfl) ?_
        refine lv_imul Cx.1 Cx.2.1 (dd_at td_X0_baseOf 31 rfl) ?_
        refine lv_iadd Cx.1 Cx.2.1 (dd_at td_X0_baseOf 32 rfl) ?_
        refine lv_topi (fun v11 ev11 => ?_)
        replace hf := fc_of_nm hf v11 ev11
        refine lv_istore (lv' := [(6, .int v11), (0, .ref (cx_a X x0)), (1, .int x1), (2, .int x2), (3, .int x3), (4, .int x4), (5, .int x5), (7, .int x7)]) Cx.1 Cx.2.1 (dd_at td_X0_baseOf 33 rfl) hl (by decide) rfl (fun ls hl => ?_)
        exact w_X0_baseOf_b62 Cx fu K7 hK7 x0 x1 x2 x3 x4 x5 v11 x7 st5 hf (lv_sub hl [1, 2, 3, 4, 5, 6, 0, 7] rfl) hM
theorem w_X0_baseOf_b7 {p : Program} {l : Launch} {e : Env} {s : State} {m : MethodId} {args : Array Value} {below : List Frame} {meth : Method} {c : Code} {D : va_G} {X : cc_X} {r : Int32} {st' : cc_S} (Cx : cc_C p s m args meth c cX0_baseOf 8 (some .int) RX0 D X) (fu : Nat) (n : Nat) : ∀ (x0 : Nat) (x1 : Int32) (x2 : Int32) (x3 : Int32) (x4 : Int32) (x5 : Int32) (x6 : Int32) (x7 : Int32) (st : cc_S), C_X0_baseOf_b7 X fu n x0 x1 x2 x3 x4 x5 x6 x7 st = some (r, st') → ∀ (H : Heap) (locs : List Loc) (ls : Array Slot), lv_has ls 8 [(0, .ref (cx_a X x0)), (1, .int x1), (2, .int x2), (3, .int x3), (4, .int x4), (5, .int x5), (6, .int x6), (7, .int x7)] → cc_H D X s.heap st H locs → W p l e (mm_R 2 57) s m args below meth c H locs 0 0 (MQ below (cc_Qi D X r st') args s 0 0 (cc_A X)) (F0 m 7 ls []) := by
  induction n with
  | zero => exact fun _ _ _ _ _ _ _ _ _ hf => fc_no hf
  | succ n ih =>
    intro x0 x1 x2 x3 x4 x5 x6 x7 st hf H locs ls hl hM
    exact w_X0_baseOf_b7F Cx fu (fun x0 x1 x2 x3 x4 x5 x6 x7 st => C_X0_baseOf_b7 X fu n x0 x1 x2 x3 x4 x5 x6 x7 st) (fun x0 x1 x2 x3 x4 x5 x6 x7 st H locs ls hf hl hM => ih x0 x1 x2 x3 x4 x5 x6 x7 st hf H locs ls hl hM) x0 x1 x2 x3 x4 x5 x6 x7 st hf hl hM
theorem w_X0_baseOf {p : Program} {l : Launch} {e : Env} {s : State} {m : MethodId} {args : Array Value} {below : List Frame} {meth : Method} {c : Code} {D : va_G} {X : cc_X} {r : Int32} {st' : cc_S} (Cx : cc_C p s m args meth c cX0_baseOf 8 (some .int) RX0 D X) (fu : Nat) (x0 : Nat) (x1 : Int32) (x2 : Int32) (x3 : Int32) (x4 : Int32) (x5 : Int32) (st : cc_S) (hf : C_X0_baseOf X fu x0 x1 x2 x3 x4 x5 st = some (r, st')) {H : Heap} {locs : List Loc} {ls : Array Slot} (hl : lv_has ls 8 [(0, .ref (cx_a X x0)), (1, .int x1), (2, .int x2), (3, .int x3), (4, .int x4), (5, .int x5)]) (hM : cc_H D X s.heap st H locs) : W p l e (mm_R 2 57) s m args below meth c H locs 0 0 (MQ below (cc_Qi D X r st') args s 0 0 (cc_A X)) (F0 m 0 ls []) := by
  unfold C_X0_baseOf at hf
  refine lv_bipush (v := (10 : Int32)) Cx.1 Cx.2.1 (dd_at td_X0_baseOf 0 rfl) (by decide) ?_
  refine lv_istore (lv' := [(6, .int (10 : Int32)), (0, .ref (cx_a X x0)), (1, .int x1), (2, .int x2), (3, .int x3), (4, .int x4), (5, .int x5)]) Cx.1 Cx.2.1 (dd_at td_X0_baseOf 1 rfl) hl (by decide) rfl (fun ls hl => ?_)
  refine lv_iconst (v := (0 : Int32)) Cx.1 Cx.2.1 (dd_at td_X0_baseOf 2 rfl) (by decide) ?_
  refine lv_istore (lv' := [(7, .int (0 : Int32)), (6, .int (10 : Int32)), (0, .ref (cx_a X x0)), (1, .int x1), (2, .int x2), (3, .int x3), (4, .int x4), (5, .int x5)]) Cx.1 Cx.2.1 (dd_at td_X0_baseOf 3 rfl) hl (by decide) rfl (fun ls hl => ?_)
  exact w_X0_baseOf_b7 Cx fu fu x0 x1 x2 x3 x4 x5 (10 : Int32) (0 : Int32) st hf _ _ _ (lv_sub hl [2, 3, 4, 5, 6, 7, 1, 0] rfl) hM
theorem c_X0_baseOf (l : Launch) (D : va_G) (X : cc_X) (fu : Nat) (x0 : Nat) (x1 : Int32) (x2 : Int32) (x3 : Int32) (x4 : Int32) (x5 : Int32) (st : cc_S) : cc_Mi l D X yX0_baseOf cX0_baseOf 8 (some .int) 2 57 [.ref (cx_a X x0), .int x1, .int x2, .int x3, .int x4, .int x5] st (C_X0_baseOf X fu x0 x1 x2 x3 x4 x5 st) := by
  intro r st' hf
  refine cc_enter (cc := cX0_baseOf) (nL := 8) (ret := some .int) (by decide +kernel) rfl (Nat.le_of_ble_eq_true rfl) ?_
  intro p e s m args below meth c ls Cx hl hM
  exact w_X0_baseOf Cx fu x0 x1 x2 x3 x4 x5 st hf hl hM

/-! X3_gives -/
def tb_X3_gives : List (Nat × Instr × Nat) := [(0, .iload_n 3, 1), (1, .iconst 2, 1), (2, .irem, 1), (3, .ifCond .ne 7, 3), (6, .iload_n 1, 1), (7, .goto 4, 3), (10, .iconst 0, 1), (11, .ireturn, 1)]
theorem td_X3_gives : tb_X3_gives.all (fun q => decide (decode cX3_gives q.1 = .ok (q.2.1, q.2.2))) = true := by decide +kernel
theorem hd_X3_gives : yX3_gives.cls = RX3 ∧ yX3_gives.cls ≠ "java/lang/invoke/MethodHandle" ∧ yX3_gives.cls ≠ "java/lang/invoke/VarHandle" ∧ (parseMethodDescriptor yX3_gives.desc).map (fun d => d.parameters.length) = some 5 := by decide +kernel
theorem hs_X3_gives : yX3_gives.name ≠ "<init>" ∧ (parseMethodDescriptor yX3_gives.desc).map (fun d => d.parameters.length) = some 5 := by decide +kernel
theorem w_X3_gives {p : Program} {l : Launch} {e : Env} {s : State} {m : MethodId} {args : Array Value} {below : List Frame} {meth : Method} {c : Code} {D : va_G} {X : cc_X} {r : Int32} {st' : cc_S} (Cx : cc_C p s m args meth c cX3_gives 6 (some .int) RX3 D X) (fu : Nat) (x0 : Nat) (x1 : Int32) (x2 : Int32) (x3 : Int32) (x4 : Int32) (x5 : Int32) (st : cc_S) (hf : C_X3_gives X fu x0 x1 x2 x3 x4 x5 st = some (r, st')) {H : Heap} {locs : List Loc} {ls : Array Slot} (hl : lv_has ls 6 [(0, .ref (cx_a X x0)), (1, .int x1), (2, .int x2), (3, .int x3), (4, .int x4), (5, .int x5)]) (hM : cc_H D X s.heap st H locs) : W p l e (mm_R 0 0) s m args below meth c H locs 0 0 (MQ below (cc_Qi D X r st') args s 0 0 (cc_A X)) (F0 m 0 ls []) := by
  unfold C_X3_gives at hf
  refine lv_iload_n Cx.1 Cx.2.1 (dd_at td_X3_gives 0 rfl) rfl (lv_at hl 3 rfl) ?_
  refine lv_iconst (v := (2 : Int32)) Cx.1 Cx.2.1 (dd_at td_X3_gives 1 rfl) (by decide) ?_
  refine lv_irem Cx.1 Cx.2.1 (dd_at td_X3_gives 2 rfl) (by decide) ?_
  refine lv_if_ne (tgt := 10) Cx.1 Cx.2.1 (dd_at td_X3_gives 3 rfl) (by decide) (fun c1 => ?_) (fun c1 => ?_)
  · replace hf := fc_of_f hf c1
    refine lv_iconst (v := (0 : Int32)) Cx.1 Cx.2.1 (dd_at td_X3_gives 6 rfl) (by decide) ?_
    exact cc_ri Cx hM (dd_at td_X3_gives 7 rfl) hf
  · replace hf := fc_of_t hf c1
    refine lv_iload_n Cx.1 Cx.2.1 (dd_at td_X3_gives 4 rfl) rfl (lv_at hl 1 rfl) ?_
    refine lv_goto (tgt := 11) Cx.1 Cx.2.1 (dd_at td_X3_gives 5 rfl) (by decide) ?_
    exact cc_ri Cx hM (dd_at td_X3_gives 7 rfl) hf
theorem c_X3_gives (l : Launch) (D : va_G) (X : cc_X) (fu : Nat) (x0 : Nat) (x1 : Int32) (x2 : Int32) (x3 : Int32) (x4 : Int32) (x5 : Int32) (st : cc_S) : cc_Mi l D X yX3_gives cX3_gives 6 (some .int) 0 0 [.ref (cx_a X x0), .int x1, .int x2, .int x3, .int x4, .int x5] st (C_X3_gives X fu x0 x1 x2 x3 x4 x5 st) := by
  intro r st' hf
  refine cc_enter (cc := cX3_gives) (nL := 6) (ret := some .int) (by decide +kernel) rfl (Nat.le_of_ble_eq_true rfl) ?_
  intro p e s m args below meth c ls Cx hl hM
  exact w_X3_gives Cx fu x0 x1 x2 x3 x4 x5 st hf hl hM

/-! X1_gives -/
def tb_X1_gives : List (Nat × Instr × Nat) := [(0, .aload_n 0, 1), (1, .iload_n 1, 1), (2, .iload_n 2, 1), (3, .iload_n 3, 1), (4, .iload 4, 2), (6, .iload 5, 2), (8, .invokespecial 7, 3), (11, .iload_n 2, 1), (12, .iadd, 1), (13, .ireturn, 1)]
theorem td_X1_gives : tb_X1_gives.all (fun q => decide (decode cX1_gives q.1 = .ok (q.2.1, q.2.2))) = true := by decide +kernel
theorem hd_X1_gives : yX1_gives.cls = RX1 ∧ yX1_gives.cls ≠ "java/lang/invoke/MethodHandle" ∧ yX1_gives.cls ≠ "java/lang/invoke/VarHandle" ∧ (parseMethodDescriptor yX1_gives.desc).map (fun d => d.parameters.length) = some 5 := by decide +kernel
theorem hs_X1_gives : yX1_gives.name ≠ "<init>" ∧ (parseMethodDescriptor yX1_gives.desc).map (fun d => d.parameters.length) = some 5 := by decide +kernel
theorem w_X1_gives {p : Program} {l : Launch} {e : Env} {s : State} {m : MethodId} {args : Array Value} {below : List Frame} {meth : Method} {c : Code} {D : va_G} {X : cc_X} {r : Int32} {st' : cc_S} (Cx : cc_C p s m args meth c cX1_gives 6 (some .int) RX1 D X) (fu : Nat) (x0 : Nat) (x1 : Int32) (x2 : Int32) (x3 : Int32) (x4 : Int32) (x5 : Int32) (st : cc_S) (hf : C_X1_gives X fu x0 x1 x2 x3 x4 x5 st = some (r, st')) {H : Heap} {locs : List Loc} {ls : Array Slot} (hl : lv_has ls 6 [(0, .ref (cx_a X x0)), (1, .int x1), (2, .int x2), (3, .int x3), (4, .int x4), (5, .int x5)]) (hM : cc_H D X s.heap st H locs) : W p l e (mm_R 1 25) s m args below meth c H locs 0 0 (MQ below (cc_Qi D X r st') args s 0 0 (cc_A X)) (F0 m 0 ls []) := by
  unfold C_X1_gives at hf
  refine lv_aload_n Cx.1 Cx.2.1 (dd_at td_X1_gives 0 rfl) rfl (lv_at hl 0 rfl) ?_
  refine lv_iload_n Cx.1 Cx.2.1 (dd_at td_X1_gives 1 rfl) rfl (lv_at hl 1 rfl) ?_
  refine lv_iload_n Cx.1 Cx.2.1 (dd_at td_X1_gives 2 rfl) rfl (lv_at hl 2 rfl) ?_
  refine lv_iload_n Cx.1 Cx.2.1 (dd_at td_X1_gives 3 rfl) rfl (lv_at hl 3 rfl) ?_
  refine lv_iload Cx.1 Cx.2.1 (dd_at td_X1_gives 4 rfl) (lv_at hl 4 rfl) ?_
  refine lv_iload Cx.1 Cx.2.1 (dd_at td_X1_gives 5 rfl) (lv_at hl 5 rfl) ?_
  obtain ⟨g1, hf⟩ := fc_of_gd hf
  obtain ⟨r4, st2, hx3, hf⟩ := fc_of_bn hf
  refine cc_ai hM (cc_rSU (ci := 3) (As := [.int x1, .int x2, .int x3, .int x4, .int x5]) (rest := []) (n := 5) Cx hM g1 rfl (c_X3_gives l D X fu x0 x1 x2 x3 x4 x5 st r4 st2 hx3) (cc_gdSU cw201 cw202 cw203 cw204 cw198 cw199) hs_X3_gives ⟨Nat.le_of_ble_eq_true rfl, Nat.le_of_ble_eq_true rfl⟩ rfl hl.1 rfl (Nat.le_of_ble_eq_true rfl) (dd_at td_X1_gives 6 rfl) ⟨Nat.le_refl 0, Nat.le_refl 0⟩) (fun H locs hM => ?_)
  refine lv_iload_n Cx.1 Cx.2.1 (dd_at td_X1_gives 7 rfl) rfl (lv_at hl 2 rfl) ?_
  refine lv_iadd Cx.1 Cx.2.1 (dd_at td_X1_gives 8 rfl) ?_
  exact cc_ri Cx hM (dd_at td_X1_gives 9 rfl) hf
theorem c_X1_gives (l : Launch) (D : va_G) (X : cc_X) (fu : Nat) (x0 : Nat) (x1 : Int32) (x2 : Int32) (x3 : Int32) (x4 : Int32) (x5 : Int32) (st : cc_S) : cc_Mi l D X yX1_gives cX1_gives 6 (some .int) 1 25 [.ref (cx_a X x0), .int x1, .int x2, .int x3, .int x4, .int x5] st (C_X1_gives X fu x0 x1 x2 x3 x4 x5 st) := by
  intro r st' hf
  refine cc_enter (cc := cX1_gives) (nL := 6) (ret := some .int) (by decide +kernel) rfl (Nat.le_of_ble_eq_true rfl) ?_
  intro p e s m args below meth c ls Cx hl hM
  exact w_X1_gives Cx fu x0 x1 x2 x3 x4 x5 st hf hl hM

/-! X4_began -/
def tb_X4_began : List (Nat × Instr × Nat) := [(0, .aload_n 0, 1), (1, .getfield 19, 3), (4, .iconst 0, 1), (5, .iaload, 1), (6, .iconst 1, 1), (7, .iadd, 1), (8, .istore_n 2, 1), (9, .aload_n 0, 1), (10, .getfield 19, 3), (13, .iconst 0, 1), (14, .iload_n 2, 1), (15, .iastore, 1), (16, .iload_n 2, 1), (17, .ifCond .le 19, 3), (20, .iload_n 2, 1), (21, .aload_n 0, 1), (22, .getfield 19, 3), (25, .arraylength, 1), (26, .if_icmp .ge 10, 3), (29, .aload_n 0, 1), (30, .getfield 19, 3), (33, .iload_n 2, 1), (34, .iload_n 1, 1), (35, .iastore, 1), (36, .return_, 1)]
theorem td_X4_began : tb_X4_began.all (fun q => decide (decode cX4_began q.1 = .ok (q.2.1, q.2.2))) = true := by decide +kernel
theorem hd_X4_began : yX4_began.cls = RX4 ∧ yX4_began.cls ≠ "java/lang/invoke/MethodHandle" ∧ yX4_began.cls ≠ "java/lang/invoke/VarHandle" ∧ (parseMethodDescriptor yX4_began.desc).map (fun d => d.parameters.length) = some 1 := by decide +kernel
theorem hs_X4_began : yX4_began.name ≠ "<init>" ∧ (parseMethodDescriptor yX4_began.desc).map (fun d => d.parameters.length) = some 1 := by decide +kernel
theorem w_X4_began {p : Program} {l : Launch} {e : Env} {s : State} {m : MethodId} {args : Array Value} {below : List Frame} {meth : Method} {c : Code} {D : va_G} {X : cc_X} {st' : cc_S} (Cx : cc_C p s m args meth c cX4_began 3 (none) RX4 D X) (fu : Nat) (x0 : Nat) (x1 : Int32) (st : cc_S) (hf : C_X4_began X fu x0 x1 st = some st') {H : Heap} {locs : List Loc} {ls : Array Slot} (hl : lv_has ls 3 [(0, .ref (cx_a X x0)), (1, .int x1)]) (hM : cc_H D X s.heap st H locs) : W p l e (mm_R 0 0) s m args below meth c H locs 0 0 (MQ below (cc_Qv D X st') args s 0 0 (cc_A X)) (F0 m 0 ls []) := by
  unfold C_X4_began at hf
  refine lv_aload_n Cx.1 Cx.2.1 (dd_at td_X4_began 0 rfl) rfl (lv_at hl 0 rfl) ?_
  obtain ⟨g1, hf⟩ := fc_of_gd hf
  refine cc_gBn Cx hM g1 (by decide) cw190 (dd_at td_X4_began 1 rfl) ?_
  refine lv_iconst (v := (0 : Int32)) Cx.1 Cx.2.1 (dd_at td_X4_began 2 rfl) (by decide) ?_
  obtain ⟨g2, hf⟩ := fc_of_gd hf
  refine cc_iald Cx hM g2 (dd_at td_X4_began 3 rfl) ?_
  refine lv_iconst (v := (1 : Int32)) Cx.1 Cx.2.1 (dd_at td_X4_began 4 rfl) (by decide) ?_
  refine lv_iadd Cx.1 Cx.2.1 (dd_at td_X4_began 5 rfl) ?_
  refine lv_topi (fun v3 ev3 => ?_)
  replace hf := fc_of_nm hf v3 ev3
  refine lv_istore_n (lv' := [(2, .int v3), (0, .ref (cx_a X x0)), (1, .int x1)]) Cx.1 Cx.2.1 (dd_at td_X4_began 6 rfl) rfl hl (by decide) rfl (fun ls hl => ?_)
  refine lv_aload_n Cx.1 Cx.2.1 (dd_at td_X4_began 7 rfl) rfl (lv_at hl 1 rfl) ?_
  refine cc_gBn Cx hM g1 (by decide) cw190 (dd_at td_X4_began 8 rfl) ?_
  refine lv_iconst (v := (0 : Int32)) Cx.1 Cx.2.1 (dd_at td_X4_began 9 rfl) (by decide) ?_
  refine lv_iload_n Cx.1 Cx.2.1 (dd_at td_X4_began 10 rfl) rfl (lv_at hl 0 rfl) ?_
  obtain ⟨g4, hf⟩ := fc_of_gd hf
  refine cc_iast Cx hM g4 (dd_at td_X4_began 11 rfl) (fun st5 H locs est5 hM => ?_)
  replace hf := fc_of_nm hf st5 est5
  refine lv_iload_n Cx.1 Cx.2.1 (dd_at td_X4_began 12 rfl) rfl (lv_at hl 0 rfl) ?_
  refine lv_if_le (tgt := 36) Cx.1 Cx.2.1 (dd_at td_X4_began 13 rfl) (by decide) (fun c6 => ?_) (fun c6 => ?_)
  · replace hf := fc_of_t hf c6
    exact cc_rv Cx hM (dd_at td_X4_began 24 rfl) hf
  · replace hf := fc_of_f hf c6
    refine lv_iload_n Cx.1 Cx.2.1 (dd_at td_X4_began 14 rfl) rfl (lv_at hl 0 rfl) ?_
    refine lv_aload_n Cx.1 Cx.2.1 (dd_at td_X4_began 15 rfl) rfl (lv_at hl 1 rfl) ?_
    refine cc_gBn Cx hM g1 (by decide) cw190 (dd_at td_X4_began 16 rfl) ?_
    obtain ⟨g7, hf⟩ := fc_of_gd hf
    refine cc_al_ (t := 1) Cx hM g7 rfl (dd_at td_X4_began 17 rfl) ?_
    refine lv_icmp_ge (tgt := 36) Cx.1 Cx.2.1 (dd_at td_X4_began 18 rfl) (by decide) (fun c8 => ?_) (fun c8 => ?_)
    · replace hf := fc_of_t hf c8
      exact cc_rv Cx hM (dd_at td_X4_began 24 rfl) hf
    · replace hf := fc_of_f hf c8
      refine lv_aload_n Cx.1 Cx.2.1 (dd_at td_X4_began 19 rfl) rfl (lv_at hl 1 rfl) ?_
      refine cc_gBn Cx hM g1 (by decide) cw190 (dd_at td_X4_began 20 rfl) ?_
      refine lv_iload_n Cx.1 Cx.2.1 (dd_at td_X4_began 21 rfl) rfl (lv_at hl 0 rfl) ?_
      refine lv_iload_n Cx.1 Cx.2.1 (dd_at td_X4_began 22 rfl) rfl (lv_at hl 2 rfl) ?_
      obtain ⟨g9, hf⟩ := fc_of_gd hf
      refine cc_iast Cx hM g9 (dd_at td_X4_began 23 rfl) (fun st10 H locs est10 hM => ?_)
      replace hf := fc_of_nm hf st10 est10
      exact cc_rv Cx hM (dd_at td_X4_began 24 rfl) hf
theorem c_X4_began (l : Launch) (D : va_G) (X : cc_X) (fu : Nat) (x0 : Nat) (x1 : Int32) (st : cc_S) : cc_Mv l D X yX4_began cX4_began 3 (none) 0 0 [.ref (cx_a X x0), .int x1] st (C_X4_began X fu x0 x1 st) := by
  intro st' hf
  refine cc_enter (cc := cX4_began) (nL := 3) (ret := none) (by decide +kernel) rfl (Nat.le_of_ble_eq_true rfl) ?_
  intro p e s m args below meth c ls Cx hl hM
  exact w_X4_began Cx fu x0 x1 st hf hl hM

/-! X4_darkens -/
def tb_X4_darkens : List (Nat × Instr × Nat) := [(0, .aload_n 0, 1), (1, .bipush 10, 2), (3, .invokevirtual 23, 3), (6, .iload_n 1, 1), (7, .aload_n 0, 1), (8, .getfield 13, 3), (11, .iadd, 1), (12, .ireturn, 1)]
theorem td_X4_darkens : tb_X4_darkens.all (fun q => decide (decode cX4_darkens q.1 = .ok (q.2.1, q.2.2))) = true := by decide +kernel
theorem hd_X4_darkens : yX4_darkens.cls = RX4 ∧ yX4_darkens.cls ≠ "java/lang/invoke/MethodHandle" ∧ yX4_darkens.cls ≠ "java/lang/invoke/VarHandle" ∧ (parseMethodDescriptor yX4_darkens.desc).map (fun d => d.parameters.length) = some 1 := by decide +kernel
theorem hs_X4_darkens : yX4_darkens.name ≠ "<init>" ∧ (parseMethodDescriptor yX4_darkens.desc).map (fun d => d.parameters.length) = some 1 := by decide +kernel
theorem v_X4_darkens_3 {p : Program} {l : Launch} {e : Env} {s : State} {m : MethodId} {args : Array Value} {below : List Frame} {meth : Method} {c : Code} {H H0 : Heap} {locs : List Loc} {ls : Array Slot} {As rest stk : List Value} {D : va_G} {X : cc_X} {st : cc_S} {i fu : Nat} (Cx : cc_C p s m args meth c cX4_darkens 2 (some .int) RX4 D X) (hM : cc_H D X H0 st H locs) (hid : cc_go X i [3, 4, 5, 6, 7, 8, 11] = true) (a0 : Int32) {st1 : cc_S} (hx : C_X4_began X fu i a0 st = some st1) (hsz : ls.size = 2) (hst : stk = [.int a0].reverse ++ .ref (cx_a X i) :: rest) (hW : (rest.map fun v => v.category).sum ≤ 8) : va_Run p l e (mm_R 1 22) s m args below meth c H locs 0 0 0 0 (F0 m 3 ls stk) rest (cc_Qv D X st1 (Value.ref (cx_a X i) :: [.int a0]).toArray) (cc_A X) := by
  have hc := cc_go_c hid
  simp only [List.mem_cons, List.not_mem_nil, or_false] at hc
  rcases hc with h | h | h | h | h | h | h
  · exact cc_rU (ci := 3) (x := ⟨"EclipsesKept$Need", "began", "(I)V"⟩) (owner := "EclipsesKept$Need") (As := [.int a0]) (n := 1) Cx hM (cc_go_1 hid h) rfl (c_X4_began l D X fu i a0 st st1 hx) (cc_gdU cw235 cw231 cw232 cw212 cw194 cw205) rfl hu_began ⟨Nat.le_of_ble_eq_true rfl, Nat.le_of_ble_eq_true rfl⟩ rfl hsz hst hW (dd_at td_X4_darkens 2 rfl) ⟨Nat.le_refl 0, Nat.le_refl 0⟩
  · exact cc_rU (ci := 4) (x := ⟨"EclipsesKept$Need", "began", "(I)V"⟩) (owner := "EclipsesKept$Need") (As := [.int a0]) (n := 1) Cx hM (cc_go_1 hid h) rfl (c_X4_began l D X fu i a0 st st1 hx) (cc_gdU cw235 cw231 cw233 cw212 cw194 cw205) rfl hu_began ⟨Nat.le_of_ble_eq_true rfl, Nat.le_of_ble_eq_true rfl⟩ rfl hsz hst hW (dd_at td_X4_darkens 2 rfl) ⟨Nat.le_refl 0, Nat.le_refl 0⟩
  · exact cc_rU (ci := 5) (x := ⟨"EclipsesKept$Need", "began", "(I)V"⟩) (owner := "EclipsesKept$Need") (As := [.int a0]) (n := 1) Cx hM (cc_go_1 hid h) rfl (c_X4_began l D X fu i a0 st st1 hx) (cc_gdU cw235 cw231 cw234 cw212 cw194 cw205) rfl hu_began ⟨Nat.le_of_ble_eq_true rfl, Nat.le_of_ble_eq_true rfl⟩ rfl hsz hst hW (dd_at td_X4_darkens 2 rfl) ⟨Nat.le_refl 0, Nat.le_refl 0⟩
  · exact cc_rV (ci := 6) (As := [.int a0]) (n := 1) Cx hM (cc_go_1 hid h) rfl (c_X4_began l D X fu i a0 st st1 hx) (cc_gdV cw235 cw212 cw236 cw194 cw205) hd_X4_began ⟨Nat.le_of_ble_eq_true rfl, Nat.le_of_ble_eq_true rfl⟩ rfl hsz hst hW (dd_at td_X4_darkens 2 rfl) ⟨Nat.le_refl 0, Nat.le_refl 0⟩
  · exact cc_rU (ci := 7) (x := ⟨"EclipsesKept$Need", "began", "(I)V"⟩) (owner := "EclipsesKept$Need") (As := [.int a0]) (n := 1) Cx hM (cc_go_1 hid h) rfl (c_X4_began l D X fu i a0 st st1 hx) (cc_gdU cw235 cw231 cw237 cw212 cw194 cw205) rfl hu_began ⟨Nat.le_of_ble_eq_true rfl, Nat.le_of_ble_eq_true rfl⟩ rfl hsz hst hW (dd_at td_X4_darkens 2 rfl) ⟨Nat.le_refl 0, Nat.le_refl 0⟩
  · exact cc_rU (ci := 8) (x := ⟨"EclipsesKept$Need", "began", "(I)V"⟩) (owner := "EclipsesKept$Need") (As := [.int a0]) (n := 1) Cx hM (cc_go_1 hid h) rfl (c_X4_began l D X fu i a0 st st1 hx) (cc_gdU cw235 cw231 cw238 cw212 cw194 cw205) rfl hu_began ⟨Nat.le_of_ble_eq_true rfl, Nat.le_of_ble_eq_true rfl⟩ rfl hsz hst hW (dd_at td_X4_darkens 2 rfl) ⟨Nat.le_refl 0, Nat.le_refl 0⟩
  · exact cc_rU (ci := 11) (x := ⟨"EclipsesKept$Need", "began", "(I)V"⟩) (owner := "EclipsesKept$Need") (As := [.int a0]) (n := 1) Cx hM (cc_go_1 hid h) rfl (c_X4_began l D X fu i a0 st st1 hx) (cc_gdU cw235 cw231 cw239 cw212 cw194 cw205) rfl hu_began ⟨Nat.le_of_ble_eq_true rfl, Nat.le_of_ble_eq_true rfl⟩ rfl hsz hst hW (dd_at td_X4_darkens 2 rfl) ⟨Nat.le_refl 0, Nat.le_refl 0⟩
theorem w_X4_darkens {p : Program} {l : Launch} {e : Env} {s : State} {m : MethodId} {args : Array Value} {below : List Frame} {meth : Method} {c : Code} {D : va_G} {X : cc_X} {r : Int32} {st' : cc_S} (Cx : cc_C p s m args meth c cX4_darkens 2 (some .int) RX4 D X) (fu : Nat) (x0 : Nat) (x1 : Int32) (st : cc_S) (hf : C_X4_darkens X fu x0 x1 st = some (r, st')) {H : Heap} {locs : List Loc} {ls : Array Slot} (hl : lv_has ls 2 [(0, .ref (cx_a X x0)), (1, .int x1)]) (hM : cc_H D X s.heap st H locs) : W p l e (mm_R 1 22) s m args below meth c H locs 0 0 (MQ below (cc_Qi D X r st') args s 0 0 (cc_A X)) (F0 m 0 ls []) := by
  unfold C_X4_darkens at hf
  refine lv_aload_n Cx.1 Cx.2.1 (dd_at td_X4_darkens 0 rfl) rfl (lv_at hl 0 rfl) ?_
  refine lv_bipush (v := (10 : Int32)) Cx.1 Cx.2.1 (dd_at td_X4_darkens 1 rfl) (by decide) ?_
  obtain ⟨g1, hf⟩ := fc_of_gd hf
  obtain ⟨st2, hx3, hf⟩ := fc_of_bv hf
  refine cc_av hM (v_X4_darkens_3 (As := [.int (10 : Int32)]) (rest := []) Cx hM g1 (10 : Int32) hx3 hl.1 rfl (Nat.le_of_ble_eq_true rfl)) (fun H locs hM => ?_)
  refine lv_iload_n Cx.1 Cx.2.1 (dd_at td_X4_darkens 3 rfl) rfl (lv_at hl 1 rfl) ?_
  refine lv_aload_n Cx.1 Cx.2.1 (dd_at td_X4_darkens 4 rfl) rfl (lv_at hl 0 rfl) ?_
  refine cc_gIn (k := 1) Cx hM g1 (by decide) (by decide) cw188 (dd_at td_X4_darkens 5 rfl) ?_
  refine lv_iadd Cx.1 Cx.2.1 (dd_at td_X4_darkens 6 rfl) ?_
  exact cc_ri Cx hM (dd_at td_X4_darkens 7 rfl) hf
theorem c_X4_darkens (l : Launch) (D : va_G) (X : cc_X) (fu : Nat) (x0 : Nat) (x1 : Int32) (st : cc_S) : cc_Mi l D X yX4_darkens cX4_darkens 2 (some .int) 1 22 [.ref (cx_a X x0), .int x1] st (C_X4_darkens X fu x0 x1 st) := by
  intro r st' hf
  refine cc_enter (cc := cX4_darkens) (nL := 2) (ret := some .int) (by decide +kernel) rfl (Nat.le_of_ble_eq_true rfl) ?_
  intro p e s m args below meth c ls Cx hl hM
  exact w_X4_darkens Cx fu x0 x1 st hf hl hM

/-! X2_darkens -/
def tb_X2_darkens : List (Nat × Instr × Nat) := [(0, .aload_n 0, 1), (1, .bipush 50, 2), (3, .invokevirtual 11, 3), (6, .aload_n 0, 1), (7, .iload_n 1, 1), (8, .invokespecial 17, 3), (11, .ineg, 1), (12, .ireturn, 1)]
theorem td_X2_darkens : tb_X2_darkens.all (fun q => decide (decode cX2_darkens q.1 = .ok (q.2.1, q.2.2))) = true := by decide +kernel
theorem hd_X2_darkens : yX2_darkens.cls = RX2 ∧ yX2_darkens.cls ≠ "java/lang/invoke/MethodHandle" ∧ yX2_darkens.cls ≠ "java/lang/invoke/VarHandle" ∧ (parseMethodDescriptor yX2_darkens.desc).map (fun d => d.parameters.length) = some 1 := by decide +kernel
theorem hs_X2_darkens : yX2_darkens.name ≠ "<init>" ∧ (parseMethodDescriptor yX2_darkens.desc).map (fun d => d.parameters.length) = some 1 := by decide +kernel
theorem v_X2_darkens_3 {p : Program} {l : Launch} {e : Env} {s : State} {m : MethodId} {args : Array Value} {below : List Frame} {meth : Method} {c : Code} {H H0 : Heap} {locs : List Loc} {ls : Array Slot} {As rest stk : List Value} {D : va_G} {X : cc_X} {st : cc_S} {i fu : Nat} (Cx : cc_C p s m args meth c cX2_darkens 2 (some .int) RX2 D X) (hM : cc_H D X H0 st H locs) (hid : cc_go X i [4] = true) (a0 : Int32) {st1 : cc_S} (hx : C_X4_began X fu i a0 st = some st1) (hsz : ls.size = 2) (hst : stk = [.int a0].reverse ++ .ref (cx_a X i) :: rest) (hW : (rest.map fun v => v.category).sum ≤ 8) : va_Run p l e (mm_R 2 43) s m args below meth c H locs 0 0 0 0 (F0 m 3 ls stk) rest (cc_Qv D X st1 (Value.ref (cx_a X i) :: [.int a0]).toArray) (cc_A X) := by
  have hc := cc_go_c hid
  simp only [List.mem_cons, List.not_mem_nil, or_false] at hc
  have h := hc
  exact cc_rU (ci := 4) (x := ⟨"EclipsesKept$Child", "began", "(I)V"⟩) (owner := "EclipsesKept$Need") (As := [.int a0]) (n := 1) Cx hM (cc_go_1 hid h) rfl (c_X4_began l D X fu i a0 st st1 hx) (cc_gdU cw226 cw227 cw228 cw212 cw194 cw205) rfl hu_began ⟨Nat.le_of_ble_eq_true rfl, Nat.le_of_ble_eq_true rfl⟩ rfl hsz hst hW (dd_at td_X2_darkens 2 rfl) ⟨Nat.le_refl 0, Nat.le_refl 0⟩
theorem v_X2_darkens_8 {p : Program} {l : Launch} {e : Env} {s : State} {m : MethodId} {args : Array Value} {below : List Frame} {meth : Method} {c : Code} {H H0 : Heap} {locs : List Loc} {ls : Array Slot} {As rest stk : List Value} {D : va_G} {X : cc_X} {st : cc_S} {i fu : Nat} (Cx : cc_C p s m args meth c cX2_darkens 2 (some .int) RX2 D X) (hM : cc_H D X H0 st H locs) (hid : cc_go X i [4] = true) (a0 : Int32) {r : Int32} {st1 : cc_S} (hx : C_X4_darkens X fu i a0 st = some (r, st1)) (hsz : ls.size = 2) (hst : stk = [.int a0].reverse ++ .ref (cx_a X i) :: rest) (hW : (rest.map fun v => v.category).sum ≤ 8) : va_Run p l e (mm_R 2 43) s m args below meth c H locs 0 0 0 0 (F0 m 8 ls stk) rest (cc_Qi D X r st1 (Value.ref (cx_a X i) :: [.int a0]).toArray) (cc_A X) := by
  have hc := cc_go_c hid
  simp only [List.mem_cons, List.not_mem_nil, or_false] at hc
  have h := hc
  exact cc_rSW (ci := 4) (x := ⟨"EclipsesKept$Siege", "darkens", "(I)I"⟩) (As := [.int a0]) (n := 1) Cx hM (cc_go_1 hid h) rfl (c_X4_darkens l D X fu i a0 st r st1 hx) (cc_gdSW cw872 cw876 cw223 cw277 cw248 cw194 cw229) rfl hs_X4_darkens ⟨Nat.le_of_ble_eq_true rfl, Nat.le_of_ble_eq_true rfl⟩ rfl hsz hst hW (dd_at td_X2_darkens 5 rfl) ⟨Nat.le_refl 0, Nat.le_refl 0⟩
theorem w_X2_darkens {p : Program} {l : Launch} {e : Env} {s : State} {m : MethodId} {args : Array Value} {below : List Frame} {meth : Method} {c : Code} {D : va_G} {X : cc_X} {r : Int32} {st' : cc_S} (Cx : cc_C p s m args meth c cX2_darkens 2 (some .int) RX2 D X) (fu : Nat) (x0 : Nat) (x1 : Int32) (st : cc_S) (hf : C_X2_darkens X fu x0 x1 st = some (r, st')) {H : Heap} {locs : List Loc} {ls : Array Slot} (hl : lv_has ls 2 [(0, .ref (cx_a X x0)), (1, .int x1)]) (hM : cc_H D X s.heap st H locs) : W p l e (mm_R 2 43) s m args below meth c H locs 0 0 (MQ below (cc_Qi D X r st') args s 0 0 (cc_A X)) (F0 m 0 ls []) := by
  unfold C_X2_darkens at hf
  refine lv_aload_n Cx.1 Cx.2.1 (dd_at td_X2_darkens 0 rfl) rfl (lv_at hl 0 rfl) ?_
  refine lv_bipush (v := (50 : Int32)) Cx.1 Cx.2.1 (dd_at td_X2_darkens 1 rfl) (by decide) ?_
  obtain ⟨g1, hf⟩ := fc_of_gd hf
  obtain ⟨st2, hx3, hf⟩ := fc_of_bv hf
  refine cc_av hM (v_X2_darkens_3 (As := [.int (50 : Int32)]) (rest := []) Cx hM g1 (50 : Int32) hx3 hl.1 rfl (Nat.le_of_ble_eq_true rfl)) (fun H locs hM => ?_)
  refine lv_aload_n Cx.1 Cx.2.1 (dd_at td_X2_darkens 3 rfl) rfl (lv_at hl 0 rfl) ?_
  refine lv_iload_n Cx.1 Cx.2.1 (dd_at td_X2_darkens 4 rfl) rfl (lv_at hl 1 rfl) ?_
  obtain ⟨r6, st4, hx5, hf⟩ := fc_of_bn hf
  refine cc_ai hM (v_X2_darkens_8 (As := [.int x1]) (rest := []) Cx hM g1 x1 hx5 hl.1 rfl (Nat.le_of_ble_eq_true rfl)) (fun H locs hM => ?_)
  refine lv_ineg Cx.1 Cx.2.1 (dd_at td_X2_darkens 6 rfl) ?_
  exact cc_ri Cx hM (dd_at td_X2_darkens 7 rfl) hf
theorem c_X2_darkens (l : Launch) (D : va_G) (X : cc_X) (fu : Nat) (x0 : Nat) (x1 : Int32) (st : cc_S) : cc_Mi l D X yX2_darkens cX2_darkens 2 (some .int) 2 43 [.ref (cx_a X x0), .int x1] st (C_X2_darkens X fu x0 x1 st) := by
  intro r st' hf
  refine cc_enter (cc := cX2_darkens) (nL := 2) (ret := some .int) (by decide +kernel) rfl (Nat.le_of_ble_eq_true rfl) ?_
  intro p e s m args below meth c ls Cx hl hM
  exact w_X2_darkens Cx fu x0 x1 st hf hl hM

/-! X3_darkens -/
def tb_X3_darkens : List (Nat × Instr × Nat) := [(0, .aload_n 0, 1), (1, .bipush 30, 2), (3, .invokevirtual 7, 3), (6, .aload_n 0, 1), (7, .iload_n 1, 1), (8, .iconst 3, 1), (9, .imul, 1), (10, .invokespecial 13, 3), (13, .ireturn, 1)]
theorem td_X3_darkens : tb_X3_darkens.all (fun q => decide (decode cX3_darkens q.1 = .ok (q.2.1, q.2.2))) = true := by decide +kernel
theorem hd_X3_darkens : yX3_darkens.cls = RX3 ∧ yX3_darkens.cls ≠ "java/lang/invoke/MethodHandle" ∧ yX3_darkens.cls ≠ "java/lang/invoke/VarHandle" ∧ (parseMethodDescriptor yX3_darkens.desc).map (fun d => d.parameters.length) = some 1 := by decide +kernel
theorem hs_X3_darkens : yX3_darkens.name ≠ "<init>" ∧ (parseMethodDescriptor yX3_darkens.desc).map (fun d => d.parameters.length) = some 1 := by decide +kernel
theorem v_X3_darkens_3 {p : Program} {l : Launch} {e : Env} {s : State} {m : MethodId} {args : Array Value} {below : List Frame} {meth : Method} {c : Code} {H H0 : Heap} {locs : List Loc} {ls : Array Slot} {As rest stk : List Value} {D : va_G} {X : cc_X} {st : cc_S} {i fu : Nat} (Cx : cc_C p s m args meth c cX3_darkens 2 (some .int) RX3 D X) (hM : cc_H D X H0 st H locs) (hid : cc_go X i [3, 5] = true) (a0 : Int32) {st1 : cc_S} (hx : C_X4_began X fu i a0 st = some st1) (hsz : ls.size = 2) (hst : stk = [.int a0].reverse ++ .ref (cx_a X i) :: rest) (hW : (rest.map fun v => v.category).sum ≤ 8) : va_Run p l e (mm_R 2 43) s m args below meth c H locs 0 0 0 0 (F0 m 3 ls stk) rest (cc_Qv D X st1 (Value.ref (cx_a X i) :: [.int a0]).toArray) (cc_A X) := by
  have hc := cc_go_c hid
  simp only [List.mem_cons, List.not_mem_nil, or_false] at hc
  rcases hc with h | h
  · exact cc_rU (ci := 3) (x := ⟨"EclipsesKept$Crown", "began", "(I)V"⟩) (owner := "EclipsesKept$Need") (As := [.int a0]) (n := 1) Cx hM (cc_go_1 hid h) rfl (c_X4_began l D X fu i a0 st st1 hx) (cc_gdU cw241 cw242 cw243 cw212 cw194 cw205) rfl hu_began ⟨Nat.le_of_ble_eq_true rfl, Nat.le_of_ble_eq_true rfl⟩ rfl hsz hst hW (dd_at td_X3_darkens 2 rfl) ⟨Nat.le_refl 0, Nat.le_refl 0⟩
  · exact cc_rU (ci := 5) (x := ⟨"EclipsesKept$Crown", "began", "(I)V"⟩) (owner := "EclipsesKept$Need") (As := [.int a0]) (n := 1) Cx hM (cc_go_1 hid h) rfl (c_X4_began l D X fu i a0 st st1 hx) (cc_gdU cw241 cw242 cw244 cw212 cw194 cw205) rfl hu_began ⟨Nat.le_of_ble_eq_true rfl, Nat.le_of_ble_eq_true rfl⟩ rfl hsz hst hW (dd_at td_X3_darkens 2 rfl) ⟨Nat.le_refl 0, Nat.le_refl 0⟩
theorem v_X3_darkens_10 {p : Program} {l : Launch} {e : Env} {s : State} {m : MethodId} {args : Array Value} {below : List Frame} {meth : Method} {c : Code} {H H0 : Heap} {locs : List Loc} {ls : Array Slot} {As rest stk : List Value} {D : va_G} {X : cc_X} {st : cc_S} {i fu : Nat} (Cx : cc_C p s m args meth c cX3_darkens 2 (some .int) RX3 D X) (hM : cc_H D X H0 st H locs) (hid : cc_go X i [3, 5] = true) (a0 : Int32) {r : Int32} {st1 : cc_S} (hx : C_X4_darkens X fu i a0 st = some (r, st1)) (hsz : ls.size = 2) (hst : stk = [.int a0].reverse ++ .ref (cx_a X i) :: rest) (hW : (rest.map fun v => v.category).sum ≤ 8) : va_Run p l e (mm_R 2 43) s m args below meth c H locs 0 0 0 0 (F0 m 10 ls stk) rest (cc_Qi D X r st1 (Value.ref (cx_a X i) :: [.int a0]).toArray) (cc_A X) := by
  have hc := cc_go_c hid
  simp only [List.mem_cons, List.not_mem_nil, or_false] at hc
  rcases hc with h | h
  · exact cc_rSU (ci := 3) (As := [.int a0]) (n := 1) Cx hM (cc_go_1 hid h) rfl (c_X4_darkens l D X fu i a0 st r st1 hx) (cc_gdSU cw245 cw246 cw247 cw248 cw194 cw229) hs_X4_darkens ⟨Nat.le_of_ble_eq_true rfl, Nat.le_of_ble_eq_true rfl⟩ rfl hsz hst hW (dd_at td_X3_darkens 7 rfl) ⟨Nat.le_refl 0, Nat.le_refl 0⟩
  · exact cc_rSU (ci := 5) (As := [.int a0]) (n := 1) Cx hM (cc_go_1 hid h) rfl (c_X4_darkens l D X fu i a0 st r st1 hx) (cc_gdSU cw245 cw246 cw247 cw248 cw194 cw229) hs_X4_darkens ⟨Nat.le_of_ble_eq_true rfl, Nat.le_of_ble_eq_true rfl⟩ rfl hsz hst hW (dd_at td_X3_darkens 7 rfl) ⟨Nat.le_refl 0, Nat.le_refl 0⟩
theorem w_X3_darkens {p : Program} {l : Launch} {e : Env} {s : State} {m : MethodId} {args : Array Value} {below : List Frame} {meth : Method} {c : Code} {D : va_G} {X : cc_X} {r : Int32} {st' : cc_S} (Cx : cc_C p s m args meth c cX3_darkens 2 (some .int) RX3 D X) (fu : Nat) (x0 : Nat) (x1 : Int32) (st : cc_S) (hf : C_X3_darkens X fu x0 x1 st = some (r, st')) {H : Heap} {locs : List Loc} {ls : Array Slot} (hl : lv_has ls 2 [(0, .ref (cx_a X x0)), (1, .int x1)]) (hM : cc_H D X s.heap st H locs) : W p l e (mm_R 2 43) s m args below meth c H locs 0 0 (MQ below (cc_Qi D X r st') args s 0 0 (cc_A X)) (F0 m 0 ls []) := by
  unfold C_X3_darkens at hf
  refine lv_aload_n Cx.1 Cx.2.1 (dd_at td_X3_darkens 0 rfl) rfl (lv_at hl 0 rfl) ?_
  refine lv_bipush (v := (30 : Int32)) Cx.1 Cx.2.1 (dd_at td_X3_darkens 1 rfl) (by decide) ?_
  obtain ⟨g1, hf⟩ := fc_of_gd hf
  obtain ⟨st2, hx3, hf⟩ := fc_of_bv hf
  refine cc_av hM (v_X3_darkens_3 (As := [.int (30 : Int32)]) (rest := []) Cx hM g1 (30 : Int32) hx3 hl.1 rfl (Nat.le_of_ble_eq_true rfl)) (fun H locs hM => ?_)
  refine lv_aload_n Cx.1 Cx.2.1 (dd_at td_X3_darkens 3 rfl) rfl (lv_at hl 0 rfl) ?_
  refine lv_iload_n Cx.1 Cx.2.1 (dd_at td_X3_darkens 4 rfl) rfl (lv_at hl 1 rfl) ?_
  refine lv_iconst (v := (3 : Int32)) Cx.1 Cx.2.1 (dd_at td_X3_darkens 5 rfl) (by decide) ?_
  refine lv_imul Cx.1 Cx.2.1 (dd_at td_X3_darkens 6 rfl) ?_
  obtain ⟨r6, st4, hx5, hf⟩ := fc_of_bn hf
  refine cc_ai hM (v_X3_darkens_10 (As := [.int (x1 * (3 : Int32))]) (rest := []) Cx hM g1 (x1 * (3 : Int32)) hx5 hl.1 rfl (Nat.le_of_ble_eq_true rfl)) (fun H locs hM => ?_)
  exact cc_ri Cx hM (dd_at td_X3_darkens 8 rfl) hf
theorem c_X3_darkens (l : Launch) (D : va_G) (X : cc_X) (fu : Nat) (x0 : Nat) (x1 : Int32) (st : cc_S) : cc_Mi l D X yX3_darkens cX3_darkens 2 (some .int) 2 43 [.ref (cx_a X x0), .int x1] st (C_X3_darkens X fu x0 x1 st) := by
  intro r st' hf
  refine cc_enter (cc := cX3_darkens) (nL := 2) (ret := some .int) (by decide +kernel) rfl (Nat.le_of_ble_eq_true rfl) ?_
  intro p e s m args below meth c ls Cx hl hM
  exact w_X3_darkens Cx fu x0 x1 st hf hl hM

/-! X9_darkens -/
def tb_X9_darkens : List (Nat × Instr × Nat) := [(0, .aload_n 0, 1), (1, .bipush 71, 2), (3, .invokevirtual 11, 3), (6, .aload_n 0, 1), (7, .iload_n 1, 1), (8, .invokespecial 21, 3), (11, .aload_n 0, 1), (12, .getfield 24, 3), (15, .ixor, 1), (16, .ireturn, 1)]
theorem td_X9_darkens : tb_X9_darkens.all (fun q => decide (decode cX9_darkens q.1 = .ok (q.2.1, q.2.2))) = true := by decide +kernel
theorem hd_X9_darkens : yX9_darkens.cls = RX9 ∧ yX9_darkens.cls ≠ "java/lang/invoke/MethodHandle" ∧ yX9_darkens.cls ≠ "java/lang/invoke/VarHandle" ∧ (parseMethodDescriptor yX9_darkens.desc).map (fun d => d.parameters.length) = some 1 := by decide +kernel
theorem hs_X9_darkens : yX9_darkens.name ≠ "<init>" ∧ (parseMethodDescriptor yX9_darkens.desc).map (fun d => d.parameters.length) = some 1 := by decide +kernel
theorem v_X9_darkens_3 {p : Program} {l : Launch} {e : Env} {s : State} {m : MethodId} {args : Array Value} {below : List Frame} {meth : Method} {c : Code} {H H0 : Heap} {locs : List Loc} {ls : Array Slot} {As rest stk : List Value} {D : va_G} {X : cc_X} {st : cc_S} {i fu : Nat} (Cx : cc_C p s m args meth c cX9_darkens 2 (some .int) RX9 D X) (hM : cc_H D X H0 st H locs) (hid : cc_go X i [11] = true) (a0 : Int32) {st1 : cc_S} (hx : C_X4_began X fu i a0 st = some st1) (hsz : ls.size = 2) (hst : stk = [.int a0].reverse ++ .ref (cx_a X i) :: rest) (hW : (rest.map fun v => v.category).sum ≤ 8) : va_Run p l e (mm_R 2 43) s m args below meth c H locs 0 0 0 0 (F0 m 3 ls stk) rest (cc_Qv D X st1 (Value.ref (cx_a X i) :: [.int a0]).toArray) (cc_A X) := by
  have hc := cc_go_c hid
  simp only [List.mem_cons, List.not_mem_nil, or_false] at hc
  have h := hc
  exact cc_rU (ci := 11) (x := ⟨"EclipsesKept$Told", "began", "(I)V"⟩) (owner := "EclipsesKept$Need") (As := [.int a0]) (n := 1) Cx hM (cc_go_1 hid h) rfl (c_X4_began l D X fu i a0 st st1 hx) (cc_gdU cw252 cw253 cw254 cw212 cw194 cw205) rfl hu_began ⟨Nat.le_of_ble_eq_true rfl, Nat.le_of_ble_eq_true rfl⟩ rfl hsz hst hW (dd_at td_X9_darkens 2 rfl) ⟨Nat.le_refl 0, Nat.le_refl 0⟩
theorem v_X9_darkens_8 {p : Program} {l : Launch} {e : Env} {s : State} {m : MethodId} {args : Array Value} {below : List Frame} {meth : Method} {c : Code} {H H0 : Heap} {locs : List Loc} {ls : Array Slot} {As rest stk : List Value} {D : va_G} {X : cc_X} {st : cc_S} {i fu : Nat} (Cx : cc_C p s m args meth c cX9_darkens 2 (some .int) RX9 D X) (hM : cc_H D X H0 st H locs) (hid : cc_go X i [11] = true) (a0 : Int32) {r : Int32} {st1 : cc_S} (hx : C_X4_darkens X fu i a0 st = some (r, st1)) (hsz : ls.size = 2) (hst : stk = [.int a0].reverse ++ .ref (cx_a X i) :: rest) (hW : (rest.map fun v => v.category).sum ≤ 8) : va_Run p l e (mm_R 2 43) s m args below meth c H locs 0 0 0 0 (F0 m 8 ls stk) rest (cc_Qi D X r st1 (Value.ref (cx_a X i) :: [.int a0]).toArray) (cc_A X) := by
  have hc := cc_go_c hid
  simp only [List.mem_cons, List.not_mem_nil, or_false] at hc
  have h := hc
  exact cc_rSW (ci := 11) (x := ⟨"EclipsesKept$Photo", "darkens", "(I)I"⟩) (As := [.int a0]) (n := 1) Cx hM (cc_go_1 hid h) rfl (c_X4_darkens l D X fu i a0 st r st1 hx) (cc_gdSW cw875 cw878 cw361 cw308 cw248 cw194 cw229) rfl hs_X4_darkens ⟨Nat.le_of_ble_eq_true rfl, Nat.le_of_ble_eq_true rfl⟩ rfl hsz hst hW (dd_at td_X9_darkens 5 rfl) ⟨Nat.le_refl 0, Nat.le_refl 0⟩
theorem w_X9_darkens {p : Program} {l : Launch} {e : Env} {s : State} {m : MethodId} {args : Array Value} {below : List Frame} {meth : Method} {c : Code} {D : va_G} {X : cc_X} {r : Int32} {st' : cc_S} (Cx : cc_C p s m args meth c cX9_darkens 2 (some .int) RX9 D X) (fu : Nat) (x0 : Nat) (x1 : Int32) (st : cc_S) (hf : C_X9_darkens X fu x0 x1 st = some (r, st')) {H : Heap} {locs : List Loc} {ls : Array Slot} (hl : lv_has ls 2 [(0, .ref (cx_a X x0)), (1, .int x1)]) (hM : cc_H D X s.heap st H locs) : W p l e (mm_R 2 43) s m args below meth c H locs 0 0 (MQ below (cc_Qi D X r st') args s 0 0 (cc_A X)) (F0 m 0 ls []) := by
  unfold C_X9_darkens at hf
  refine lv_aload_n Cx.1 Cx.2.1 (dd_at td_X9_darkens 0 rfl) rfl (lv_at hl 0 rfl) ?_
  refine lv_bipush (v := (71 : Int32)) Cx.1 Cx.2.1 (dd_at td_X9_darkens 1 rfl) (by decide) ?_
  obtain ⟨g1, hf⟩ := fc_of_gd hf
  obtain ⟨st2, hx3, hf⟩ := fc_of_bv hf
  refine cc_av hM (v_X9_darkens_3 (As := [.int (71 : Int32)]) (rest := []) Cx hM g1 (71 : Int32) hx3 hl.1 rfl (Nat.le_of_ble_eq_true rfl)) (fun H locs hM => ?_)
  refine lv_aload_n Cx.1 Cx.2.1 (dd_at td_X9_darkens 3 rfl) rfl (lv_at hl 0 rfl) ?_
  refine lv_iload_n Cx.1 Cx.2.1 (dd_at td_X9_darkens 4 rfl) rfl (lv_at hl 1 rfl) ?_
  obtain ⟨r6, st4, hx5, hf⟩ := fc_of_bn hf
  refine cc_ai hM (v_X9_darkens_8 (As := [.int x1]) (rest := []) Cx hM g1 x1 hx5 hl.1 rfl (Nat.le_of_ble_eq_true rfl)) (fun H locs hM => ?_)
  refine lv_aload_n Cx.1 Cx.2.1 (dd_at td_X9_darkens 6 rfl) rfl (lv_at hl 0 rfl) ?_
  refine cc_gI (ci := 11) (C := RX9) (T := TX9) (N := 4) (k := 2) (ref := "EclipsesKept$Told") Cx hM g1 rfl cc_inX9 rfl (by decide) cw250 (u_same (Cx.2.2.2.2.2.1 _ cw251)) (dd_at td_X9_darkens 7 rfl) rfl ?_
  refine lv_ixor Cx.1 Cx.2.1 (dd_at td_X9_darkens 8 rfl) ?_
  exact cc_ri Cx hM (dd_at td_X9_darkens 9 rfl) hf
theorem c_X9_darkens (l : Launch) (D : va_G) (X : cc_X) (fu : Nat) (x0 : Nat) (x1 : Int32) (st : cc_S) : cc_Mi l D X yX9_darkens cX9_darkens 2 (some .int) 2 43 [.ref (cx_a X x0), .int x1] st (C_X9_darkens X fu x0 x1 st) := by
  intro r st' hf
  refine cc_enter (cc := cX9_darkens) (nL := 2) (ret := some .int) (by decide +kernel) rfl (Nat.le_of_ble_eq_true rfl) ?_
  intro p e s m args below meth c ls Cx hl hM
  exact w_X9_darkens Cx fu x0 x1 st hf hl hM

/-! X4_pleads -/
def tb_X4_pleads : List (Nat × Instr × Nat) := [(0, .aload_n 0, 1), (1, .bipush 11, 2), (3, .invokevirtual 23, 3), (6, .aload_n 0, 1), (7, .iload_n 1, 1), (8, .invokevirtual 27, 3), (11, .aload_n 0, 1), (12, .getfield 16, 3), (15, .isub, 1), (16, .ireturn, 1)]
theorem td_X4_pleads : tb_X4_pleads.all (fun q => decide (decode cX4_pleads q.1 = .ok (q.2.1, q.2.2))) = true := by decide +kernel
theorem hd_X4_pleads : yX4_pleads.cls = RX4 ∧ yX4_pleads.cls ≠ "java/lang/invoke/MethodHandle" ∧ yX4_pleads.cls ≠ "java/lang/invoke/VarHandle" ∧ (parseMethodDescriptor yX4_pleads.desc).map (fun d => d.parameters.length) = some 1 := by decide +kernel
theorem hs_X4_pleads : yX4_pleads.name ≠ "<init>" ∧ (parseMethodDescriptor yX4_pleads.desc).map (fun d => d.parameters.length) = some 1 := by decide +kernel
theorem v_X4_pleads_3 {p : Program} {l : Launch} {e : Env} {s : State} {m : MethodId} {args : Array Value} {below : List Frame} {meth : Method} {c : Code} {H H0 : Heap} {locs : List Loc} {ls : Array Slot} {As rest stk : List Value} {D : va_G} {X : cc_X} {st : cc_S} {i fu : Nat} (Cx : cc_C p s m args meth c cX4_pleads 2 (some .int) RX4 D X) (hM : cc_H D X H0 st H locs) (hid : cc_go X i [3, 4, 5, 6, 7, 8, 11] = true) (a0 : Int32) {st1 : cc_S} (hx : C_X4_began X fu i a0 st = some st1) (hsz : ls.size = 2) (hst : stk = [.int a0].reverse ++ .ref (cx_a X i) :: rest) (hW : (rest.map fun v => v.category).sum ≤ 8) : va_Run p l e (mm_R 3 64) s m args below meth c H locs 0 0 0 0 (F0 m 3 ls stk) rest (cc_Qv D X st1 (Value.ref (cx_a X i) :: [.int a0]).toArray) (cc_A X) := by
  have hc := cc_go_c hid
  simp only [List.mem_cons, List.not_mem_nil, or_false] at hc
  rcases hc with h | h | h | h | h | h | h
  · exact cc_rU (ci := 3) (x := ⟨"EclipsesKept$Need", "began", "(I)V"⟩) (owner := "EclipsesKept$Need") (As := [.int a0]) (n := 1) Cx hM (cc_go_1 hid h) rfl (c_X4_began l D X fu i a0 st st1 hx) (cc_gdU cw235 cw231 cw232 cw212 cw194 cw205) rfl hu_began ⟨Nat.le_of_ble_eq_true rfl, Nat.le_of_ble_eq_true rfl⟩ rfl hsz hst hW (dd_at td_X4_pleads 2 rfl) ⟨Nat.le_refl 0, Nat.le_refl 0⟩
  · exact cc_rU (ci := 4) (x := ⟨"EclipsesKept$Need", "began", "(I)V"⟩) (owner := "EclipsesKept$Need") (As := [.int a0]) (n := 1) Cx hM (cc_go_1 hid h) rfl (c_X4_began l D X fu i a0 st st1 hx) (cc_gdU cw235 cw231 cw233 cw212 cw194 cw205) rfl hu_began ⟨Nat.le_of_ble_eq_true rfl, Nat.le_of_ble_eq_true rfl⟩ rfl hsz hst hW (dd_at td_X4_pleads 2 rfl) ⟨Nat.le_refl 0, Nat.le_refl 0⟩
  · exact cc_rU (ci := 5) (x := ⟨"EclipsesKept$Need", "began", "(I)V"⟩) (owner := "EclipsesKept$Need") (As := [.int a0]) (n := 1) Cx hM (cc_go_1 hid h) rfl (c_X4_began l D X fu i a0 st st1 hx) (cc_gdU cw235 cw231 cw234 cw212 cw194 cw205) rfl hu_began ⟨Nat.le_of_ble_eq_true rfl, Nat.le_of_ble_eq_true rfl⟩ rfl hsz hst hW (dd_at td_X4_pleads 2 rfl) ⟨Nat.le_refl 0, Nat.le_refl 0⟩
  · exact cc_rV (ci := 6) (As := [.int a0]) (n := 1) Cx hM (cc_go_1 hid h) rfl (c_X4_began l D X fu i a0 st st1 hx) (cc_gdV cw235 cw212 cw236 cw194 cw205) hd_X4_began ⟨Nat.le_of_ble_eq_true rfl, Nat.le_of_ble_eq_true rfl⟩ rfl hsz hst hW (dd_at td_X4_pleads 2 rfl) ⟨Nat.le_refl 0, Nat.le_refl 0⟩
  · exact cc_rU (ci := 7) (x := ⟨"EclipsesKept$Need", "began", "(I)V"⟩) (owner := "EclipsesKept$Need") (As := [.int a0]) (n := 1) Cx hM (cc_go_1 hid h) rfl (c_X4_began l D X fu i a0 st st1 hx) (cc_gdU cw235 cw231 cw237 cw212 cw194 cw205) rfl hu_began ⟨Nat.le_of_ble_eq_true rfl, Nat.le_of_ble_eq_true rfl⟩ rfl hsz hst hW (dd_at td_X4_pleads 2 rfl) ⟨Nat.le_refl 0, Nat.le_refl 0⟩
  · exact cc_rU (ci := 8) (x := ⟨"EclipsesKept$Need", "began", "(I)V"⟩) (owner := "EclipsesKept$Need") (As := [.int a0]) (n := 1) Cx hM (cc_go_1 hid h) rfl (c_X4_began l D X fu i a0 st st1 hx) (cc_gdU cw235 cw231 cw238 cw212 cw194 cw205) rfl hu_began ⟨Nat.le_of_ble_eq_true rfl, Nat.le_of_ble_eq_true rfl⟩ rfl hsz hst hW (dd_at td_X4_pleads 2 rfl) ⟨Nat.le_refl 0, Nat.le_refl 0⟩
  · exact cc_rU (ci := 11) (x := ⟨"EclipsesKept$Need", "began", "(I)V"⟩) (owner := "EclipsesKept$Need") (As := [.int a0]) (n := 1) Cx hM (cc_go_1 hid h) rfl (c_X4_began l D X fu i a0 st st1 hx) (cc_gdU cw235 cw231 cw239 cw212 cw194 cw205) rfl hu_began ⟨Nat.le_of_ble_eq_true rfl, Nat.le_of_ble_eq_true rfl⟩ rfl hsz hst hW (dd_at td_X4_pleads 2 rfl) ⟨Nat.le_refl 0, Nat.le_refl 0⟩
theorem v_X4_pleads_8 {p : Program} {l : Launch} {e : Env} {s : State} {m : MethodId} {args : Array Value} {below : List Frame} {meth : Method} {c : Code} {H H0 : Heap} {locs : List Loc} {ls : Array Slot} {As rest stk : List Value} {D : va_G} {X : cc_X} {st : cc_S} {i fu : Nat} (Cx : cc_C p s m args meth c cX4_pleads 2 (some .int) RX4 D X) (hM : cc_H D X H0 st H locs) (hid : cc_go X i [3, 4, 5, 6, 7, 8, 11] = true) (a0 : Int32) {r : Int32} {st1 : cc_S} (hx : D_darkens_3_4_5_6_7_8_11 X fu i a0 st = some (r, st1)) (hsz : ls.size = 2) (hst : stk = [.int a0].reverse ++ .ref (cx_a X i) :: rest) (hW : (rest.map fun v => v.category).sum ≤ 8) : va_Run p l e (mm_R 3 64) s m args below meth c H locs 0 0 0 0 (F0 m 8 ls stk) rest (cc_Qi D X r st1 (Value.ref (cx_a X i) :: [.int a0]).toArray) (cc_A X) := by
  have hc := cc_go_c hid
  simp only [List.mem_cons, List.not_mem_nil, or_false] at hc
  rcases hc with h | h | h | h | h | h | h
  · have hx2 : C_X3_darkens X fu i a0 st = some (r, st1) := by simpa [D_darkens_3_4_5_6_7_8_11, h] using hx
    exact cc_rO (ci := 3) (x := ⟨"EclipsesKept$Need", "darkens", "(I)I"⟩) (owner := "EclipsesKept$Need") (As := [.int a0]) (n := 1) Cx hM (cc_go_1 hid h) rfl (c_X3_darkens l D X fu i a0 st r st1 hx2) (cc_gdO cw263 cw246 cw248 cw257 cw258 cw198 cw240) cw229 hu_darkens ⟨Nat.le_of_ble_eq_true rfl, Nat.le_of_ble_eq_true rfl⟩ rfl hsz hst hW (dd_at td_X4_pleads 5 rfl) ⟨Nat.le_refl 0, Nat.le_refl 0⟩
  · have hx2 : C_X2_darkens X fu i a0 st = some (r, st1) := by simpa [D_darkens_3_4_5_6_7_8_11, h] using hx
    exact cc_rO (ci := 4) (x := ⟨"EclipsesKept$Need", "darkens", "(I)I"⟩) (owner := "EclipsesKept$Need") (As := [.int a0]) (n := 1) Cx hM (cc_go_1 hid h) rfl (c_X2_darkens l D X fu i a0 st r st1 hx2) (cc_gdO cw263 cw246 cw248 cw259 cw260 cw261 cw225) cw229 hu_darkens ⟨Nat.le_of_ble_eq_true rfl, Nat.le_of_ble_eq_true rfl⟩ rfl hsz hst hW (dd_at td_X4_pleads 5 rfl) ⟨Nat.le_refl 0, Nat.le_refl 0⟩
  · have hx2 : C_X3_darkens X fu i a0 st = some (r, st1) := by simpa [D_darkens_3_4_5_6_7_8_11, h] using hx
    exact cc_rO (ci := 5) (x := ⟨"EclipsesKept$Need", "darkens", "(I)I"⟩) (owner := "EclipsesKept$Need") (As := [.int a0]) (n := 1) Cx hM (cc_go_1 hid h) rfl (c_X3_darkens l D X fu i a0 st r st1 hx2) (cc_gdO cw263 cw246 cw248 cw262 cw258 cw198 cw240) cw229 hu_darkens ⟨Nat.le_of_ble_eq_true rfl, Nat.le_of_ble_eq_true rfl⟩ rfl hsz hst hW (dd_at td_X4_pleads 5 rfl) ⟨Nat.le_refl 0, Nat.le_refl 0⟩
  · have hx2 : C_X4_darkens X fu i a0 st = some (r, st1) := by simpa [D_darkens_3_4_5_6_7_8_11, h] using hx
    exact cc_rV (ci := 6) (As := [.int a0]) (n := 1) Cx hM (cc_go_1 hid h) rfl (c_X4_darkens l D X fu i a0 st r st1 hx2) (cc_gdV cw263 cw248 cw264 cw194 cw229) hd_X4_darkens ⟨Nat.le_of_ble_eq_true rfl, Nat.le_of_ble_eq_true rfl⟩ rfl hsz hst hW (dd_at td_X4_pleads 5 rfl) ⟨Nat.le_refl 0, Nat.le_refl 0⟩
  · have hx2 : C_X4_darkens X fu i a0 st = some (r, st1) := by simpa [D_darkens_3_4_5_6_7_8_11, h] using hx
    exact cc_rU (ci := 7) (x := ⟨"EclipsesKept$Need", "darkens", "(I)I"⟩) (owner := "EclipsesKept$Need") (As := [.int a0]) (n := 1) Cx hM (cc_go_1 hid h) rfl (c_X4_darkens l D X fu i a0 st r st1 hx2) (cc_gdU cw263 cw246 cw265 cw248 cw194 cw229) rfl hu_darkens ⟨Nat.le_of_ble_eq_true rfl, Nat.le_of_ble_eq_true rfl⟩ rfl hsz hst hW (dd_at td_X4_pleads 5 rfl) ⟨Nat.le_refl 0, Nat.le_refl 0⟩
  · have hx2 : C_X4_darkens X fu i a0 st = some (r, st1) := by simpa [D_darkens_3_4_5_6_7_8_11, h] using hx
    exact cc_rU (ci := 8) (x := ⟨"EclipsesKept$Need", "darkens", "(I)I"⟩) (owner := "EclipsesKept$Need") (As := [.int a0]) (n := 1) Cx hM (cc_go_1 hid h) rfl (c_X4_darkens l D X fu i a0 st r st1 hx2) (cc_gdU cw263 cw246 cw266 cw248 cw194 cw229) rfl hu_darkens ⟨Nat.le_of_ble_eq_true rfl, Nat.le_of_ble_eq_true rfl⟩ rfl hsz hst hW (dd_at td_X4_pleads 5 rfl) ⟨Nat.le_refl 0, Nat.le_refl 0⟩
  · have hx2 : C_X9_darkens X fu i a0 st = some (r, st1) := by simpa [D_darkens_3_4_5_6_7_8_11, h] using hx
    exact cc_rO (ci := 11) (x := ⟨"EclipsesKept$Need", "darkens", "(I)I"⟩) (owner := "EclipsesKept$Need") (As := [.int a0]) (n := 1) Cx hM (cc_go_1 hid h) rfl (c_X9_darkens l D X fu i a0 st r st1 hx2) (cc_gdO cw263 cw246 cw248 cw267 cw268 cw269 cw249) cw229 hu_darkens ⟨Nat.le_of_ble_eq_true rfl, Nat.le_of_ble_eq_true rfl⟩ rfl hsz hst hW (dd_at td_X4_pleads 5 rfl) ⟨Nat.le_refl 0, Nat.le_refl 0⟩
theorem w_X4_pleads {p : Program} {l : Launch} {e : Env} {s : State} {m : MethodId} {args : Array Value} {below : List Frame} {meth : Method} {c : Code} {D : va_G} {X : cc_X} {r : Int32} {st' : cc_S} (Cx : cc_C p s m args meth c cX4_pleads 2 (some .int) RX4 D X) (fu : Nat) (x0 : Nat) (x1 : Int32) (st : cc_S) (hf : C_X4_pleads X fu x0 x1 st = some (r, st')) {H : Heap} {locs : List Loc} {ls : Array Slot} (hl : lv_has ls 2 [(0, .ref (cx_a X x0)), (1, .int x1)]) (hM : cc_H D X s.heap st H locs) : W p l e (mm_R 3 64) s m args below meth c H locs 0 0 (MQ below (cc_Qi D X r st') args s 0 0 (cc_A X)) (F0 m 0 ls []) := by
  unfold C_X4_pleads at hf
  refine lv_aload_n Cx.1 Cx.2.1 (dd_at td_X4_pleads 0 rfl) rfl (lv_at hl 0 rfl) ?_
  refine lv_bipush (v := (11 : Int32)) Cx.1 Cx.2.1 (dd_at td_X4_pleads 1 rfl) (by decide) ?_
  obtain ⟨g1, hf⟩ := fc_of_gd hf
  obtain ⟨st2, hx3, hf⟩ := fc_of_bv hf
  refine cc_av hM (v_X4_pleads_3 (As := [.int (11 : Int32)]) (rest := []) Cx hM g1 (11 : Int32) hx3 hl.1 rfl (Nat.le_of_ble_eq_true rfl)) (fun H locs hM => ?_)
  refine lv_aload_n Cx.1 Cx.2.1 (dd_at td_X4_pleads 3 rfl) rfl (lv_at hl 0 rfl) ?_
  refine lv_iload_n Cx.1 Cx.2.1 (dd_at td_X4_pleads 4 rfl) rfl (lv_at hl 1 rfl) ?_
  obtain ⟨r6, st4, hx5, hf⟩ := fc_of_bn hf
  refine cc_ai hM (v_X4_pleads_8 (As := [.int x1]) (rest := []) Cx hM g1 x1 hx5 hl.1 rfl (Nat.le_of_ble_eq_true rfl)) (fun H locs hM => ?_)
  refine lv_aload_n Cx.1 Cx.2.1 (dd_at td_X4_pleads 6 rfl) rfl (lv_at hl 0 rfl) ?_
  refine cc_gIn (k := 2) Cx hM g1 (by decide) (by decide) cw189 (dd_at td_X4_pleads 7 rfl) ?_
  refine lv_isub Cx.1 Cx.2.1 (dd_at td_X4_pleads 8 rfl) ?_
  exact cc_ri Cx hM (dd_at td_X4_pleads 9 rfl) hf
theorem c_X4_pleads (l : Launch) (D : va_G) (X : cc_X) (fu : Nat) (x0 : Nat) (x1 : Int32) (st : cc_S) : cc_Mi l D X yX4_pleads cX4_pleads 2 (some .int) 3 64 [.ref (cx_a X x0), .int x1] st (C_X4_pleads X fu x0 x1 st) := by
  intro r st' hf
  refine cc_enter (cc := cX4_pleads) (nL := 2) (ret := some .int) (by decide +kernel) rfl (Nat.le_of_ble_eq_true rfl) ?_
  intro p e s m args below meth c ls Cx hl hM
  exact w_X4_pleads Cx fu x0 x1 st hf hl hM

/-! X6_pleads -/
def tb_X6_pleads : List (Nat × Instr × Nat) := [(0, .aload_n 0, 1), (1, .bipush 20, 2), (3, .invokevirtual 7, 3), (6, .aload_n 0, 1), (7, .iload_n 1, 1), (8, .invokespecial 13, 3), (11, .bipush 6, 2), (13, .ixor, 1), (14, .ireturn, 1)]
theorem td_X6_pleads : tb_X6_pleads.all (fun q => decide (decode cX6_pleads q.1 = .ok (q.2.1, q.2.2))) = true := by decide +kernel
theorem hd_X6_pleads : yX6_pleads.cls = RX6 ∧ yX6_pleads.cls ≠ "java/lang/invoke/MethodHandle" ∧ yX6_pleads.cls ≠ "java/lang/invoke/VarHandle" ∧ (parseMethodDescriptor yX6_pleads.desc).map (fun d => d.parameters.length) = some 1 := by decide +kernel
theorem hs_X6_pleads : yX6_pleads.name ≠ "<init>" ∧ (parseMethodDescriptor yX6_pleads.desc).map (fun d => d.parameters.length) = some 1 := by decide +kernel
theorem v_X6_pleads_3 {p : Program} {l : Launch} {e : Env} {s : State} {m : MethodId} {args : Array Value} {below : List Frame} {meth : Method} {c : Code} {H H0 : Heap} {locs : List Loc} {ls : Array Slot} {As rest stk : List Value} {D : va_G} {X : cc_X} {st : cc_S} {i fu : Nat} (Cx : cc_C p s m args meth c cX6_pleads 2 (some .int) RX6 D X) (hM : cc_H D X H0 st H locs) (hid : cc_go X i [4, 8] = true) (a0 : Int32) {st1 : cc_S} (hx : C_X4_began X fu i a0 st = some st1) (hsz : ls.size = 2) (hst : stk = [.int a0].reverse ++ .ref (cx_a X i) :: rest) (hW : (rest.map fun v => v.category).sum ≤ 8) : va_Run p l e (mm_R 4 85) s m args below meth c H locs 0 0 0 0 (F0 m 3 ls stk) rest (cc_Qv D X st1 (Value.ref (cx_a X i) :: [.int a0]).toArray) (cc_A X) := by
  have hc := cc_go_c hid
  simp only [List.mem_cons, List.not_mem_nil, or_false] at hc
  rcases hc with h | h
  · exact cc_rU (ci := 4) (x := ⟨"EclipsesKept$Siege", "began", "(I)V"⟩) (owner := "EclipsesKept$Need") (As := [.int a0]) (n := 1) Cx hM (cc_go_1 hid h) rfl (c_X4_began l D X fu i a0 st st1 hx) (cc_gdU cw271 cw272 cw273 cw212 cw194 cw205) rfl hu_began ⟨Nat.le_of_ble_eq_true rfl, Nat.le_of_ble_eq_true rfl⟩ rfl hsz hst hW (dd_at td_X6_pleads 2 rfl) ⟨Nat.le_refl 0, Nat.le_refl 0⟩
  · exact cc_rU (ci := 8) (x := ⟨"EclipsesKept$Siege", "began", "(I)V"⟩) (owner := "EclipsesKept$Need") (As := [.int a0]) (n := 1) Cx hM (cc_go_1 hid h) rfl (c_X4_began l D X fu i a0 st st1 hx) (cc_gdU cw271 cw272 cw274 cw212 cw194 cw205) rfl hu_began ⟨Nat.le_of_ble_eq_true rfl, Nat.le_of_ble_eq_true rfl⟩ rfl hsz hst hW (dd_at td_X6_pleads 2 rfl) ⟨Nat.le_refl 0, Nat.le_refl 0⟩
theorem v_X6_pleads_8 {p : Program} {l : Launch} {e : Env} {s : State} {m : MethodId} {args : Array Value} {below : List Frame} {meth : Method} {c : Code} {H H0 : Heap} {locs : List Loc} {ls : Array Slot} {As rest stk : List Value} {D : va_G} {X : cc_X} {st : cc_S} {i fu : Nat} (Cx : cc_C p s m args meth c cX6_pleads 2 (some .int) RX6 D X) (hM : cc_H D X H0 st H locs) (hid : cc_go X i [4, 8] = true) (a0 : Int32) {r : Int32} {st1 : cc_S} (hx : C_X4_pleads X fu i a0 st = some (r, st1)) (hsz : ls.size = 2) (hst : stk = [.int a0].reverse ++ .ref (cx_a X i) :: rest) (hW : (rest.map fun v => v.category).sum ≤ 8) : va_Run p l e (mm_R 4 85) s m args below meth c H locs 0 0 0 0 (F0 m 8 ls stk) rest (cc_Qi D X r st1 (Value.ref (cx_a X i) :: [.int a0]).toArray) (cc_A X) := by
  have hc := cc_go_c hid
  simp only [List.mem_cons, List.not_mem_nil, or_false] at hc
  rcases hc with h | h
  · exact cc_rSU (ci := 4) (As := [.int a0]) (n := 1) Cx hM (cc_go_1 hid h) rfl (c_X4_pleads l D X fu i a0 st r st1 hx) (cc_gdSU cw275 cw276 cw277 cw278 cw194 cw270) hs_X4_pleads ⟨Nat.le_of_ble_eq_true rfl, Nat.le_of_ble_eq_true rfl⟩ rfl hsz hst hW (dd_at td_X6_pleads 5 rfl) ⟨Nat.le_refl 0, Nat.le_refl 0⟩
  · exact cc_rSU (ci := 8) (As := [.int a0]) (n := 1) Cx hM (cc_go_1 hid h) rfl (c_X4_pleads l D X fu i a0 st r st1 hx) (cc_gdSU cw275 cw276 cw277 cw278 cw194 cw270) hs_X4_pleads ⟨Nat.le_of_ble_eq_true rfl, Nat.le_of_ble_eq_true rfl⟩ rfl hsz hst hW (dd_at td_X6_pleads 5 rfl) ⟨Nat.le_refl 0, Nat.le_refl 0⟩
theorem w_X6_pleads {p : Program} {l : Launch} {e : Env} {s : State} {m : MethodId} {args : Array Value} {below : List Frame} {meth : Method} {c : Code} {D : va_G} {X : cc_X} {r : Int32} {st' : cc_S} (Cx : cc_C p s m args meth c cX6_pleads 2 (some .int) RX6 D X) (fu : Nat) (x0 : Nat) (x1 : Int32) (st : cc_S) (hf : C_X6_pleads X fu x0 x1 st = some (r, st')) {H : Heap} {locs : List Loc} {ls : Array Slot} (hl : lv_has ls 2 [(0, .ref (cx_a X x0)), (1, .int x1)]) (hM : cc_H D X s.heap st H locs) : W p l e (mm_R 4 85) s m args below meth c H locs 0 0 (MQ below (cc_Qi D X r st') args s 0 0 (cc_A X)) (F0 m 0 ls []) := by
  unfold C_X6_pleads at hf
  refine lv_aload_n Cx.1 Cx.2.1 (dd_at td_X6_pleads 0 rfl) rfl (lv_at hl 0 rfl) ?_
  refine lv_bipush (v := (20 : Int32)) Cx.1 Cx.2.1 (dd_at td_X6_pleads 1 rfl) (by decide) ?_
  obtain ⟨g1, hf⟩ := fc_of_gd hf
  obtain ⟨st2, hx3, hf⟩ := fc_of_bv hf
  refine cc_av hM (v_X6_pleads_3 (As := [.int (20 : Int32)]) (rest := []) Cx hM g1 (20 : Int32) hx3 hl.1 rfl (Nat.le_of_ble_eq_true rfl)) (fun H locs hM => ?_)
  refine lv_aload_n Cx.1 Cx.2.1 (dd_at td_X6_pleads 3 rfl) rfl (lv_at hl 0 rfl) ?_
  refine lv_iload_n Cx.1 Cx.2.1 (dd_at td_X6_pleads 4 rfl) rfl (lv_at hl 1 rfl) ?_
  obtain ⟨r6, st4, hx5, hf⟩ := fc_of_bn hf
  refine cc_ai hM (v_X6_pleads_8 (As := [.int x1]) (rest := []) Cx hM g1 x1 hx5 hl.1 rfl (Nat.le_of_ble_eq_true rfl)) (fun H locs hM => ?_)
  refine lv_bipush (v := (6 : Int32)) Cx.1 Cx.2.1 (dd_at td_X6_pleads 6 rfl) (by decide) ?_
  refine lv_ixor Cx.1 Cx.2.1 (dd_at td_X6_pleads 7 rfl) ?_
  exact cc_ri Cx hM (dd_at td_X6_pleads 8 rfl) hf
theorem c_X6_pleads (l : Launch) (D : va_G) (X : cc_X) (fu : Nat) (x0 : Nat) (x1 : Int32) (st : cc_S) : cc_Mi l D X yX6_pleads cX6_pleads 2 (some .int) 4 85 [.ref (cx_a X x0), .int x1] st (C_X6_pleads X fu x0 x1 st) := by
  intro r st' hf
  refine cc_enter (cc := cX6_pleads) (nL := 2) (ret := some .int) (by decide +kernel) rfl (Nat.le_of_ble_eq_true rfl) ?_
  intro p e s m args below meth c ls Cx hl hM
  exact w_X6_pleads Cx fu x0 x1 st hf hl hM

/-! X2_pleads -/
def tb_X2_pleads : List (Nat × Instr × Nat) := [(0, .aload_n 0, 1), (1, .bipush 51, 2), (3, .invokevirtual 11, 3), (6, .aload_n 0, 1), (7, .iload_n 1, 1), (8, .iconst 1, 1), (9, .iadd, 1), (10, .invokespecial 21, 3), (13, .ireturn, 1)]
theorem td_X2_pleads : tb_X2_pleads.all (fun q => decide (decode cX2_pleads q.1 = .ok (q.2.1, q.2.2))) = true := by decide +kernel
theorem hd_X2_pleads : yX2_pleads.cls = RX2 ∧ yX2_pleads.cls ≠ "java/lang/invoke/MethodHandle" ∧ yX2_pleads.cls ≠ "java/lang/invoke/VarHandle" ∧ (parseMethodDescriptor yX2_pleads.desc).map (fun d => d.parameters.length) = some 1 := by decide +kernel
theorem hs_X2_pleads : yX2_pleads.name ≠ "<init>" ∧ (parseMethodDescriptor yX2_pleads.desc).map (fun d => d.parameters.length) = some 1 := by decide +kernel
theorem v_X2_pleads_3 {p : Program} {l : Launch} {e : Env} {s : State} {m : MethodId} {args : Array Value} {below : List Frame} {meth : Method} {c : Code} {H H0 : Heap} {locs : List Loc} {ls : Array Slot} {As rest stk : List Value} {D : va_G} {X : cc_X} {st : cc_S} {i fu : Nat} (Cx : cc_C p s m args meth c cX2_pleads 2 (some .int) RX2 D X) (hM : cc_H D X H0 st H locs) (hid : cc_go X i [4] = true) (a0 : Int32) {st1 : cc_S} (hx : C_X4_began X fu i a0 st = some st1) (hsz : ls.size = 2) (hst : stk = [.int a0].reverse ++ .ref (cx_a X i) :: rest) (hW : (rest.map fun v => v.category).sum ≤ 8) : va_Run p l e (mm_R 5 106) s m args below meth c H locs 0 0 0 0 (F0 m 3 ls stk) rest (cc_Qv D X st1 (Value.ref (cx_a X i) :: [.int a0]).toArray) (cc_A X) := by
  have hc := cc_go_c hid
  simp only [List.mem_cons, List.not_mem_nil, or_false] at hc
  have h := hc
  exact cc_rU (ci := 4) (x := ⟨"EclipsesKept$Child", "began", "(I)V"⟩) (owner := "EclipsesKept$Need") (As := [.int a0]) (n := 1) Cx hM (cc_go_1 hid h) rfl (c_X4_began l D X fu i a0 st st1 hx) (cc_gdU cw226 cw227 cw228 cw212 cw194 cw205) rfl hu_began ⟨Nat.le_of_ble_eq_true rfl, Nat.le_of_ble_eq_true rfl⟩ rfl hsz hst hW (dd_at td_X2_pleads 2 rfl) ⟨Nat.le_refl 0, Nat.le_refl 0⟩
theorem w_X2_pleads {p : Program} {l : Launch} {e : Env} {s : State} {m : MethodId} {args : Array Value} {below : List Frame} {meth : Method} {c : Code} {D : va_G} {X : cc_X} {r : Int32} {st' : cc_S} (Cx : cc_C p s m args meth c cX2_pleads 2 (some .int) RX2 D X) (fu : Nat) (x0 : Nat) (x1 : Int32) (st : cc_S) (hf : C_X2_pleads X fu x0 x1 st = some (r, st')) {H : Heap} {locs : List Loc} {ls : Array Slot} (hl : lv_has ls 2 [(0, .ref (cx_a X x0)), (1, .int x1)]) (hM : cc_H D X s.heap st H locs) : W p l e (mm_R 5 106) s m args below meth c H locs 0 0 (MQ below (cc_Qi D X r st') args s 0 0 (cc_A X)) (F0 m 0 ls []) := by
  unfold C_X2_pleads at hf
  refine lv_aload_n Cx.1 Cx.2.1 (dd_at td_X2_pleads 0 rfl) rfl (lv_at hl 0 rfl) ?_
  refine lv_bipush (v := (51 : Int32)) Cx.1 Cx.2.1 (dd_at td_X2_pleads 1 rfl) (by decide) ?_
  obtain ⟨g1, hf⟩ := fc_of_gd hf
  obtain ⟨st2, hx3, hf⟩ := fc_of_bv hf
  refine cc_av hM (v_X2_pleads_3 (As := [.int (51 : Int32)]) (rest := []) Cx hM g1 (51 : Int32) hx3 hl.1 rfl (Nat.le_of_ble_eq_true rfl)) (fun H locs hM => ?_)
  refine lv_aload_n Cx.1 Cx.2.1 (dd_at td_X2_pleads 3 rfl) rfl (lv_at hl 0 rfl) ?_
  refine lv_iload_n Cx.1 Cx.2.1 (dd_at td_X2_pleads 4 rfl) rfl (lv_at hl 1 rfl) ?_
  refine lv_iconst (v := (1 : Int32)) Cx.1 Cx.2.1 (dd_at td_X2_pleads 5 rfl) (by decide) ?_
  refine lv_iadd Cx.1 Cx.2.1 (dd_at td_X2_pleads 6 rfl) ?_
  obtain ⟨r6, st4, hx5, hf⟩ := fc_of_bn hf
  refine cc_ai hM (cc_rSU (ci := 4) (As := [.int (x1 + (1 : Int32))]) (rest := []) (n := 1) Cx hM g1 rfl (c_X6_pleads l D X fu x0 (x1 + (1 : Int32)) st2 r6 st4 hx5) (cc_gdSU cw280 cw281 cw223 cw282 cw218 cw279) hs_X6_pleads ⟨Nat.le_of_ble_eq_true rfl, Nat.le_of_ble_eq_true rfl⟩ rfl hl.1 rfl (Nat.le_of_ble_eq_true rfl) (dd_at td_X2_pleads 7 rfl) ⟨Nat.le_refl 0, Nat.le_refl 0⟩) (fun H locs hM => ?_)
  exact cc_ri Cx hM (dd_at td_X2_pleads 8 rfl) hf
theorem c_X2_pleads (l : Launch) (D : va_G) (X : cc_X) (fu : Nat) (x0 : Nat) (x1 : Int32) (st : cc_S) : cc_Mi l D X yX2_pleads cX2_pleads 2 (some .int) 5 106 [.ref (cx_a X x0), .int x1] st (C_X2_pleads X fu x0 x1 st) := by
  intro r st' hf
  refine cc_enter (cc := cX2_pleads) (nL := 2) (ret := some .int) (by decide +kernel) rfl (Nat.le_of_ble_eq_true rfl) ?_
  intro p e s m args below meth c ls Cx hl hM
  exact w_X2_pleads Cx fu x0 x1 st hf hl hM

/-! X9_pleads -/
def tb_X9_pleads : List (Nat × Instr × Nat) := [(0, .aload_n 0, 1), (1, .bipush 70, 2), (3, .invokevirtual 11, 3), (6, .aload_n 0, 1), (7, .iload_n 1, 1), (8, .invokespecial 17, 3), (11, .aload_n 0, 1), (12, .iconst 2, 1), (13, .invokespecial 21, 3), (16, .iadd, 1), (17, .ireturn, 1)]
theorem td_X9_pleads : tb_X9_pleads.all (fun q => decide (decode cX9_pleads q.1 = .ok (q.2.1, q.2.2))) = true := by decide +kernel
theorem hd_X9_pleads : yX9_pleads.cls = RX9 ∧ yX9_pleads.cls ≠ "java/lang/invoke/MethodHandle" ∧ yX9_pleads.cls ≠ "java/lang/invoke/VarHandle" ∧ (parseMethodDescriptor yX9_pleads.desc).map (fun d => d.parameters.length) = some 1 := by decide +kernel
theorem hs_X9_pleads : yX9_pleads.name ≠ "<init>" ∧ (parseMethodDescriptor yX9_pleads.desc).map (fun d => d.parameters.length) = some 1 := by decide +kernel
theorem v_X9_pleads_3 {p : Program} {l : Launch} {e : Env} {s : State} {m : MethodId} {args : Array Value} {below : List Frame} {meth : Method} {c : Code} {H H0 : Heap} {locs : List Loc} {ls : Array Slot} {As rest stk : List Value} {D : va_G} {X : cc_X} {st : cc_S} {i fu : Nat} (Cx : cc_C p s m args meth c cX9_pleads 2 (some .int) RX9 D X) (hM : cc_H D X H0 st H locs) (hid : cc_go X i [11] = true) (a0 : Int32) {st1 : cc_S} (hx : C_X4_began X fu i a0 st = some st1) (hsz : ls.size = 2) (hst : stk = [.int a0].reverse ++ .ref (cx_a X i) :: rest) (hW : (rest.map fun v => v.category).sum ≤ 8) : va_Run p l e (mm_R 4 85) s m args below meth c H locs 0 0 0 0 (F0 m 3 ls stk) rest (cc_Qv D X st1 (Value.ref (cx_a X i) :: [.int a0]).toArray) (cc_A X) := by
  have hc := cc_go_c hid
  simp only [List.mem_cons, List.not_mem_nil, or_false] at hc
  have h := hc
  exact cc_rU (ci := 11) (x := ⟨"EclipsesKept$Told", "began", "(I)V"⟩) (owner := "EclipsesKept$Need") (As := [.int a0]) (n := 1) Cx hM (cc_go_1 hid h) rfl (c_X4_began l D X fu i a0 st st1 hx) (cc_gdU cw252 cw253 cw254 cw212 cw194 cw205) rfl hu_began ⟨Nat.le_of_ble_eq_true rfl, Nat.le_of_ble_eq_true rfl⟩ rfl hsz hst hW (dd_at td_X9_pleads 2 rfl) ⟨Nat.le_refl 0, Nat.le_refl 0⟩
theorem v_X9_pleads_8 {p : Program} {l : Launch} {e : Env} {s : State} {m : MethodId} {args : Array Value} {below : List Frame} {meth : Method} {c : Code} {H H0 : Heap} {locs : List Loc} {ls : Array Slot} {As rest stk : List Value} {D : va_G} {X : cc_X} {st : cc_S} {i fu : Nat} (Cx : cc_C p s m args meth c cX9_pleads 2 (some .int) RX9 D X) (hM : cc_H D X H0 st H locs) (hid : cc_go X i [11] = true) (a0 : Int32) {r : Int32} {st1 : cc_S} (hx : C_X4_pleads X fu i a0 st = some (r, st1)) (hsz : ls.size = 2) (hst : stk = [.int a0].reverse ++ .ref (cx_a X i) :: rest) (hW : (rest.map fun v => v.category).sum ≤ 8) : va_Run p l e (mm_R 4 85) s m args below meth c H locs 0 0 0 0 (F0 m 8 ls stk) rest (cc_Qi D X r st1 (Value.ref (cx_a X i) :: [.int a0]).toArray) (cc_A X) := by
  have hc := cc_go_c hid
  simp only [List.mem_cons, List.not_mem_nil, or_false] at hc
  have h := hc
  exact cc_rSW (ci := 11) (x := ⟨"EclipsesKept$Photo", "pleads", "(I)I"⟩) (As := [.int a0]) (n := 1) Cx hM (cc_go_1 hid h) rfl (c_X4_pleads l D X fu i a0 st r st1 hx) (cc_gdSW cw874 cw311 cw361 cw308 cw278 cw194 cw270) rfl hs_X4_pleads ⟨Nat.le_of_ble_eq_true rfl, Nat.le_of_ble_eq_true rfl⟩ rfl hsz hst hW (dd_at td_X9_pleads 5 rfl) ⟨Nat.le_refl 0, Nat.le_refl 0⟩
theorem v_X9_pleads_13 {p : Program} {l : Launch} {e : Env} {s : State} {m : MethodId} {args : Array Value} {below : List Frame} {meth : Method} {c : Code} {H H0 : Heap} {locs : List Loc} {ls : Array Slot} {As rest stk : List Value} {D : va_G} {X : cc_X} {st : cc_S} {i fu : Nat} (Cx : cc_C p s m args meth c cX9_pleads 2 (some .int) RX9 D X) (hM : cc_H D X H0 st H locs) (hid : cc_go X i [11] = true) (a0 : Int32) {r : Int32} {st1 : cc_S} (hx : C_X4_darkens X fu i a0 st = some (r, st1)) (hsz : ls.size = 2) (hst : stk = [.int a0].reverse ++ .ref (cx_a X i) :: rest) (hW : (rest.map fun v => v.category).sum ≤ 8) : va_Run p l e (mm_R 4 85) s m args below meth c H locs 0 0 0 0 (F0 m 13 ls stk) rest (cc_Qi D X r st1 (Value.ref (cx_a X i) :: [.int a0]).toArray) (cc_A X) := by
  have hc := cc_go_c hid
  simp only [List.mem_cons, List.not_mem_nil, or_false] at hc
  have h := hc
  exact cc_rSW (ci := 11) (x := ⟨"EclipsesKept$Photo", "darkens", "(I)I"⟩) (As := [.int a0]) (n := 1) Cx hM (cc_go_1 hid h) rfl (c_X4_darkens l D X fu i a0 st r st1 hx) (cc_gdSW cw875 cw878 cw361 cw308 cw248 cw194 cw229) rfl hs_X4_darkens ⟨Nat.le_of_ble_eq_true rfl, Nat.le_of_ble_eq_true rfl⟩ rfl hsz hst hW (dd_at td_X9_pleads 8 rfl) ⟨Nat.le_refl 0, Nat.le_refl 0⟩
theorem w_X9_pleads {p : Program} {l : Launch} {e : Env} {s : State} {m : MethodId} {args : Array Value} {below : List Frame} {meth : Method} {c : Code} {D : va_G} {X : cc_X} {r : Int32} {st' : cc_S} (Cx : cc_C p s m args meth c cX9_pleads 2 (some .int) RX9 D X) (fu : Nat) (x0 : Nat) (x1 : Int32) (st : cc_S) (hf : C_X9_pleads X fu x0 x1 st = some (r, st')) {H : Heap} {locs : List Loc} {ls : Array Slot} (hl : lv_has ls 2 [(0, .ref (cx_a X x0)), (1, .int x1)]) (hM : cc_H D X s.heap st H locs) : W p l e (mm_R 4 85) s m args below meth c H locs 0 0 (MQ below (cc_Qi D X r st') args s 0 0 (cc_A X)) (F0 m 0 ls []) := by
  unfold C_X9_pleads at hf
  refine lv_aload_n Cx.1 Cx.2.1 (dd_at td_X9_pleads 0 rfl) rfl (lv_at hl 0 rfl) ?_
  refine lv_bipush (v := (70 : Int32)) Cx.1 Cx.2.1 (dd_at td_X9_pleads 1 rfl) (by decide) ?_
  obtain ⟨g1, hf⟩ := fc_of_gd hf
  obtain ⟨st2, hx3, hf⟩ := fc_of_bv hf
  refine cc_av hM (v_X9_pleads_3 (As := [.int (70 : Int32)]) (rest := []) Cx hM g1 (70 : Int32) hx3 hl.1 rfl (Nat.le_of_ble_eq_true rfl)) (fun H locs hM => ?_)
  refine lv_aload_n Cx.1 Cx.2.1 (dd_at td_X9_pleads 3 rfl) rfl (lv_at hl 0 rfl) ?_
  refine lv_iload_n Cx.1 Cx.2.1 (dd_at td_X9_pleads 4 rfl) rfl (lv_at hl 1 rfl) ?_
  obtain ⟨r6, st4, hx5, hf⟩ := fc_of_bn hf
  refine cc_ai hM (v_X9_pleads_8 (As := [.int x1]) (rest := []) Cx hM g1 x1 hx5 hl.1 rfl (Nat.le_of_ble_eq_true rfl)) (fun H locs hM => ?_)
  refine lv_aload_n Cx.1 Cx.2.1 (dd_at td_X9_pleads 6 rfl) rfl (lv_at hl 0 rfl) ?_
  refine lv_iconst (v := (2 : Int32)) Cx.1 Cx.2.1 (dd_at td_X9_pleads 7 rfl) (by decide) ?_
  obtain ⟨r9, st7, hx8, hf⟩ := fc_of_bn hf
  refine cc_ai hM (v_X9_pleads_13 (As := [.int (2 : Int32)]) (rest := [.int r6]) Cx hM g1 (2 : Int32) hx8 hl.1 rfl (Nat.le_of_ble_eq_true rfl)) (fun H locs hM => ?_)
  refine lv_iadd Cx.1 Cx.2.1 (dd_at td_X9_pleads 9 rfl) ?_
  exact cc_ri Cx hM (dd_at td_X9_pleads 10 rfl) hf
theorem c_X9_pleads (l : Launch) (D : va_G) (X : cc_X) (fu : Nat) (x0 : Nat) (x1 : Int32) (st : cc_S) : cc_Mi l D X yX9_pleads cX9_pleads 2 (some .int) 4 85 [.ref (cx_a X x0), .int x1] st (C_X9_pleads X fu x0 x1 st) := by
  intro r st' hf
  refine cc_enter (cc := cX9_pleads) (nL := 2) (ret := some .int) (by decide +kernel) rfl (Nat.le_of_ble_eq_true rfl) ?_
  intro p e s m args below meth c ls Cx hl hM
  exact w_X9_pleads Cx fu x0 x1 st hf hl hM

/-! X4_tells -/
def tb_X4_tells : List (Nat × Instr × Nat) := [(0, .aload_n 0, 1), (1, .bipush 12, 2), (3, .invokevirtual 23, 3), (6, .aload_n 0, 1), (7, .iload_n 1, 1), (8, .invokevirtual 31, 3), (11, .iconst 2, 1), (12, .imul, 1), (13, .ireturn, 1)]
theorem td_X4_tells : tb_X4_tells.all (fun q => decide (decode cX4_tells q.1 = .ok (q.2.1, q.2.2))) = true := by decide +kernel
theorem hd_X4_tells : yX4_tells.cls = RX4 ∧ yX4_tells.cls ≠ "java/lang/invoke/MethodHandle" ∧ yX4_tells.cls ≠ "java/lang/invoke/VarHandle" ∧ (parseMethodDescriptor yX4_tells.desc).map (fun d => d.parameters.length) = some 1 := by decide +kernel
theorem hs_X4_tells : yX4_tells.name ≠ "<init>" ∧ (parseMethodDescriptor yX4_tells.desc).map (fun d => d.parameters.length) = some 1 := by decide +kernel
theorem v_X4_tells_3 {p : Program} {l : Launch} {e : Env} {s : State} {m : MethodId} {args : Array Value} {below : List Frame} {meth : Method} {c : Code} {H H0 : Heap} {locs : List Loc} {ls : Array Slot} {As rest stk : List Value} {D : va_G} {X : cc_X} {st : cc_S} {i fu : Nat} (Cx : cc_C p s m args meth c cX4_tells 2 (some .int) RX4 D X) (hM : cc_H D X H0 st H locs) (hid : cc_go X i [3, 4, 5, 6, 7, 8, 11] = true) (a0 : Int32) {st1 : cc_S} (hx : C_X4_began X fu i a0 st = some st1) (hsz : ls.size = 2) (hst : stk = [.int a0].reverse ++ .ref (cx_a X i) :: rest) (hW : (rest.map fun v => v.category).sum ≤ 8) : va_Run p l e (mm_R 6 127) s m args below meth c H locs 0 0 0 0 (F0 m 3 ls stk) rest (cc_Qv D X st1 (Value.ref (cx_a X i) :: [.int a0]).toArray) (cc_A X) := by
  have hc := cc_go_c hid
  simp only [List.mem_cons, List.not_mem_nil, or_false] at hc
  rcases hc with h | h | h | h | h | h | h
  · exact cc_rU (ci := 3) (x := ⟨"EclipsesKept$Need", "began", "(I)V"⟩) (owner := "EclipsesKept$Need") (As := [.int a0]) (n := 1) Cx hM (cc_go_1 hid h) rfl (c_X4_began l D X fu i a0 st st1 hx) (cc_gdU cw235 cw231 cw232 cw212 cw194 cw205) rfl hu_began ⟨Nat.le_of_ble_eq_true rfl, Nat.le_of_ble_eq_true rfl⟩ rfl hsz hst hW (dd_at td_X4_tells 2 rfl) ⟨Nat.le_refl 0, Nat.le_refl 0⟩
  · exact cc_rU (ci := 4) (x := ⟨"EclipsesKept$Need", "began", "(I)V"⟩) (owner := "EclipsesKept$Need") (As := [.int a0]) (n := 1) Cx hM (cc_go_1 hid h) rfl (c_X4_began l D X fu i a0 st st1 hx) (cc_gdU cw235 cw231 cw233 cw212 cw194 cw205) rfl hu_began ⟨Nat.le_of_ble_eq_true rfl, Nat.le_of_ble_eq_true rfl⟩ rfl hsz hst hW (dd_at td_X4_tells 2 rfl) ⟨Nat.le_refl 0, Nat.le_refl 0⟩
  · exact cc_rU (ci := 5) (x := ⟨"EclipsesKept$Need", "began", "(I)V"⟩) (owner := "EclipsesKept$Need") (As := [.int a0]) (n := 1) Cx hM (cc_go_1 hid h) rfl (c_X4_began l D X fu i a0 st st1 hx) (cc_gdU cw235 cw231 cw234 cw212 cw194 cw205) rfl hu_began ⟨Nat.le_of_ble_eq_true rfl, Nat.le_of_ble_eq_true rfl⟩ rfl hsz hst hW (dd_at td_X4_tells 2 rfl) ⟨Nat.le_refl 0, Nat.le_refl 0⟩
  · exact cc_rV (ci := 6) (As := [.int a0]) (n := 1) Cx hM (cc_go_1 hid h) rfl (c_X4_began l D X fu i a0 st st1 hx) (cc_gdV cw235 cw212 cw236 cw194 cw205) hd_X4_began ⟨Nat.le_of_ble_eq_true rfl, Nat.le_of_ble_eq_true rfl⟩ rfl hsz hst hW (dd_at td_X4_tells 2 rfl) ⟨Nat.le_refl 0, Nat.le_refl 0⟩
  · exact cc_rU (ci := 7) (x := ⟨"EclipsesKept$Need", "began", "(I)V"⟩) (owner := "EclipsesKept$Need") (As := [.int a0]) (n := 1) Cx hM (cc_go_1 hid h) rfl (c_X4_began l D X fu i a0 st st1 hx) (cc_gdU cw235 cw231 cw237 cw212 cw194 cw205) rfl hu_began ⟨Nat.le_of_ble_eq_true rfl, Nat.le_of_ble_eq_true rfl⟩ rfl hsz hst hW (dd_at td_X4_tells 2 rfl) ⟨Nat.le_refl 0, Nat.le_refl 0⟩
  · exact cc_rU (ci := 8) (x := ⟨"EclipsesKept$Need", "began", "(I)V"⟩) (owner := "EclipsesKept$Need") (As := [.int a0]) (n := 1) Cx hM (cc_go_1 hid h) rfl (c_X4_began l D X fu i a0 st st1 hx) (cc_gdU cw235 cw231 cw238 cw212 cw194 cw205) rfl hu_began ⟨Nat.le_of_ble_eq_true rfl, Nat.le_of_ble_eq_true rfl⟩ rfl hsz hst hW (dd_at td_X4_tells 2 rfl) ⟨Nat.le_refl 0, Nat.le_refl 0⟩
  · exact cc_rU (ci := 11) (x := ⟨"EclipsesKept$Need", "began", "(I)V"⟩) (owner := "EclipsesKept$Need") (As := [.int a0]) (n := 1) Cx hM (cc_go_1 hid h) rfl (c_X4_began l D X fu i a0 st st1 hx) (cc_gdU cw235 cw231 cw239 cw212 cw194 cw205) rfl hu_began ⟨Nat.le_of_ble_eq_true rfl, Nat.le_of_ble_eq_true rfl⟩ rfl hsz hst hW (dd_at td_X4_tells 2 rfl) ⟨Nat.le_refl 0, Nat.le_refl 0⟩
theorem v_X4_tells_8 {p : Program} {l : Launch} {e : Env} {s : State} {m : MethodId} {args : Array Value} {below : List Frame} {meth : Method} {c : Code} {H H0 : Heap} {locs : List Loc} {ls : Array Slot} {As rest stk : List Value} {D : va_G} {X : cc_X} {st : cc_S} {i fu : Nat} (Cx : cc_C p s m args meth c cX4_tells 2 (some .int) RX4 D X) (hM : cc_H D X H0 st H locs) (hid : cc_go X i [3, 4, 5, 6, 7, 8, 11] = true) (a0 : Int32) {r : Int32} {st1 : cc_S} (hx : D_pleads_3_4_5_6_7_8_11 X fu i a0 st = some (r, st1)) (hsz : ls.size = 2) (hst : stk = [.int a0].reverse ++ .ref (cx_a X i) :: rest) (hW : (rest.map fun v => v.category).sum ≤ 8) : va_Run p l e (mm_R 6 127) s m args below meth c H locs 0 0 0 0 (F0 m 8 ls stk) rest (cc_Qi D X r st1 (Value.ref (cx_a X i) :: [.int a0]).toArray) (cc_A X) := by
  have hc := cc_go_c hid
  simp only [List.mem_cons, List.not_mem_nil, or_false] at hc
  rcases hc with h | h | h | h | h | h | h
  · have hx2 : C_X4_pleads X fu i a0 st = some (r, st1) := by simpa [D_pleads_3_4_5_6_7_8_11, h] using hx
    exact cc_rU (ci := 3) (x := ⟨"EclipsesKept$Need", "pleads", "(I)I"⟩) (owner := "EclipsesKept$Need") (As := [.int a0]) (n := 1) Cx hM (cc_go_1 hid h) rfl (c_X4_pleads l D X fu i a0 st r st1 hx2) (cc_gdU cw292 cw276 cw287 cw278 cw194 cw270) rfl hu_pleads ⟨Nat.le_of_ble_eq_true rfl, Nat.le_of_ble_eq_true rfl⟩ rfl hsz hst hW (dd_at td_X4_tells 5 rfl) ⟨Nat.le_refl 0, Nat.le_refl 0⟩
  · have hx2 : C_X2_pleads X fu i a0 st = some (r, st1) := by simpa [D_pleads_3_4_5_6_7_8_11, h] using hx
    exact cc_rO (ci := 4) (x := ⟨"EclipsesKept$Need", "pleads", "(I)I"⟩) (owner := "EclipsesKept$Need") (As := [.int a0]) (n := 1) Cx hM (cc_go_1 hid h) rfl (c_X2_pleads l D X fu i a0 st r st1 hx2) (cc_gdO cw292 cw276 cw278 cw289 cw290 cw261 cw283) cw270 hu_pleads ⟨Nat.le_of_ble_eq_true rfl, Nat.le_of_ble_eq_true rfl⟩ rfl hsz hst hW (dd_at td_X4_tells 5 rfl) ⟨Nat.le_refl 0, Nat.le_refl 0⟩
  · have hx2 : C_X4_pleads X fu i a0 st = some (r, st1) := by simpa [D_pleads_3_4_5_6_7_8_11, h] using hx
    exact cc_rU (ci := 5) (x := ⟨"EclipsesKept$Need", "pleads", "(I)I"⟩) (owner := "EclipsesKept$Need") (As := [.int a0]) (n := 1) Cx hM (cc_go_1 hid h) rfl (c_X4_pleads l D X fu i a0 st r st1 hx2) (cc_gdU cw292 cw276 cw291 cw278 cw194 cw270) rfl hu_pleads ⟨Nat.le_of_ble_eq_true rfl, Nat.le_of_ble_eq_true rfl⟩ rfl hsz hst hW (dd_at td_X4_tells 5 rfl) ⟨Nat.le_refl 0, Nat.le_refl 0⟩
  · have hx2 : C_X4_pleads X fu i a0 st = some (r, st1) := by simpa [D_pleads_3_4_5_6_7_8_11, h] using hx
    exact cc_rV (ci := 6) (As := [.int a0]) (n := 1) Cx hM (cc_go_1 hid h) rfl (c_X4_pleads l D X fu i a0 st r st1 hx2) (cc_gdV cw292 cw278 cw293 cw194 cw270) hd_X4_pleads ⟨Nat.le_of_ble_eq_true rfl, Nat.le_of_ble_eq_true rfl⟩ rfl hsz hst hW (dd_at td_X4_tells 5 rfl) ⟨Nat.le_refl 0, Nat.le_refl 0⟩
  · have hx2 : C_X4_pleads X fu i a0 st = some (r, st1) := by simpa [D_pleads_3_4_5_6_7_8_11, h] using hx
    exact cc_rU (ci := 7) (x := ⟨"EclipsesKept$Need", "pleads", "(I)I"⟩) (owner := "EclipsesKept$Need") (As := [.int a0]) (n := 1) Cx hM (cc_go_1 hid h) rfl (c_X4_pleads l D X fu i a0 st r st1 hx2) (cc_gdU cw292 cw276 cw294 cw278 cw194 cw270) rfl hu_pleads ⟨Nat.le_of_ble_eq_true rfl, Nat.le_of_ble_eq_true rfl⟩ rfl hsz hst hW (dd_at td_X4_tells 5 rfl) ⟨Nat.le_refl 0, Nat.le_refl 0⟩
  · have hx2 : C_X6_pleads X fu i a0 st = some (r, st1) := by simpa [D_pleads_3_4_5_6_7_8_11, h] using hx
    exact cc_rO (ci := 8) (x := ⟨"EclipsesKept$Need", "pleads", "(I)I"⟩) (owner := "EclipsesKept$Need") (As := [.int a0]) (n := 1) Cx hM (cc_go_1 hid h) rfl (c_X6_pleads l D X fu i a0 st r st1 hx2) (cc_gdO cw292 cw276 cw278 cw295 cw282 cw218 cw279) cw270 hu_pleads ⟨Nat.le_of_ble_eq_true rfl, Nat.le_of_ble_eq_true rfl⟩ rfl hsz hst hW (dd_at td_X4_tells 5 rfl) ⟨Nat.le_refl 0, Nat.le_refl 0⟩
  · have hx2 : C_X9_pleads X fu i a0 st = some (r, st1) := by simpa [D_pleads_3_4_5_6_7_8_11, h] using hx
    exact cc_rO (ci := 11) (x := ⟨"EclipsesKept$Need", "pleads", "(I)I"⟩) (owner := "EclipsesKept$Need") (As := [.int a0]) (n := 1) Cx hM (cc_go_1 hid h) rfl (c_X9_pleads l D X fu i a0 st r st1 hx2) (cc_gdO cw292 cw276 cw278 cw296 cw297 cw269 cw285) cw270 hu_pleads ⟨Nat.le_of_ble_eq_true rfl, Nat.le_of_ble_eq_true rfl⟩ rfl hsz hst hW (dd_at td_X4_tells 5 rfl) ⟨Nat.le_refl 0, Nat.le_refl 0⟩
theorem w_X4_tells {p : Program} {l : Launch} {e : Env} {s : State} {m : MethodId} {args : Array Value} {below : List Frame} {meth : Method} {c : Code} {D : va_G} {X : cc_X} {r : Int32} {st' : cc_S} (Cx : cc_C p s m args meth c cX4_tells 2 (some .int) RX4 D X) (fu : Nat) (x0 : Nat) (x1 : Int32) (st : cc_S) (hf : C_X4_tells X fu x0 x1 st = some (r, st')) {H : Heap} {locs : List Loc} {ls : Array Slot} (hl : lv_has ls 2 [(0, .ref (cx_a X x0)), (1, .int x1)]) (hM : cc_H D X s.heap st H locs) : W p l e (mm_R 6 127) s m args below meth c H locs 0 0 (MQ below (cc_Qi D X r st') args s 0 0 (cc_A X)) (F0 m 0 ls []) := by
  unfold C_X4_tells at hf
  refine lv_aload_n Cx.1 Cx.2.1 (dd_at td_X4_tells 0 rfl) rfl (lv_at hl 0 rfl) ?_
  refine lv_bipush (v := (12 : Int32)) Cx.1 Cx.2.1 (dd_at td_X4_tells 1 rfl) (by decide) ?_
  obtain ⟨g1, hf⟩ := fc_of_gd hf
  obtain ⟨st2, hx3, hf⟩ := fc_of_bv hf
  refine cc_av hM (v_X4_tells_3 (As := [.int (12 : Int32)]) (rest := []) Cx hM g1 (12 : Int32) hx3 hl.1 rfl (Nat.le_of_ble_eq_true rfl)) (fun H locs hM => ?_)
  refine lv_aload_n Cx.1 Cx.2.1 (dd_at td_X4_tells 3 rfl) rfl (lv_at hl 0 rfl) ?_
  refine lv_iload_n Cx.1 Cx.2.1 (dd_at td_X4_tells 4 rfl) rfl (lv_at hl 1 rfl) ?_
  obtain ⟨r6, st4, hx5, hf⟩ := fc_of_bn hf
  refine cc_ai hM (v_X4_tells_8 (As := [.int x1]) (rest := []) Cx hM g1 x1 hx5 hl.1 rfl (Nat.le_of_ble_eq_true rfl)) (fun H locs hM => ?_)
  refine lv_iconst (v := (2 : Int32)) Cx.1 Cx.2.1 (dd_at td_X4_tells 6 rfl) (by decide) ?_
  refine lv_imul Cx.1 Cx.2.1 (dd_at td_X4_tells 7 rfl) ?_
  exact cc_ri Cx hM (dd_at td_X4_tells 8 rfl) hf
theorem c_X4_tells (l : Launch) (D : va_G) (X : cc_X) (fu : Nat) (x0 : Nat) (x1 : Int32) (st : cc_S) : cc_Mi l D X yX4_tells cX4_tells 2 (some .int) 6 127 [.ref (cx_a X x0), .int x1] st (C_X4_tells X fu x0 x1 st) := by
  intro r st' hf
  refine cc_enter (cc := cX4_tells) (nL := 2) (ret := some .int) (by decide +kernel) rfl (Nat.le_of_ble_eq_true rfl) ?_
  intro p e s m args below meth c ls Cx hl hM
  exact w_X4_tells Cx fu x0 x1 st hf hl hM

/-! X1_tells -/
def tb_X1_tells : List (Nat × Instr × Nat) := [(0, .aload_n 0, 1), (1, .bipush 60, 2), (3, .invokevirtual 11, 3), (6, .aload_n 0, 1), (7, .iload_n 1, 1), (8, .aload_n 0, 1), (9, .getfield 17, 3), (12, .isub, 1), (13, .invokespecial 21, 3), (16, .ireturn, 1)]
theorem td_X1_tells : tb_X1_tells.all (fun q => decide (decode cX1_tells q.1 = .ok (q.2.1, q.2.2))) = true := by decide +kernel
theorem hd_X1_tells : yX1_tells.cls = RX1 ∧ yX1_tells.cls ≠ "java/lang/invoke/MethodHandle" ∧ yX1_tells.cls ≠ "java/lang/invoke/VarHandle" ∧ (parseMethodDescriptor yX1_tells.desc).map (fun d => d.parameters.length) = some 1 := by decide +kernel
theorem hs_X1_tells : yX1_tells.name ≠ "<init>" ∧ (parseMethodDescriptor yX1_tells.desc).map (fun d => d.parameters.length) = some 1 := by decide +kernel
theorem v_X1_tells_3 {p : Program} {l : Launch} {e : Env} {s : State} {m : MethodId} {args : Array Value} {below : List Frame} {meth : Method} {c : Code} {H H0 : Heap} {locs : List Loc} {ls : Array Slot} {As rest stk : List Value} {D : va_G} {X : cc_X} {st : cc_S} {i fu : Nat} (Cx : cc_C p s m args meth c cX1_tells 2 (some .int) RX1 D X) (hM : cc_H D X H0 st H locs) (hid : cc_go X i [3] = true) (a0 : Int32) {st1 : cc_S} (hx : C_X4_began X fu i a0 st = some st1) (hsz : ls.size = 2) (hst : stk = [.int a0].reverse ++ .ref (cx_a X i) :: rest) (hW : (rest.map fun v => v.category).sum ≤ 8) : va_Run p l e (mm_R 7 148) s m args below meth c H locs 0 0 0 0 (F0 m 3 ls stk) rest (cc_Qv D X st1 (Value.ref (cx_a X i) :: [.int a0]).toArray) (cc_A X) := by
  have hc := cc_go_c hid
  simp only [List.mem_cons, List.not_mem_nil, or_false] at hc
  have h := hc
  exact cc_rU (ci := 3) (x := ⟨"EclipsesKept$Bird", "began", "(I)V"⟩) (owner := "EclipsesKept$Need") (As := [.int a0]) (n := 1) Cx hM (cc_go_1 hid h) rfl (c_X4_began l D X fu i a0 st st1 hx) (cc_gdU cw209 cw210 cw211 cw212 cw194 cw205) rfl hu_began ⟨Nat.le_of_ble_eq_true rfl, Nat.le_of_ble_eq_true rfl⟩ rfl hsz hst hW (dd_at td_X1_tells 2 rfl) ⟨Nat.le_refl 0, Nat.le_refl 0⟩
theorem v_X1_tells_13 {p : Program} {l : Launch} {e : Env} {s : State} {m : MethodId} {args : Array Value} {below : List Frame} {meth : Method} {c : Code} {H H0 : Heap} {locs : List Loc} {ls : Array Slot} {As rest stk : List Value} {D : va_G} {X : cc_X} {st : cc_S} {i fu : Nat} (Cx : cc_C p s m args meth c cX1_tells 2 (some .int) RX1 D X) (hM : cc_H D X H0 st H locs) (hid : cc_go X i [3] = true) (a0 : Int32) {r : Int32} {st1 : cc_S} (hx : C_X4_tells X fu i a0 st = some (r, st1)) (hsz : ls.size = 2) (hst : stk = [.int a0].reverse ++ .ref (cx_a X i) :: rest) (hW : (rest.map fun v => v.category).sum ≤ 8) : va_Run p l e (mm_R 7 148) s m args below meth c H locs 0 0 0 0 (F0 m 13 ls stk) rest (cc_Qi D X r st1 (Value.ref (cx_a X i) :: [.int a0]).toArray) (cc_A X) := by
  have hc := cc_go_c hid
  simp only [List.mem_cons, List.not_mem_nil, or_false] at hc
  have h := hc
  exact cc_rSW (ci := 3) (x := ⟨"EclipsesKept$Crown", "tells", "(I)I"⟩) (As := [.int a0]) (n := 1) Cx hM (cc_go_1 hid h) rfl (c_X4_tells l D X fu i a0 st r st1 hx) (cc_gdSW cw873 cw877 cw203 cw247 cw309 cw194 cw298) rfl hs_X4_tells ⟨Nat.le_of_ble_eq_true rfl, Nat.le_of_ble_eq_true rfl⟩ rfl hsz hst hW (dd_at td_X1_tells 8 rfl) ⟨Nat.le_refl 0, Nat.le_refl 0⟩
theorem w_X1_tells {p : Program} {l : Launch} {e : Env} {s : State} {m : MethodId} {args : Array Value} {below : List Frame} {meth : Method} {c : Code} {D : va_G} {X : cc_X} {r : Int32} {st' : cc_S} (Cx : cc_C p s m args meth c cX1_tells 2 (some .int) RX1 D X) (fu : Nat) (x0 : Nat) (x1 : Int32) (st : cc_S) (hf : C_X1_tells X fu x0 x1 st = some (r, st')) {H : Heap} {locs : List Loc} {ls : Array Slot} (hl : lv_has ls 2 [(0, .ref (cx_a X x0)), (1, .int x1)]) (hM : cc_H D X s.heap st H locs) : W p l e (mm_R 7 148) s m args below meth c H locs 0 0 (MQ below (cc_Qi D X r st') args s 0 0 (cc_A X)) (F0 m 0 ls []) := by
  unfold C_X1_tells at hf
  refine lv_aload_n Cx.1 Cx.2.1 (dd_at td_X1_tells 0 rfl) rfl (lv_at hl 0 rfl) ?_
  refine lv_bipush (v := (60 : Int32)) Cx.1 Cx.2.1 (dd_at td_X1_tells 1 rfl) (by decide) ?_
  obtain ⟨g1, hf⟩ := fc_of_gd hf
  obtain ⟨st2, hx3, hf⟩ := fc_of_bv hf
  refine cc_av hM (v_X1_tells_3 (As := [.int (60 : Int32)]) (rest := []) Cx hM g1 (60 : Int32) hx3 hl.1 rfl (Nat.le_of_ble_eq_true rfl)) (fun H locs hM => ?_)
  refine lv_aload_n Cx.1 Cx.2.1 (dd_at td_X1_tells 3 rfl) rfl (lv_at hl 0 rfl) ?_
  refine lv_iload_n Cx.1 Cx.2.1 (dd_at td_X1_tells 4 rfl) rfl (lv_at hl 1 rfl) ?_
  refine lv_aload_n Cx.1 Cx.2.1 (dd_at td_X1_tells 5 rfl) rfl (lv_at hl 0 rfl) ?_
  refine cc_gI (ci := 3) (C := RX1) (T := TX1) (N := 4) (k := 1) (ref := "EclipsesKept$Bird") Cx hM g1 rfl cc_inX1 rfl (by decide) cw207 (u_same (Cx.2.2.2.2.2.1 _ cw208)) (dd_at td_X1_tells 6 rfl) rfl ?_
  refine lv_isub Cx.1 Cx.2.1 (dd_at td_X1_tells 7 rfl) ?_
  obtain ⟨r6, st4, hx5, hf⟩ := fc_of_bn hf
  refine cc_ai hM (v_X1_tells_13 (As := [.int (x1 - (cc_I st2 x0 1))]) (rest := []) Cx hM g1 (x1 - (cc_I st2 x0 1)) hx5 hl.1 rfl (Nat.le_of_ble_eq_true rfl)) (fun H locs hM => ?_)
  exact cc_ri Cx hM (dd_at td_X1_tells 9 rfl) hf
theorem c_X1_tells (l : Launch) (D : va_G) (X : cc_X) (fu : Nat) (x0 : Nat) (x1 : Int32) (st : cc_S) : cc_Mi l D X yX1_tells cX1_tells 2 (some .int) 7 148 [.ref (cx_a X x0), .int x1] st (C_X1_tells X fu x0 x1 st) := by
  intro r st' hf
  refine cc_enter (cc := cX1_tells) (nL := 2) (ret := some .int) (by decide +kernel) rfl (Nat.le_of_ble_eq_true rfl) ?_
  intro p e s m args below meth c ls Cx hl hM
  exact w_X1_tells Cx fu x0 x1 st hf hl hM

/-! X6_gives -/
def tb_X6_gives : List (Nat × Instr × Nat) := [(0, .iload_n 1, 1), (1, .iload_n 3, 1), (2, .bipush 8, 2), (4, .irem, 1), (5, .iadd, 1), (6, .ireturn, 1)]
theorem td_X6_gives : tb_X6_gives.all (fun q => decide (decode cX6_gives q.1 = .ok (q.2.1, q.2.2))) = true := by decide +kernel
theorem hd_X6_gives : yX6_gives.cls = RX6 ∧ yX6_gives.cls ≠ "java/lang/invoke/MethodHandle" ∧ yX6_gives.cls ≠ "java/lang/invoke/VarHandle" ∧ (parseMethodDescriptor yX6_gives.desc).map (fun d => d.parameters.length) = some 5 := by decide +kernel
theorem hs_X6_gives : yX6_gives.name ≠ "<init>" ∧ (parseMethodDescriptor yX6_gives.desc).map (fun d => d.parameters.length) = some 5 := by decide +kernel
theorem w_X6_gives {p : Program} {l : Launch} {e : Env} {s : State} {m : MethodId} {args : Array Value} {below : List Frame} {meth : Method} {c : Code} {D : va_G} {X : cc_X} {r : Int32} {st' : cc_S} (Cx : cc_C p s m args meth c cX6_gives 6 (some .int) RX6 D X) (fu : Nat) (x0 : Nat) (x1 : Int32) (x2 : Int32) (x3 : Int32) (x4 : Int32) (x5 : Int32) (st : cc_S) (hf : C_X6_gives X fu x0 x1 x2 x3 x4 x5 st = some (r, st')) {H : Heap} {locs : List Loc} {ls : Array Slot} (hl : lv_has ls 6 [(0, .ref (cx_a X x0)), (1, .int x1), (2, .int x2), (3, .int x3), (4, .int x4), (5, .int x5)]) (hM : cc_H D X s.heap st H locs) : W p l e (mm_R 0 0) s m args below meth c H locs 0 0 (MQ below (cc_Qi D X r st') args s 0 0 (cc_A X)) (F0 m 0 ls []) := by
  unfold C_X6_gives at hf
  refine lv_iload_n Cx.1 Cx.2.1 (dd_at td_X6_gives 0 rfl) rfl (lv_at hl 1 rfl) ?_
  refine lv_iload_n Cx.1 Cx.2.1 (dd_at td_X6_gives 1 rfl) rfl (lv_at hl 3 rfl) ?_
  refine lv_bipush (v := (8 : Int32)) Cx.1 Cx.2.1 (dd_at td_X6_gives 2 rfl) (by decide) ?_
  refine lv_irem Cx.1 Cx.2.1 (dd_at td_X6_gives 3 rfl) (by decide) ?_
  refine lv_iadd Cx.1 Cx.2.1 (dd_at td_X6_gives 4 rfl) ?_
  exact cc_ri Cx hM (dd_at td_X6_gives 5 rfl) hf
theorem c_X6_gives (l : Launch) (D : va_G) (X : cc_X) (fu : Nat) (x0 : Nat) (x1 : Int32) (x2 : Int32) (x3 : Int32) (x4 : Int32) (x5 : Int32) (st : cc_S) : cc_Mi l D X yX6_gives cX6_gives 6 (some .int) 0 0 [.ref (cx_a X x0), .int x1, .int x2, .int x3, .int x4, .int x5] st (C_X6_gives X fu x0 x1 x2 x3 x4 x5 st) := by
  intro r st' hf
  refine cc_enter (cc := cX6_gives) (nL := 6) (ret := some .int) (by decide +kernel) rfl (Nat.le_of_ble_eq_true rfl) ?_
  intro p e s m args below meth c ls Cx hl hM
  exact w_X6_gives Cx fu x0 x1 x2 x3 x4 x5 st hf hl hM

