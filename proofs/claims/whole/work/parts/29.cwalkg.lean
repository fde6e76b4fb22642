/-! X11_taken -/
def tb_X11_taken : List (Nat × Instr × Nat) := [(0, .iload_n 2, 1), (1, .bipush 6, 2), (3, .invokestatic 54, 3), (6, .ifCond .ne 6, 3), (9, .bipush (-2), 2), (11, .ireturn, 1), (12, .aload_n 0, 1), (13, .getfield 12, 3), (16, .iload_n 1, 1), (17, .invokevirtual 69, 3), (20, .astore_n 3, 1), (21, .aload_n 3, 1), (22, .ifnonnull 6, 3), (25, .bipush (-11), 2), (27, .ireturn, 1), (28, .aload_n 3, 1), (29, .iload_n 2, 1), (30, .invokestatic 260, 3), (33, .ifCond .eq 10, 3), (36, .aload_n 3, 1), (37, .getfield 73, 3), (40, .goto 5, 3), (43, .bipush (-12), 2), (45, .ireturn, 1)]
theorem td_X11_taken : tb_X11_taken.all (fun q => decide (decode cX11_taken q.1 = .ok (q.2.1, q.2.2))) = true := by decide +kernel
theorem hd_X11_taken : yX11_taken.cls = RX11 ∧ yX11_taken.cls ≠ "java/lang/invoke/MethodHandle" ∧ yX11_taken.cls ≠ "java/lang/invoke/VarHandle" ∧ (parseMethodDescriptor yX11_taken.desc).map (fun d => d.parameters.length) = some 2 := by decide +kernel
theorem hs_X11_taken : yX11_taken.name ≠ "<init>" ∧ (parseMethodDescriptor yX11_taken.desc).map (fun d => d.parameters.length) = some 2 := by decide +kernel
theorem w_X11_taken {p : Program} {l : Launch} {e : Env} {s : State} {m : MethodId} {args : Array Value} {below : List Frame} {meth : Method} {c : Code} {D : va_G} {X : cc_X} {r : Int32} {st' : cc_S} (Cx : cc_C p s m args meth c cX11_taken 4 (some .int) RX11 D X) (fu : Nat) (x0 : Nat) (x1 : Int32) (x2 : Int32) (st : cc_S) (hf : C_X11_taken X fu x0 x1 x2 st = some (r, st')) {H : Heap} {locs : List Loc} {ls : Array Slot} (hl : lv_has ls 4 [(0, .ref (cx_a X x0)), (1, .int x1), (2, .int x2)]) (hM : cc_H D X s.heap st H locs) : W p l e (mm_R 2 42) s m args below meth c H locs 0 0 (MQ below (cc_Qi D X r st') args s 0 0 (cc_A X)) (F0 m 0 ls []) := by
  unfold C_X11_taken at hf
  refine lv_iload_n Cx.1 Cx.2.1 (dd_at td_X11_taken 0 rfl) rfl (lv_at hl 2 rfl) ?_
  refine lv_bipush (v := (6 : Int32)) Cx.1 Cx.2.1 (dd_at td_X11_taken 1 rfl) (by decide) ?_
  obtain ⟨r3, st1, hx2, hf⟩ := fc_of_bn hf
  refine cc_ai hM (cc_rS (As := [.int x2, .int (6 : Int32)]) (rest := []) (n := 2) Cx hM (c_X11_isWithin l D X fu x2 (6 : Int32) st r3 st1 hx2) (cc_gdS cw547 cw548 cw549 cw520) hd_X11_isWithin ⟨Nat.le_of_ble_eq_true rfl, Nat.le_of_ble_eq_true rfl⟩ rfl hl.1 rfl (Nat.le_of_ble_eq_true rfl) (dd_at td_X11_taken 2 rfl) ⟨Nat.le_refl 0, Nat.le_refl 0⟩) (fun H locs hM => ?_)
  refine lv_if_ne (tgt := 12) Cx.1 Cx.2.1 (dd_at td_X11_taken 3 rfl) (by decide) (fun c4 => ?_) (fun c4 => ?_)
  · replace hf := fc_of_f hf c4
    refine lv_aload_n Cx.1 Cx.2.1 (dd_at td_X11_taken 6 rfl) rfl (lv_at hl 0 rfl) ?_
    obtain ⟨g5, hf⟩ := fc_of_gd hf
    refine cc_gO (ci := 13) (C := RX11) (T := TX11) (N := 8) (k := 0) (ref := "EclipsesKept") Cx hM g5 rfl cc_inX11 rfl (by decide) cw498 (fun _ h => h) (dd_at td_X11_taken 7 rfl) rfl ?_
    show W p l e (mm_R 2 42) s m args below meth c H locs 0 0 (MQ below (cc_Qi D X r st') args s 0 0 (cc_A X)) (F0 m 16 ls [.ref (cx_a X 1)])
    refine lv_iload_n Cx.1 Cx.2.1 (dd_at td_X11_taken 8 rfl) rfl (lv_at hl 1 rfl) ?_
    obtain ⟨g6, hf⟩ := fc_of_gd hf
    obtain ⟨r9, st7, hx8, hf⟩ := fc_of_bn hf
    refine cc_aq hM (cc_rV (ci := 9) (As := [.int x1]) (rest := []) (n := 1) Cx hM g6 rfl (c_X7_needOf l D X fu 1 x1 st1 r9 st7 hx8) (cc_gdV cw562 cw366 cw367 cw345 cw341) hd_X7_needOf ⟨Nat.le_of_ble_eq_true rfl, Nat.le_of_ble_eq_true rfl⟩ rfl hl.1 rfl (Nat.le_of_ble_eq_true rfl) (dd_at td_X11_taken 9 rfl) ⟨Nat.le_refl 0, Nat.le_refl 0⟩) (fun H locs hq hM => ?_) (fun y10 H locs hq hM => ?_)
    · replace hf := fc_of_mn hf hq
      refine lv_astore_nN (lv' := [(3, .null), (0, .ref (cx_a X x0)), (1, .int x1), (2, .int x2)]) Cx.1 Cx.2.1 (dd_at td_X11_taken 10 rfl) rfl hl (by decide) rfl (fun ls hl => ?_)
      refine lv_aload_nN Cx.1 Cx.2.1 (dd_at td_X11_taken 11 rfl) rfl (lv_at hl 0 rfl) ?_
      refine lv_ifnonnullN Cx.1 Cx.2.1 (dd_at td_X11_taken 12 rfl) ?_
      refine lv_bipush (v := (-11 : Int32)) Cx.1 Cx.2.1 (dd_at td_X11_taken 13 rfl) (by decide) ?_
      exact cc_ri Cx hM (dd_at td_X11_taken 14 rfl) hf
    · replace hf := fc_of_ms hf hq
      refine lv_astore_n (lv' := [(3, .ref (cx_a X y10)), (0, .ref (cx_a X x0)), (1, .int x1), (2, .int x2)]) Cx.1 Cx.2.1 (dd_at td_X11_taken 10 rfl) rfl hl (by decide) rfl (fun ls hl => ?_)
      refine lv_aload_n Cx.1 Cx.2.1 (dd_at td_X11_taken 11 rfl) rfl (lv_at hl 0 rfl) ?_
      refine lv_ifnonnull (tgt := 28) Cx.1 Cx.2.1 (dd_at td_X11_taken 12 rfl) (by decide) ?_
      refine lv_aload_n Cx.1 Cx.2.1 (dd_at td_X11_taken 15 rfl) rfl (lv_at hl 0 rfl) ?_
      refine lv_iload_n Cx.1 Cx.2.1 (dd_at td_X11_taken 16 rfl) rfl (lv_at hl 3 rfl) ?_
      obtain ⟨r13, st11, hx12, hf⟩ := fc_of_bn hf
      refine cc_ai hM (cc_rS (As := [.ref (cx_a X y10), .int x2]) (rest := []) (n := 2) Cx hM (c_X11_isOfKind l D X fu y10 x2 st7 r13 st11 hx12) (cc_gdS cw847 cw848 cw549 cw841) hd_X11_isOfKind ⟨Nat.le_of_ble_eq_true rfl, Nat.le_of_ble_eq_true rfl⟩ rfl hl.1 rfl (Nat.le_of_ble_eq_true rfl) (dd_at td_X11_taken 17 rfl) ⟨Nat.le_refl 0, Nat.le_refl 0⟩) (fun H locs hM => ?_)
      refine lv_if_eq (tgt := 43) Cx.1 Cx.2.1 (dd_at td_X11_taken 18 rfl) (by decide) (fun c14 => ?_) (fun c14 => ?_)
      · replace hf := fc_of_t hf c14
        refine lv_bipush (v := (-12 : Int32)) Cx.1 Cx.2.1 (dd_at td_X11_taken 22 rfl) (by decide) ?_
        exact cc_ri Cx hM (dd_at td_X11_taken 23 rfl) hf
      · replace hf := fc_of_f hf c14
        refine lv_aload_n Cx.1 Cx.2.1 (dd_at td_X11_taken 19 rfl) rfl (lv_at hl 0 rfl) ?_
        obtain ⟨g15, hf⟩ := fc_of_gd hf
        refine cc_gIn (k := 0) Cx hM g15 (by decide) (by decide) cw557 (dd_at td_X11_taken 20 rfl) ?_
        refine lv_goto (tgt := 45) Cx.1 Cx.2.1 (dd_at td_X11_taken 21 rfl) (by decide) ?_
        exact cc_ri Cx hM (dd_at td_X11_taken 23 rfl) hf
  · replace hf := fc_of_t hf c4
    refine lv_bipush (v := (-2 : Int32)) Cx.1 Cx.2.1 (dd_at td_X11_taken 4 rfl) (by decide) ?_
    exact cc_ri Cx hM (dd_at td_X11_taken 5 rfl) hf
theorem c_X11_taken (l : Launch) (D : va_G) (X : cc_X) (fu : Nat) (x0 : Nat) (x1 : Int32) (x2 : Int32) (st : cc_S) : cc_Mi l D X yX11_taken cX11_taken 4 (some .int) 2 42 [.ref (cx_a X x0), .int x1, .int x2] st (C_X11_taken X fu x0 x1 x2 st) := by
  intro r st' hf
  refine cc_enter (cc := cX11_taken) (nL := 4) (ret := some .int) (by decide +kernel) rfl (Nat.le_of_ble_eq_true rfl) ?_
  intro p e s m args below meth c ls Cx hl hM
  exact w_X11_taken Cx fu x0 x1 x2 st hf hl hM

/-! J5_length_8abf5 -/
def tb_J5_length_8abf5 : List (Nat × Instr × Nat) := [(0, .aload_n 0, 1), (1, .getfield 79, 3), (4, .ireturn, 1)]
theorem td_J5_length_8abf5 : tb_J5_length_8abf5.all (fun q => decide (decode cJ5_length_8abf5 q.1 = .ok (q.2.1, q.2.2))) = true := by decide +kernel
theorem hd_J5_length_8abf5 : yJ5_length_8abf5.cls = RJ5 ∧ yJ5_length_8abf5.cls ≠ "java/lang/invoke/MethodHandle" ∧ yJ5_length_8abf5.cls ≠ "java/lang/invoke/VarHandle" ∧ (parseMethodDescriptor yJ5_length_8abf5.desc).map (fun d => d.parameters.length) = some 0 := by decide +kernel
theorem hs_J5_length_8abf5 : yJ5_length_8abf5.name ≠ "<init>" ∧ (parseMethodDescriptor yJ5_length_8abf5.desc).map (fun d => d.parameters.length) = some 0 := by decide +kernel
theorem w_J5_length_8abf5 {p : Program} {l : Launch} {e : Env} {s : State} {m : MethodId} {args : Array Value} {below : List Frame} {meth : Method} {c : Code} {D : va_G} {X : cc_X} {r : Int32} {st' : cc_S} (Cx : cc_C p s m args meth c cJ5_length_8abf5 1 (some .int) RJ5 D X) (fu : Nat) (x0 : Nat) (st : cc_S) (hf : C_J5_length_8abf5 X fu x0 st = some (r, st')) {H : Heap} {locs : List Loc} {ls : Array Slot} (hl : lv_has ls 1 [(0, .ref (cx_a X x0))]) (hM : cc_H D X s.heap st H locs) : W p l e (mm_R 0 0) s m args below meth c H locs 0 0 (MQ below (cc_Qi D X r st') args s 0 0 (cc_A X)) (F0 m 0 ls []) := by
  unfold C_J5_length_8abf5 at hf
  refine lv_aload_n Cx.1 Cx.2.1 (dd_at td_J5_length_8abf5 0 rfl) rfl (lv_at hl 0 rfl) ?_
  obtain ⟨g1, hf⟩ := fc_of_gd hf
  refine cc_gI (ci := 1) (C := RJ4) (T := TJ4) (N := 4) (k := 3) (ref := "java/lang/AbstractStringBuilder") Cx hM g1 rfl cc_inJ4 rfl (by decide) cw579 (fun _ h => h) (dd_at td_J5_length_8abf5 1 rfl) rfl ?_
  exact cc_ri Cx hM (dd_at td_J5_length_8abf5 2 rfl) hf
theorem c_J5_length_8abf5 (l : Launch) (D : va_G) (X : cc_X) (fu : Nat) (x0 : Nat) (st : cc_S) : cc_Mi l D X yJ5_length_8abf5 cJ5_length_8abf5 1 (some .int) 0 0 [.ref (cx_a X x0)] st (C_J5_length_8abf5 X fu x0 st) := by
  intro r st' hf
  refine cc_enter (cc := cJ5_length_8abf5) (nL := 1) (ret := some .int) (by decide +kernel) rfl (Nat.le_of_ble_eq_true rfl) ?_
  intro p e s m args below meth c ls Cx hl hM
  exact w_J5_length_8abf5 Cx fu x0 st hf hl hM

/-! J4_length_8abf5 -/
def tb_J4_length_8abf5 : List (Nat × Instr × Nat) := [(0, .aload_n 0, 1), (1, .invokespecial 343, 3), (4, .ireturn, 1)]
theorem td_J4_length_8abf5 : tb_J4_length_8abf5.all (fun q => decide (decode cJ4_length_8abf5 q.1 = .ok (q.2.1, q.2.2))) = true := by decide +kernel
theorem hd_J4_length_8abf5 : yJ4_length_8abf5.cls = RJ4 ∧ yJ4_length_8abf5.cls ≠ "java/lang/invoke/MethodHandle" ∧ yJ4_length_8abf5.cls ≠ "java/lang/invoke/VarHandle" ∧ (parseMethodDescriptor yJ4_length_8abf5.desc).map (fun d => d.parameters.length) = some 0 := by decide +kernel
theorem hs_J4_length_8abf5 : yJ4_length_8abf5.name ≠ "<init>" ∧ (parseMethodDescriptor yJ4_length_8abf5.desc).map (fun d => d.parameters.length) = some 0 := by decide +kernel
theorem w_J4_length_8abf5 {p : Program} {l : Launch} {e : Env} {s : State} {m : MethodId} {args : Array Value} {below : List Frame} {meth : Method} {c : Code} {D : va_G} {X : cc_X} {r : Int32} {st' : cc_S} (Cx : cc_C p s m args meth c cJ4_length_8abf5 1 (some .int) RJ4 D X) (fu : Nat) (x0 : Nat) (st : cc_S) (hf : C_J4_length_8abf5 X fu x0 st = some (r, st')) {H : Heap} {locs : List Loc} {ls : Array Slot} (hl : lv_has ls 1 [(0, .ref (cx_a X x0))]) (hM : cc_H D X s.heap st H locs) : W p l e (mm_R 1 20) s m args below meth c H locs 0 0 (MQ below (cc_Qi D X r st') args s 0 0 (cc_A X)) (F0 m 0 ls []) := by
  unfold C_J4_length_8abf5 at hf
  refine lv_aload_n Cx.1 Cx.2.1 (dd_at td_J4_length_8abf5 0 rfl) rfl (lv_at hl 0 rfl) ?_
  obtain ⟨g1, hf⟩ := fc_of_gd hf
  obtain ⟨r4, st2, hx3, hf⟩ := fc_of_bn hf
  refine cc_ai hM (cc_rSU (ci := 1) (As := []) (rest := []) (n := 0) Cx hM g1 rfl (c_J5_length_8abf5 l D X fu x0 st r4 st2 hx3) (cc_gdSU cw581 cw582 cw583 cw584 cw494 cw578) hs_J5_length_8abf5 ⟨Nat.le_of_ble_eq_true rfl, Nat.le_of_ble_eq_true rfl⟩ rfl hl.1 rfl (Nat.le_of_ble_eq_true rfl) (dd_at td_J4_length_8abf5 1 rfl) ⟨Nat.le_refl 0, Nat.le_refl 0⟩) (fun H locs hM => ?_)
  exact cc_ri Cx hM (dd_at td_J4_length_8abf5 2 rfl) hf
theorem c_J4_length_8abf5 (l : Launch) (D : va_G) (X : cc_X) (fu : Nat) (x0 : Nat) (st : cc_S) : cc_Mi l D X yJ4_length_8abf5 cJ4_length_8abf5 1 (some .int) 1 20 [.ref (cx_a X x0)] st (C_J4_length_8abf5 X fu x0 st) := by
  intro r st' hf
  refine cc_enter (cc := cJ4_length_8abf5) (nL := 1) (ret := some .int) (by decide +kernel) rfl (Nat.le_of_ble_eq_true rfl) ?_
  intro p e s m args below meth c ls Cx hl hM
  exact w_J4_length_8abf5 Cx fu x0 st hf hl hM

/-! X11_count -/
def tb_X11_count : List (Nat × Instr × Nat) := [(0, .iload_n 1, 1), (1, .tableswitch 95 0 6 #[43, 51, 56, 64, 72, 80, 88], 43), (44, .aload_n 0, 1), (45, .getfield 12, 3), (48, .getfield 58, 3), (51, .ireturn, 1), (52, .aload_n 0, 1), (53, .getfield 45, 3), (56, .ireturn, 1), (57, .aload_n 0, 1), (58, .getfield 12, 3), (61, .getfield 193, 3), (64, .ireturn, 1), (65, .aload_n 0, 1), (66, .getfield 12, 3), (69, .getfield 207, 3), (72, .ireturn, 1), (73, .aload_n 0, 1), (74, .getfield 12, 3), (77, .getfield 223, 3), (80, .ireturn, 1), (81, .aload_n 0, 1), (82, .getfield 37, 3), (85, .invokevirtual 109, 3), (88, .ireturn, 1), (89, .aload_n 0, 1), (90, .getfield 41, 3), (93, .iconst 0, 1), (94, .iaload, 1), (95, .ireturn, 1), (96, .bipush (-2), 2), (98, .ireturn, 1)]
theorem td_X11_count : tb_X11_count.all (fun q => decide (decode cX11_count q.1 = .ok (q.2.1, q.2.2))) = true := by decide +kernel
theorem hd_X11_count : yX11_count.cls = RX11 ∧ yX11_count.cls ≠ "java/lang/invoke/MethodHandle" ∧ yX11_count.cls ≠ "java/lang/invoke/VarHandle" ∧ (parseMethodDescriptor yX11_count.desc).map (fun d => d.parameters.length) = some 1 := by decide +kernel
theorem hs_X11_count : yX11_count.name ≠ "<init>" ∧ (parseMethodDescriptor yX11_count.desc).map (fun d => d.parameters.length) = some 1 := by decide +kernel
theorem w_X11_count {p : Program} {l : Launch} {e : Env} {s : State} {m : MethodId} {args : Array Value} {below : List Frame} {meth : Method} {c : Code} {D : va_G} {X : cc_X} {r : Int32} {st' : cc_S} (Cx : cc_C p s m args meth c cX11_count 2 (some .int) RX11 D X) (fu : Nat) (x0 : Nat) (x1 : Int32) (st : cc_S) (hf : C_X11_count X fu x0 x1 st = some (r, st')) {H : Heap} {locs : List Loc} {ls : Array Slot} (hl : lv_has ls 2 [(0, .ref (cx_a X x0)), (1, .int x1)]) (hM : cc_H D X s.heap st H locs) : W p l e (mm_R 2 40) s m args below meth c H locs 0 0 (MQ below (cc_Qi D X r st') args s 0 0 (cc_A X)) (F0 m 0 ls []) := by
  unfold C_X11_count at hf
  refine lv_iload_n Cx.1 Cx.2.1 (dd_at td_X11_count 0 rfl) rfl (lv_at hl 1 rfl) ?_
  by_cases c1 : x1 = (0 : Int32)
  · replace hf := fc_of_t hf c1
    refine lv_tableIn (off := 43) (tgt := 44) Cx.1 Cx.2.1 (dd_at td_X11_count 1 rfl) (by rw [c1]; decide) (by rw [c1]; decide) (by rw [c1]; decide) (by decide) ?_
    refine lv_aload_n Cx.1 Cx.2.1 (dd_at td_X11_count 2 rfl) rfl (lv_at hl 0 rfl) ?_
    obtain ⟨g2, hf⟩ := fc_of_gd hf
    refine cc_gO (ci := 13) (C := RX11) (T := TX11) (N := 8) (k := 0) (ref := "EclipsesKept") Cx hM g2 rfl cc_inX11 rfl (by decide) cw498 (fun _ h => h) (dd_at td_X11_count 3 rfl) rfl ?_
    show W p l e (mm_R 2 40) s m args below meth c H locs 0 0 (MQ below (cc_Qi D X r st') args s 0 0 (cc_A X)) (F0 m 48 ls [.ref (cx_a X 1)])
    obtain ⟨g3, hf⟩ := fc_of_gd hf
    refine cc_gI (ci := 9) (C := RX7) (T := TX7) (N := 17) (k := 9) (ref := "EclipsesKept$State") Cx hM g3 rfl cc_inX7 rfl (by decide) cw546 (fun _ h => h) (dd_at td_X11_count 4 rfl) rfl ?_
    exact cc_ri Cx hM (dd_at td_X11_count 5 rfl) hf
  · replace hf := fc_of_f hf c1
    by_cases c4 : x1 = (1 : Int32)
    · replace hf := fc_of_t hf c4
      refine lv_tableIn (off := 51) (tgt := 52) Cx.1 Cx.2.1 (dd_at td_X11_count 1 rfl) (by rw [c4]; decide) (by rw [c4]; decide) (by rw [c4]; decide) (by decide) ?_
      refine lv_aload_n Cx.1 Cx.2.1 (dd_at td_X11_count 6 rfl) rfl (lv_at hl 0 rfl) ?_
      obtain ⟨g5, hf⟩ := fc_of_gd hf
      refine cc_gI (ci := 13) (C := RX11) (T := TX11) (N := 8) (k := 6) (ref := "EclipsesKept") Cx hM g5 rfl cc_inX11 rfl (by decide) cw510 (fun _ h => h) (dd_at td_X11_count 7 rfl) rfl ?_
      exact cc_ri Cx hM (dd_at td_X11_count 8 rfl) hf
    · replace hf := fc_of_f hf c4
      by_cases c6 : x1 = (2 : Int32)
      · replace hf := fc_of_t hf c6
        refine lv_tableIn (off := 56) (tgt := 57) Cx.1 Cx.2.1 (dd_at td_X11_count 1 rfl) (by rw [c6]; decide) (by rw [c6]; decide) (by rw [c6]; decide) (by decide) ?_
        refine lv_aload_n Cx.1 Cx.2.1 (dd_at td_X11_count 9 rfl) rfl (lv_at hl 0 rfl) ?_
        obtain ⟨g7, hf⟩ := fc_of_gd hf
        refine cc_gO (ci := 13) (C := RX11) (T := TX11) (N := 8) (k := 0) (ref := "EclipsesKept") Cx hM g7 rfl cc_inX11 rfl (by decide) cw498 (fun _ h => h) (dd_at td_X11_count 10 rfl) rfl ?_
        show W p l e (mm_R 2 40) s m args below meth c H locs 0 0 (MQ below (cc_Qi D X r st') args s 0 0 (cc_A X)) (F0 m 61 ls [.ref (cx_a X 1)])
        obtain ⟨g8, hf⟩ := fc_of_gd hf
        refine cc_gI (ci := 9) (C := RX7) (T := TX7) (N := 17) (k := 10) (ref := "EclipsesKept$State") Cx hM g8 rfl cc_inX7 rfl (by decide) cw784 (fun _ h => h) (dd_at td_X11_count 11 rfl) rfl ?_
        exact cc_ri Cx hM (dd_at td_X11_count 12 rfl) hf
      · replace hf := fc_of_f hf c6
        by_cases c9 : x1 = (3 : Int32)
        · replace hf := fc_of_t hf c9
          refine lv_tableIn (off := 64) (tgt := 65) Cx.1 Cx.2.1 (dd_at td_X11_count 1 rfl) (by rw [c9]; decide) (by rw [c9]; decide) (by rw [c9]; decide) (by decide) ?_
          refine lv_aload_n Cx.1 Cx.2.1 (dd_at td_X11_count 13 rfl) rfl (lv_at hl 0 rfl) ?_
          obtain ⟨g10, hf⟩ := fc_of_gd hf
          refine cc_gO (ci := 13) (C := RX11) (T := TX11) (N := 8) (k := 0) (ref := "EclipsesKept") Cx hM g10 rfl cc_inX11 rfl (by decide) cw498 (fun _ h => h) (dd_at td_X11_count 14 rfl) rfl ?_
          show W p l e (mm_R 2 40) s m args below meth c H locs 0 0 (MQ below (cc_Qi D X r st') args s 0 0 (cc_A X)) (F0 m 69 ls [.ref (cx_a X 1)])
          obtain ⟨g11, hf⟩ := fc_of_gd hf
          refine cc_gI (ci := 9) (C := RX7) (T := TX7) (N := 17) (k := 11) (ref := "EclipsesKept$State") Cx hM g11 rfl cc_inX7 rfl (by decide) cw793 (fun _ h => h) (dd_at td_X11_count 15 rfl) rfl ?_
          exact cc_ri Cx hM (dd_at td_X11_count 16 rfl) hf
        · replace hf := fc_of_f hf c9
          by_cases c12 : x1 = (4 : Int32)
          · replace hf := fc_of_t hf c12
            refine lv_tableIn (off := 72) (tgt := 73) Cx.1 Cx.2.1 (dd_at td_X11_count 1 rfl) (by rw [c12]; decide) (by rw [c12]; decide) (by rw [c12]; decide) (by decide) ?_
            refine lv_aload_n Cx.1 Cx.2.1 (dd_at td_X11_count 17 rfl) rfl (lv_at hl 0 rfl) ?_
            obtain ⟨g13, hf⟩ := fc_of_gd hf
            refine cc_gO (ci := 13) (C := RX11) (T := TX11) (N := 8) (k := 0) (ref := "EclipsesKept") Cx hM g13 rfl cc_inX11 rfl (by decide) cw498 (fun _ h => h) (dd_at td_X11_count 18 rfl) rfl ?_
            show W p l e (mm_R 2 40) s m args below meth c H locs 0 0 (MQ below (cc_Qi D X r st') args s 0 0 (cc_A X)) (F0 m 77 ls [.ref (cx_a X 1)])
            obtain ⟨g14, hf⟩ := fc_of_gd hf
            refine cc_gI (ci := 9) (C := RX7) (T := TX7) (N := 17) (k := 12) (ref := "EclipsesKept$State") Cx hM g14 rfl cc_inX7 rfl (by decide) cw803 (fun _ h => h) (dd_at td_X11_count 19 rfl) rfl ?_
            exact cc_ri Cx hM (dd_at td_X11_count 20 rfl) hf
          · replace hf := fc_of_f hf c12
            by_cases c15 : x1 = (5 : Int32)
            · replace hf := fc_of_t hf c15
              refine lv_tableIn (off := 80) (tgt := 81) Cx.1 Cx.2.1 (dd_at td_X11_count 1 rfl) (by rw [c15]; decide) (by rw [c15]; decide) (by rw [c15]; decide) (by decide) ?_
              refine lv_aload_n Cx.1 Cx.2.1 (dd_at td_X11_count 21 rfl) rfl (lv_at hl 0 rfl) ?_
              obtain ⟨g16, hf⟩ := fc_of_gd hf
              refine cc_gO (ci := 13) (C := RX11) (T := TX11) (N := 8) (k := 4) (ref := "EclipsesKept") Cx hM g16 rfl cc_inX11 rfl (by decide) cw508 (fun _ h => h) (dd_at td_X11_count 22 rfl) rfl ?_
              show W p l e (mm_R 2 40) s m args below meth c H locs 0 0 (MQ below (cc_Qi D X r st') args s 0 0 (cc_A X)) (F0 m 85 ls [.ref (cx_a X 40)])
              obtain ⟨g17, hf⟩ := fc_of_gd hf
              obtain ⟨r20, st18, hx19, hf⟩ := fc_of_bn hf
              refine cc_ai hM (cc_rV (ci := 1) (As := []) (rest := []) (n := 0) Cx hM g17 rfl (c_J4_length_8abf5 l D X fu 40 st r20 st18 hx19) (cc_gdV cw653 cw654 cw655 cw507 cw580) hd_J4_length_8abf5 ⟨Nat.le_of_ble_eq_true rfl, Nat.le_of_ble_eq_true rfl⟩ rfl hl.1 rfl (Nat.le_of_ble_eq_true rfl) (dd_at td_X11_count 23 rfl) ⟨Nat.le_refl 0, Nat.le_refl 0⟩) (fun H locs hM => ?_)
              exact cc_ri Cx hM (dd_at td_X11_count 24 rfl) hf
            · replace hf := fc_of_f hf c15
              by_cases c21 : x1 = (6 : Int32)
              · replace hf := fc_of_t hf c21
                refine lv_tableIn (off := 88) (tgt := 89) Cx.1 Cx.2.1 (dd_at td_X11_count 1 rfl) (by rw [c21]; decide) (by rw [c21]; decide) (by rw [c21]; decide) (by decide) ?_
                refine lv_aload_n Cx.1 Cx.2.1 (dd_at td_X11_count 25 rfl) rfl (lv_at hl 0 rfl) ?_
                obtain ⟨g22, hf⟩ := fc_of_gd hf
                refine cc_gA (ci := 13) (C := RX11) (T := TX11) (N := 8) (k := 5) (ref := "EclipsesKept") Cx hM g22 rfl cc_inX11 rfl (by decide) cw509 (fun _ h => h) (dd_at td_X11_count 26 rfl) rfl ?_
                refine lv_iconst (v := (0 : Int32)) Cx.1 Cx.2.1 (dd_at td_X11_count 27 rfl) (by decide) ?_
                obtain ⟨g23, hf⟩ := fc_of_gd hf
                refine cc_iald Cx hM g23 (dd_at td_X11_count 28 rfl) ?_
                exact cc_ri Cx hM (dd_at td_X11_count 29 rfl) hf
              · replace hf := fc_of_f hf c21
                refine lv_tableOut (tgt := 96) Cx.1 Cx.2.1 (dd_at td_X11_count 1 rfl) (by have q0 := lv_neT c1 (a := 0) (by decide); have q1 := lv_neT c4 (a := 1) (by decide); have q2 := lv_neT c6 (a := 2) (by decide); have q3 := lv_neT c9 (a := 3) (by decide); have q4 := lv_neT c12 (a := 4) (by decide); have q5 := lv_neT c15 (a := 5) (by decide); have q6 := lv_neT c21 (a := 6) (by decide); omega) (by decide) ?_
                refine lv_bipush (v := (-2 : Int32)) Cx.1 Cx.2.1 (dd_at td_X11_count 30 rfl) (by decide) ?_
                exact cc_ri Cx hM (dd_at td_X11_count 31 rfl) hf
theorem c_X11_count (l : Launch) (D : va_G) (X : cc_X) (fu : Nat) (x0 : Nat) (x1 : Int32) (st : cc_S) : cc_Mi l D X yX11_count cX11_count 2 (some .int) 2 40 [.ref (cx_a X x0), .int x1] st (C_X11_count X fu x0 x1 st) := by
  intro r st' hf
  refine cc_enter (cc := cX11_count) (nL := 2) (ret := some .int) (by decide +kernel) rfl (Nat.le_of_ble_eq_true rfl) ?_
  intro p e s m args below meth c ls Cx hl hM
  exact w_X11_count Cx fu x0 x1 st hf hl hM

/-! X11_tape -/
def tb_X11_tape : List (Nat × Instr × Nat) := [(0, .aload_n 0, 1), (1, .iload_n 1, 1), (2, .invokevirtual 232, 3), (5, .astore 4, 2), (7, .aload 4, 2), (9, .ifnonnull 5, 3), (12, .iconst (-1), 1), (13, .ireturn, 1), (14, .iload_n 2, 1), (15, .iconst (-1), 1), (16, .if_icmp .ne 12, 3), (19, .aload 4, 2), (21, .iconst (-1), 1), (22, .iconst 0, 1), (23, .invokevirtual 264, 3), (26, .iconst 1, 1), (27, .ireturn, 1), (28, .iload_n 2, 1), (29, .iconst 4, 1), (30, .invokestatic 54, 3), (33, .ifCond .eq 9, 3), (36, .iload_n 3, 1), (37, .bipush 60, 2), (39, .if_icmp .le 6, 3), (42, .bipush (-2), 2), (44, .ireturn, 1), (45, .iload_n 3, 1), (46, .ifCond .ge 6, 3), (49, .bipush (-14), 2), (51, .ireturn, 1), (52, .aload 4, 2), (54, .iload_n 2, 1), (55, .iload_n 3, 1), (56, .invokevirtual 264, 3), (59, .iconst 1, 1), (60, .ireturn, 1)]
theorem td_X11_tape : tb_X11_tape.all (fun q => decide (decode cX11_tape q.1 = .ok (q.2.1, q.2.2))) = true := by decide +kernel
theorem hd_X11_tape : yX11_tape.cls = RX11 ∧ yX11_tape.cls ≠ "java/lang/invoke/MethodHandle" ∧ yX11_tape.cls ≠ "java/lang/invoke/VarHandle" ∧ (parseMethodDescriptor yX11_tape.desc).map (fun d => d.parameters.length) = some 3 := by decide +kernel
theorem hs_X11_tape : yX11_tape.name ≠ "<init>" ∧ (parseMethodDescriptor yX11_tape.desc).map (fun d => d.parameters.length) = some 3 := by decide +kernel
theorem w_X11_tape {p : Program} {l : Launch} {e : Env} {s : State} {m : MethodId} {args : Array Value} {below : List Frame} {meth : Method} {c : Code} {D : va_G} {X : cc_X} {r : Int32} {st' : cc_S} (Cx : cc_C p s m args meth c cX11_tape 5 (some .int) RX11 D X) (fu : Nat) (x0 : Nat) (x1 : Int32) (x2 : Int32) (x3 : Int32) (st : cc_S) (hf : C_X11_tape X fu x0 x1 x2 x3 st = some (r, st')) {H : Heap} {locs : List Loc} {ls : Array Slot} (hl : lv_has ls 5 [(0, .ref (cx_a X x0)), (1, .int x1), (2, .int x2), (3, .int x3)]) (hM : cc_H D X s.heap st H locs) : W p l e (mm_R 2 42) s m args below meth c H locs 0 0 (MQ below (cc_Qi D X r st') args s 0 0 (cc_A X)) (F0 m 0 ls []) := by
  unfold C_X11_tape at hf
  refine lv_aload_n Cx.1 Cx.2.1 (dd_at td_X11_tape 0 rfl) rfl (lv_at hl 0 rfl) ?_
  refine lv_iload_n Cx.1 Cx.2.1 (dd_at td_X11_tape 1 rfl) rfl (lv_at hl 1 rfl) ?_
  obtain ⟨g1, hf⟩ := fc_of_gd hf
  obtain ⟨r4, st2, hx3, hf⟩ := fc_of_bn hf
  refine cc_aq hM (cc_rV (ci := 13) (As := [.int x1]) (rest := []) (n := 1) Cx hM g1 rfl (c_X11_tapeOf l D X fu x0 x1 st r4 st2 hx3) (cc_gdV cw811 cw812 cw813 cw549 cw807) hd_X11_tapeOf ⟨Nat.le_of_ble_eq_true rfl, Nat.le_of_ble_eq_true rfl⟩ rfl hl.1 rfl (Nat.le_of_ble_eq_true rfl) (dd_at td_X11_tape 2 rfl) ⟨Nat.le_refl 0, Nat.le_refl 0⟩) (fun H locs hq hM => ?_) (fun y5 H locs hq hM => ?_)
  · replace hf := fc_of_mn hf hq
    refine lv_astoreN (lv' := [(4, .null), (0, .ref (cx_a X x0)), (1, .int x1), (2, .int x2), (3, .int x3)]) Cx.1 Cx.2.1 (dd_at td_X11_tape 3 rfl) hl (by decide) rfl (fun ls hl => ?_)
    refine lv_aloadN Cx.1 Cx.2.1 (dd_at td_X11_tape 4 rfl) (lv_at hl 0 rfl) ?_
    refine lv_ifnonnullN Cx.1 Cx.2.1 (dd_at td_X11_tape 5 rfl) ?_
    refine lv_iconst (v := (-1 : Int32)) Cx.1 Cx.2.1 (dd_at td_X11_tape 6 rfl) (by decide) ?_
    exact cc_ri Cx hM (dd_at td_X11_tape 7 rfl) hf
  · replace hf := fc_of_ms hf hq
    refine lv_astore (lv' := [(4, .ref (cx_a X y5)), (0, .ref (cx_a X x0)), (1, .int x1), (2, .int x2), (3, .int x3)]) Cx.1 Cx.2.1 (dd_at td_X11_tape 3 rfl) hl (by decide) rfl (fun ls hl => ?_)
    refine lv_aload Cx.1 Cx.2.1 (dd_at td_X11_tape 4 rfl) (lv_at hl 0 rfl) ?_
    refine lv_ifnonnull (tgt := 14) Cx.1 Cx.2.1 (dd_at td_X11_tape 5 rfl) (by decide) ?_
    refine lv_iload_n Cx.1 Cx.2.1 (dd_at td_X11_tape 8 rfl) rfl (lv_at hl 3 rfl) ?_
    refine lv_iconst (v := (-1 : Int32)) Cx.1 Cx.2.1 (dd_at td_X11_tape 9 rfl) (by decide) ?_
    refine lv_icmp_ne (tgt := 28) Cx.1 Cx.2.1 (dd_at td_X11_tape 10 rfl) (by decide) (fun c6 => ?_) (fun c6 => ?_)
    · replace hf := fc_of_f hf c6
      refine lv_iload_n Cx.1 Cx.2.1 (dd_at td_X11_tape 17 rfl) rfl (lv_at hl 3 rfl) ?_
      refine lv_iconst (v := (4 : Int32)) Cx.1 Cx.2.1 (dd_at td_X11_tape 18 rfl) (by decide) ?_
      obtain ⟨r9, st7, hx8, hf⟩ := fc_of_bn hf
      refine cc_ai hM (cc_rS (As := [.int x2, .int (4 : Int32)]) (rest := []) (n := 2) Cx hM (c_X11_isWithin l D X fu x2 (4 : Int32) st2 r9 st7 hx8) (cc_gdS cw547 cw548 cw549 cw520) hd_X11_isWithin ⟨Nat.le_of_ble_eq_true rfl, Nat.le_of_ble_eq_true rfl⟩ rfl hl.1 rfl (Nat.le_of_ble_eq_true rfl) (dd_at td_X11_tape 19 rfl) ⟨Nat.le_refl 0, Nat.le_refl 0⟩) (fun H locs hM => ?_)
      refine lv_if_eq (tgt := 42) Cx.1 Cx.2.1 (dd_at td_X11_tape 20 rfl) (by decide) (fun c10 => ?_) (fun c10 => ?_)
      · replace hf := fc_of_t hf c10
        refine lv_bipush (v := (-2 : Int32)) Cx.1 Cx.2.1 (dd_at td_X11_tape 24 rfl) (by decide) ?_
        exact cc_ri Cx hM (dd_at td_X11_tape 25 rfl) hf
      · replace hf := fc_of_f hf c10
        refine lv_iload_n Cx.1 Cx.2.1 (dd_at td_X11_tape 21 rfl) rfl (lv_at hl 4 rfl) ?_
        refine lv_bipush (v := (60 : Int32)) Cx.1 Cx.2.1 (dd_at td_X11_tape 22 rfl) (by decide) ?_
        refine lv_icmp_le (tgt := 45) Cx.1 Cx.2.1 (dd_at td_X11_tape 23 rfl) (by decide) (fun c11 => ?_) (fun c11 => ?_)
        · replace hf := fc_of_t hf c11
          refine lv_iload_n Cx.1 Cx.2.1 (dd_at td_X11_tape 26 rfl) rfl (lv_at hl 4 rfl) ?_
          refine lv_if_ge (tgt := 52) Cx.1 Cx.2.1 (dd_at td_X11_tape 27 rfl) (by decide) (fun c12 => ?_) (fun c12 => ?_)
          · replace hf := fc_of_t hf c12
            refine lv_aload Cx.1 Cx.2.1 (dd_at td_X11_tape 30 rfl) (lv_at hl 0 rfl) ?_
            refine lv_iload_n Cx.1 Cx.2.1 (dd_at td_X11_tape 31 rfl) rfl (lv_at hl 3 rfl) ?_
            refine lv_iload_n Cx.1 Cx.2.1 (dd_at td_X11_tape 32 rfl) rfl (lv_at hl 4 rfl) ?_
            obtain ⟨g13, hf⟩ := fc_of_gd hf
            obtain ⟨st14, hx15, hf⟩ := fc_of_bv hf
            refine cc_av hM (cc_rV (ci := 10) (As := [.int x2, .int x3]) (rest := []) (n := 2) Cx hM g13 rfl (c_X8_become l D X fu y5 x2 x3 st7 st14 hx15) (cc_gdV cw852 cw853 cw854 cw513 cw407) hd_X8_become ⟨Nat.le_of_ble_eq_true rfl, Nat.le_of_ble_eq_true rfl⟩ rfl hl.1 rfl (Nat.le_of_ble_eq_true rfl) (dd_at td_X11_tape 33 rfl) ⟨Nat.le_refl 0, Nat.le_refl 0⟩) (fun H locs hM => ?_)
            refine lv_iconst (v := (1 : Int32)) Cx.1 Cx.2.1 (dd_at td_X11_tape 34 rfl) (by decide) ?_
            exact cc_ri Cx hM (dd_at td_X11_tape 35 rfl) hf
          · replace hf := fc_of_f hf c12
            refine lv_bipush (v := (-14 : Int32)) Cx.1 Cx.2.1 (dd_at td_X11_tape 28 rfl) (by decide) ?_
            exact cc_ri Cx hM (dd_at td_X11_tape 29 rfl) hf
        · replace hf := fc_of_f hf c11
          refine lv_bipush (v := (-2 : Int32)) Cx.1 Cx.2.1 (dd_at td_X11_tape 24 rfl) (by decide) ?_
          exact cc_ri Cx hM (dd_at td_X11_tape 25 rfl) hf
    · replace hf := fc_of_t hf c6
      refine lv_aload Cx.1 Cx.2.1 (dd_at td_X11_tape 11 rfl) (lv_at hl 0 rfl) ?_
      refine lv_iconst (v := (-1 : Int32)) Cx.1 Cx.2.1 (dd_at td_X11_tape 12 rfl) (by decide) ?_
      refine lv_iconst (v := (0 : Int32)) Cx.1 Cx.2.1 (dd_at td_X11_tape 13 rfl) (by decide) ?_
      obtain ⟨g16, hf⟩ := fc_of_gd hf
      obtain ⟨st17, hx18, hf⟩ := fc_of_bv hf
      refine cc_av hM (cc_rV (ci := 10) (As := [.int (-1 : Int32), .int (0 : Int32)]) (rest := []) (n := 2) Cx hM g16 rfl (c_X8_become l D X fu y5 (-1 : Int32) (0 : Int32) st2 st17 hx18) (cc_gdV cw852 cw853 cw854 cw513 cw407) hd_X8_become ⟨Nat.le_of_ble_eq_true rfl, Nat.le_of_ble_eq_true rfl⟩ rfl hl.1 rfl (Nat.le_of_ble_eq_true rfl) (dd_at td_X11_tape 14 rfl) ⟨Nat.le_refl 0, Nat.le_refl 0⟩) (fun H locs hM => ?_)
      refine lv_iconst (v := (1 : Int32)) Cx.1 Cx.2.1 (dd_at td_X11_tape 15 rfl) (by decide) ?_
      exact cc_ri Cx hM (dd_at td_X11_tape 16 rfl) hf
theorem c_X11_tape (l : Launch) (D : va_G) (X : cc_X) (fu : Nat) (x0 : Nat) (x1 : Int32) (x2 : Int32) (x3 : Int32) (st : cc_S) : cc_Mi l D X yX11_tape cX11_tape 5 (some .int) 2 42 [.ref (cx_a X x0), .int x1, .int x2, .int x3] st (C_X11_tape X fu x0 x1 x2 x3 st) := by
  intro r st' hf
  refine cc_enter (cc := cX11_tape) (nL := 5) (ret := some .int) (by decide +kernel) rfl (Nat.le_of_ble_eq_true rfl) ?_
  intro p e s m args below meth c ls Cx hl hM
  exact w_X11_tape Cx fu x0 x1 x2 x3 st hf hl hM

/-! X11_item -/
def tb_X11_item : List (Nat × Instr × Nat) := [(0, .aload_n 0, 1), (1, .iload_n 1, 1), (2, .invokevirtual 232, 3), (5, .astore 5, 2), (7, .aload 5, 2), (9, .ifnonnull 5, 3), (12, .iconst (-1), 1), (13, .ireturn, 1), (14, .aload 5, 2), (16, .invokevirtual 236, 3), (19, .ifCond .ne 6, 3), (22, .bipush (-11), 2), (24, .ireturn, 1), (25, .aload 5, 2), (27, .iload_n 2, 1), (28, .invokevirtual 267, 3), (31, .ifCond .ne 6, 3), (34, .bipush (-13), 2), (36, .ireturn, 1), (37, .aload 5, 2), (39, .getfield 244, 3), (42, .iload_n 2, 1), (43, .aload 5, 2), (45, .lload_n 3, 1), (46, .invokevirtual 270, 3), (49, .lastore, 1), (50, .iconst 1, 1), (51, .ireturn, 1)]
theorem td_X11_item : tb_X11_item.all (fun q => decide (decode cX11_item q.1 = .ok (q.2.1, q.2.2))) = true := by decide +kernel
theorem hd_X11_item : yX11_item.cls = RX11 ∧ yX11_item.cls ≠ "java/lang/invoke/MethodHandle" ∧ yX11_item.cls ≠ "java/lang/invoke/VarHandle" ∧ (parseMethodDescriptor yX11_item.desc).map (fun d => d.parameters.length) = some 3 := by decide +kernel
theorem hs_X11_item : yX11_item.name ≠ "<init>" ∧ (parseMethodDescriptor yX11_item.desc).map (fun d => d.parameters.length) = some 3 := by decide +kernel
theorem w_X11_item {p : Program} {l : Launch} {e : Env} {s : State} {m : MethodId} {args : Array Value} {below : List Frame} {meth : Method} {c : Code} {D : va_G} {X : cc_X} {r : Int32} {st' : cc_S} (Cx : cc_C p s m args meth c cX11_item 6 (some .int) RX11 D X) (fu : Nat) (x0 : Nat) (x1 : Int32) (x2 : Int32) (x3 : Int64) (st : cc_S) (hf : C_X11_item X fu x0 x1 x2 x3 st = some (r, st')) {H : Heap} {locs : List Loc} {ls : Array Slot} (hl : lv_has ls 6 [(0, .ref (cx_a X x0)), (1, .int x1), (2, .int x2), (3, .long x3)]) (hM : cc_H D X s.heap st H locs) : W p l e (mm_R 2 42) s m args below meth c H locs 0 0 (MQ below (cc_Qi D X r st') args s 0 0 (cc_A X)) (F0 m 0 ls []) := by
  unfold C_X11_item at hf
  refine lv_aload_n Cx.1 Cx.2.1 (dd_at td_X11_item 0 rfl) rfl (lv_at hl 0 rfl) ?_
  refine lv_iload_n Cx.1 Cx.2.1 (dd_at td_X11_item 1 rfl) rfl (lv_at hl 1 rfl) ?_
  obtain ⟨g1, hf⟩ := fc_of_gd hf
  obtain ⟨r4, st2, hx3, hf⟩ := fc_of_bn hf
  refine cc_aq hM (cc_rV (ci := 13) (As := [.int x1]) (rest := []) (n := 1) Cx hM g1 rfl (c_X11_tapeOf l D X fu x0 x1 st r4 st2 hx3) (cc_gdV cw811 cw812 cw813 cw549 cw807) hd_X11_tapeOf ⟨Nat.le_of_ble_eq_true rfl, Nat.le_of_ble_eq_true rfl⟩ rfl hl.1 rfl (Nat.le_of_ble_eq_true rfl) (dd_at td_X11_item 2 rfl) ⟨Nat.le_refl 0, Nat.le_refl 0⟩) (fun H locs hq hM => ?_) (fun y5 H locs hq hM => ?_)
  · replace hf := fc_of_mn hf hq
    refine lv_astoreN (lv' := [(5, .null), (0, .ref (cx_a X x0)), (1, .int x1), (2, .int x2), (3, .long x3)]) Cx.1 Cx.2.1 (dd_at td_X11_item 3 rfl) hl (by decide) rfl (fun ls hl => ?_)
    refine lv_aloadN Cx.1 Cx.2.1 (dd_at td_X11_item 4 rfl) (lv_at hl 0 rfl) ?_
    refine lv_ifnonnullN Cx.1 Cx.2.1 (dd_at td_X11_item 5 rfl) ?_
    refine lv_iconst (v := (-1 : Int32)) Cx.1 Cx.2.1 (dd_at td_X11_item 6 rfl) (by decide) ?_
    exact cc_ri Cx hM (dd_at td_X11_item 7 rfl) hf
  · replace hf := fc_of_ms hf hq
    refine lv_astore (lv' := [(5, .ref (cx_a X y5)), (0, .ref (cx_a X x0)), (1, .int x1), (2, .int x2), (3, .long x3)]) Cx.1 Cx.2.1 (dd_at td_X11_item 3 rfl) hl (by decide) rfl (fun ls hl => ?_)
    refine lv_aload Cx.1 Cx.2.1 (dd_at td_X11_item 4 rfl) (lv_at hl 0 rfl) ?_
    refine lv_ifnonnull (tgt := 14) Cx.1 Cx.2.1 (dd_at td_X11_item 5 rfl) (by decide) ?_
    refine lv_aload Cx.1 Cx.2.1 (dd_at td_X11_item 8 rfl) (lv_at hl 0 rfl) ?_
    obtain ⟨g6, hf⟩ := fc_of_gd hf
    obtain ⟨r9, st7, hx8, hf⟩ := fc_of_bn hf
    refine cc_ai hM (cc_rV (ci := 10) (As := []) (rest := []) (n := 0) Cx hM g6 rfl (c_X8_holds l D X fu y5 st2 r9 st7 hx8) (cc_gdV cw814 cw815 cw816 cw513 cw406) hd_X8_holds ⟨Nat.le_of_ble_eq_true rfl, Nat.le_of_ble_eq_true rfl⟩ rfl hl.1 rfl (Nat.le_of_ble_eq_true rfl) (dd_at td_X11_item 9 rfl) ⟨Nat.le_refl 0, Nat.le_refl 0⟩) (fun H locs hM => ?_)
    refine lv_if_ne (tgt := 25) Cx.1 Cx.2.1 (dd_at td_X11_item 10 rfl) (by decide) (fun c10 => ?_) (fun c10 => ?_)
    · replace hf := fc_of_f hf c10
      refine lv_aload Cx.1 Cx.2.1 (dd_at td_X11_item 13 rfl) (lv_at hl 0 rfl) ?_
      refine lv_iload_n Cx.1 Cx.2.1 (dd_at td_X11_item 14 rfl) rfl (lv_at hl 3 rfl) ?_
      obtain ⟨r13, st11, hx12, hf⟩ := fc_of_bn hf
      refine cc_ai hM (cc_rV (ci := 10) (As := [.int x2]) (rest := []) (n := 1) Cx hM g6 rfl (c_X8_hasPlace l D X fu y5 x2 st7 r13 st11 hx12) (cc_gdV cw855 cw856 cw857 cw513 cw408) hd_X8_hasPlace ⟨Nat.le_of_ble_eq_true rfl, Nat.le_of_ble_eq_true rfl⟩ rfl hl.1 rfl (Nat.le_of_ble_eq_true rfl) (dd_at td_X11_item 15 rfl) ⟨Nat.le_refl 0, Nat.le_refl 0⟩) (fun H locs hM => ?_)
      refine lv_if_ne (tgt := 37) Cx.1 Cx.2.1 (dd_at td_X11_item 16 rfl) (by decide) (fun c14 => ?_) (fun c14 => ?_)
      · replace hf := fc_of_f hf c14
        refine lv_aload Cx.1 Cx.2.1 (dd_at td_X11_item 19 rfl) (lv_at hl 0 rfl) ?_
        refine cc_gA (ci := 10) (C := RX8) (T := TX8) (N := 3) (k := 0) (ref := "EclipsesKept$Tape") Cx hM g6 rfl cc_inX8 rfl (by decide) cw810 (fun _ h => h) (dd_at td_X11_item 20 rfl) rfl ?_
        refine lv_iload_n Cx.1 Cx.2.1 (dd_at td_X11_item 21 rfl) rfl (lv_at hl 3 rfl) ?_
        refine lv_aload Cx.1 Cx.2.1 (dd_at td_X11_item 22 rfl) (lv_at hl 0 rfl) ?_
        refine lv_lload_n Cx.1 Cx.2.1 (dd_at td_X11_item 23 rfl) rfl (lv_at hl 4 rfl) ?_
        obtain ⟨r17, st15, hx16, hf⟩ := fc_of_bn hf
        refine cc_all hM (cc_rV (ci := 10) (As := [.long x3]) (rest := [.int x2, .ref (cx_b X y5 0)]) (n := 1) Cx hM g6 rfl (c_X8_narrowed l D X fu y5 x3 st11 r17 st15 hx16) (cc_gdV cw858 cw859 cw860 cw513 cw410) hd_X8_narrowed ⟨Nat.le_of_ble_eq_true rfl, Nat.le_of_ble_eq_true rfl⟩ rfl hl.1 rfl (Nat.le_of_ble_eq_true rfl) (dd_at td_X11_item 24 rfl) ⟨Nat.le_refl 0, Nat.le_refl 0⟩) (fun H locs hM => ?_)
        obtain ⟨g18, hf⟩ := fc_of_gd hf
        refine cc_last Cx hM g18 (dd_at td_X11_item 25 rfl) (fun st19 H locs est19 hM => ?_)
        replace hf := fc_of_nm hf st19 est19
        refine lv_iconst (v := (1 : Int32)) Cx.1 Cx.2.1 (dd_at td_X11_item 26 rfl) (by decide) ?_
        exact cc_ri Cx hM (dd_at td_X11_item 27 rfl) hf
      · replace hf := fc_of_t hf c14
        refine lv_bipush (v := (-13 : Int32)) Cx.1 Cx.2.1 (dd_at td_X11_item 17 rfl) (by decide) ?_
        exact cc_ri Cx hM (dd_at td_X11_item 18 rfl) hf
    · replace hf := fc_of_t hf c10
      refine lv_bipush (v := (-11 : Int32)) Cx.1 Cx.2.1 (dd_at td_X11_item 11 rfl) (by decide) ?_
      exact cc_ri Cx hM (dd_at td_X11_item 12 rfl) hf
theorem c_X11_item (l : Launch) (D : va_G) (X : cc_X) (fu : Nat) (x0 : Nat) (x1 : Int32) (x2 : Int32) (x3 : Int64) (st : cc_S) : cc_Mi l D X yX11_item cX11_item 6 (some .int) 2 42 [.ref (cx_a X x0), .int x1, .int x2, .long x3] st (C_X11_item X fu x0 x1 x2 x3 st) := by
  intro r st' hf
  refine cc_enter (cc := cX11_item) (nL := 6) (ret := some .int) (by decide +kernel) rfl (Nat.le_of_ble_eq_true rfl) ?_
  intro p e s m args below meth c ls Cx hl hM
  exact w_X11_item Cx fu x0 x1 x2 x3 st hf hl hM

/-! X11_read -/
def tb_X11_read : List (Nat × Instr × Nat) := [(0, .aload_n 0, 1), (1, .iload_n 1, 1), (2, .invokevirtual 232, 3), (5, .astore_n 3, 1), (6, .aload_n 3, 1), (7, .ifnull 11, 3), (10, .aload_n 3, 1), (11, .iload_n 2, 1), (12, .invokevirtual 267, 3), (15, .ifCond .ne 7, 3), (18, .ldc2_w 166, 3), (21, .lreturn, 1), (22, .aload_n 3, 1), (23, .getfield 244, 3), (26, .iload_n 2, 1), (27, .laload, 1), (28, .lreturn, 1)]
theorem td_X11_read : tb_X11_read.all (fun q => decide (decode cX11_read q.1 = .ok (q.2.1, q.2.2))) = true := by decide +kernel
theorem hd_X11_read : yX11_read.cls = RX11 ∧ yX11_read.cls ≠ "java/lang/invoke/MethodHandle" ∧ yX11_read.cls ≠ "java/lang/invoke/VarHandle" ∧ (parseMethodDescriptor yX11_read.desc).map (fun d => d.parameters.length) = some 2 := by decide +kernel
theorem hs_X11_read : yX11_read.name ≠ "<init>" ∧ (parseMethodDescriptor yX11_read.desc).map (fun d => d.parameters.length) = some 2 := by decide +kernel
theorem w_X11_read {p : Program} {l : Launch} {e : Env} {s : State} {m : MethodId} {args : Array Value} {below : List Frame} {meth : Method} {c : Code} {D : va_G} {X : cc_X} {r : Int64} {st' : cc_S} (Cx : cc_C p s m args meth c cX11_read 4 (some .long) RX11 D X) (fu : Nat) (x0 : Nat) (x1 : Int32) (x2 : Int32) (st : cc_S) (hf : C_X11_read X fu x0 x1 x2 st = some (r, st')) {H : Heap} {locs : List Loc} {ls : Array Slot} (hl : lv_has ls 4 [(0, .ref (cx_a X x0)), (1, .int x1), (2, .int x2)]) (hM : cc_H D X s.heap st H locs) : W p l e (mm_R 2 42) s m args below meth c H locs 0 0 (MQ below (cc_Ql D X r st') args s 0 0 (cc_A X)) (F0 m 0 ls []) := by
  unfold C_X11_read at hf
  refine lv_aload_n Cx.1 Cx.2.1 (dd_at td_X11_read 0 rfl) rfl (lv_at hl 0 rfl) ?_
  refine lv_iload_n Cx.1 Cx.2.1 (dd_at td_X11_read 1 rfl) rfl (lv_at hl 1 rfl) ?_
  obtain ⟨g1, hf⟩ := fc_of_gd hf
  obtain ⟨r4, st2, hx3, hf⟩ := fc_of_bn hf
  refine cc_aq hM (cc_rV (ci := 13) (As := [.int x1]) (rest := []) (n := 1) Cx hM g1 rfl (c_X11_tapeOf l D X fu x0 x1 st r4 st2 hx3) (cc_gdV cw811 cw812 cw813 cw549 cw807) hd_X11_tapeOf ⟨Nat.le_of_ble_eq_true rfl, Nat.le_of_ble_eq_true rfl⟩ rfl hl.1 rfl (Nat.le_of_ble_eq_true rfl) (dd_at td_X11_read 2 rfl) ⟨Nat.le_refl 0, Nat.le_refl 0⟩) (fun H locs hq hM => ?_) (fun y5 H locs hq hM => ?_)
  · replace hf := fc_of_mn hf hq
    refine lv_astore_nN (lv' := [(3, .null), (0, .ref (cx_a X x0)), (1, .int x1), (2, .int x2)]) Cx.1 Cx.2.1 (dd_at td_X11_read 3 rfl) rfl hl (by decide) rfl (fun ls hl => ?_)
    refine lv_aload_nN Cx.1 Cx.2.1 (dd_at td_X11_read 4 rfl) rfl (lv_at hl 0 rfl) ?_
    refine lv_ifnullN (tgt := 18) Cx.1 Cx.2.1 (dd_at td_X11_read 5 rfl) (by decide) ?_
    refine lv_ldc2 (v := (-9223372036854775808 : Int64)) Cx.1 Cx.2.1 Cx.2.2.2.2.1 (Cx.2.2.2.2.2.1 _ cw748) (dd_at td_X11_read 10 rfl) ?_
    exact cc_rl Cx hM (dd_at td_X11_read 11 rfl) hf
  · replace hf := fc_of_ms hf hq
    refine lv_astore_n (lv' := [(3, .ref (cx_a X y5)), (0, .ref (cx_a X x0)), (1, .int x1), (2, .int x2)]) Cx.1 Cx.2.1 (dd_at td_X11_read 3 rfl) rfl hl (by decide) rfl (fun ls hl => ?_)
    refine lv_aload_n Cx.1 Cx.2.1 (dd_at td_X11_read 4 rfl) rfl (lv_at hl 0 rfl) ?_
    refine lv_ifnull Cx.1 Cx.2.1 (dd_at td_X11_read 5 rfl) ?_
    refine lv_aload_n Cx.1 Cx.2.1 (dd_at td_X11_read 6 rfl) rfl (lv_at hl 0 rfl) ?_
    refine lv_iload_n Cx.1 Cx.2.1 (dd_at td_X11_read 7 rfl) rfl (lv_at hl 3 rfl) ?_
    obtain ⟨g6, hf⟩ := fc_of_gd hf
    obtain ⟨r9, st7, hx8, hf⟩ := fc_of_bn hf
    refine cc_ai hM (cc_rV (ci := 10) (As := [.int x2]) (rest := []) (n := 1) Cx hM g6 rfl (c_X8_hasPlace l D X fu y5 x2 st2 r9 st7 hx8) (cc_gdV cw855 cw856 cw857 cw513 cw408) hd_X8_hasPlace ⟨Nat.le_of_ble_eq_true rfl, Nat.le_of_ble_eq_true rfl⟩ rfl hl.1 rfl (Nat.le_of_ble_eq_true rfl) (dd_at td_X11_read 8 rfl) ⟨Nat.le_refl 0, Nat.le_refl 0⟩) (fun H locs hM => ?_)
    refine lv_if_ne (tgt := 22) Cx.1 Cx.2.1 (dd_at td_X11_read 9 rfl) (by decide) (fun c10 => ?_) (fun c10 => ?_)
    · replace hf := fc_of_f hf c10
      refine lv_aload_n Cx.1 Cx.2.1 (dd_at td_X11_read 12 rfl) rfl (lv_at hl 0 rfl) ?_
      refine cc_gA (ci := 10) (C := RX8) (T := TX8) (N := 3) (k := 0) (ref := "EclipsesKept$Tape") Cx hM g6 rfl cc_inX8 rfl (by decide) cw810 (fun _ h => h) (dd_at td_X11_read 13 rfl) rfl ?_
      refine lv_iload_n Cx.1 Cx.2.1 (dd_at td_X11_read 14 rfl) rfl (lv_at hl 3 rfl) ?_
      obtain ⟨g11, hf⟩ := fc_of_gd hf
      refine cc_lald Cx hM g11 (dd_at td_X11_read 15 rfl) ?_
      exact cc_rl Cx hM (dd_at td_X11_read 16 rfl) hf
    · replace hf := fc_of_t hf c10
      refine lv_ldc2 (v := (-9223372036854775808 : Int64)) Cx.1 Cx.2.1 Cx.2.2.2.2.1 (Cx.2.2.2.2.2.1 _ cw748) (dd_at td_X11_read 10 rfl) ?_
      exact cc_rl Cx hM (dd_at td_X11_read 11 rfl) hf
theorem c_X11_read (l : Launch) (D : va_G) (X : cc_X) (fu : Nat) (x0 : Nat) (x1 : Int32) (x2 : Int32) (st : cc_S) : cc_Ml l D X yX11_read cX11_read 4 (some .long) 2 42 [.ref (cx_a X x0), .int x1, .int x2] st (C_X11_read X fu x0 x1 x2 st) := by
  intro r st' hf
  refine cc_enter (cc := cX11_read) (nL := 4) (ret := some .long) (by decide +kernel) rfl (Nat.le_of_ble_eq_true rfl) ?_
  intro p e s m args below meth c ls Cx hl hM
  exact w_X11_read Cx fu x0 x1 x2 st hf hl hM

