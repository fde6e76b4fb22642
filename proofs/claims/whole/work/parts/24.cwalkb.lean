/-! X2_gives -/
def tb_X2_gives : List (Nat × Instr × Nat) := [(0, .aload_n 0, 1), (1, .iload_n 1, 1), (2, .iload_n 2, 1), (3, .iload_n 3, 1), (4, .iload 4, 2), (6, .iload 5, 2), (8, .invokespecial 7, 3), (11, .istore 6, 2), (13, .iload 4, 2), (15, .iconst 1, 1), (16, .if_icmp .ne 10, 3), (19, .iload 6, 2), (21, .iconst 2, 1), (22, .imul, 1), (23, .goto 5, 3), (26, .iload 6, 2), (28, .ireturn, 1)]
theorem td_X2_gives : tb_X2_gives.all (fun q => decide (decode cX2_gives q.1 = .ok (q.2.1, q.2.2))) = true := by decide +kernel
theorem hd_X2_gives : yX2_gives.cls = RX2 ∧ yX2_gives.cls ≠ "java/lang/invoke/MethodHandle" ∧ yX2_gives.cls ≠ "java/lang/invoke/VarHandle" ∧ (parseMethodDescriptor yX2_gives.desc).map (fun d => d.parameters.length) = some 5 := by decide +kernel
theorem hs_X2_gives : yX2_gives.name ≠ "<init>" ∧ (parseMethodDescriptor yX2_gives.desc).map (fun d => d.parameters.length) = some 5 := by decide +kernel
theorem w_X2_gives {p : Program} {l : Launch} {e : Env} {s : State} {m : MethodId} {args : Array Value} {below : List Frame} {meth : Method} {c : Code} {D : va_G} {X : cc_X} {r : Int32} {st' : cc_S} (Cx : cc_C p s m args meth c cX2_gives 7 (some .int) RX2 D X) (fu : Nat) (x0 : Nat) (x1 : Int32) (x2 : Int32) (x3 : Int32) (x4 : Int32) (x5 : Int32) (st : cc_S) (hf : C_X2_gives X fu x0 x1 x2 x3 x4 x5 st = some (r, st')) {H : Heap} {locs : List Loc} {ls : Array Slot} (hl : lv_has ls 7 [(0, .ref (cx_a X x0)), (1, .int x1), (2, .int x2), (3, .int x3), (4, .int x4), (5, .int x5)]) (hM : cc_H D X s.heap st H locs) : W p l e (mm_R 1 25) s m args below meth c H locs 0 0 (MQ below (cc_Qi D X r st') args s 0 0 (cc_A X)) (F0 m 0 ls []) := by
  unfold C_X2_gives at hf
  refine lv_aload_n Cx.1 Cx.2.1 (dd_at td_X2_gives 0 rfl) rfl (lv_at hl 0 rfl) ?_
  refine lv_iload_n Cx.1 Cx.2.1 (dd_at td_X2_gives 1 rfl) rfl (lv_at hl 1 rfl) ?_
  refine lv_iload_n Cx.1 Cx.2.1 (dd_at td_X2_gives 2 rfl) rfl (lv_at hl 2 rfl) ?_
  refine lv_iload_n Cx.1 Cx.2.1 (dd_at td_X2_gives 3 rfl) rfl (lv_at hl 3 rfl) ?_
  refine lv_iload Cx.1 Cx.2.1 (dd_at td_X2_gives 4 rfl) (lv_at hl 4 rfl) ?_
  refine lv_iload Cx.1 Cx.2.1 (dd_at td_X2_gives 5 rfl) (lv_at hl 5 rfl) ?_
  obtain ⟨g1, hf⟩ := fc_of_gd hf
  obtain ⟨r4, st2, hx3, hf⟩ := fc_of_bn hf
  refine cc_ai hM (cc_rSU (ci := 4) (As := [.int x1, .int x2, .int x3, .int x4, .int x5]) (rest := []) (n := 5) Cx hM g1 rfl (c_X6_gives l D X fu x0 x1 x2 x3 x4 x5 st r4 st2 hx3) (cc_gdSU cw221 cw222 cw223 cw224 cw218 cw219) hs_X6_gives ⟨Nat.le_of_ble_eq_true rfl, Nat.le_of_ble_eq_true rfl⟩ rfl hl.1 rfl (Nat.le_of_ble_eq_true rfl) (dd_at td_X2_gives 6 rfl) ⟨Nat.le_refl 0, Nat.le_refl 0⟩) (fun H locs hM => ?_)
  refine lv_istore (lv' := [(6, .int r4), (0, .ref (cx_a X x0)), (1, .int x1), (2, .int x2), (3, .int x3), (4, .int x4), (5, .int x5)]) Cx.1 Cx.2.1 (dd_at td_X2_gives 7 rfl) hl (by decide) rfl (fun ls hl => ?_)
  refine lv_iload Cx.1 Cx.2.1 (dd_at td_X2_gives 8 rfl) (lv_at hl 5 rfl) ?_
  refine lv_iconst (v := (1 : Int32)) Cx.1 Cx.2.1 (dd_at td_X2_gives 9 rfl) (by decide) ?_
  refine lv_icmp_ne (tgt := 26) Cx.1 Cx.2.1 (dd_at td_X2_gives 10 rfl) (by decide) (fun c5 => ?_) (fun c5 => ?_)
  · replace hf := fc_of_f hf c5
    refine lv_iload Cx.1 Cx.2.1 (dd_at td_X2_gives 15 rfl) (lv_at hl 0 rfl) ?_
    exact cc_ri Cx hM (dd_at td_X2_gives 16 rfl) hf
  · replace hf := fc_of_t hf c5
    refine lv_iload Cx.1 Cx.2.1 (dd_at td_X2_gives 11 rfl) (lv_at hl 0 rfl) ?_
    refine lv_iconst (v := (2 : Int32)) Cx.1 Cx.2.1 (dd_at td_X2_gives 12 rfl) (by decide) ?_
    refine lv_imul Cx.1 Cx.2.1 (dd_at td_X2_gives 13 rfl) ?_
    refine lv_goto (tgt := 28) Cx.1 Cx.2.1 (dd_at td_X2_gives 14 rfl) (by decide) ?_
    exact cc_ri Cx hM (dd_at td_X2_gives 16 rfl) hf
theorem c_X2_gives (l : Launch) (D : va_G) (X : cc_X) (fu : Nat) (x0 : Nat) (x1 : Int32) (x2 : Int32) (x3 : Int32) (x4 : Int32) (x5 : Int32) (st : cc_S) : cc_Mi l D X yX2_gives cX2_gives 7 (some .int) 1 25 [.ref (cx_a X x0), .int x1, .int x2, .int x3, .int x4, .int x5] st (C_X2_gives X fu x0 x1 x2 x3 x4 x5 st) := by
  intro r st' hf
  refine cc_enter (cc := cX2_gives) (nL := 7) (ret := some .int) (by decide +kernel) rfl (Nat.le_of_ble_eq_true rfl) ?_
  intro p e s m args below meth c ls Cx hl hM
  exact w_X2_gives Cx fu x0 x1 x2 x3 x4 x5 st hf hl hM

/-! X4_gives -/
def tb_X4_gives : List (Nat × Instr × Nat) := [(0, .iload_n 1, 1), (1, .ireturn, 1)]
theorem td_X4_gives : tb_X4_gives.all (fun q => decide (decode cX4_gives q.1 = .ok (q.2.1, q.2.2))) = true := by decide +kernel
theorem hd_X4_gives : yX4_gives.cls = RX4 ∧ yX4_gives.cls ≠ "java/lang/invoke/MethodHandle" ∧ yX4_gives.cls ≠ "java/lang/invoke/VarHandle" ∧ (parseMethodDescriptor yX4_gives.desc).map (fun d => d.parameters.length) = some 5 := by decide +kernel
theorem hs_X4_gives : yX4_gives.name ≠ "<init>" ∧ (parseMethodDescriptor yX4_gives.desc).map (fun d => d.parameters.length) = some 5 := by decide +kernel
theorem w_X4_gives {p : Program} {l : Launch} {e : Env} {s : State} {m : MethodId} {args : Array Value} {below : List Frame} {meth : Method} {c : Code} {D : va_G} {X : cc_X} {r : Int32} {st' : cc_S} (Cx : cc_C p s m args meth c cX4_gives 6 (some .int) RX4 D X) (fu : Nat) (x0 : Nat) (x1 : Int32) (x2 : Int32) (x3 : Int32) (x4 : Int32) (x5 : Int32) (st : cc_S) (hf : C_X4_gives X fu x0 x1 x2 x3 x4 x5 st = some (r, st')) {H : Heap} {locs : List Loc} {ls : Array Slot} (hl : lv_has ls 6 [(0, .ref (cx_a X x0)), (1, .int x1), (2, .int x2), (3, .int x3), (4, .int x4), (5, .int x5)]) (hM : cc_H D X s.heap st H locs) : W p l e (mm_R 0 0) s m args below meth c H locs 0 0 (MQ below (cc_Qi D X r st') args s 0 0 (cc_A X)) (F0 m 0 ls []) := by
  unfold C_X4_gives at hf
  refine lv_iload_n Cx.1 Cx.2.1 (dd_at td_X4_gives 0 rfl) rfl (lv_at hl 1 rfl) ?_
  exact cc_ri Cx hM (dd_at td_X4_gives 1 rfl) hf
theorem c_X4_gives (l : Launch) (D : va_G) (X : cc_X) (fu : Nat) (x0 : Nat) (x1 : Int32) (x2 : Int32) (x3 : Int32) (x4 : Int32) (x5 : Int32) (st : cc_S) : cc_Mi l D X yX4_gives cX4_gives 6 (some .int) 0 0 [.ref (cx_a X x0), .int x1, .int x2, .int x3, .int x4, .int x5] st (C_X4_gives X fu x0 x1 x2 x3 x4 x5 st) := by
  intro r st' hf
  refine cc_enter (cc := cX4_gives) (nL := 6) (ret := some .int) (by decide +kernel) rfl (Nat.le_of_ble_eq_true rfl) ?_
  intro p e s m args below meth c ls Cx hl hM
  exact w_X4_gives Cx fu x0 x1 x2 x3 x4 x5 st hf hl hM

/-! X5_gives -/
def tb_X5_gives : List (Nat × Instr × Nat) := [(0, .iload_n 1, 1), (1, .iconst 2, 1), (2, .idiv, 1), (3, .ireturn, 1)]
theorem td_X5_gives : tb_X5_gives.all (fun q => decide (decode cX5_gives q.1 = .ok (q.2.1, q.2.2))) = true := by decide +kernel
theorem hd_X5_gives : yX5_gives.cls = RX5 ∧ yX5_gives.cls ≠ "java/lang/invoke/MethodHandle" ∧ yX5_gives.cls ≠ "java/lang/invoke/VarHandle" ∧ (parseMethodDescriptor yX5_gives.desc).map (fun d => d.parameters.length) = some 5 := by decide +kernel
theorem hs_X5_gives : yX5_gives.name ≠ "<init>" ∧ (parseMethodDescriptor yX5_gives.desc).map (fun d => d.parameters.length) = some 5 := by decide +kernel
theorem w_X5_gives {p : Program} {l : Launch} {e : Env} {s : State} {m : MethodId} {args : Array Value} {below : List Frame} {meth : Method} {c : Code} {D : va_G} {X : cc_X} {r : Int32} {st' : cc_S} (Cx : cc_C p s m args meth c cX5_gives 6 (some .int) RX5 D X) (fu : Nat) (x0 : Nat) (x1 : Int32) (x2 : Int32) (x3 : Int32) (x4 : Int32) (x5 : Int32) (st : cc_S) (hf : C_X5_gives X fu x0 x1 x2 x3 x4 x5 st = some (r, st')) {H : Heap} {locs : List Loc} {ls : Array Slot} (hl : lv_has ls 6 [(0, .ref (cx_a X x0)), (1, .int x1), (2, .int x2), (3, .int x3), (4, .int x4), (5, .int x5)]) (hM : cc_H D X s.heap st H locs) : W p l e (mm_R 0 0) s m args below meth c H locs 0 0 (MQ below (cc_Qi D X r st') args s 0 0 (cc_A X)) (F0 m 0 ls []) := by
  unfold C_X5_gives at hf
  refine lv_iload_n Cx.1 Cx.2.1 (dd_at td_X5_gives 0 rfl) rfl (lv_at hl 1 rfl) ?_
  refine lv_iconst (v := (2 : Int32)) Cx.1 Cx.2.1 (dd_at td_X5_gives 1 rfl) (by decide) ?_
  refine lv_idiv Cx.1 Cx.2.1 (dd_at td_X5_gives 2 rfl) (by decide) ?_
  exact cc_ri Cx hM (dd_at td_X5_gives 3 rfl) hf
theorem c_X5_gives (l : Launch) (D : va_G) (X : cc_X) (fu : Nat) (x0 : Nat) (x1 : Int32) (x2 : Int32) (x3 : Int32) (x4 : Int32) (x5 : Int32) (st : cc_S) : cc_Mi l D X yX5_gives cX5_gives 6 (some .int) 0 0 [.ref (cx_a X x0), .int x1, .int x2, .int x3, .int x4, .int x5] st (C_X5_gives X fu x0 x1 x2 x3 x4 x5 st) := by
  intro r st' hf
  refine cc_enter (cc := cX5_gives) (nL := 6) (ret := some .int) (by decide +kernel) rfl (Nat.le_of_ble_eq_true rfl) ?_
  intro p e s m args below meth c ls Cx hl hM
  exact w_X5_gives Cx fu x0 x1 x2 x3 x4 x5 st hf hl hM

/-! X5_tells -/
def tb_X5_tells : List (Nat × Instr × Nat) := [(0, .aload_n 0, 1), (1, .bipush 40, 2), (3, .invokevirtual 7, 3), (6, .aload_n 0, 1), (7, .iload_n 1, 1), (8, .invokespecial 13, 3), (11, .aload_n 0, 1), (12, .iconst 1, 1), (13, .invokevirtual 17, 3), (16, .iadd, 1), (17, .ireturn, 1)]
theorem td_X5_tells : tb_X5_tells.all (fun q => decide (decode cX5_tells q.1 = .ok (q.2.1, q.2.2))) = true := by decide +kernel
theorem hd_X5_tells : yX5_tells.cls = RX5 ∧ yX5_tells.cls ≠ "java/lang/invoke/MethodHandle" ∧ yX5_tells.cls ≠ "java/lang/invoke/VarHandle" ∧ (parseMethodDescriptor yX5_tells.desc).map (fun d => d.parameters.length) = some 1 := by decide +kernel
theorem hs_X5_tells : yX5_tells.name ≠ "<init>" ∧ (parseMethodDescriptor yX5_tells.desc).map (fun d => d.parameters.length) = some 1 := by decide +kernel
theorem v_X5_tells_3 {p : Program} {l : Launch} {e : Env} {s : State} {m : MethodId} {args : Array Value} {below : List Frame} {meth : Method} {c : Code} {H H0 : Heap} {locs : List Loc} {ls : Array Slot} {As rest stk : List Value} {D : va_G} {X : cc_X} {st : cc_S} {i fu : Nat} (Cx : cc_C p s m args meth c cX5_tells 2 (some .int) RX5 D X) (hM : cc_H D X H0 st H locs) (hid : cc_go X i [7, 11] = true) (a0 : Int32) {st1 : cc_S} (hx : C_X4_began X fu i a0 st = some st1) (hsz : ls.size = 2) (hst : stk = [.int a0].reverse ++ .ref (cx_a X i) :: rest) (hW : (rest.map fun v => v.category).sum ≤ 8) : va_Run p l e (mm_R 7 148) s m args below meth c H locs 0 0 0 0 (F0 m 3 ls stk) rest (cc_Qv D X st1 (Value.ref (cx_a X i) :: [.int a0]).toArray) (cc_A X) := by
  have hc := cc_go_c hid
  simp only [List.mem_cons, List.not_mem_nil, or_false] at hc
  rcases hc with h | h
  · exact cc_rU (ci := 7) (x := ⟨"EclipsesKept$Photo", "began", "(I)V"⟩) (owner := "EclipsesKept$Need") (As := [.int a0]) (n := 1) Cx hM (cc_go_1 hid h) rfl (c_X4_began l D X fu i a0 st st1 hx) (cc_gdU cw302 cw303 cw304 cw212 cw194 cw205) rfl hu_began ⟨Nat.le_of_ble_eq_true rfl, Nat.le_of_ble_eq_true rfl⟩ rfl hsz hst hW (dd_at td_X5_tells 2 rfl) ⟨Nat.le_refl 0, Nat.le_refl 0⟩
  · exact cc_rU (ci := 11) (x := ⟨"EclipsesKept$Photo", "began", "(I)V"⟩) (owner := "EclipsesKept$Need") (As := [.int a0]) (n := 1) Cx hM (cc_go_1 hid h) rfl (c_X4_began l D X fu i a0 st st1 hx) (cc_gdU cw302 cw303 cw305 cw212 cw194 cw205) rfl hu_began ⟨Nat.le_of_ble_eq_true rfl, Nat.le_of_ble_eq_true rfl⟩ rfl hsz hst hW (dd_at td_X5_tells 2 rfl) ⟨Nat.le_refl 0, Nat.le_refl 0⟩
theorem v_X5_tells_8 {p : Program} {l : Launch} {e : Env} {s : State} {m : MethodId} {args : Array Value} {below : List Frame} {meth : Method} {c : Code} {H H0 : Heap} {locs : List Loc} {ls : Array Slot} {As rest stk : List Value} {D : va_G} {X : cc_X} {st : cc_S} {i fu : Nat} (Cx : cc_C p s m args meth c cX5_tells 2 (some .int) RX5 D X) (hM : cc_H D X H0 st H locs) (hid : cc_go X i [7, 11] = true) (a0 : Int32) {r : Int32} {st1 : cc_S} (hx : C_X4_tells X fu i a0 st = some (r, st1)) (hsz : ls.size = 2) (hst : stk = [.int a0].reverse ++ .ref (cx_a X i) :: rest) (hW : (rest.map fun v => v.category).sum ≤ 8) : va_Run p l e (mm_R 7 148) s m args below meth c H locs 0 0 0 0 (F0 m 8 ls stk) rest (cc_Qi D X r st1 (Value.ref (cx_a X i) :: [.int a0]).toArray) (cc_A X) := by
  have hc := cc_go_c hid
  simp only [List.mem_cons, List.not_mem_nil, or_false] at hc
  rcases hc with h | h
  · exact cc_rSU (ci := 7) (As := [.int a0]) (n := 1) Cx hM (cc_go_1 hid h) rfl (c_X4_tells l D X fu i a0 st r st1 hx) (cc_gdSU cw306 cw307 cw308 cw309 cw194 cw298) hs_X4_tells ⟨Nat.le_of_ble_eq_true rfl, Nat.le_of_ble_eq_true rfl⟩ rfl hsz hst hW (dd_at td_X5_tells 5 rfl) ⟨Nat.le_refl 0, Nat.le_refl 0⟩
  · exact cc_rSU (ci := 11) (As := [.int a0]) (n := 1) Cx hM (cc_go_1 hid h) rfl (c_X4_tells l D X fu i a0 st r st1 hx) (cc_gdSU cw306 cw307 cw308 cw309 cw194 cw298) hs_X4_tells ⟨Nat.le_of_ble_eq_true rfl, Nat.le_of_ble_eq_true rfl⟩ rfl hsz hst hW (dd_at td_X5_tells 5 rfl) ⟨Nat.le_refl 0, Nat.le_refl 0⟩
theorem v_X5_tells_13 {p : Program} {l : Launch} {e : Env} {s : State} {m : MethodId} {args : Array Value} {below : List Frame} {meth : Method} {c : Code} {H H0 : Heap} {locs : List Loc} {ls : Array Slot} {As rest stk : List Value} {D : va_G} {X : cc_X} {st : cc_S} {i fu : Nat} (Cx : cc_C p s m args meth c cX5_tells 2 (some .int) RX5 D X) (hM : cc_H D X H0 st H locs) (hid : cc_go X i [7, 11] = true) (a0 : Int32) {r : Int32} {st1 : cc_S} (hx : D_pleads_7_11 X fu i a0 st = some (r, st1)) (hsz : ls.size = 2) (hst : stk = [.int a0].reverse ++ .ref (cx_a X i) :: rest) (hW : (rest.map fun v => v.category).sum ≤ 8) : va_Run p l e (mm_R 7 148) s m args below meth c H locs 0 0 0 0 (F0 m 13 ls stk) rest (cc_Qi D X r st1 (Value.ref (cx_a X i) :: [.int a0]).toArray) (cc_A X) := by
  have hc := cc_go_c hid
  simp only [List.mem_cons, List.not_mem_nil, or_false] at hc
  rcases hc with h | h
  · have hx2 : C_X4_pleads X fu i a0 st = some (r, st1) := by simpa [D_pleads_7_11, h] using hx
    exact cc_rU (ci := 7) (x := ⟨"EclipsesKept$Photo", "pleads", "(I)I"⟩) (owner := "EclipsesKept$Need") (As := [.int a0]) (n := 1) Cx hM (cc_go_1 hid h) rfl (c_X4_pleads l D X fu i a0 st r st1 hx2) (cc_gdU cw310 cw311 cw312 cw278 cw194 cw270) rfl hu_pleads ⟨Nat.le_of_ble_eq_true rfl, Nat.le_of_ble_eq_true rfl⟩ rfl hsz hst hW (dd_at td_X5_tells 8 rfl) ⟨Nat.le_refl 0, Nat.le_refl 0⟩
  · have hx2 : C_X9_pleads X fu i a0 st = some (r, st1) := by simpa [D_pleads_7_11, h] using hx
    exact cc_rO (ci := 11) (x := ⟨"EclipsesKept$Photo", "pleads", "(I)I"⟩) (owner := "EclipsesKept$Need") (As := [.int a0]) (n := 1) Cx hM (cc_go_1 hid h) rfl (c_X9_pleads l D X fu i a0 st r st1 hx2) (cc_gdO cw310 cw311 cw278 cw313 cw297 cw269 cw285) cw270 hu_pleads ⟨Nat.le_of_ble_eq_true rfl, Nat.le_of_ble_eq_true rfl⟩ rfl hsz hst hW (dd_at td_X5_tells 8 rfl) ⟨Nat.le_refl 0, Nat.le_refl 0⟩
theorem w_X5_tells {p : Program} {l : Launch} {e : Env} {s : State} {m : MethodId} {args : Array Value} {below : List Frame} {meth : Method} {c : Code} {D : va_G} {X : cc_X} {r : Int32} {st' : cc_S} (Cx : cc_C p s m args meth c cX5_tells 2 (some .int) RX5 D X) (fu : Nat) (x0 : Nat) (x1 : Int32) (st : cc_S) (hf : C_X5_tells X fu x0 x1 st = some (r, st')) {H : Heap} {locs : List Loc} {ls : Array Slot} (hl : lv_has ls 2 [(0, .ref (cx_a X x0)), (1, .int x1)]) (hM : cc_H D X s.heap st H locs) : W p l e (mm_R 7 148) s m args below meth c H locs 0 0 (MQ below (cc_Qi D X r st') args s 0 0 (cc_A X)) (F0 m 0 ls []) := by
  unfold C_X5_tells at hf
  refine lv_aload_n Cx.1 Cx.2.1 (dd_at td_X5_tells 0 rfl) rfl (lv_at hl 0 rfl) ?_
  refine lv_bipush (v := (40 : Int32)) Cx.1 Cx.2.1 (dd_at td_X5_tells 1 rfl) (by decide) ?_
  obtain ⟨g1, hf⟩ := fc_of_gd hf
  obtain ⟨st2, hx3, hf⟩ := fc_of_bv hf
  refine cc_av hM (v_X5_tells_3 (As := [.int (40 : Int32)]) (rest := []) Cx hM g1 (40 : Int32) hx3 hl.1 rfl (Nat.le_of_ble_eq_true rfl)) (fun H locs hM => ?_)
  refine lv_aload_n Cx.1 Cx.2.1 (dd_at td_X5_tells 3 rfl) rfl (lv_at hl 0 rfl) ?_
  refine lv_iload_n Cx.1 Cx.2.1 (dd_at td_X5_tells 4 rfl) rfl (lv_at hl 1 rfl) ?_
  obtain ⟨r6, st4, hx5, hf⟩ := fc_of_bn hf
  refine cc_ai hM (v_X5_tells_8 (As := [.int x1]) (rest := []) Cx hM g1 x1 hx5 hl.1 rfl (Nat.le_of_ble_eq_true rfl)) (fun H locs hM => ?_)
  refine lv_aload_n Cx.1 Cx.2.1 (dd_at td_X5_tells 6 rfl) rfl (lv_at hl 0 rfl) ?_
  refine lv_iconst (v := (1 : Int32)) Cx.1 Cx.2.1 (dd_at td_X5_tells 7 rfl) (by decide) ?_
  obtain ⟨r9, st7, hx8, hf⟩ := fc_of_bn hf
  refine cc_ai hM (v_X5_tells_13 (As := [.int (1 : Int32)]) (rest := [.int r6]) Cx hM g1 (1 : Int32) hx8 hl.1 rfl (Nat.le_of_ble_eq_true rfl)) (fun H locs hM => ?_)
  refine lv_iadd Cx.1 Cx.2.1 (dd_at td_X5_tells 9 rfl) ?_
  exact cc_ri Cx hM (dd_at td_X5_tells 10 rfl) hf
theorem c_X5_tells (l : Launch) (D : va_G) (X : cc_X) (fu : Nat) (x0 : Nat) (x1 : Int32) (st : cc_S) : cc_Mi l D X yX5_tells cX5_tells 2 (some .int) 7 148 [.ref (cx_a X x0), .int x1] st (C_X5_tells X fu x0 x1 st) := by
  intro r st' hf
  refine cc_enter (cc := cX5_tells) (nL := 2) (ret := some .int) (by decide +kernel) rfl (Nat.le_of_ble_eq_true rfl) ?_
  intro p e s m args below meth c ls Cx hl hM
  exact w_X5_tells Cx fu x0 x1 st hf hl hM

/-! X7_has -/
def tb_X7_has : List (Nat × Instr × Nat) := [(0, .iload_n 1, 1), (1, .ifCond .lt 15, 3), (4, .iload_n 1, 1), (5, .aload_n 0, 1), (6, .getfield 42, 3), (9, .if_icmp .ge 7, 3), (12, .iconst 1, 1), (13, .goto 4, 3), (16, .iconst 0, 1), (17, .ireturn, 1)]
theorem td_X7_has : tb_X7_has.all (fun q => decide (decode cX7_has q.1 = .ok (q.2.1, q.2.2))) = true := by decide +kernel
theorem hd_X7_has : yX7_has.cls = RX7 ∧ yX7_has.cls ≠ "java/lang/invoke/MethodHandle" ∧ yX7_has.cls ≠ "java/lang/invoke/VarHandle" ∧ (parseMethodDescriptor yX7_has.desc).map (fun d => d.parameters.length) = some 1 := by decide +kernel
theorem hs_X7_has : yX7_has.name ≠ "<init>" ∧ (parseMethodDescriptor yX7_has.desc).map (fun d => d.parameters.length) = some 1 := by decide +kernel
theorem w_X7_has {p : Program} {l : Launch} {e : Env} {s : State} {m : MethodId} {args : Array Value} {below : List Frame} {meth : Method} {c : Code} {D : va_G} {X : cc_X} {r : Int32} {st' : cc_S} (Cx : cc_C p s m args meth c cX7_has 2 (some .boolean) RX7 D X) (fu : Nat) (x0 : Nat) (x1 : Int32) (st : cc_S) (hf : C_X7_has X fu x0 x1 st = some (r, st')) {H : Heap} {locs : List Loc} {ls : Array Slot} (hl : lv_has ls 2 [(0, .ref (cx_a X x0)), (1, .int x1)]) (hM : cc_H D X s.heap st H locs) : W p l e (mm_R 0 0) s m args below meth c H locs 0 0 (MQ below (cc_Qi D X r st') args s 0 0 (cc_A X)) (F0 m 0 ls []) := by
  unfold C_X7_has at hf
  refine lv_iload_n Cx.1 Cx.2.1 (dd_at td_X7_has 0 rfl) rfl (lv_at hl 1 rfl) ?_
  refine lv_if_lt (tgt := 16) Cx.1 Cx.2.1 (dd_at td_X7_has 1 rfl) (by decide) (fun c1 => ?_) (fun c1 => ?_)
  · replace hf := fc_of_t hf c1
    refine lv_iconst (v := (0 : Int32)) Cx.1 Cx.2.1 (dd_at td_X7_has 8 rfl) (by decide) ?_
    exact cc_rz Cx hM (dd_at td_X7_has 9 rfl) rfl hf
  · replace hf := fc_of_f hf c1
    refine lv_iload_n Cx.1 Cx.2.1 (dd_at td_X7_has 2 rfl) rfl (lv_at hl 1 rfl) ?_
    refine lv_aload_n Cx.1 Cx.2.1 (dd_at td_X7_has 3 rfl) rfl (lv_at hl 0 rfl) ?_
    obtain ⟨g2, hf⟩ := fc_of_gd hf
    refine cc_gI (ci := 9) (C := RX7) (T := TX7) (N := 17) (k := 9) (ref := "EclipsesKept$State") Cx hM g2 rfl cc_inX7 rfl (by decide) cw327 (fun _ h => h) (dd_at td_X7_has 4 rfl) rfl ?_
    refine lv_icmp_ge (tgt := 16) Cx.1 Cx.2.1 (dd_at td_X7_has 5 rfl) (by decide) (fun c3 => ?_) (fun c3 => ?_)
    · replace hf := fc_of_t hf c3
      refine lv_iconst (v := (0 : Int32)) Cx.1 Cx.2.1 (dd_at td_X7_has 8 rfl) (by decide) ?_
      exact cc_rz Cx hM (dd_at td_X7_has 9 rfl) rfl hf
    · replace hf := fc_of_f hf c3
      refine lv_iconst (v := (1 : Int32)) Cx.1 Cx.2.1 (dd_at td_X7_has 6 rfl) (by decide) ?_
      refine lv_goto (tgt := 17) Cx.1 Cx.2.1 (dd_at td_X7_has 7 rfl) (by decide) ?_
      exact cc_rz Cx hM (dd_at td_X7_has 9 rfl) rfl hf
theorem c_X7_has (l : Launch) (D : va_G) (X : cc_X) (fu : Nat) (x0 : Nat) (x1 : Int32) (st : cc_S) : cc_Mi l D X yX7_has cX7_has 2 (some .boolean) 0 0 [.ref (cx_a X x0), .int x1] st (C_X7_has X fu x0 x1 st) := by
  intro r st' hf
  refine cc_enter (cc := cX7_has) (nL := 2) (ret := some .boolean) (by decide +kernel) rfl (Nat.le_of_ble_eq_true rfl) ?_
  intro p e s m args below meth c ls Cx hl hM
  exact w_X7_has Cx fu x0 x1 st hf hl hM

/-! X7_needOf -/
def tb_X7_needOf : List (Nat × Instr × Nat) := [(0, .aload_n 0, 1), (1, .iload_n 1, 1), (2, .invokevirtual 74, 3), (5, .ifCond .eq 12, 3), (8, .aload_n 0, 1), (9, .getfield 11, 3), (12, .iload_n 1, 1), (13, .aaload, 1), (14, .goto 4, 3), (17, .aconst_null, 1), (18, .areturn, 1)]
theorem td_X7_needOf : tb_X7_needOf.all (fun q => decide (decode cX7_needOf q.1 = .ok (q.2.1, q.2.2))) = true := by decide +kernel
theorem hd_X7_needOf : yX7_needOf.cls = RX7 ∧ yX7_needOf.cls ≠ "java/lang/invoke/MethodHandle" ∧ yX7_needOf.cls ≠ "java/lang/invoke/VarHandle" ∧ (parseMethodDescriptor yX7_needOf.desc).map (fun d => d.parameters.length) = some 1 := by decide +kernel
theorem hs_X7_needOf : yX7_needOf.name ≠ "<init>" ∧ (parseMethodDescriptor yX7_needOf.desc).map (fun d => d.parameters.length) = some 1 := by decide +kernel
theorem w_X7_needOf {p : Program} {l : Launch} {e : Env} {s : State} {m : MethodId} {args : Array Value} {below : List Frame} {meth : Method} {c : Code} {D : va_G} {X : cc_X} {r : Option Nat} {st' : cc_S} (Cx : cc_C p s m args meth c cX7_needOf 2 (some (.object "EclipsesKept$Need")) RX7 D X) (fu : Nat) (x0 : Nat) (x1 : Int32) (st : cc_S) (hf : C_X7_needOf X fu x0 x1 st = some (r, st')) {H : Heap} {locs : List Loc} {ls : Array Slot} (hl : lv_has ls 2 [(0, .ref (cx_a X x0)), (1, .int x1)]) (hM : cc_H D X s.heap st H locs) : W p l e (mm_R 1 21) s m args below meth c H locs 0 0 (MQ below (cc_Qq D X r st') args s 0 0 (cc_A X)) (F0 m 0 ls []) := by
  unfold C_X7_needOf at hf
  refine lv_aload_n Cx.1 Cx.2.1 (dd_at td_X7_needOf 0 rfl) rfl (lv_at hl 0 rfl) ?_
  refine lv_iload_n Cx.1 Cx.2.1 (dd_at td_X7_needOf 1 rfl) rfl (lv_at hl 1 rfl) ?_
  obtain ⟨g1, hf⟩ := fc_of_gd hf
  obtain ⟨r4, st2, hx3, hf⟩ := fc_of_bn hf
  refine cc_ai hM (cc_rV (ci := 9) (As := [.int x1]) (rest := []) (n := 1) Cx hM g1 rfl (c_X7_has l D X fu x0 x1 st r4 st2 hx3) (cc_gdV cw342 cw343 cw344 cw345 cw340) hd_X7_has ⟨Nat.le_of_ble_eq_true rfl, Nat.le_of_ble_eq_true rfl⟩ rfl hl.1 rfl (Nat.le_of_ble_eq_true rfl) (dd_at td_X7_needOf 2 rfl) ⟨Nat.le_refl 0, Nat.le_refl 0⟩) (fun H locs hM => ?_)
  refine lv_if_eq (tgt := 17) Cx.1 Cx.2.1 (dd_at td_X7_needOf 3 rfl) (by decide) (fun c5 => ?_) (fun c5 => ?_)
  · replace hf := fc_of_t hf c5
    refine lv_null Cx.1 Cx.2.1 (dd_at td_X7_needOf 9 rfl) ?_
    exact cc_rn Cx hM (dd_at td_X7_needOf 10 rfl) hf
  · replace hf := fc_of_f hf c5
    refine lv_aload_n Cx.1 Cx.2.1 (dd_at td_X7_needOf 4 rfl) rfl (lv_at hl 0 rfl) ?_
    refine cc_gA (ci := 9) (C := RX7) (T := TX7) (N := 17) (k := 0) (ref := "EclipsesKept$State") Cx hM g1 rfl cc_inX7 rfl (by decide) cw318 (fun _ h => h) (dd_at td_X7_needOf 5 rfl) rfl ?_
    refine lv_iload_n Cx.1 Cx.2.1 (dd_at td_X7_needOf 6 rfl) rfl (lv_at hl 1 rfl) ?_
    obtain ⟨g6, hf⟩ := fc_of_gd hf
    refine cc_aldq Cx hM g6 (Or.inl rfl) (dd_at td_X7_needOf 7 rfl) (fun hq => ?_) (fun y7 hq => ?_)
    · replace hf := fc_of_mn hf hq
      refine lv_goto (tgt := 18) Cx.1 Cx.2.1 (dd_at td_X7_needOf 8 rfl) (by decide) ?_
      exact cc_rn Cx hM (dd_at td_X7_needOf 10 rfl) hf
    · replace hf := fc_of_ms hf hq
      refine lv_goto (tgt := 18) Cx.1 Cx.2.1 (dd_at td_X7_needOf 8 rfl) (by decide) ?_
      exact cc_rr Cx hM (dd_at td_X7_needOf 10 rfl) hf
theorem c_X7_needOf (l : Launch) (D : va_G) (X : cc_X) (fu : Nat) (x0 : Nat) (x1 : Int32) (st : cc_S) : cc_Mq l D X yX7_needOf cX7_needOf 2 (some (.object "EclipsesKept$Need")) 1 21 [.ref (cx_a X x0), .int x1] st (C_X7_needOf X fu x0 x1 st) := by
  intro r st' hf
  refine cc_enter (cc := cX7_needOf) (nL := 2) (ret := some (.object "EclipsesKept$Need")) (by decide +kernel) rfl (Nat.le_of_ble_eq_true rfl) ?_
  intro p e s m args below meth c ls Cx hl hM
  exact w_X7_needOf Cx fu x0 x1 st hf hl hM

/-! X7_keepCost -/
def tb_X7_keepCost : List (Nat × Instr × Nat) := [(0, .aload_n 0, 1), (1, .getfield 64, 3), (4, .ifnonnull 7, 3), (7, .iconst 1, 1), (8, .goto 10, 3), (11, .aload_n 0, 1), (12, .getfield 64, 3), (15, .getfield 78, 3), (18, .ireturn, 1)]
theorem td_X7_keepCost : tb_X7_keepCost.all (fun q => decide (decode cX7_keepCost q.1 = .ok (q.2.1, q.2.2))) = true := by decide +kernel
theorem hd_X7_keepCost : yX7_keepCost.cls = RX7 ∧ yX7_keepCost.cls ≠ "java/lang/invoke/MethodHandle" ∧ yX7_keepCost.cls ≠ "java/lang/invoke/VarHandle" ∧ (parseMethodDescriptor yX7_keepCost.desc).map (fun d => d.parameters.length) = some 0 := by decide +kernel
theorem hs_X7_keepCost : yX7_keepCost.name ≠ "<init>" ∧ (parseMethodDescriptor yX7_keepCost.desc).map (fun d => d.parameters.length) = some 0 := by decide +kernel
theorem w_X7_keepCost {p : Program} {l : Launch} {e : Env} {s : State} {m : MethodId} {args : Array Value} {below : List Frame} {meth : Method} {c : Code} {D : va_G} {X : cc_X} {r : Int32} {st' : cc_S} (Cx : cc_C p s m args meth c cX7_keepCost 1 (some .int) RX7 D X) (fu : Nat) (x0 : Nat) (st : cc_S) (hf : C_X7_keepCost X fu x0 st = some (r, st')) {H : Heap} {locs : List Loc} {ls : Array Slot} (hl : lv_has ls 1 [(0, .ref (cx_a X x0))]) (hM : cc_H D X s.heap st H locs) : W p l e (mm_R 0 0) s m args below meth c H locs 0 0 (MQ below (cc_Qi D X r st') args s 0 0 (cc_A X)) (F0 m 0 ls []) := by
  unfold C_X7_keepCost at hf
  refine lv_aload_n Cx.1 Cx.2.1 (dd_at td_X7_keepCost 0 rfl) rfl (lv_at hl 0 rfl) ?_
  obtain ⟨g1, hf⟩ := fc_of_gd hf
  refine cc_gP (ci := 9) (C := RX7) (T := TX7) (N := 17) (k := 16) (ref := "EclipsesKept$State") Cx hM g1 rfl cc_inX7 rfl (by decide) cw334 (fun _ h => h) (dd_at td_X7_keepCost 1 rfl) rfl (fun hq => ?_) (fun y2 hq => ?_)
  · replace hf := fc_of_mn hf hq
    refine lv_ifnonnullN Cx.1 Cx.2.1 (dd_at td_X7_keepCost 2 rfl) ?_
    refine lv_iconst (v := (1 : Int32)) Cx.1 Cx.2.1 (dd_at td_X7_keepCost 3 rfl) (by decide) ?_
    refine lv_goto (tgt := 18) Cx.1 Cx.2.1 (dd_at td_X7_keepCost 4 rfl) (by decide) ?_
    exact cc_ri Cx hM (dd_at td_X7_keepCost 8 rfl) hf
  · replace hf := fc_of_ms hf hq
    refine lv_ifnonnull (tgt := 11) Cx.1 Cx.2.1 (dd_at td_X7_keepCost 2 rfl) (by decide) ?_
    refine lv_aload_n Cx.1 Cx.2.1 (dd_at td_X7_keepCost 5 rfl) rfl (lv_at hl 0 rfl) ?_
    refine cc_gP (ci := 9) (C := RX7) (T := TX7) (N := 17) (k := 16) (ref := "EclipsesKept$State") Cx hM g1 rfl cc_inX7 rfl (by decide) cw334 (fun _ h => h) (dd_at td_X7_keepCost 6 rfl) rfl (fun hq => ?_) (fun y3 hq => ?_)
    · replace hf := fc_of_mn hf hq
      exact fc_no hf
    · replace hf := fc_of_ms hf hq
      obtain ⟨g4, hf⟩ := fc_of_gd hf
      refine cc_gI (ci := 2) (C := RX0) (T := TX0) (N := 10) (k := 9) (ref := "EclipsesKept$Archive") Cx hM g4 rfl cc_inX0 rfl (by decide) cw348 (fun _ h => h) (dd_at td_X7_keepCost 7 rfl) rfl ?_
      exact cc_ri Cx hM (dd_at td_X7_keepCost 8 rfl) hf
theorem c_X7_keepCost (l : Launch) (D : va_G) (X : cc_X) (fu : Nat) (x0 : Nat) (st : cc_S) : cc_Mi l D X yX7_keepCost cX7_keepCost 1 (some .int) 0 0 [.ref (cx_a X x0)] st (C_X7_keepCost X fu x0 st) := by
  intro r st' hf
  refine cc_enter (cc := cX7_keepCost) (nL := 1) (ret := some .int) (by decide +kernel) rfl (Nat.le_of_ble_eq_true rfl) ?_
  intro p e s m args below meth c ls Cx hl hM
  exact w_X7_keepCost Cx fu x0 st hf hl hM

/-! X7_endYear -/
def tb_X7_endYear : List (Nat × Instr × Nat) := [(0, .aload_n 0, 1), (1, .getfield 58, 3), (4, .iload_n 1, 1), (5, .iadd, 1), (6, .aload_n 0, 1), (7, .invokevirtual 83, 3), (10, .aload_n 0, 1), (11, .getfield 55, 3), (14, .imul, 1), (15, .isub, 1), (16, .istore_n 2, 1), (17, .aload_n 0, 1), (18, .ldc 87, 2), (20, .ldc 88, 2), (22, .iload_n 2, 1), (23, .invokestatic 89, 3), (26, .invokestatic 95, 3), (29, .putfield 58, 3), (32, .aload_n 0, 1), (33, .dup, 1), (34, .getfield 61, 3), (37, .iconst 1, 1), (38, .iadd, 1), (39, .putfield 61, 3), (42, .aload_n 0, 1), (43, .getfield 58, 3), (46, .ireturn, 1)]
theorem td_X7_endYear : tb_X7_endYear.all (fun q => decide (decode cX7_endYear q.1 = .ok (q.2.1, q.2.2))) = true := by decide +kernel
theorem hd_X7_endYear : yX7_endYear.cls = RX7 ∧ yX7_endYear.cls ≠ "java/lang/invoke/MethodHandle" ∧ yX7_endYear.cls ≠ "java/lang/invoke/VarHandle" ∧ (parseMethodDescriptor yX7_endYear.desc).map (fun d => d.parameters.length) = some 1 := by decide +kernel
theorem hs_X7_endYear : yX7_endYear.name ≠ "<init>" ∧ (parseMethodDescriptor yX7_endYear.desc).map (fun d => d.parameters.length) = some 1 := by decide +kernel
theorem w_X7_endYear {p : Program} {l : Launch} {e : Env} {s : State} {m : MethodId} {args : Array Value} {below : List Frame} {meth : Method} {c : Code} {D : va_G} {X : cc_X} {r : Int32} {st' : cc_S} (Cx : cc_C p s m args meth c cX7_endYear 3 (some .int) RX7 D X) (fu : Nat) (x0 : Nat) (x1 : Int32) (st : cc_S) (hf : C_X7_endYear X fu x0 x1 st = some (r, st')) {H : Heap} {locs : List Loc} {ls : Array Slot} (hl : lv_has ls 3 [(0, .ref (cx_a X x0)), (1, .int x1)]) (hM : cc_H D X s.heap st H locs) : W p l e (mm_R 1 40) s m args below meth c H locs 0 0 (MQ below (cc_Qi D X r st') args s 0 0 (cc_A X)) (F0 m 0 ls []) := by
  unfold C_X7_endYear at hf
  refine lv_aload_n Cx.1 Cx.2.1 (dd_at td_X7_endYear 0 rfl) rfl (lv_at hl 0 rfl) ?_
  obtain ⟨g1, hf⟩ := fc_of_gd hf
  refine cc_gI (ci := 9) (C := RX7) (T := TX7) (N := 17) (k := 14) (ref := "EclipsesKept$State") Cx hM g1 rfl cc_inX7 rfl (by decide) cw332 (fun _ h => h) (dd_at td_X7_endYear 1 rfl) rfl ?_
  refine lv_iload_n Cx.1 Cx.2.1 (dd_at td_X7_endYear 2 rfl) rfl (lv_at hl 1 rfl) ?_
  refine lv_iadd Cx.1 Cx.2.1 (dd_at td_X7_endYear 3 rfl) ?_
  refine lv_aload_n Cx.1 Cx.2.1 (dd_at td_X7_endYear 4 rfl) rfl (lv_at hl 0 rfl) ?_
  obtain ⟨r4, st2, hx3, hf⟩ := fc_of_bn hf
  refine cc_ai hM (cc_rV (ci := 9) (As := []) (rest := [.int ((cc_I st x0 14) + x1)]) (n := 0) Cx hM g1 rfl (c_X7_keepCost l D X fu x0 st r4 st2 hx3) (cc_gdV cw354 cw355 cw356 cw345 cw347) hd_X7_keepCost ⟨Nat.le_of_ble_eq_true rfl, Nat.le_of_ble_eq_true rfl⟩ rfl hl.1 rfl (Nat.le_of_ble_eq_true rfl) (dd_at td_X7_endYear 5 rfl) ⟨Nat.le_refl 0, Nat.le_refl 0⟩) (fun H locs hM => ?_)
  refine lv_aload_n Cx.1 Cx.2.1 (dd_at td_X7_endYear 6 rfl) rfl (lv_at hl 0 rfl) ?_
  refine cc_gI (ci := 9) (C := RX7) (T := TX7) (N := 17) (k := 13) (ref := "EclipsesKept$State") Cx hM g1 rfl cc_inX7 rfl (by decide) cw331 (fun _ h => h) (dd_at td_X7_endYear 7 rfl) rfl ?_
  refine lv_imul Cx.1 Cx.2.1 (dd_at td_X7_endYear 8 rfl) ?_
  refine lv_isub Cx.1 Cx.2.1 (dd_at td_X7_endYear 9 rfl) ?_
  refine lv_topi (fun v5 ev5 => ?_)
  replace hf := fc_of_nm hf v5 ev5
  refine lv_istore_n (lv' := [(2, .int v5), (0, .ref (cx_a X x0)), (1, .int x1)]) Cx.1 Cx.2.1 (dd_at td_X7_endYear 10 rfl) rfl hl (by decide) rfl (fun ls hl => ?_)
  refine lv_aload_n Cx.1 Cx.2.1 (dd_at td_X7_endYear 11 rfl) rfl (lv_at hl 1 rfl) ?_
  refine lv_ldc (v := (-999999 : Int32)) Cx.1 Cx.2.1 Cx.2.2.2.2.1 (Cx.2.2.2.2.2.1 _ cw350) (dd_at td_X7_endYear 12 rfl) ?_
  refine lv_ldc (v := (999999 : Int32)) Cx.1 Cx.2.1 Cx.2.2.2.2.1 (Cx.2.2.2.2.2.1 _ cw351) (dd_at td_X7_endYear 13 rfl) ?_
  refine lv_iload_n Cx.1 Cx.2.1 (dd_at td_X7_endYear 14 rfl) rfl (lv_at hl 0 rfl) ?_
  refine va_mmin Cx.1 Cx.2.1 (Cx.2.2.2.1.trans hl.1.symm) Cx.2.2.2.2.1 (Cx.2.2.2.2.2.1 _ cw352) (Cx.2.2.2.2.2.1 _ cw74) (Cx.2.2.2.2.2.1 _ cw373) (Cx.2.2.2.2.2.1 _ cw75) (Nat.le_of_ble_eq_true rfl) (Nat.le_of_ble_eq_true rfl) (Nat.le_refl 0) (Nat.le_refl 0) (dd_at td_X7_endYear 15 rfl) ?_
  refine va_mmax Cx.1 Cx.2.1 (Cx.2.2.2.1.trans hl.1.symm) Cx.2.2.2.2.1 (Cx.2.2.2.2.2.1 _ cw353) (Cx.2.2.2.2.2.1 _ cw62) (Cx.2.2.2.2.2.1 _ cw373) (Cx.2.2.2.2.2.1 _ cw64) (Nat.le_of_ble_eq_true rfl) (Nat.le_of_ble_eq_true rfl) (Nat.le_refl 0) (Nat.le_refl 0) (dd_at td_X7_endYear 16 rfl) ?_
  refine cc_pI (ci := 9) (C := RX7) (T := TX7) (N := 17) (k := 14) (ref := "EclipsesKept$State") (ty0 := tyX7) Cx hM g1 rfl cc_inX7 rfl (by decide) cw332 (fun _ h => h) tyX7_ok nmX7 rfl rfl rfl (dd_at td_X7_endYear 17 rfl) rfl (fun st6 H locs est6 hM => ?_)
  replace hf := fc_of_nm hf st6 est6
  refine lv_aload_n Cx.1 Cx.2.1 (dd_at td_X7_endYear 18 rfl) rfl (lv_at hl 1 rfl) ?_
  refine lv_dup Cx.1 Cx.2.1 (dd_at td_X7_endYear 19 rfl) rfl ?_
  refine cc_gI (ci := 9) (C := RX7) (T := TX7) (N := 17) (k := 15) (ref := "EclipsesKept$State") Cx hM g1 rfl cc_inX7 rfl (by decide) cw333 (fun _ h => h) (dd_at td_X7_endYear 20 rfl) rfl ?_
  refine lv_iconst (v := (1 : Int32)) Cx.1 Cx.2.1 (dd_at td_X7_endYear 21 rfl) (by decide) ?_
  refine lv_iadd Cx.1 Cx.2.1 (dd_at td_X7_endYear 22 rfl) ?_
  refine cc_pI (ci := 9) (C := RX7) (T := TX7) (N := 17) (k := 15) (ref := "EclipsesKept$State") (ty0 := tyX7) Cx hM g1 rfl cc_inX7 rfl (by decide) cw333 (fun _ h => h) tyX7_ok nmX7 rfl rfl rfl (dd_at td_X7_endYear 23 rfl) rfl (fun st7 H locs est7 hM => ?_)
  replace hf := fc_of_nm hf st7 est7
  refine lv_aload_n Cx.1 Cx.2.1 (dd_at td_X7_endYear 24 rfl) rfl (lv_at hl 1 rfl) ?_
  refine cc_gI (ci := 9) (C := RX7) (T := TX7) (N := 17) (k := 14) (ref := "EclipsesKept$State") Cx hM g1 rfl cc_inX7 rfl (by decide) cw332 (fun _ h => h) (dd_at td_X7_endYear 25 rfl) rfl ?_
  exact cc_ri Cx hM (dd_at td_X7_endYear 26 rfl) hf
theorem c_X7_endYear (l : Launch) (D : va_G) (X : cc_X) (fu : Nat) (x0 : Nat) (x1 : Int32) (st : cc_S) : cc_Mi l D X yX7_endYear cX7_endYear 3 (some .int) 1 40 [.ref (cx_a X x0), .int x1] st (C_X7_endYear X fu x0 x1 st) := by
  intro r st' hf
  refine cc_enter (cc := cX7_endYear) (nL := 3) (ret := some .int) (by decide +kernel) rfl (Nat.le_of_ble_eq_true rfl) ?_
  intro p e s m args below meth c ls Cx hl hM
  exact w_X7_endYear Cx fu x0 x1 st hf hl hM

/-! J9_floorMod_7cf53 -/
def tb_J9_floorMod_7cf53 : List (Nat × Instr × Nat) := [(0, .iload_n 0, 1), (1, .iload_n 1, 1), (2, .irem, 1), (3, .istore_n 2, 1), (4, .iload_n 0, 1), (5, .iload_n 1, 1), (6, .ixor, 1), (7, .ifCond .ge 11, 3), (10, .iload_n 2, 1), (11, .ifCond .eq 7, 3), (14, .iload_n 2, 1), (15, .iload_n 1, 1), (16, .iadd, 1), (17, .ireturn, 1), (18, .iload_n 2, 1), (19, .ireturn, 1)]
theorem td_J9_floorMod_7cf53 : tb_J9_floorMod_7cf53.all (fun q => decide (decode cJ9_floorMod_7cf53 q.1 = .ok (q.2.1, q.2.2))) = true := by decide +kernel
theorem hd_J9_floorMod_7cf53 : yJ9_floorMod_7cf53.cls ≠ "java/lang/invoke/MethodHandle" ∧ yJ9_floorMod_7cf53.cls ≠ "java/lang/invoke/VarHandle" ∧ (parseMethodDescriptor yJ9_floorMod_7cf53.desc).map (fun d => d.parameters.length) = some 2 := by decide +kernel
theorem w_J9_floorMod_7cf53 {p : Program} {l : Launch} {e : Env} {s : State} {m : MethodId} {args : Array Value} {below : List Frame} {meth : Method} {c : Code} {D : va_G} {X : cc_X} {r : Int32} {st' : cc_S} (Cx : cc_C p s m args meth c cJ9_floorMod_7cf53 3 (some .int) RJ9 D X) (fu : Nat) (x0 : Int32) (x1 : Int32) (st : cc_S) (hf : C_J9_floorMod_7cf53 X fu x0 x1 st = some (r, st')) {H : Heap} {locs : List Loc} {ls : Array Slot} (hl : lv_has ls 3 [(0, .int x0), (1, .int x1)]) (hM : cc_H D X s.heap st H locs) : W p l e (mm_R 0 0) s m args below meth c H locs 0 0 (MQ below (cc_Qi D X r st') args s 0 0 (cc_A X)) (F0 m 0 ls []) := by
  unfold C_J9_floorMod_7cf53 at hf
  refine lv_iload_n Cx.1 Cx.2.1 (dd_at td_J9_floorMod_7cf53 0 rfl) rfl (lv_at hl 0 rfl) ?_
  refine lv_iload_n Cx.1 Cx.2.1 (dd_at td_J9_floorMod_7cf53 1 rfl) rfl (lv_at hl 1 rfl) ?_
  obtain ⟨g1, hf⟩ := fc_of_gd hf
  refine lv_irem Cx.1 Cx.2.1 (dd_at td_J9_floorMod_7cf53 2 rfl) (fc_of_nz g1) ?_
  refine lv_topi (fun v2 ev2 => ?_)
  replace hf := fc_of_nm hf v2 ev2
  refine lv_istore_n (lv' := [(2, .int v2), (0, .int x0), (1, .int x1)]) Cx.1 Cx.2.1 (dd_at td_J9_floorMod_7cf53 3 rfl) rfl hl (by decide) rfl (fun ls hl => ?_)
  refine lv_iload_n Cx.1 Cx.2.1 (dd_at td_J9_floorMod_7cf53 4 rfl) rfl (lv_at hl 1 rfl) ?_
  refine lv_iload_n Cx.1 Cx.2.1 (dd_at td_J9_floorMod_7cf53 5 rfl) rfl (lv_at hl 2 rfl) ?_
  refine lv_ixor Cx.1 Cx.2.1 (dd_at td_J9_floorMod_7cf53 6 rfl) ?_
  refine lv_if_ge (tgt := 18) Cx.1 Cx.2.1 (dd_at td_J9_floorMod_7cf53 7 rfl) (by decide) (fun c3 => ?_) (fun c3 => ?_)
  · replace hf := fc_of_t hf c3
    refine lv_iload_n Cx.1 Cx.2.1 (dd_at td_J9_floorMod_7cf53 14 rfl) rfl (lv_at hl 0 rfl) ?_
    exact cc_ri Cx hM (dd_at td_J9_floorMod_7cf53 15 rfl) hf
  · replace hf := fc_of_f hf c3
    refine lv_iload_n Cx.1 Cx.2.1 (dd_at td_J9_floorMod_7cf53 8 rfl) rfl (lv_at hl 0 rfl) ?_
    refine lv_if_eq (tgt := 18) Cx.1 Cx.2.1 (dd_at td_J9_floorMod_7cf53 9 rfl) (by decide) (fun c4 => ?_) (fun c4 => ?_)
    · replace hf := fc_of_t hf c4
      refine lv_iload_n Cx.1 Cx.2.1 (dd_at td_J9_floorMod_7cf53 14 rfl) rfl (lv_at hl 0 rfl) ?_
      exact cc_ri Cx hM (dd_at td_J9_floorMod_7cf53 15 rfl) hf
    · replace hf := fc_of_f hf c4
      refine lv_iload_n Cx.1 Cx.2.1 (dd_at td_J9_floorMod_7cf53 10 rfl) rfl (lv_at hl 0 rfl) ?_
      refine lv_iload_n Cx.1 Cx.2.1 (dd_at td_J9_floorMod_7cf53 11 rfl) rfl (lv_at hl 2 rfl) ?_
      refine lv_iadd Cx.1 Cx.2.1 (dd_at td_J9_floorMod_7cf53 12 rfl) ?_
      exact cc_ri Cx hM (dd_at td_J9_floorMod_7cf53 13 rfl) hf
theorem c_J9_floorMod_7cf53 (l : Launch) (D : va_G) (X : cc_X) (fu : Nat) (x0 : Int32) (x1 : Int32) (st : cc_S) : cc_Mi l D X yJ9_floorMod_7cf53 cJ9_floorMod_7cf53 3 (some .int) 0 0 [.int x0, .int x1] st (C_J9_floorMod_7cf53 X fu x0 x1 st) := by
  intro r st' hf
  refine cc_enter (cc := cJ9_floorMod_7cf53) (nL := 3) (ret := some .int) (by decide +kernel) rfl (Nat.le_of_ble_eq_true rfl) ?_
  intro p e s m args below meth c ls Cx hl hM
  exact w_J9_floorMod_7cf53 Cx fu x0 x1 st hf hl hM

/-! X9_gives -/
def tb_X9_gives : List (Nat × Instr × Nat) := [(0, .aload_n 0, 1), (1, .iload_n 1, 1), (2, .iload_n 2, 1), (3, .iload_n 3, 1), (4, .iload 4, 2), (6, .iload 5, 2), (8, .invokespecial 7, 3), (11, .iload 5, 2), (13, .iadd, 1), (14, .ireturn, 1)]
theorem td_X9_gives : tb_X9_gives.all (fun q => decide (decode cX9_gives q.1 = .ok (q.2.1, q.2.2))) = true := by decide +kernel
theorem hd_X9_gives : yX9_gives.cls = RX9 ∧ yX9_gives.cls ≠ "java/lang/invoke/MethodHandle" ∧ yX9_gives.cls ≠ "java/lang/invoke/VarHandle" ∧ (parseMethodDescriptor yX9_gives.desc).map (fun d => d.parameters.length) = some 5 := by decide +kernel
theorem hs_X9_gives : yX9_gives.name ≠ "<init>" ∧ (parseMethodDescriptor yX9_gives.desc).map (fun d => d.parameters.length) = some 5 := by decide +kernel
theorem w_X9_gives {p : Program} {l : Launch} {e : Env} {s : State} {m : MethodId} {args : Array Value} {below : List Frame} {meth : Method} {c : Code} {D : va_G} {X : cc_X} {r : Int32} {st' : cc_S} (Cx : cc_C p s m args meth c cX9_gives 6 (some .int) RX9 D X) (fu : Nat) (x0 : Nat) (x1 : Int32) (x2 : Int32) (x3 : Int32) (x4 : Int32) (x5 : Int32) (st : cc_S) (hf : C_X9_gives X fu x0 x1 x2 x3 x4 x5 st = some (r, st')) {H : Heap} {locs : List Loc} {ls : Array Slot} (hl : lv_has ls 6 [(0, .ref (cx_a X x0)), (1, .int x1), (2, .int x2), (3, .int x3), (4, .int x4), (5, .int x5)]) (hM : cc_H D X s.heap st H locs) : W p l e (mm_R 1 25) s m args below meth c H locs 0 0 (MQ below (cc_Qi D X r st') args s 0 0 (cc_A X)) (F0 m 0 ls []) := by
  unfold C_X9_gives at hf
  refine lv_aload_n Cx.1 Cx.2.1 (dd_at td_X9_gives 0 rfl) rfl (lv_at hl 0 rfl) ?_
  refine lv_iload_n Cx.1 Cx.2.1 (dd_at td_X9_gives 1 rfl) rfl (lv_at hl 1 rfl) ?_
  refine lv_iload_n Cx.1 Cx.2.1 (dd_at td_X9_gives 2 rfl) rfl (lv_at hl 2 rfl) ?_
  refine lv_iload_n Cx.1 Cx.2.1 (dd_at td_X9_gives 3 rfl) rfl (lv_at hl 3 rfl) ?_
  refine lv_iload Cx.1 Cx.2.1 (dd_at td_X9_gives 4 rfl) (lv_at hl 4 rfl) ?_
  refine lv_iload Cx.1 Cx.2.1 (dd_at td_X9_gives 5 rfl) (lv_at hl 5 rfl) ?_
  obtain ⟨g1, hf⟩ := fc_of_gd hf
  obtain ⟨r4, st2, hx3, hf⟩ := fc_of_bn hf
  refine cc_ai hM (cc_rSU (ci := 11) (As := [.int x1, .int x2, .int x3, .int x4, .int x5]) (rest := []) (n := 5) Cx hM g1 rfl (c_X5_gives l D X fu x0 x1 x2 x3 x4 x5 st r4 st2 hx3) (cc_gdSU cw359 cw360 cw361 cw362 cw363 cw301) hs_X5_gives ⟨Nat.le_of_ble_eq_true rfl, Nat.le_of_ble_eq_true rfl⟩ rfl hl.1 rfl (Nat.le_of_ble_eq_true rfl) (dd_at td_X9_gives 6 rfl) ⟨Nat.le_refl 0, Nat.le_refl 0⟩) (fun H locs hM => ?_)
  refine lv_iload Cx.1 Cx.2.1 (dd_at td_X9_gives 7 rfl) (lv_at hl 5 rfl) ?_
  refine lv_iadd Cx.1 Cx.2.1 (dd_at td_X9_gives 8 rfl) ?_
  exact cc_ri Cx hM (dd_at td_X9_gives 9 rfl) hf
theorem c_X9_gives (l : Launch) (D : va_G) (X : cc_X) (fu : Nat) (x0 : Nat) (x1 : Int32) (x2 : Int32) (x3 : Int32) (x4 : Int32) (x5 : Int32) (st : cc_S) : cc_Mi l D X yX9_gives cX9_gives 6 (some .int) 1 25 [.ref (cx_a X x0), .int x1, .int x2, .int x3, .int x4, .int x5] st (C_X9_gives X fu x0 x1 x2 x3 x4 x5 st) := by
  intro r st' hf
  refine cc_enter (cc := cX9_gives) (nL := 6) (ret := some .int) (by decide +kernel) rfl (Nat.le_of_ble_eq_true rfl) ?_
  intro p e s m args below meth c ls Cx hl hM
  exact w_X9_gives Cx fu x0 x1 x2 x3 x4 x5 st hf hl hM

/-! X7_worthBy -/
def tb_X7_worthBy : List (Nat × Instr × Nat) := [(0, .aload_n 0, 1), (1, .iload_n 1, 1), (2, .invokevirtual 98, 3), (5, .astore 5, 2), (7, .aload 5, 2), (9, .ifnonnull 5, 3), (12, .iconst 0, 1), (13, .ireturn, 1), (14, .aload_n 0, 1), (15, .getfield 64, 3), (18, .ifnonnull 8, 3), (21, .bipush 10, 2), (23, .goto 20, 3), (26, .aload_n 0, 1), (27, .getfield 64, 3), (30, .iload_n 1, 1), (31, .aload 5, 2), (33, .getfield 109, 3), (36, .iload_n 2, 1), (37, .iload_n 3, 1), (38, .iload 4, 2), (40, .invokevirtual 112, 3), (43, .istore 6, 2), (45, .aload_n 0, 1), (46, .getfield 21, 3), (49, .iload_n 1, 1), (50, .iconst 4, 1), (51, .imul, 1), (52, .iload_n 3, 1), (53, .iconst 4, 1), (54, .invokestatic 116, 3), (57, .iadd, 1), (58, .iaload, 1), (59, .istore 7, 2), (61, .iconst 0, 1), (62, .aload 5, 2), (64, .iload 6, 2), (66, .iload_n 2, 1), (67, .iload_n 3, 1), (68, .iload 4, 2), (70, .iload 7, 2), (72, .invokevirtual 119, 3), (75, .invokestatic 95, 3), (78, .ireturn, 1)]
theorem td_X7_worthBy : tb_X7_worthBy.all (fun q => decide (decode cX7_worthBy q.1 = .ok (q.2.1, q.2.2))) = true := by decide +kernel
theorem hd_X7_worthBy : yX7_worthBy.cls = RX7 ∧ yX7_worthBy.cls ≠ "java/lang/invoke/MethodHandle" ∧ yX7_worthBy.cls ≠ "java/lang/invoke/VarHandle" ∧ (parseMethodDescriptor yX7_worthBy.desc).map (fun d => d.parameters.length) = some 4 := by decide +kernel
theorem hs_X7_worthBy : yX7_worthBy.name ≠ "<init>" ∧ (parseMethodDescriptor yX7_worthBy.desc).map (fun d => d.parameters.length) = some 4 := by decide +kernel
theorem v_X7_worthBy_72 {p : Program} {l : Launch} {e : Env} {s : State} {m : MethodId} {args : Array Value} {below : List Frame} {meth : Method} {c : Code} {H H0 : Heap} {locs : List Loc} {ls : Array Slot} {As rest stk : List Value} {D : va_G} {X : cc_X} {st : cc_S} {i fu : Nat} (Cx : cc_C p s m args meth c cX7_worthBy 8 (some .int) RX7 D X) (hM : cc_H D X H0 st H locs) (hid : cc_go X i [3, 4, 5, 6, 7, 8, 11] = true) (a0 : Int32) (a1 : Int32) (a2 : Int32) (a3 : Int32) (a4 : Int32) {r : Int32} {st1 : cc_S} (hx : D_gives_3_4_5_6_7_8_11 X fu i a0 a1 a2 a3 a4 st = some (r, st1)) (hsz : ls.size = 8) (hst : stk = [.int a0, .int a1, .int a2, .int a3, .int a4].reverse ++ .ref (cx_a X i) :: rest) (hW : (rest.map fun v => v.category).sum ≤ 8) : va_Run p l e (mm_R 3 84) s m args below meth c H locs 0 0 0 0 (F0 m 72 ls stk) rest (cc_Qi D X r st1 (Value.ref (cx_a X i) :: [.int a0, .int a1, .int a2, .int a3, .int a4]).toArray) (cc_A X) := by
  have hc := cc_go_c hid
  simp only [List.mem_cons, List.not_mem_nil, or_false] at hc
  rcases hc with h | h | h | h | h | h | h
  · have hx2 : C_X1_gives X fu i a0 a1 a2 a3 a4 st = some (r, st1) := by simpa [D_gives_3_4_5_6_7_8_11, h] using hx
    exact cc_rO (ci := 3) (x := ⟨"EclipsesKept$Need", "gives", "(IIIII)I"⟩) (owner := "EclipsesKept$Need") (As := [.int a0, .int a1, .int a2, .int a3, .int a4]) (n := 5) Cx hM (cc_go_1 hid h) rfl (c_X1_gives l D X fu i a0 a1 a2 a3 a4 st r st1 hx2) (cc_gdO cw383 cw375 cw384 cw377 cw378 cw379 cw200) cw284 hu_gives ⟨Nat.le_of_ble_eq_true rfl, Nat.le_of_ble_eq_true rfl⟩ rfl hsz hst hW (dd_at td_X7_worthBy 41 rfl) ⟨Nat.le_refl 0, Nat.le_refl 0⟩
  · have hx2 : C_X2_gives X fu i a0 a1 a2 a3 a4 st = some (r, st1) := by simpa [D_gives_3_4_5_6_7_8_11, h] using hx
    exact cc_rO (ci := 4) (x := ⟨"EclipsesKept$Need", "gives", "(IIIII)I"⟩) (owner := "EclipsesKept$Need") (As := [.int a0, .int a1, .int a2, .int a3, .int a4]) (n := 5) Cx hM (cc_go_1 hid h) rfl (c_X2_gives l D X fu i a0 a1 a2 a3 a4 st r st1 hx2) (cc_gdO cw383 cw375 cw384 cw380 cw381 cw261 cw220) cw284 hu_gives ⟨Nat.le_of_ble_eq_true rfl, Nat.le_of_ble_eq_true rfl⟩ rfl hsz hst hW (dd_at td_X7_worthBy 41 rfl) ⟨Nat.le_refl 0, Nat.le_refl 0⟩
  · have hx2 : C_X3_gives X fu i a0 a1 a2 a3 a4 st = some (r, st1) := by simpa [D_gives_3_4_5_6_7_8_11, h] using hx
    exact cc_rO (ci := 5) (x := ⟨"EclipsesKept$Need", "gives", "(IIIII)I"⟩) (owner := "EclipsesKept$Need") (As := [.int a0, .int a1, .int a2, .int a3, .int a4]) (n := 5) Cx hM (cc_go_1 hid h) rfl (c_X3_gives l D X fu i a0 a1 a2 a3 a4 st r st1 hx2) (cc_gdO cw383 cw375 cw384 cw382 cw204 cw198 cw199) cw284 hu_gives ⟨Nat.le_of_ble_eq_true rfl, Nat.le_of_ble_eq_true rfl⟩ rfl hsz hst hW (dd_at td_X7_worthBy 41 rfl) ⟨Nat.le_refl 0, Nat.le_refl 0⟩
  · have hx2 : C_X4_gives X fu i a0 a1 a2 a3 a4 st = some (r, st1) := by simpa [D_gives_3_4_5_6_7_8_11, h] using hx
    exact cc_rV (ci := 6) (As := [.int a0, .int a1, .int a2, .int a3, .int a4]) (n := 5) Cx hM (cc_go_1 hid h) rfl (c_X4_gives l D X fu i a0 a1 a2 a3 a4 st r st1 hx2) (cc_gdV cw383 cw384 cw385 cw194 cw284) hd_X4_gives ⟨Nat.le_of_ble_eq_true rfl, Nat.le_of_ble_eq_true rfl⟩ rfl hsz hst hW (dd_at td_X7_worthBy 41 rfl) ⟨Nat.le_refl 0, Nat.le_refl 0⟩
  · have hx2 : C_X5_gives X fu i a0 a1 a2 a3 a4 st = some (r, st1) := by simpa [D_gives_3_4_5_6_7_8_11, h] using hx
    exact cc_rO (ci := 7) (x := ⟨"EclipsesKept$Need", "gives", "(IIIII)I"⟩) (owner := "EclipsesKept$Need") (As := [.int a0, .int a1, .int a2, .int a3, .int a4]) (n := 5) Cx hM (cc_go_1 hid h) rfl (c_X5_gives l D X fu i a0 a1 a2 a3 a4 st r st1 hx2) (cc_gdO cw383 cw375 cw384 cw386 cw362 cw363 cw301) cw284 hu_gives ⟨Nat.le_of_ble_eq_true rfl, Nat.le_of_ble_eq_true rfl⟩ rfl hsz hst hW (dd_at td_X7_worthBy 41 rfl) ⟨Nat.le_refl 0, Nat.le_refl 0⟩
  · have hx2 : C_X6_gives X fu i a0 a1 a2 a3 a4 st = some (r, st1) := by simpa [D_gives_3_4_5_6_7_8_11, h] using hx
    exact cc_rO (ci := 8) (x := ⟨"EclipsesKept$Need", "gives", "(IIIII)I"⟩) (owner := "EclipsesKept$Need") (As := [.int a0, .int a1, .int a2, .int a3, .int a4]) (n := 5) Cx hM (cc_go_1 hid h) rfl (c_X6_gives l D X fu i a0 a1 a2 a3 a4 st r st1 hx2) (cc_gdO cw383 cw375 cw384 cw387 cw224 cw218 cw219) cw284 hu_gives ⟨Nat.le_of_ble_eq_true rfl, Nat.le_of_ble_eq_true rfl⟩ rfl hsz hst hW (dd_at td_X7_worthBy 41 rfl) ⟨Nat.le_refl 0, Nat.le_refl 0⟩
  · have hx2 : C_X9_gives X fu i a0 a1 a2 a3 a4 st = some (r, st1) := by simpa [D_gives_3_4_5_6_7_8_11, h] using hx
    exact cc_rO (ci := 11) (x := ⟨"EclipsesKept$Need", "gives", "(IIIII)I"⟩) (owner := "EclipsesKept$Need") (As := [.int a0, .int a1, .int a2, .int a3, .int a4]) (n := 5) Cx hM (cc_go_1 hid h) rfl (c_X9_gives l D X fu i a0 a1 a2 a3 a4 st r st1 hx2) (cc_gdO cw383 cw375 cw384 cw388 cw389 cw269 cw358) cw284 hu_gives ⟨Nat.le_of_ble_eq_true rfl, Nat.le_of_ble_eq_true rfl⟩ rfl hsz hst hW (dd_at td_X7_worthBy 41 rfl) ⟨Nat.le_refl 0, Nat.le_refl 0⟩
theorem w_X7_worthBy_b43 {p : Program} {l : Launch} {e : Env} {s : State} {m : MethodId} {args : Array Value} {below : List Frame} {meth : Method} {c : Code} {D : va_G} {X : cc_X} {r : Int32} {st' : cc_S} (Cx : cc_C p s m args meth c cX7_worthBy 8 (some .int) RX7 D X) (fu : Nat) (x0 : Nat) (x1 : Int32) (x2 : Int32) (x3 : Int32) (x4 : Int32) (x5 : Nat) (s0 : Int32) (st : cc_S) (hf : C_X7_worthBy_b43 X fu x0 x1 x2 x3 x4 x5 s0 st = some (r, st')) {H : Heap} {locs : List Loc} {ls : Array Slot} (hl : lv_has ls 8 [(0, .ref (cx_a X x0)), (1, .int x1), (2, .int x2), (3, .int x3), (4, .int x4), (5, .ref (cx_a X x5))]) (hM : cc_H D X s.heap st H locs) : W p l e (mm_R 3 84) s m args below meth c H locs 0 0 (MQ below (cc_Qi D X r st') args s 0 0 (cc_A X)) (F0 m 43 ls [.int s0]) := by
  unfold C_X7_worthBy_b43 at hf
  refine lv_istore (lv' := [(6, .int s0), (0, .ref (cx_a X x0)), (1, .int x1), (2, .int x2), (3, .int x3), (4, .int x4), (5, .ref (cx_a X x5))]) Cx.1 Cx.2.1 (dd_at td_X7_worthBy 22 rfl) hl (by decide) rfl (fun ls hl => ?_)
  refine lv_aload_n Cx.1 Cx.2.1 (dd_at td_X7_worthBy 23 rfl) rfl (lv_at hl 1 rfl) ?_
  obtain ⟨g14, hf⟩ := fc_of_gd hf
  refine cc_gA (ci := 9) (C := RX7) (T := TX7) (N := 17) (k := 2) (ref := "EclipsesKept$State") Cx hM g14 rfl cc_inX7 rfl (by decide) cw320 (fun _ h => h) (dd_at td_X7_worthBy 24 rfl) rfl ?_
  refine lv_iload_n Cx.1 Cx.2.1 (dd_at td_X7_worthBy 25 rfl) rfl (lv_at hl 2 rfl) ?_
  refine lv_iconst (v := (4 : Int32)) Cx.1 Cx.2.1 (dd_at td_X7_worthBy 26 rfl) (by decide) ?_
  refine lv_imul Cx.1 Cx.2.1 (dd_at td_X7_worthBy 27 rfl) ?_
  refine lv_iload_n Cx.1 Cx.2.1 (dd_at td_X7_worthBy 28 rfl) rfl (lv_at hl 4 rfl) ?_
  refine lv_iconst (v := (4 : Int32)) Cx.1 Cx.2.1 (dd_at td_X7_worthBy 29 rfl) (by decide) ?_
  obtain ⟨r17, st15, hx16, hf⟩ := fc_of_bn hf
  refine cc_ai hM (cc_rS (As := [.int x3, .int (4 : Int32)]) (rest := [.int (x1 * (4 : Int32)), .ref (cx_b X x0 2)]) (n := 2) Cx hM (c_J9_floorMod_7cf53 l D X fu x3 (4 : Int32) st r17 st15 hx16) (cc_gdS cw371 cw372 cw373 cw357) hd_J9_floorMod_7cf53 ⟨Nat.le_of_ble_eq_true rfl, Nat.le_of_ble_eq_true rfl⟩ rfl hl.1 rfl (Nat.le_of_ble_eq_true rfl) (dd_at td_X7_worthBy 30 rfl) ⟨Nat.le_refl 0, Nat.le_refl 0⟩) (fun H locs hM => ?_)
  refine lv_iadd Cx.1 Cx.2.1 (dd_at td_X7_worthBy 31 rfl) ?_
  obtain ⟨g18, hf⟩ := fc_of_gd hf
  refine cc_iald Cx hM g18 (dd_at td_X7_worthBy 32 rfl) ?_
  refine lv_topi (fun v19 ev19 => ?_)
  replace hf := fc_of_nm hf v19 ev19
  refine lv_istore (lv' := [(7, .int v19), (6, .int s0), (0, .ref (cx_a X x0)), (1, .int x1), (2, .int x2), (3, .int x3), (4, .int x4), (5, .ref (cx_a X x5))]) Cx.1 Cx.2.1 (dd_at td_X7_worthBy 33 rfl) hl (by decide) rfl (fun ls hl => ?_)
  refine lv_iconst (v := (0 : Int32)) Cx.1 Cx.2.1 (dd_at td_X7_worthBy 34 rfl) (by decide) ?_
  refine lv_aload Cx.1 Cx.2.1 (dd_at td_X7_worthBy 35 rfl) (lv_at hl 7 rfl) ?_
  refine lv_iload Cx.1 Cx.2.1 (dd_at td_X7_worthBy 36 rfl) (lv_at hl 1 rfl) ?_
  refine lv_iload_n Cx.1 Cx.2.1 (dd_at td_X7_worthBy 37 rfl) rfl (lv_at hl 4 rfl) ?_
  refine lv_iload_n Cx.1 Cx.2.1 (dd_at td_X7_worthBy 38 rfl) rfl (lv_at hl 5 rfl) ?_
  refine lv_iload Cx.1 Cx.2.1 (dd_at td_X7_worthBy 39 rfl) (lv_at hl 6 rfl) ?_
  refine lv_iload Cx.1 Cx.2.1 (dd_at td_X7_worthBy 40 rfl) (lv_at hl 0 rfl) ?_
  obtain ⟨g20, hf⟩ := fc_of_gd hf
  obtain ⟨r23, st21, hx22, hf⟩ := fc_of_bn hf
  refine cc_ai hM (v_X7_worthBy_72 (As := [.int s0, .int x2, .int x3, .int x4, .int v19]) (rest := [.int (0 : Int32)]) Cx hM g20 s0 x2 x3 x4 v19 hx22 hl.1 rfl (Nat.le_of_ble_eq_true rfl)) (fun H locs hM => ?_)
  refine va_mmax Cx.1 Cx.2.1 (Cx.2.2.2.1.trans hl.1.symm) Cx.2.2.2.2.1 (Cx.2.2.2.2.2.1 _ cw353) (Cx.2.2.2.2.2.1 _ cw62) (Cx.2.2.2.2.2.1 _ cw373) (Cx.2.2.2.2.2.1 _ cw64) (Nat.le_of_ble_eq_true rfl) (Nat.le_of_ble_eq_true rfl) (Nat.le_refl 0) (Nat.le_refl 0) (dd_at td_X7_worthBy 42 rfl) ?_
  exact cc_ri Cx hM (dd_at td_X7_worthBy 43 rfl) hf
theorem w_X7_worthBy {p : Program} {l : Launch} {e : Env} {s : State} {m : MethodId} {args : Array Value} {below : List Frame} {meth : Method} {c : Code} {D : va_G} {X : cc_X} {r : Int32} {st' : cc_S} (Cx : cc_C p s m args meth c cX7_worthBy 8 (some .int) RX7 D X) (fu : Nat) (x0 : Nat) (x1 : Int32) (x2 : Int32) (x3 : Int32) (x4 : Int32) (st : cc_S) (hf : C_X7_worthBy X fu x0 x1 x2 x3 x4 st = some (r, st')) {H : Heap} {locs : List Loc} {ls : Array Slot} (hl : lv_has ls 8 [(0, .ref (cx_a X x0)), (1, .int x1), (2, .int x2), (3, .int x3), (4, .int x4)]) (hM : cc_H D X s.heap st H locs) : W p l e (mm_R 3 84) s m args below meth c H locs 0 0 (MQ below (cc_Qi D X r st') args s 0 0 (cc_A X)) (F0 m 0 ls []) := by
  unfold C_X7_worthBy at hf
  refine lv_aload_n Cx.1 Cx.2.1 (dd_at td_X7_worthBy 0 rfl) rfl (lv_at hl 0 rfl) ?_
  refine lv_iload_n Cx.1 Cx.2.1 (dd_at td_X7_worthBy 1 rfl) rfl (lv_at hl 1 rfl) ?_
  obtain ⟨g1, hf⟩ := fc_of_gd hf
  obtain ⟨r4, st2, hx3, hf⟩ := fc_of_bn hf
  refine cc_aq hM (cc_rV (ci := 9) (As := [.int x1]) (rest := []) (n := 1) Cx hM g1 rfl (c_X7_needOf l D X fu x0 x1 st r4 st2 hx3) (cc_gdV cw365 cw366 cw367 cw345 cw341) hd_X7_needOf ⟨Nat.le_of_ble_eq_true rfl, Nat.le_of_ble_eq_true rfl⟩ rfl hl.1 rfl (Nat.le_of_ble_eq_true rfl) (dd_at td_X7_worthBy 2 rfl) ⟨Nat.le_refl 0, Nat.le_refl 0⟩) (fun H locs hq hM => ?_) (fun y5 H locs hq hM => ?_)
  · replace hf := fc_of_mn hf hq
    refine lv_astoreN (lv' := [(5, .null), (0, .ref (cx_a X x0)), (1, .int x1), (2, .int x2), (3, .int x3), (4, .int x4)]) Cx.1 Cx.2.1 (dd_at td_X7_worthBy 3 rfl) hl (by decide) rfl (fun ls hl => ?_)
    refine lv_aloadN Cx.1 Cx.2.1 (dd_at td_X7_worthBy 4 rfl) (lv_at hl 0 rfl) ?_
    refine lv_ifnonnullN Cx.1 Cx.2.1 (dd_at td_X7_worthBy 5 rfl) ?_
    refine lv_iconst (v := (0 : Int32)) Cx.1 Cx.2.1 (dd_at td_X7_worthBy 6 rfl) (by decide) ?_
    exact cc_ri Cx hM (dd_at td_X7_worthBy 7 rfl) hf
  · replace hf := fc_of_ms hf hq
    refine lv_astore (lv' := [(5, .ref (cx_a X y5)), (0, .ref (cx_a X x0)), (1, .int x1), (2, .int x2), (3, .int x3), (4, .int x4)]) Cx.1 Cx.2.1 (dd_at td_X7_worthBy 3 rfl) hl (by decide) rfl (fun ls hl => ?_)
    refine lv_aload Cx.1 Cx.2.1 (dd_at td_X7_worthBy 4 rfl) (lv_at hl 0 rfl) ?_
    refine lv_ifnonnull (tgt := 14) Cx.1 Cx.2.1 (dd_at td_X7_worthBy 5 rfl) (by decide) ?_
    refine lv_aload_n Cx.1 Cx.2.1 (dd_at td_X7_worthBy 8 rfl) rfl (lv_at hl 1 rfl) ?_
    refine cc_gP (ci := 9) (C := RX7) (T := TX7) (N := 17) (k := 16) (ref := "EclipsesKept$State") Cx hM g1 rfl cc_inX7 rfl (by decide) cw334 (fun _ h => h) (dd_at td_X7_worthBy 9 rfl) rfl (fun hq => ?_) (fun y6 hq => ?_)
    · replace hf := fc_of_mn hf hq
      refine lv_ifnonnullN Cx.1 Cx.2.1 (dd_at td_X7_worthBy 10 rfl) ?_
      refine lv_bipush (v := (10 : Int32)) Cx.1 Cx.2.1 (dd_at td_X7_worthBy 11 rfl) (by decide) ?_
      refine lv_goto (tgt := 43) Cx.1 Cx.2.1 (dd_at td_X7_worthBy 12 rfl) (by decide) ?_
      exact w_X7_worthBy_b43 Cx fu x0 x1 x2 x3 x4 y5 (10 : Int32) st2 hf (lv_sub hl [1, 2, 3, 4, 5, 0] rfl) hM
    · replace hf := fc_of_ms hf hq
      refine lv_ifnonnull (tgt := 26) Cx.1 Cx.2.1 (dd_at td_X7_worthBy 10 rfl) (by decide) ?_
      refine lv_aload_n Cx.1 Cx.2.1 (dd_at td_X7_worthBy 13 rfl) rfl (lv_at hl 1 rfl) ?_
      refine cc_gP (ci := 9) (C := RX7) (T := TX7) (N := 17) (k := 16) (ref := "EclipsesKept$State") Cx hM g1 rfl cc_inX7 rfl (by decide) cw334 (fun _ h => h) (dd_at td_X7_worthBy 14 rfl) rfl (fun hq => ?_) (fun y7 hq => ?_)
      · replace hf := fc_of_mn hf hq
        refine lv_iload_n Cx.1 Cx.2.1 (dd_at td_X7_worthBy 15 rfl) rfl (lv_at hl 2 rfl) ?_
        refine lv_aload Cx.1 Cx.2.1 (dd_at td_X7_worthBy 16 rfl) (lv_at hl 0 rfl) ?_
        obtain ⟨g8, hf⟩ := fc_of_gd hf
        refine cc_gIn (k := 0) Cx hM g8 (by decide) (by decide) cw364 (dd_at td_X7_worthBy 17 rfl) ?_
        refine lv_iload_n Cx.1 Cx.2.1 (dd_at td_X7_worthBy 18 rfl) rfl (lv_at hl 3 rfl) ?_
        refine lv_iload_n Cx.1 Cx.2.1 (dd_at td_X7_worthBy 19 rfl) rfl (lv_at hl 4 rfl) ?_
        refine lv_iload Cx.1 Cx.2.1 (dd_at td_X7_worthBy 20 rfl) (lv_at hl 5 rfl) ?_
        exact fc_no hf
      · replace hf := fc_of_ms hf hq
        refine lv_iload_n Cx.1 Cx.2.1 (dd_at td_X7_worthBy 15 rfl) rfl (lv_at hl 2 rfl) ?_
        refine lv_aload Cx.1 Cx.2.1 (dd_at td_X7_worthBy 16 rfl) (lv_at hl 0 rfl) ?_
        obtain ⟨g9, hf⟩ := fc_of_gd hf
        refine cc_gIn (k := 0) Cx hM g9 (by decide) (by decide) cw364 (dd_at td_X7_worthBy 17 rfl) ?_
        refine lv_iload_n Cx.1 Cx.2.1 (dd_at td_X7_worthBy 18 rfl) rfl (lv_at hl 3 rfl) ?_
        refine lv_iload_n Cx.1 Cx.2.1 (dd_at td_X7_worthBy 19 rfl) rfl (lv_at hl 4 rfl) ?_
        refine lv_iload Cx.1 Cx.2.1 (dd_at td_X7_worthBy 20 rfl) (lv_at hl 5 rfl) ?_
        obtain ⟨g10, hf⟩ := fc_of_gd hf
        obtain ⟨r13, st11, hx12, hf⟩ := fc_of_bn hf
        refine cc_ai hM (cc_rV (ci := 2) (As := [.int x1, .int (cc_I st2 y5 0), .int x2, .int x3, .int x4]) (rest := []) (n := 5) Cx hM g10 rfl (c_X0_baseOf l D X fu y7 x1 (cc_I st2 y5 0) x2 x3 x4 st2 r13 st11 hx12) (cc_gdV cw368 cw369 cw370 cw55 cw181) hd_X0_baseOf ⟨Nat.le_of_ble_eq_true rfl, Nat.le_of_ble_eq_true rfl⟩ rfl hl.1 rfl (Nat.le_of_ble_eq_true rfl) (dd_at td_X7_worthBy 21 rfl) ⟨Nat.le_refl 0, Nat.le_refl 0⟩) (fun H locs hM => ?_)
        exact w_X7_worthBy_b43 Cx fu x0 x1 x2 x3 x4 y5 r13 st11 hf (lv_sub hl [1, 2, 3, 4, 5, 0] rfl) hM
theorem c_X7_worthBy (l : Launch) (D : va_G) (X : cc_X) (fu : Nat) (x0 : Nat) (x1 : Int32) (x2 : Int32) (x3 : Int32) (x4 : Int32) (st : cc_S) : cc_Mi l D X yX7_worthBy cX7_worthBy 8 (some .int) 3 84 [.ref (cx_a X x0), .int x1, .int x2, .int x3, .int x4] st (C_X7_worthBy X fu x0 x1 x2 x3 x4 st) := by
  intro r st' hf
  refine cc_enter (cc := cX7_worthBy) (nL := 8) (ret := some .int) (by decide +kernel) rfl (Nat.le_of_ble_eq_true rfl) ?_
  intro p e s m args below meth c ls Cx hl hM
  exact w_X7_worthBy Cx fu x0 x1 x2 x3 x4 st hf hl hM

/-! X7_worthOf -/
def tb_X7_worthOf : List (Nat × Instr × Nat) := [(0, .aload_n 0, 1), (1, .iload_n 1, 1), (2, .invokevirtual 98, 3), (5, .astore 4, 2), (7, .aload 4, 2), (9, .ifnonnull 7, 3), (12, .iconst 0, 1), (13, .goto 15, 3), (16, .aload_n 0, 1), (17, .iload_n 1, 1), (18, .aload 4, 2), (20, .getfield 102, 3), (23, .iload_n 2, 1), (24, .iload_n 3, 1), (25, .invokevirtual 105, 3), (28, .ireturn, 1)]
theorem td_X7_worthOf : tb_X7_worthOf.all (fun q => decide (decode cX7_worthOf q.1 = .ok (q.2.1, q.2.2))) = true := by decide +kernel
theorem hd_X7_worthOf : yX7_worthOf.cls = RX7 ∧ yX7_worthOf.cls ≠ "java/lang/invoke/MethodHandle" ∧ yX7_worthOf.cls ≠ "java/lang/invoke/VarHandle" ∧ (parseMethodDescriptor yX7_worthOf.desc).map (fun d => d.parameters.length) = some 3 := by decide +kernel
theorem hs_X7_worthOf : yX7_worthOf.name ≠ "<init>" ∧ (parseMethodDescriptor yX7_worthOf.desc).map (fun d => d.parameters.length) = some 3 := by decide +kernel
theorem w_X7_worthOf {p : Program} {l : Launch} {e : Env} {s : State} {m : MethodId} {args : Array Value} {below : List Frame} {meth : Method} {c : Code} {D : va_G} {X : cc_X} {r : Int32} {st' : cc_S} (Cx : cc_C p s m args meth c cX7_worthOf 5 (some .int) RX7 D X) (fu : Nat) (x0 : Nat) (x1 : Int32) (x2 : Int32) (x3 : Int32) (st : cc_S) (hf : C_X7_worthOf X fu x0 x1 x2 x3 st = some (r, st')) {H : Heap} {locs : List Loc} {ls : Array Slot} (hl : lv_has ls 5 [(0, .ref (cx_a X x0)), (1, .int x1), (2, .int x2), (3, .int x3)]) (hM : cc_H D X s.heap st H locs) : W p l e (mm_R 4 111) s m args below meth c H locs 0 0 (MQ below (cc_Qi D X r st') args s 0 0 (cc_A X)) (F0 m 0 ls []) := by
  unfold C_X7_worthOf at hf
  refine lv_aload_n Cx.1 Cx.2.1 (dd_at td_X7_worthOf 0 rfl) rfl (lv_at hl 0 rfl) ?_
  refine lv_iload_n Cx.1 Cx.2.1 (dd_at td_X7_worthOf 1 rfl) rfl (lv_at hl 1 rfl) ?_
  obtain ⟨g1, hf⟩ := fc_of_gd hf
  obtain ⟨r4, st2, hx3, hf⟩ := fc_of_bn hf
  refine cc_aq hM (cc_rV (ci := 9) (As := [.int x1]) (rest := []) (n := 1) Cx hM g1 rfl (c_X7_needOf l D X fu x0 x1 st r4 st2 hx3) (cc_gdV cw365 cw366 cw367 cw345 cw341) hd_X7_needOf ⟨Nat.le_of_ble_eq_true rfl, Nat.le_of_ble_eq_true rfl⟩ rfl hl.1 rfl (Nat.le_of_ble_eq_true rfl) (dd_at td_X7_worthOf 2 rfl) ⟨Nat.le_refl 0, Nat.le_refl 0⟩) (fun H locs hq hM => ?_) (fun y5 H locs hq hM => ?_)
  · replace hf := fc_of_mn hf hq
    refine lv_astoreN (lv' := [(4, .null), (0, .ref (cx_a X x0)), (1, .int x1), (2, .int x2), (3, .int x3)]) Cx.1 Cx.2.1 (dd_at td_X7_worthOf 3 rfl) hl (by decide) rfl (fun ls hl => ?_)
    refine lv_aloadN Cx.1 Cx.2.1 (dd_at td_X7_worthOf 4 rfl) (lv_at hl 0 rfl) ?_
    refine lv_ifnonnullN Cx.1 Cx.2.1 (dd_at td_X7_worthOf 5 rfl) ?_
    refine lv_iconst (v := (0 : Int32)) Cx.1 Cx.2.1 (dd_at td_X7_worthOf 6 rfl) (by decide) ?_
    refine lv_goto (tgt := 28) Cx.1 Cx.2.1 (dd_at td_X7_worthOf 7 rfl) (by decide) ?_
    exact cc_ri Cx hM (dd_at td_X7_worthOf 15 rfl) hf
  · replace hf := fc_of_ms hf hq
    refine lv_astore (lv' := [(4, .ref (cx_a X y5)), (0, .ref (cx_a X x0)), (1, .int x1), (2, .int x2), (3, .int x3)]) Cx.1 Cx.2.1 (dd_at td_X7_worthOf 3 rfl) hl (by decide) rfl (fun ls hl => ?_)
    refine lv_aload Cx.1 Cx.2.1 (dd_at td_X7_worthOf 4 rfl) (lv_at hl 0 rfl) ?_
    refine lv_ifnonnull (tgt := 16) Cx.1 Cx.2.1 (dd_at td_X7_worthOf 5 rfl) (by decide) ?_
    refine lv_aload_n Cx.1 Cx.2.1 (dd_at td_X7_worthOf 8 rfl) rfl (lv_at hl 1 rfl) ?_
    refine lv_iload_n Cx.1 Cx.2.1 (dd_at td_X7_worthOf 9 rfl) rfl (lv_at hl 2 rfl) ?_
    refine lv_aload Cx.1 Cx.2.1 (dd_at td_X7_worthOf 10 rfl) (lv_at hl 0 rfl) ?_
    obtain ⟨g6, hf⟩ := fc_of_gd hf
    refine cc_gIn (k := 2) Cx hM g6 (by decide) (by decide) cw391 (dd_at td_X7_worthOf 11 rfl) ?_
    refine lv_iload_n Cx.1 Cx.2.1 (dd_at td_X7_worthOf 12 rfl) rfl (lv_at hl 3 rfl) ?_
    refine lv_iload_n Cx.1 Cx.2.1 (dd_at td_X7_worthOf 13 rfl) rfl (lv_at hl 4 rfl) ?_
    obtain ⟨r9, st7, hx8, hf⟩ := fc_of_bn hf
    refine cc_ai hM (cc_rV (ci := 9) (As := [.int x1, .int (cc_I st2 y5 2), .int x2, .int x3]) (rest := []) (n := 4) Cx hM g1 rfl (c_X7_worthBy l D X fu x0 x1 (cc_I st2 y5 2) x2 x3 st2 r9 st7 hx8) (cc_gdV cw392 cw393 cw394 cw345 cw390) hd_X7_worthBy ⟨Nat.le_of_ble_eq_true rfl, Nat.le_of_ble_eq_true rfl⟩ rfl hl.1 rfl (Nat.le_of_ble_eq_true rfl) (dd_at td_X7_worthOf 14 rfl) ⟨Nat.le_refl 0, Nat.le_refl 0⟩) (fun H locs hM => ?_)
    exact cc_ri Cx hM (dd_at td_X7_worthOf 15 rfl) hf
theorem c_X7_worthOf (l : Launch) (D : va_G) (X : cc_X) (fu : Nat) (x0 : Nat) (x1 : Int32) (x2 : Int32) (x3 : Int32) (st : cc_S) : cc_Mi l D X yX7_worthOf cX7_worthOf 5 (some .int) 4 111 [.ref (cx_a X x0), .int x1, .int x2, .int x3] st (C_X7_worthOf X fu x0 x1 x2 x3 st) := by
  intro r st' hf
  refine cc_enter (cc := cX7_worthOf) (nL := 5) (ret := some .int) (by decide +kernel) rfl (Nat.le_of_ble_eq_true rfl) ?_
  intro p e s m args below meth c ls Cx hl hM
  exact w_X7_worthOf Cx fu x0 x1 x2 x3 st hf hl hM

/-! X7_isAllSeen -/
def tb_X7_isAllSeen : List (Nat × Instr × Nat) := [(0, .iconst 0, 1), (1, .istore 4, 2), (3, .iload 4, 2), (5, .aload_n 0, 1), (6, .getfield 49, 3), (9, .if_icmp .ge 76, 3), (12, .aload_n 0, 1), (13, .getfield 27, 3), (16, .iload 4, 2), (18, .iaload, 1), (19, .istore 5, 2), (21, .aload_n 0, 1), (22, .getfield 61, 3), (25, .aload_n 0, 1), (26, .getfield 33, 3), (29, .iload 4, 2), (31, .iaload, 1), (32, .iadd, 1), (33, .istore 6, 2), (35, .iload 5, 2), (37, .iload_n 1, 1), (38, .if_icmp .ne 16, 3), (41, .aload_n 0, 1), (42, .iload 5, 2), (44, .iload_n 2, 1), (45, .iload 6, 2), (47, .iload_n 3, 1), (48, .invokevirtual 105, 3), (51, .goto 12, 3), (54, .aload_n 0, 1), (55, .iload 5, 2), (57, .iload 6, 2), (59, .iload_n 3, 1), (60, .invokevirtual 122, 3), (63, .istore 7, 2), (65, .iload 7, 2), (67, .aload_n 0, 1), (68, .getfield 30, 3), (71, .iload 4, 2), (73, .iaload, 1), (74, .if_icmp .eq 5, 3), (77, .iconst 0, 1), (78, .ireturn, 1), (79, .iinc 4 1, 3), (82, .goto (-79), 3), (85, .iconst 1, 1), (86, .ireturn, 1)]
theorem td_X7_isAllSeen : tb_X7_isAllSeen.all (fun q => decide (decode cX7_isAllSeen q.1 = .ok (q.2.1, q.2.2))) = true := by decide +kernel
theorem hd_X7_isAllSeen : yX7_isAllSeen.cls = RX7 ∧ yX7_isAllSeen.cls ≠ "java/lang/invoke/MethodHandle" ∧ yX7_isAllSeen.cls ≠ "java/lang/invoke/VarHandle" ∧ (parseMethodDescriptor yX7_isAllSeen.desc).map (fun d => d.parameters.length) = some 3 := by decide +kernel
theorem hs_X7_isAllSeen : yX7_isAllSeen.name ≠ "<init>" ∧ (parseMethodDescriptor yX7_isAllSeen.desc).map (fun d => d.parameters.length) = some 3 := by decide +kernel
theorem w_X7_isAllSeen_b63 {p : Program} {l : Launch} {e : Env} {s : State} {m : MethodId} {args : Array Value} {below : List Frame} {meth : Method} {c : Code} {D : va_G} {X : cc_X} {r : Int32} {st' : cc_S} (Cx : cc_C p s m args meth c cX7_isAllSeen 8 (some .boolean) RX7 D X) (fu : Nat) (K3 : Nat → Int32 → Int32 → Int32 → Int32 → cc_S → Option (Int32 × cc_S)) (hK3 : ∀ (x0 : Nat) (x1 : Int32) (x2 : Int32) (x3 : Int32) (x4 : Int32) (st : cc_S) (H : Heap) (locs : List Loc) (ls : Array Slot), K3 x0 x1 x2 x3 x4 st = some (r, st') → lv_has ls 8 [(0, .ref (cx_a X x0)), (1, .int x1), (2, .int x2), (3, .int x3), (4, .int x4)] → cc_H D X s.heap st H locs → W p l e (mm_R 5 135) s m args below meth c H locs 0 0 (MQ below (cc_Qi D X r st') args s 0 0 (cc_A X)) (F0 m 3 ls [])) (x0 : Nat) (x1 : Int32) (x2 : Int32) (x3 : Int32) (x4 : Int32) (s0 : Int32) (st : cc_S) (hf : C_X7_isAllSeen_b63 X fu K3 x0 x1 x2 x3 x4 s0 st = some (r, st')) {H : Heap} {locs : List Loc} {ls : Array Slot} (hl : lv_has ls 8 [(0, .ref (cx_a X x0)), (1, .int x1), (2, .int x2), (3, .int x3), (4, .int x4)]) (hM : cc_H D X s.heap st H locs) : W p l e (mm_R 5 135) s m args below meth c H locs 0 0 (MQ below (cc_Qi D X r st') args s 0 0 (cc_A X)) (F0 m 63 ls [.int s0]) := by
  unfold C_X7_isAllSeen_b63 at hf
  refine lv_istore (lv' := [(7, .int s0), (0, .ref (cx_a X x0)), (1, .int x1), (2, .int x2), (3, .int x3), (4, .int x4)]) Cx.1 Cx.2.1 (dd_at td_X7_isAllSeen 34 rfl) hl (by decide) rfl (fun ls hl => ?_)
  refine lv_iload Cx.1 Cx.2.1 (dd_at td_X7_isAllSeen 35 rfl) (lv_at hl 0 rfl) ?_
  refine lv_aload_n Cx.1 Cx.2.1 (dd_at td_X7_isAllSeen 36 rfl) rfl (lv_at hl 1 rfl) ?_
  obtain ⟨g14, hf⟩ := fc_of_gd hf
  refine cc_gA (ci := 9) (C := RX7) (T := TX7) (N := 17) (k := 5) (ref := "EclipsesKept$State") Cx hM g14 rfl cc_inX7 rfl (by decide) cw323 (fun _ h => h) (dd_at td_X7_isAllSeen 37 rfl) rfl ?_
  refine lv_iload Cx.1 Cx.2.1 (dd_at td_X7_isAllSeen 38 rfl) (lv_at hl 5 rfl) ?_
  obtain ⟨g15, hf⟩ := fc_of_gd hf
  refine cc_iald Cx hM g15 (dd_at td_X7_isAllSeen 39 rfl) ?_
  refine lv_icmp_eq (tgt := 79) Cx.1 Cx.2.1 (dd_at td_X7_isAllSeen 40 rfl) (by decide) (fun c16 => ?_) (fun c16 => ?_)
  · replace hf := fc_of_t hf c16
    obtain ⟨v17, ev17⟩ : ∃ y : Int32, y = x4 + (1 : Int32) := ⟨_, rfl⟩
    replace hf := fc_of_nm hf v17 ev17
    refine lv_iinc (v := v17) (lv' := [(4, .int v17), (7, .int s0), (0, .ref (cx_a X x0)), (1, .int x1), (2, .int x2), (3, .int x3)]) Cx.1 Cx.2.1 (dd_at td_X7_isAllSeen 43 rfl) hl (k := 5) rfl (by rw [ev17]; rfl) (by decide) rfl (fun ls hl => ?_)
    refine lv_goto (tgt := 3) Cx.1 Cx.2.1 (dd_at td_X7_isAllSeen 44 rfl) (by decide) ?_
    exact hK3 x0 x1 x2 x3 v17 st _ _ _ hf (lv_sub hl [2, 3, 4, 5, 0] rfl) hM
  · replace hf := fc_of_f hf c16
    refine lv_iconst (v := (0 : Int32)) Cx.1 Cx.2.1 (dd_at td_X7_isAllSeen 41 rfl) (by decide) ?_
    exact cc_rz Cx hM (dd_at td_X7_isAllSeen 42 rfl) rfl hf
theorem w_X7_isAllSeen_b3F {p : Program} {l : Launch} {e : Env} {s : State} {m : MethodId} {args : Array Value} {below : List Frame} {meth : Method} {c : Code} {D : va_G} {X : cc_X} {r : Int32} {st' : cc_S} (Cx : cc_C p s m args meth c cX7_isAllSeen 8 (some .boolean) RX7 D X) (fu : Nat) (K3 : Nat → Int32 → Int32 → Int32 → Int32 → cc_S → Option (Int32 × cc_S)) (hK3 : ∀ (x0 : Nat) (x1 : Int32) (x2 : Int32) (x3 : Int32) (x4 : Int32) (st : cc_S) (H : Heap) (locs : List Loc) (ls : Array Slot), K3 x0 x1 x2 x3 x4 st = some (r, st') → lv_has ls 8 [(0, .ref (cx_a X x0)), (1, .int x1), (2, .int x2), (3, .int x3), (4, .int x4)] → cc_H D X s.heap st H locs → W p l e (mm_R 5 135) s m args below meth c H locs 0 0 (MQ below (cc_Qi D X r st') args s 0 0 (cc_A X)) (F0 m 3 ls [])) (x0 : Nat) (x1 : Int32) (x2 : Int32) (x3 : Int32) (x4 : Int32) (st : cc_S) (hf : C_X7_isAllSeen_b3F X fu K3 x0 x1 x2 x3 x4 st = some (r, st')) {H : Heap} {locs : List Loc} {ls : Array Slot} (hl : lv_has ls 8 [(0, .ref (cx_a X x0)), (1, .int x1), (2, .int x2), (3, .int x3), (4, .int x4)]) (hM : cc_H D X s.heap st H locs) : W p l e (mm_R 5 135) s m args below meth c H locs 0 0 (MQ below (cc_Qi D X r st') args s 0 0 (cc_A X)) (F0 m 3 ls []) := by
  unfold C_X7_isAllSeen_b3F at hf
  refine lv_iload Cx.1 Cx.2.1 (dd_at td_X7_isAllSeen 2 rfl) (lv_at hl 4 rfl) ?_
  refine lv_aload_n Cx.1 Cx.2.1 (dd_at td_X7_isAllSeen 3 rfl) rfl (lv_at hl 0 rfl) ?_
  obtain ⟨g1, hf⟩ := fc_of_gd hf
  refine cc_gI (ci := 9) (C := RX7) (T := TX7) (N := 17) (k := 11) (ref := "EclipsesKept$State") Cx hM g1 rfl cc_inX7 rfl (by decide) cw329 (fun _ h => h) (dd_at td_X7_isAllSeen 4 rfl) rfl ?_
  refine lv_icmp_ge (tgt := 85) Cx.1 Cx.2.1 (dd_at td_X7_isAllSeen 5 rfl) (by decide) (fun c2 => ?_) (fun c2 => ?_)
  · replace hf := fc_of_t hf c2
    refine lv_iconst (v := (1 : Int32)) Cx.1 Cx.2.1 (dd_at td_X7_isAllSeen 45 rfl) (by decide) ?_
    exact cc_rz Cx hM (dd_at td_X7_isAllSeen 46 rfl) rfl hf
  · replace hf := fc_of_f hf c2
    refine lv_aload_n Cx.1 Cx.2.1 (dd_at td_X7_isAllSeen 6 rfl) rfl (lv_at hl 0 rfl) ?_
    refine cc_gA (ci := 9) (C := RX7) (T := TX7) (N := 17) (k := 4) (ref := "EclipsesKept$State") Cx hM g1 rfl cc_inX7 rfl (by decide) cw322 (fun _ h => h) (dd_at td_X7_isAllSeen 7 rfl) rfl ?_
    refine lv_iload Cx.1 Cx.2.1 (dd_at td_X7_isAllSeen 8 rfl) (lv_at hl 4 rfl) ?_
    obtain ⟨g3, hf⟩ := fc_of_gd hf
    refine cc_iald Cx hM g3 (dd_at td_X7_isAllSeen 9 rfl) ?_
    refine lv_topi (fun v4 ev4 => ?_)
    replace hf := fc_of_nm hf v4 ev4
    refine lv_istore (lv' := [(5, .int v4), (0, .ref (cx_a X x0)), (1, .int x1), (2, .int x2), (3, .int x3), (4, .int x4)]) Cx.1 Cx.2.1 (dd_at td_X7_isAllSeen 10 rfl) hl (by decide) rfl (fun ls hl => ?_)
    refine lv_aload_n Cx.1 Cx.2.1 (dd_at td_X7_isAllSeen 11 rfl) rfl (lv_at hl 1 rfl) ?_
    refine cc_gI (ci := 9) (C := RX7) (T := TX7) (N := 17) (k := 15) (ref := "EclipsesKept$State") Cx hM g1 rfl cc_inX7 rfl (by decide) cw333 (fun _ h => h) (dd_at td_X7_isAllSeen 12 rfl) rfl ?_
    refine lv_aload_n Cx.1 Cx.2.1 (dd_at td_X7_isAllSeen 13 rfl) rfl (lv_at hl 1 rfl) ?_
    refine cc_gA (ci := 9) (C := RX7) (T := TX7) (N := 17) (k := 6) (ref := "EclipsesKept$State") Cx hM g1 rfl cc_inX7 rfl (by decide) cw324 (fun _ h => h) (dd_at td_X7_isAllSeen 14 rfl) rfl ?_
    refine lv_iload Cx.1 Cx.2.1 (dd_at td_X7_isAllSeen 15 rfl) (lv_at hl 5 rfl) ?_
    obtain ⟨g5, hf⟩ := fc_of_gd hf
    refine cc_iald Cx hM g5 (dd_at td_X7_isAllSeen 16 rfl) ?_
    refine lv_iadd Cx.1 Cx.2.1 (dd_at td_X7_isAllSeen 17 rfl) ?_
    refine lv_topi (fun v6 ev6 => ?_)
    replace hf := fc_of_nm hf v6 ev6
    refine lv_istore (lv' := [(6, .int v6), (5, .int v4), (0, .ref (cx_a X x0)), (1, .int x1), (2, .int x2), (3, .int x3), (4, .int x4)]) Cx.1 Cx.2.1 (dd_at td_X7_isAllSeen 18 rfl) hl (by decide) rfl (fun ls hl => ?_)
    refine lv_iload Cx.1 Cx.2.1 (dd_at td_X7_isAllSeen 19 rfl) (lv_at hl 1 rfl) ?_
    refine lv_iload_n Cx.1 Cx.2.1 (dd_at td_X7_isAllSeen 20 rfl) rfl (lv_at hl 3 rfl) ?_
    refine lv_icmp_ne (tgt := 54) Cx.1 Cx.2.1 (dd_at td_X7_isAllSeen 21 rfl) (by decide) (fun c7 => ?_) (fun c7 => ?_)
    · replace hf := fc_of_f hf c7
      refine lv_aload_n Cx.1 Cx.2.1 (dd_at td_X7_isAllSeen 29 rfl) rfl (lv_at hl 2 rfl) ?_
      refine lv_iload Cx.1 Cx.2.1 (dd_at td_X7_isAllSeen 30 rfl) (lv_at hl 1 rfl) ?_
      refine lv_iload Cx.1 Cx.2.1 (dd_at td_X7_isAllSeen 31 rfl) (lv_at hl 0 rfl) ?_
      refine lv_iload_n Cx.1 Cx.2.1 (dd_at td_X7_isAllSeen 32 rfl) rfl (lv_at hl 5 rfl) ?_
      obtain ⟨r10, st8, hx9, hf⟩ := fc_of_bn hf
      refine cc_ai hM (cc_rV (ci := 9) (As := [.int v4, .int v6, .int x3]) (rest := []) (n := 3) Cx hM g1 rfl (c_X7_worthOf l D X fu x0 v4 v6 x3 st r10 st8 hx9) (cc_gdV cw396 cw397 cw398 cw345 cw395) hd_X7_worthOf ⟨Nat.le_of_ble_eq_true rfl, Nat.le_of_ble_eq_true rfl⟩ rfl hl.1 rfl (Nat.le_of_ble_eq_true rfl) (dd_at td_X7_isAllSeen 33 rfl) ⟨Nat.le_refl 0, Nat.le_refl 0⟩) (fun H locs hM => ?_)
      exact w_X7_isAllSeen_b63 Cx fu K3 hK3 x0 x1 x2 x3 x4 r10 st8 hf (lv_sub hl [2, 3, 4, 5, 6] rfl) hM
    · replace hf := fc_of_t hf c7
      refine lv_aload_n Cx.1 Cx.2.1 (dd_at td_X7_isAllSeen 22 rfl) rfl (lv_at hl 2 rfl) ?_
      refine lv_iload Cx.1 Cx.2.1 (dd_at td_X7_isAllSeen 23 rfl) (lv_at hl 1 rfl) ?_
      refine lv_iload_n Cx.1 Cx.2.1 (dd_at td_X7_isAllSeen 24 rfl) rfl (lv_at hl 4 rfl) ?_
      refine lv_iload Cx.1 Cx.2.1 (dd_at td_X7_isAllSeen 25 rfl) (lv_at hl 0 rfl) ?_
      refine lv_iload_n Cx.1 Cx.2.1 (dd_at td_X7_isAllSeen 26 rfl) rfl (lv_at hl 5 rfl) ?_
      obtain ⟨r13, st11, hx12, hf⟩ := fc_of_bn hf
      refine cc_ai hM (cc_rV (ci := 9) (As := [.int v4, .int x2, .int v6, .int x3]) (rest := []) (n := 4) Cx hM g1 rfl (c_X7_worthBy l D X fu x0 v4 x2 v6 x3 st r13 st11 hx12) (cc_gdV cw392 cw393 cw394 cw345 cw390) hd_X7_worthBy ⟨Nat.le_of_ble_eq_true rfl, Nat.le_of_ble_eq_true rfl⟩ rfl hl.1 rfl (Nat.le_of_ble_eq_true rfl) (dd_at td_X7_isAllSeen 27 rfl) ⟨Nat.le_refl 0, Nat.le_refl 0⟩) (fun H locs hM => ?_)
      refine lv_goto (tgt := 63) Cx.1 Cx.2.1 (dd_at td_X7_isAllSeen 28 rfl) (by decide) ?_
      exact w_X7_isAllSeen_b63 Cx fu K3 hK3 x0 x1 x2 x3 x4 r13 st11 hf (lv_sub hl [2, 3, 4, 5, 6] rfl) hM
theorem w_X7_isAllSeen_b3 {p : Program} {l : Launch} {e : Env} {s : State} {m : MethodId} {args : Array Value} {below : List Frame} {meth : Method} {c : Code} {D : va_G} {X : cc_X} {r : Int32} {st' : cc_S} (Cx : cc_C p s m args meth c cX7_isAllSeen 8 (some .boolean) RX7 D X) (fu : Nat) (n : Nat) : ∀ (x0 : Nat) (x1 : Int32) (x2 : Int32) (x3 : Int32) (x4 : Int32) (st : cc_S), C_X7_isAllSeen_b3 X fu n x0 x1 x2 x3 x4 st = some (r, st') → ∀ (H : Heap) (locs : List Loc) (ls : Array Slot), lv_has ls 8 [(0, .ref (cx_a X x0)), (1, .int x1), (2, .int x2), (3, .int x3), (4, .int x4)] → cc_H D X s.heap st H locs → W p l e (mm_R 5 135) s m args below meth c H locs 0 0 (MQ below (cc_Qi D X r st') args s 0 0 (cc_A X)) (F0 m 3 ls []) := by
  induction n with
  | zero => exact fun _ _ _ _ _ _ hf => fc_no hf
  | succ n ih =>
    intro x0 x1 x2 x3 x4 st hf H locs ls hl hM
    exact w_X7_isAllSeen_b3F Cx fu (fun x0 x1 x2 x3 x4 st => C_X7_isAllSeen_b3 X fu n x0 x1 x2 x3 x4 st) (fun x0 x1 x2 x3 x4 st H locs ls hf hl hM => ih x0 x1 x2 x3 x4 st hf H locs ls hl hM) x0 x1 x2 x3 x4 st hf hl hM
theorem w_X7_isAllSeen {p : Program} {l : Launch} {e : Env} {s : State} {m : MethodId} {args : Array Value} {below : List Frame} {meth : Method} {c : Code} {D : va_G} {X : cc_X} {r : Int32} {st' : cc_S} (Cx : cc_C p s m args meth c cX7_isAllSeen 8 (some .boolean) RX7 D X) (fu : Nat) (x0 : Nat) (x1 : Int32) (x2 : Int32) (x3 : Int32) (st : cc_S) (hf : C_X7_isAllSeen X fu x0 x1 x2 x3 st = some (r, st')) {H : Heap} {locs : List Loc} {ls : Array Slot} (hl : lv_has ls 8 [(0, .ref (cx_a X x0)), (1, .int x1), (2, .int x2), (3, .int x3)]) (hM : cc_H D X s.heap st H locs) : W p l e (mm_R 5 135) s m args below meth c H locs 0 0 (MQ below (cc_Qi D X r st') args s 0 0 (cc_A X)) (F0 m 0 ls []) := by
  unfold C_X7_isAllSeen at hf
  refine lv_iconst (v := (0 : Int32)) Cx.1 Cx.2.1 (dd_at td_X7_isAllSeen 0 rfl) (by decide) ?_
  refine lv_istore (lv' := [(4, .int (0 : Int32)), (0, .ref (cx_a X x0)), (1, .int x1), (2, .int x2), (3, .int x3)]) Cx.1 Cx.2.1 (dd_at td_X7_isAllSeen 1 rfl) hl (by decide) rfl (fun ls hl => ?_)
  exact w_X7_isAllSeen_b3 Cx fu fu x0 x1 x2 x3 (0 : Int32) st hf _ _ _ (lv_sub hl [1, 2, 3, 4, 0] rfl) hM
theorem c_X7_isAllSeen (l : Launch) (D : va_G) (X : cc_X) (fu : Nat) (x0 : Nat) (x1 : Int32) (x2 : Int32) (x3 : Int32) (st : cc_S) : cc_Mi l D X yX7_isAllSeen cX7_isAllSeen 8 (some .boolean) 5 135 [.ref (cx_a X x0), .int x1, .int x2, .int x3] st (C_X7_isAllSeen X fu x0 x1 x2 x3 st) := by
  intro r st' hf
  refine cc_enter (cc := cX7_isAllSeen) (nL := 8) (ret := some .boolean) (by decide +kernel) rfl (Nat.le_of_ble_eq_true rfl) ?_
  intro p e s m args below meth c ls Cx hl hM
  exact w_X7_isAllSeen Cx fu x0 x1 x2 x3 st hf hl hM

/-! X8_holds -/
def tb_X8_holds : List (Nat × Instr × Nat) := [(0, .aload_n 0, 1), (1, .getfield 15, 3), (4, .iconst (-1), 1), (5, .if_icmp .eq 7, 3), (8, .iconst 1, 1), (9, .goto 4, 3), (12, .iconst 0, 1), (13, .ireturn, 1)]
theorem td_X8_holds : tb_X8_holds.all (fun q => decide (decode cX8_holds q.1 = .ok (q.2.1, q.2.2))) = true := by decide +kernel
theorem hd_X8_holds : yX8_holds.cls = RX8 ∧ yX8_holds.cls ≠ "java/lang/invoke/MethodHandle" ∧ yX8_holds.cls ≠ "java/lang/invoke/VarHandle" ∧ (parseMethodDescriptor yX8_holds.desc).map (fun d => d.parameters.length) = some 0 := by decide +kernel
theorem hs_X8_holds : yX8_holds.name ≠ "<init>" ∧ (parseMethodDescriptor yX8_holds.desc).map (fun d => d.parameters.length) = some 0 := by decide +kernel
theorem w_X8_holds {p : Program} {l : Launch} {e : Env} {s : State} {m : MethodId} {args : Array Value} {below : List Frame} {meth : Method} {c : Code} {D : va_G} {X : cc_X} {r : Int32} {st' : cc_S} (Cx : cc_C p s m args meth c cX8_holds 1 (some .boolean) RX8 D X) (fu : Nat) (x0 : Nat) (st : cc_S) (hf : C_X8_holds X fu x0 st = some (r, st')) {H : Heap} {locs : List Loc} {ls : Array Slot} (hl : lv_has ls 1 [(0, .ref (cx_a X x0))]) (hM : cc_H D X s.heap st H locs) : W p l e (mm_R 0 0) s m args below meth c H locs 0 0 (MQ below (cc_Qi D X r st') args s 0 0 (cc_A X)) (F0 m 0 ls []) := by
  unfold C_X8_holds at hf
  refine lv_aload_n Cx.1 Cx.2.1 (dd_at td_X8_holds 0 rfl) rfl (lv_at hl 0 rfl) ?_
  obtain ⟨g1, hf⟩ := fc_of_gd hf
  refine cc_gI (ci := 10) (C := RX8) (T := TX8) (N := 3) (k := 1) (ref := "EclipsesKept$Tape") Cx hM g1 rfl cc_inX8 rfl (by decide) cw404 (fun _ h => h) (dd_at td_X8_holds 1 rfl) rfl ?_
  refine lv_iconst (v := (-1 : Int32)) Cx.1 Cx.2.1 (dd_at td_X8_holds 2 rfl) (by decide) ?_
  refine lv_icmp_eq (tgt := 12) Cx.1 Cx.2.1 (dd_at td_X8_holds 3 rfl) (by decide) (fun c2 => ?_) (fun c2 => ?_)
  · replace hf := fc_of_t hf c2
    refine lv_iconst (v := (0 : Int32)) Cx.1 Cx.2.1 (dd_at td_X8_holds 6 rfl) (by decide) ?_
    exact cc_rz Cx hM (dd_at td_X8_holds 7 rfl) rfl hf
  · replace hf := fc_of_f hf c2
    refine lv_iconst (v := (1 : Int32)) Cx.1 Cx.2.1 (dd_at td_X8_holds 4 rfl) (by decide) ?_
    refine lv_goto (tgt := 13) Cx.1 Cx.2.1 (dd_at td_X8_holds 5 rfl) (by decide) ?_
    exact cc_rz Cx hM (dd_at td_X8_holds 7 rfl) rfl hf
theorem c_X8_holds (l : Launch) (D : va_G) (X : cc_X) (fu : Nat) (x0 : Nat) (st : cc_S) : cc_Mi l D X yX8_holds cX8_holds 1 (some .boolean) 0 0 [.ref (cx_a X x0)] st (C_X8_holds X fu x0 st) := by
  intro r st' hf
  refine cc_enter (cc := cX8_holds) (nL := 1) (ret := some .boolean) (by decide +kernel) rfl (Nat.le_of_ble_eq_true rfl) ?_
  intro p e s m args below meth c ls Cx hl hM
  exact w_X8_holds Cx fu x0 st hf hl hM

/-! X8_become -/
def tb_X8_become : List (Nat × Instr × Nat) := [(0, .aload_n 0, 1), (1, .iload_n 1, 1), (2, .putfield 15, 3), (5, .aload_n 0, 1), (6, .iload_n 2, 1), (7, .putfield 19, 3), (10, .iconst 0, 1), (11, .istore_n 3, 1), (12, .iload_n 3, 1), (13, .bipush 60, 2), (15, .if_icmp .ge 16, 3), (18, .aload_n 0, 1), (19, .getfield 9, 3), (22, .iload_n 3, 1), (23, .lconst 0, 1), (24, .lastore, 1), (25, .iinc 3 1, 3), (28, .goto (-16), 3), (31, .return_, 1)]
theorem td_X8_become : tb_X8_become.all (fun q => decide (decode cX8_become q.1 = .ok (q.2.1, q.2.2))) = true := by decide +kernel
theorem hd_X8_become : yX8_become.cls = RX8 ∧ yX8_become.cls ≠ "java/lang/invoke/MethodHandle" ∧ yX8_become.cls ≠ "java/lang/invoke/VarHandle" ∧ (parseMethodDescriptor yX8_become.desc).map (fun d => d.parameters.length) = some 2 := by decide +kernel
theorem hs_X8_become : yX8_become.name ≠ "<init>" ∧ (parseMethodDescriptor yX8_become.desc).map (fun d => d.parameters.length) = some 2 := by decide +kernel
theorem w_X8_become_b12F {p : Program} {l : Launch} {e : Env} {s : State} {m : MethodId} {args : Array Value} {below : List Frame} {meth : Method} {c : Code} {D : va_G} {X : cc_X} {st' : cc_S} (Cx : cc_C p s m args meth c cX8_become 4 (none) RX8 D X) (fu : Nat) (K12 : Nat → Int32 → cc_S → Option cc_S) (hK12 : ∀ (x0 : Nat) (x3 : Int32) (st : cc_S) (H : Heap) (locs : List Loc) (ls : Array Slot), K12 x0 x3 st = some st' → lv_has ls 4 [(0, .ref (cx_a X x0)), (3, .int x3)] → cc_H D X s.heap st H locs → W p l e (mm_R 0 0) s m args below meth c H locs 0 0 (MQ below (cc_Qv D X st') args s 0 0 (cc_A X)) (F0 m 12 ls [])) (x0 : Nat) (x3 : Int32) (st : cc_S) (hf : C_X8_become_b12F X fu K12 x0 x3 st = some st') {H : Heap} {locs : List Loc} {ls : Array Slot} (hl : lv_has ls 4 [(0, .ref (cx_a X x0)), (3, .int x3)]) (hM : cc_H D X s.heap st H locs) : W p l e (mm_R 0 0) s m args below meth c H locs 0 0 (MQ below (cc_Qv D X st') args s 0 0 (cc_A X)) (F0 m 12 ls []) := by
  unfold C_X8_become_b12F at hf
  refine lv_iload_n Cx.1 Cx.2.1 (dd_at td_X8_become 8 rfl) rfl (lv_at hl 1 rfl) ?_
  refine lv_bipush (v := (60 : Int32)) Cx.1 Cx.2.1 (dd_at td_X8_become 9 rfl) (by decide) ?_
  refine lv_icmp_ge (tgt := 31) Cx.1 Cx.2.1 (dd_at td_X8_become 10 rfl) (by decide) (fun c4 => ?_) (fun c4 => ?_)
  · replace hf := fc_of_t hf c4
    exact cc_rv Cx hM (dd_at td_X8_become 18 rfl) hf
  · replace hf := fc_of_f hf c4
    refine lv_aload_n Cx.1 Cx.2.1 (dd_at td_X8_become 11 rfl) rfl (lv_at hl 0 rfl) ?_
    obtain ⟨g5, hf⟩ := fc_of_gd hf
    refine cc_gA (ci := 10) (C := RX8) (T := TX8) (N := 3) (k := 0) (ref := "EclipsesKept$Tape") Cx hM g5 rfl cc_inX8 rfl (by decide) cw403 (fun _ h => h) (dd_at td_X8_become 12 rfl) rfl ?_
    refine lv_iload_n Cx.1 Cx.2.1 (dd_at td_X8_become 13 rfl) rfl (lv_at hl 1 rfl) ?_
    refine lv_lconst (v := (0 : Int64)) Cx.1 Cx.2.1 (dd_at td_X8_become 14 rfl) (by decide) ?_
    obtain ⟨g6, hf⟩ := fc_of_gd hf
    refine cc_last Cx hM g6 (dd_at td_X8_become 15 rfl) (fun st7 H locs est7 hM => ?_)
    replace hf := fc_of_nm hf st7 est7
    obtain ⟨v8, ev8⟩ : ∃ y : Int32, y = x3 + (1 : Int32) := ⟨_, rfl⟩
    replace hf := fc_of_nm hf v8 ev8
    refine lv_iinc (v := v8) (lv' := [(3, .int v8), (0, .ref (cx_a X x0))]) Cx.1 Cx.2.1 (dd_at td_X8_become 16 rfl) hl (k := 1) rfl (by rw [ev8]; rfl) (by decide) rfl (fun ls hl => ?_)
    refine lv_goto (tgt := 12) Cx.1 Cx.2.1 (dd_at td_X8_become 17 rfl) (by decide) ?_
    exact hK12 x0 v8 st7 _ _ _ hf (lv_sub hl [1, 0] rfl) hM
theorem w_X8_become_b12 {p : Program} {l : Launch} {e : Env} {s : State} {m : MethodId} {args : Array Value} {below : List Frame} {meth : Method} {c : Code} {D : va_G} {X : cc_X} {st' : cc_S} (Cx : cc_C p s m args meth c cX8_become 4 (none) RX8 D X) (fu : Nat) (n : Nat) : ∀ (x0 : Nat) (x3 : Int32) (st : cc_S), C_X8_become_b12 X fu n x0 x3 st = some st' → ∀ (H : Heap) (locs : List Loc) (ls : Array Slot), lv_has ls 4 [(0, .ref (cx_a X x0)), (3, .int x3)] → cc_H D X s.heap st H locs → W p l e (mm_R 0 0) s m args below meth c H locs 0 0 (MQ below (cc_Qv D X st') args s 0 0 (cc_A X)) (F0 m 12 ls []) := by
  induction n with
  | zero => exact fun _ _ _ hf => fc_no hf
  | succ n ih =>
    intro x0 x3 st hf H locs ls hl hM
    exact w_X8_become_b12F Cx fu (fun x0 x3 st => C_X8_become_b12 X fu n x0 x3 st) (fun x0 x3 st H locs ls hf hl hM => ih x0 x3 st hf H locs ls hl hM) x0 x3 st hf hl hM
theorem w_X8_become {p : Program} {l : Launch} {e : Env} {s : State} {m : MethodId} {args : Array Value} {below : List Frame} {meth : Method} {c : Code} {D : va_G} {X : cc_X} {st' : cc_S} (Cx : cc_C p s m args meth c cX8_become 4 (none) RX8 D X) (fu : Nat) (x0 : Nat) (x1 : Int32) (x2 : Int32) (st : cc_S) (hf : C_X8_become X fu x0 x1 x2 st = some st') {H : Heap} {locs : List Loc} {ls : Array Slot} (hl : lv_has ls 4 [(0, .ref (cx_a X x0)), (1, .int x1), (2, .int x2)]) (hM : cc_H D X s.heap st H locs) : W p l e (mm_R 0 0) s m args below meth c H locs 0 0 (MQ below (cc_Qv D X st') args s 0 0 (cc_A X)) (F0 m 0 ls []) := by
  unfold C_X8_become at hf
  refine lv_aload_n Cx.1 Cx.2.1 (dd_at td_X8_become 0 rfl) rfl (lv_at hl 0 rfl) ?_
  refine lv_iload_n Cx.1 Cx.2.1 (dd_at td_X8_become 1 rfl) rfl (lv_at hl 1 rfl) ?_
  obtain ⟨g1, hf⟩ := fc_of_gd hf
  refine cc_pI (ci := 10) (C := RX8) (T := TX8) (N := 3) (k := 1) (ref := "EclipsesKept$Tape") (ty0 := tyX8) Cx hM g1 rfl cc_inX8 rfl (by decide) cw404 (fun _ h => h) tyX8_ok nmX8 rfl rfl rfl (dd_at td_X8_become 2 rfl) rfl (fun st2 H locs est2 hM => ?_)
  replace hf := fc_of_nm hf st2 est2
  refine lv_aload_n Cx.1 Cx.2.1 (dd_at td_X8_become 3 rfl) rfl (lv_at hl 0 rfl) ?_
  refine lv_iload_n Cx.1 Cx.2.1 (dd_at td_X8_become 4 rfl) rfl (lv_at hl 2 rfl) ?_
  refine cc_pI (ci := 10) (C := RX8) (T := TX8) (N := 3) (k := 2) (ref := "EclipsesKept$Tape") (ty0 := tyX8) Cx hM g1 rfl cc_inX8 rfl (by decide) cw405 (fun _ h => h) tyX8_ok nmX8 rfl rfl rfl (dd_at td_X8_become 5 rfl) rfl (fun st3 H locs est3 hM => ?_)
  replace hf := fc_of_nm hf st3 est3
  refine lv_iconst (v := (0 : Int32)) Cx.1 Cx.2.1 (dd_at td_X8_become 6 rfl) (by decide) ?_
  refine lv_istore_n (lv' := [(3, .int (0 : Int32)), (0, .ref (cx_a X x0)), (1, .int x1), (2, .int x2)]) Cx.1 Cx.2.1 (dd_at td_X8_become 7 rfl) rfl hl (by decide) rfl (fun ls hl => ?_)
  exact w_X8_become_b12 Cx fu fu x0 (0 : Int32) st3 hf _ _ _ (lv_sub hl [1, 0] rfl) hM
theorem c_X8_become (l : Launch) (D : va_G) (X : cc_X) (fu : Nat) (x0 : Nat) (x1 : Int32) (x2 : Int32) (st : cc_S) : cc_Mv l D X yX8_become cX8_become 4 (none) 0 0 [.ref (cx_a X x0), .int x1, .int x2] st (C_X8_become X fu x0 x1 x2 st) := by
  intro st' hf
  refine cc_enter (cc := cX8_become) (nL := 4) (ret := none) (by decide +kernel) rfl (Nat.le_of_ble_eq_true rfl) ?_
  intro p e s m args below meth c ls Cx hl hM
  exact w_X8_become Cx fu x0 x1 x2 st hf hl hM

/-! X8_hasPlace -/
def tb_X8_hasPlace : List (Nat × Instr × Nat) := [(0, .iload_n 1, 1), (1, .ifCond .lt 15, 3), (4, .iload_n 1, 1), (5, .aload_n 0, 1), (6, .getfield 19, 3), (9, .if_icmp .ge 7, 3), (12, .iconst 1, 1), (13, .goto 4, 3), (16, .iconst 0, 1), (17, .ireturn, 1)]
theorem td_X8_hasPlace : tb_X8_hasPlace.all (fun q => decide (decode cX8_hasPlace q.1 = .ok (q.2.1, q.2.2))) = true := by decide +kernel
theorem hd_X8_hasPlace : yX8_hasPlace.cls = RX8 ∧ yX8_hasPlace.cls ≠ "java/lang/invoke/MethodHandle" ∧ yX8_hasPlace.cls ≠ "java/lang/invoke/VarHandle" ∧ (parseMethodDescriptor yX8_hasPlace.desc).map (fun d => d.parameters.length) = some 1 := by decide +kernel
theorem hs_X8_hasPlace : yX8_hasPlace.name ≠ "<init>" ∧ (parseMethodDescriptor yX8_hasPlace.desc).map (fun d => d.parameters.length) = some 1 := by decide +kernel
theorem w_X8_hasPlace {p : Program} {l : Launch} {e : Env} {s : State} {m : MethodId} {args : Array Value} {below : List Frame} {meth : Method} {c : Code} {D : va_G} {X : cc_X} {r : Int32} {st' : cc_S} (Cx : cc_C p s m args meth c cX8_hasPlace 2 (some .boolean) RX8 D X) (fu : Nat) (x0 : Nat) (x1 : Int32) (st : cc_S) (hf : C_X8_hasPlace X fu x0 x1 st = some (r, st')) {H : Heap} {locs : List Loc} {ls : Array Slot} (hl : lv_has ls 2 [(0, .ref (cx_a X x0)), (1, .int x1)]) (hM : cc_H D X s.heap st H locs) : W p l e (mm_R 0 0) s m args below meth c H locs 0 0 (MQ below (cc_Qi D X r st') args s 0 0 (cc_A X)) (F0 m 0 ls []) := by
  unfold C_X8_hasPlace at hf
  refine lv_iload_n Cx.1 Cx.2.1 (dd_at td_X8_hasPlace 0 rfl) rfl (lv_at hl 1 rfl) ?_
  refine lv_if_lt (tgt := 16) Cx.1 Cx.2.1 (dd_at td_X8_hasPlace 1 rfl) (by decide) (fun c1 => ?_) (fun c1 => ?_)
  · replace hf := fc_of_t hf c1
    refine lv_iconst (v := (0 : Int32)) Cx.1 Cx.2.1 (dd_at td_X8_hasPlace 8 rfl) (by decide) ?_
    exact cc_rz Cx hM (dd_at td_X8_hasPlace 9 rfl) rfl hf
  · replace hf := fc_of_f hf c1
    refine lv_iload_n Cx.1 Cx.2.1 (dd_at td_X8_hasPlace 2 rfl) rfl (lv_at hl 1 rfl) ?_
    refine lv_aload_n Cx.1 Cx.2.1 (dd_at td_X8_hasPlace 3 rfl) rfl (lv_at hl 0 rfl) ?_
    obtain ⟨g2, hf⟩ := fc_of_gd hf
    refine cc_gI (ci := 10) (C := RX8) (T := TX8) (N := 3) (k := 2) (ref := "EclipsesKept$Tape") Cx hM g2 rfl cc_inX8 rfl (by decide) cw405 (fun _ h => h) (dd_at td_X8_hasPlace 4 rfl) rfl ?_
    refine lv_icmp_ge (tgt := 16) Cx.1 Cx.2.1 (dd_at td_X8_hasPlace 5 rfl) (by decide) (fun c3 => ?_) (fun c3 => ?_)
    · replace hf := fc_of_t hf c3
      refine lv_iconst (v := (0 : Int32)) Cx.1 Cx.2.1 (dd_at td_X8_hasPlace 8 rfl) (by decide) ?_
      exact cc_rz Cx hM (dd_at td_X8_hasPlace 9 rfl) rfl hf
    · replace hf := fc_of_f hf c3
      refine lv_iconst (v := (1 : Int32)) Cx.1 Cx.2.1 (dd_at td_X8_hasPlace 6 rfl) (by decide) ?_
      refine lv_goto (tgt := 17) Cx.1 Cx.2.1 (dd_at td_X8_hasPlace 7 rfl) (by decide) ?_
      exact cc_rz Cx hM (dd_at td_X8_hasPlace 9 rfl) rfl hf
theorem c_X8_hasPlace (l : Launch) (D : va_G) (X : cc_X) (fu : Nat) (x0 : Nat) (x1 : Int32) (st : cc_S) : cc_Mi l D X yX8_hasPlace cX8_hasPlace 2 (some .boolean) 0 0 [.ref (cx_a X x0), .int x1] st (C_X8_hasPlace X fu x0 x1 st) := by
  intro r st' hf
  refine cc_enter (cc := cX8_hasPlace) (nL := 2) (ret := some .boolean) (by decide +kernel) rfl (Nat.le_of_ble_eq_true rfl) ?_
  intro p e s m args below meth c ls Cx hl hM
  exact w_X8_hasPlace Cx fu x0 x1 st hf hl hM

/-! X8_hasRun -/
def tb_X8_hasRun : List (Nat × Instr × Nat) := [(0, .iload_n 2, 1), (1, .ifCond .lt 29, 3), (4, .iload_n 1, 1), (5, .ifCond .lt 25, 3), (8, .iload_n 2, 1), (9, .aload_n 0, 1), (10, .getfield 19, 3), (13, .if_icmp .gt 17, 3), (16, .iload_n 1, 1), (17, .aload_n 0, 1), (18, .getfield 19, 3), (21, .iload_n 2, 1), (22, .isub, 1), (23, .if_icmp .gt 7, 3), (26, .iconst 1, 1), (27, .goto 4, 3), (30, .iconst 0, 1), (31, .ireturn, 1)]
theorem td_X8_hasRun : tb_X8_hasRun.all (fun q => decide (decode cX8_hasRun q.1 = .ok (q.2.1, q.2.2))) = true := by decide +kernel
theorem hd_X8_hasRun : yX8_hasRun.cls = RX8 ∧ yX8_hasRun.cls ≠ "java/lang/invoke/MethodHandle" ∧ yX8_hasRun.cls ≠ "java/lang/invoke/VarHandle" ∧ (parseMethodDescriptor yX8_hasRun.desc).map (fun d => d.parameters.length) = some 2 := by decide +kernel
theorem hs_X8_hasRun : yX8_hasRun.name ≠ "<init>" ∧ (parseMethodDescriptor yX8_hasRun.desc).map (fun d => d.parameters.length) = some 2 := by decide +kernel
theorem w_X8_hasRun {p : Program} {l : Launch} {e : Env} {s : State} {m : MethodId} {args : Array Value} {below : List Frame} {meth : Method} {c : Code} {D : va_G} {X : cc_X} {r : Int32} {st' : cc_S} (Cx : cc_C p s m args meth c cX8_hasRun 3 (some .boolean) RX8 D X) (fu : Nat) (x0 : Nat) (x1 : Int32) (x2 : Int32) (st : cc_S) (hf : C_X8_hasRun X fu x0 x1 x2 st = some (r, st')) {H : Heap} {locs : List Loc} {ls : Array Slot} (hl : lv_has ls 3 [(0, .ref (cx_a X x0)), (1, .int x1), (2, .int x2)]) (hM : cc_H D X s.heap st H locs) : W p l e (mm_R 0 0) s m args below meth c H locs 0 0 (MQ below (cc_Qi D X r st') args s 0 0 (cc_A X)) (F0 m 0 ls []) := by
  unfold C_X8_hasRun at hf
  refine lv_iload_n Cx.1 Cx.2.1 (dd_at td_X8_hasRun 0 rfl) rfl (lv_at hl 2 rfl) ?_
  refine lv_if_lt (tgt := 30) Cx.1 Cx.2.1 (dd_at td_X8_hasRun 1 rfl) (by decide) (fun c1 => ?_) (fun c1 => ?_)
  · replace hf := fc_of_t hf c1
    refine lv_iconst (v := (0 : Int32)) Cx.1 Cx.2.1 (dd_at td_X8_hasRun 16 rfl) (by decide) ?_
    exact cc_rz Cx hM (dd_at td_X8_hasRun 17 rfl) rfl hf
  · replace hf := fc_of_f hf c1
    refine lv_iload_n Cx.1 Cx.2.1 (dd_at td_X8_hasRun 2 rfl) rfl (lv_at hl 1 rfl) ?_
    refine lv_if_lt (tgt := 30) Cx.1 Cx.2.1 (dd_at td_X8_hasRun 3 rfl) (by decide) (fun c2 => ?_) (fun c2 => ?_)
    · replace hf := fc_of_t hf c2
      refine lv_iconst (v := (0 : Int32)) Cx.1 Cx.2.1 (dd_at td_X8_hasRun 16 rfl) (by decide) ?_
      exact cc_rz Cx hM (dd_at td_X8_hasRun 17 rfl) rfl hf
    · replace hf := fc_of_f hf c2
      refine lv_iload_n Cx.1 Cx.2.1 (dd_at td_X8_hasRun 4 rfl) rfl (lv_at hl 2 rfl) ?_
      refine lv_aload_n Cx.1 Cx.2.1 (dd_at td_X8_hasRun 5 rfl) rfl (lv_at hl 0 rfl) ?_
      obtain ⟨g3, hf⟩ := fc_of_gd hf
      refine cc_gI (ci := 10) (C := RX8) (T := TX8) (N := 3) (k := 2) (ref := "EclipsesKept$Tape") Cx hM g3 rfl cc_inX8 rfl (by decide) cw405 (fun _ h => h) (dd_at td_X8_hasRun 6 rfl) rfl ?_
      refine lv_icmp_gt (tgt := 30) Cx.1 Cx.2.1 (dd_at td_X8_hasRun 7 rfl) (by decide) (fun c4 => ?_) (fun c4 => ?_)
      · replace hf := fc_of_t hf c4
        refine lv_iconst (v := (0 : Int32)) Cx.1 Cx.2.1 (dd_at td_X8_hasRun 16 rfl) (by decide) ?_
        exact cc_rz Cx hM (dd_at td_X8_hasRun 17 rfl) rfl hf
      · replace hf := fc_of_f hf c4
        refine lv_iload_n Cx.1 Cx.2.1 (dd_at td_X8_hasRun 8 rfl) rfl (lv_at hl 1 rfl) ?_
        refine lv_aload_n Cx.1 Cx.2.1 (dd_at td_X8_hasRun 9 rfl) rfl (lv_at hl 0 rfl) ?_
        refine cc_gI (ci := 10) (C := RX8) (T := TX8) (N := 3) (k := 2) (ref := "EclipsesKept$Tape") Cx hM g3 rfl cc_inX8 rfl (by decide) cw405 (fun _ h => h) (dd_at td_X8_hasRun 10 rfl) rfl ?_
        refine lv_iload_n Cx.1 Cx.2.1 (dd_at td_X8_hasRun 11 rfl) rfl (lv_at hl 2 rfl) ?_
        refine lv_isub Cx.1 Cx.2.1 (dd_at td_X8_hasRun 12 rfl) ?_
        refine lv_icmp_gt (tgt := 30) Cx.1 Cx.2.1 (dd_at td_X8_hasRun 13 rfl) (by decide) (fun c5 => ?_) (fun c5 => ?_)
        · replace hf := fc_of_t hf c5
          refine lv_iconst (v := (0 : Int32)) Cx.1 Cx.2.1 (dd_at td_X8_hasRun 16 rfl) (by decide) ?_
          exact cc_rz Cx hM (dd_at td_X8_hasRun 17 rfl) rfl hf
        · replace hf := fc_of_f hf c5
          refine lv_iconst (v := (1 : Int32)) Cx.1 Cx.2.1 (dd_at td_X8_hasRun 14 rfl) (by decide) ?_
          refine lv_goto (tgt := 31) Cx.1 Cx.2.1 (dd_at td_X8_hasRun 15 rfl) (by decide) ?_
          exact cc_rz Cx hM (dd_at td_X8_hasRun 17 rfl) rfl hf
theorem c_X8_hasRun (l : Launch) (D : va_G) (X : cc_X) (fu : Nat) (x0 : Nat) (x1 : Int32) (x2 : Int32) (st : cc_S) : cc_Mi l D X yX8_hasRun cX8_hasRun 3 (some .boolean) 0 0 [.ref (cx_a X x0), .int x1, .int x2] st (C_X8_hasRun X fu x0 x1 x2 st) := by
  intro r st' hf
  refine cc_enter (cc := cX8_hasRun) (nL := 3) (ret := some .boolean) (by decide +kernel) rfl (Nat.le_of_ble_eq_true rfl) ?_
  intro p e s m args below meth c ls Cx hl hM
  exact w_X8_hasRun Cx fu x0 x1 x2 st hf hl hM

/-! X8_narrowed -/
def tb_X8_narrowed : List (Nat × Instr × Nat) := [(0, .aload_n 0, 1), (1, .getfield 15, 3), (4, .tableswitch 62 0 4 #[36, 41, 46, 62, 50], 36), (40, .lload_n 1, 1), (41, .l2i, 1), (42, .i2b, 1), (43, .i2l, 1), (44, .lreturn, 1), (45, .lload_n 1, 1), (46, .l2i, 1), (47, .i2s, 1), (48, .i2l, 1), (49, .lreturn, 1), (50, .lload_n 1, 1), (51, .l2i, 1), (52, .i2l, 1), (53, .lreturn, 1), (54, .lload_n 1, 1), (55, .lconst 0, 1), (56, .lcmp, 1), (57, .ifCond .eq 7, 3), (60, .lconst 1, 1), (61, .goto 4, 3), (64, .lconst 0, 1), (65, .lreturn, 1), (66, .lload_n 1, 1), (67, .lreturn, 1)]
theorem td_X8_narrowed : tb_X8_narrowed.all (fun q => decide (decode cX8_narrowed q.1 = .ok (q.2.1, q.2.2))) = true := by decide +kernel
theorem hd_X8_narrowed : yX8_narrowed.cls = RX8 ∧ yX8_narrowed.cls ≠ "java/lang/invoke/MethodHandle" ∧ yX8_narrowed.cls ≠ "java/lang/invoke/VarHandle" ∧ (parseMethodDescriptor yX8_narrowed.desc).map (fun d => d.parameters.length) = some 1 := by decide +kernel
theorem hs_X8_narrowed : yX8_narrowed.name ≠ "<init>" ∧ (parseMethodDescriptor yX8_narrowed.desc).map (fun d => d.parameters.length) = some 1 := by decide +kernel
theorem w_X8_narrowed {p : Program} {l : Launch} {e : Env} {s : State} {m : MethodId} {args : Array Value} {below : List Frame} {meth : Method} {c : Code} {D : va_G} {X : cc_X} {r : Int64} {st' : cc_S} (Cx : cc_C p s m args meth c cX8_narrowed 3 (some .long) RX8 D X) (fu : Nat) (x0 : Nat) (x1 : Int64) (st : cc_S) (hf : C_X8_narrowed X fu x0 x1 st = some (r, st')) {H : Heap} {locs : List Loc} {ls : Array Slot} (hl : lv_has ls 3 [(0, .ref (cx_a X x0)), (1, .long x1)]) (hM : cc_H D X s.heap st H locs) : W p l e (mm_R 0 0) s m args below meth c H locs 0 0 (MQ below (cc_Ql D X r st') args s 0 0 (cc_A X)) (F0 m 0 ls []) := by
  unfold C_X8_narrowed at hf
  refine lv_aload_n Cx.1 Cx.2.1 (dd_at td_X8_narrowed 0 rfl) rfl (lv_at hl 0 rfl) ?_
  obtain ⟨g1, hf⟩ := fc_of_gd hf
  refine cc_gI (ci := 10) (C := RX8) (T := TX8) (N := 3) (k := 1) (ref := "EclipsesKept$Tape") Cx hM g1 rfl cc_inX8 rfl (by decide) cw404 (fun _ h => h) (dd_at td_X8_narrowed 1 rfl) rfl ?_
  refine lv_topi (fun v2 ev2 => ?_)
  replace hf := fc_of_nm hf v2 ev2
  by_cases c3 : v2 = (0 : Int32)
  · replace hf := fc_of_t hf c3
    refine lv_tableIn (off := 36) (tgt := 40) Cx.1 Cx.2.1 (dd_at td_X8_narrowed 2 rfl) (by rw [c3]; decide) (by rw [c3]; decide) (by rw [c3]; decide) (by decide) ?_
    refine lv_lload_n Cx.1 Cx.2.1 (dd_at td_X8_narrowed 3 rfl) rfl (lv_at hl 1 rfl) ?_
    refine lv_l2i Cx.1 Cx.2.1 (dd_at td_X8_narrowed 4 rfl) rfl ?_
    refine lv_i2b Cx.1 Cx.2.1 (dd_at td_X8_narrowed 5 rfl) rfl ?_
    refine lv_i2l Cx.1 Cx.2.1 (dd_at td_X8_narrowed 6 rfl) rfl ?_
    exact cc_rl Cx hM (dd_at td_X8_narrowed 7 rfl) hf
  · replace hf := fc_of_f hf c3
    by_cases c4 : v2 = (1 : Int32)
    · replace hf := fc_of_t hf c4
      refine lv_tableIn (off := 41) (tgt := 45) Cx.1 Cx.2.1 (dd_at td_X8_narrowed 2 rfl) (by rw [c4]; decide) (by rw [c4]; decide) (by rw [c4]; decide) (by decide) ?_
      refine lv_lload_n Cx.1 Cx.2.1 (dd_at td_X8_narrowed 8 rfl) rfl (lv_at hl 1 rfl) ?_
      refine lv_l2i Cx.1 Cx.2.1 (dd_at td_X8_narrowed 9 rfl) rfl ?_
      refine lv_i2s Cx.1 Cx.2.1 (dd_at td_X8_narrowed 10 rfl) rfl ?_
      refine lv_i2l Cx.1 Cx.2.1 (dd_at td_X8_narrowed 11 rfl) rfl ?_
      exact cc_rl Cx hM (dd_at td_X8_narrowed 12 rfl) hf
    · replace hf := fc_of_f hf c4
      by_cases c5 : v2 = (2 : Int32)
      · replace hf := fc_of_t hf c5
        refine lv_tableIn (off := 46) (tgt := 50) Cx.1 Cx.2.1 (dd_at td_X8_narrowed 2 rfl) (by rw [c5]; decide) (by rw [c5]; decide) (by rw [c5]; decide) (by decide) ?_
        refine lv_lload_n Cx.1 Cx.2.1 (dd_at td_X8_narrowed 13 rfl) rfl (lv_at hl 1 rfl) ?_
        refine lv_l2i Cx.1 Cx.2.1 (dd_at td_X8_narrowed 14 rfl) rfl ?_
        refine lv_i2l Cx.1 Cx.2.1 (dd_at td_X8_narrowed 15 rfl) rfl ?_
        exact cc_rl Cx hM (dd_at td_X8_narrowed 16 rfl) hf
      · replace hf := fc_of_f hf c5
        by_cases c6 : v2 = (3 : Int32)
        · replace hf := fc_of_t hf c6
          refine lv_tableIn (off := 62) (tgt := 66) Cx.1 Cx.2.1 (dd_at td_X8_narrowed 2 rfl) (by rw [c6]; decide) (by rw [c6]; decide) (by rw [c6]; decide) (by decide) ?_
          refine lv_lload_n Cx.1 Cx.2.1 (dd_at td_X8_narrowed 25 rfl) rfl (lv_at hl 1 rfl) ?_
          exact cc_rl Cx hM (dd_at td_X8_narrowed 26 rfl) hf
        · replace hf := fc_of_f hf c6
          by_cases c7 : v2 = (4 : Int32)
          · replace hf := fc_of_t hf c7
            refine lv_tableIn (off := 50) (tgt := 54) Cx.1 Cx.2.1 (dd_at td_X8_narrowed 2 rfl) (by rw [c7]; decide) (by rw [c7]; decide) (by rw [c7]; decide) (by decide) ?_
            refine lv_lload_n Cx.1 Cx.2.1 (dd_at td_X8_narrowed 17 rfl) rfl (lv_at hl 1 rfl) ?_
            refine lv_lconst (v := (0 : Int64)) Cx.1 Cx.2.1 (dd_at td_X8_narrowed 18 rfl) (by decide) ?_
            refine W.lcmp Cx.1 Cx.2.1 (dd_at td_X8_narrowed 19 rfl) ?_
            refine lv_if_eq (tgt := 64) Cx.1 Cx.2.1 (dd_at td_X8_narrowed 20 rfl) (by decide) (fun c8 => ?_) (fun c8 => ?_)
            · replace hf := fc_of_t hf c8
              refine lv_lconst (v := (0 : Int64)) Cx.1 Cx.2.1 (dd_at td_X8_narrowed 23 rfl) (by decide) ?_
              exact cc_rl Cx hM (dd_at td_X8_narrowed 24 rfl) hf
            · replace hf := fc_of_f hf c8
              refine lv_lconst (v := (1 : Int64)) Cx.1 Cx.2.1 (dd_at td_X8_narrowed 21 rfl) (by decide) ?_
              refine lv_goto (tgt := 65) Cx.1 Cx.2.1 (dd_at td_X8_narrowed 22 rfl) (by decide) ?_
              exact cc_rl Cx hM (dd_at td_X8_narrowed 24 rfl) hf
          · replace hf := fc_of_f hf c7
            refine lv_tableOut (tgt := 66) Cx.1 Cx.2.1 (dd_at td_X8_narrowed 2 rfl) (by have q0 := lv_neT c3 (a := 0) (by decide); have q1 := lv_neT c4 (a := 1) (by decide); have q2 := lv_neT c5 (a := 2) (by decide); have q3 := lv_neT c6 (a := 3) (by decide); have q4 := lv_neT c7 (a := 4) (by decide); omega) (by decide) ?_
            refine lv_lload_n Cx.1 Cx.2.1 (dd_at td_X8_narrowed 25 rfl) rfl (lv_at hl 1 rfl) ?_
            exact cc_rl Cx hM (dd_at td_X8_narrowed 26 rfl) hf
theorem c_X8_narrowed (l : Launch) (D : va_G) (X : cc_X) (fu : Nat) (x0 : Nat) (x1 : Int64) (st : cc_S) : cc_Ml l D X yX8_narrowed cX8_narrowed 3 (some .long) 0 0 [.ref (cx_a X x0), .long x1] st (C_X8_narrowed X fu x0 x1 st) := by
  intro r st' hf
  refine cc_enter (cc := cX8_narrowed) (nL := 3) (ret := some .long) (by decide +kernel) rfl (Nat.le_of_ble_eq_true rfl) ?_
  intro p e s m args below meth c ls Cx hl hM
  exact w_X8_narrowed Cx fu x0 x1 st hf hl hM

/-! X10_place -/
def tb_X10_place : List (Nat × Instr × Nat) := [(0, .iload_n 0, 1), (1, .bipush 9, 2), (3, .imul, 1), (4, .iload_n 1, 1), (5, .iadd, 1), (6, .bipush 6, 2), (8, .imul, 1), (9, .iload_n 2, 1), (10, .iadd, 1), (11, .ireturn, 1)]
theorem td_X10_place : tb_X10_place.all (fun q => decide (decode cX10_place q.1 = .ok (q.2.1, q.2.2))) = true := by decide +kernel
theorem hd_X10_place : yX10_place.cls ≠ "java/lang/invoke/MethodHandle" ∧ yX10_place.cls ≠ "java/lang/invoke/VarHandle" ∧ (parseMethodDescriptor yX10_place.desc).map (fun d => d.parameters.length) = some 3 := by decide +kernel
theorem w_X10_place {p : Program} {l : Launch} {e : Env} {s : State} {m : MethodId} {args : Array Value} {below : List Frame} {meth : Method} {c : Code} {D : va_G} {X : cc_X} {r : Int32} {st' : cc_S} (Cx : cc_C p s m args meth c cX10_place 3 (some .int) RX10 D X) (fu : Nat) (x0 : Int32) (x1 : Int32) (x2 : Int32) (st : cc_S) (hf : C_X10_place X fu x0 x1 x2 st = some (r, st')) {H : Heap} {locs : List Loc} {ls : Array Slot} (hl : lv_has ls 3 [(0, .int x0), (1, .int x1), (2, .int x2)]) (hM : cc_H D X s.heap st H locs) : W p l e (mm_R 0 0) s m args below meth c H locs 0 0 (MQ below (cc_Qi D X r st') args s 0 0 (cc_A X)) (F0 m 0 ls []) := by
  unfold C_X10_place at hf
  refine lv_iload_n Cx.1 Cx.2.1 (dd_at td_X10_place 0 rfl) rfl (lv_at hl 0 rfl) ?_
  refine lv_bipush (v := (9 : Int32)) Cx.1 Cx.2.1 (dd_at td_X10_place 1 rfl) (by decide) ?_
  refine lv_imul Cx.1 Cx.2.1 (dd_at td_X10_place 2 rfl) ?_
  refine lv_iload_n Cx.1 Cx.2.1 (dd_at td_X10_place 3 rfl) rfl (lv_at hl 1 rfl) ?_
  refine lv_iadd Cx.1 Cx.2.1 (dd_at td_X10_place 4 rfl) ?_
  refine lv_bipush (v := (6 : Int32)) Cx.1 Cx.2.1 (dd_at td_X10_place 5 rfl) (by decide) ?_
  refine lv_imul Cx.1 Cx.2.1 (dd_at td_X10_place 6 rfl) ?_
  refine lv_iload_n Cx.1 Cx.2.1 (dd_at td_X10_place 7 rfl) rfl (lv_at hl 2 rfl) ?_
  refine lv_iadd Cx.1 Cx.2.1 (dd_at td_X10_place 8 rfl) ?_
  exact cc_ri Cx hM (dd_at td_X10_place 9 rfl) hf
theorem c_X10_place (l : Launch) (D : va_G) (X : cc_X) (fu : Nat) (x0 : Int32) (x1 : Int32) (x2 : Int32) (st : cc_S) : cc_Mi l D X yX10_place cX10_place 3 (some .int) 0 0 [.int x0, .int x1, .int x2] st (C_X10_place X fu x0 x1 x2 st) := by
  intro r st' hf
  refine cc_enter (cc := cX10_place) (nL := 3) (ret := some .int) (by decide +kernel) rfl (Nat.le_of_ble_eq_true rfl) ?_
  intro p e s m args below meth c ls Cx hl hM
  exact w_X10_place Cx fu x0 x1 x2 st hf hl hM

