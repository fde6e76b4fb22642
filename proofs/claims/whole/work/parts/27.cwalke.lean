/-! X11_onTheMean -/
def tb_X11_onTheMean : List (Nat × Instr × Nat) := [(0, .aload_n 0, 1), (1, .iload_n 1, 1), (2, .iload 4, 2), (4, .invokevirtual 163, 3), (7, .ifCond .ne 7, 3), (10, .ldc2_w 166, 3), (13, .lreturn, 1), (14, .aload_n 0, 1), (15, .getfield 24, 3), (18, .aload_n 0, 1), (19, .getfield 12, 3), (22, .iload_n 1, 1), (23, .aload_n 0, 1), (24, .getfield 12, 3), (27, .getfield 87, 3), (30, .invokevirtual 151, 3), (33, .aload_n 0, 1), (34, .getfield 24, 3), (37, .iload_n 1, 1), (38, .iload_n 2, 1), (39, .iload_n 3, 1), (40, .invokevirtual 155, 3), (43, .aload_n 0, 1), (44, .getfield 24, 3), (47, .getfield 168, 3), (50, .iload_n 1, 1), (51, .aaload, 1), (52, .aload_n 0, 1), (53, .getfield 12, 3), (56, .getfield 87, 3), (59, .laload, 1), (60, .aload_n 0, 1), (61, .getfield 24, 3), (64, .getfield 172, 3), (67, .iload_n 1, 1), (68, .laload, 1), (69, .iload 4, 2), (71, .invokestatic 176, 3), (74, .lreturn, 1)]
theorem td_X11_onTheMean : tb_X11_onTheMean.all (fun q => decide (decode cX11_onTheMean q.1 = .ok (q.2.1, q.2.2))) = true := by decide +kernel
theorem hd_X11_onTheMean : yX11_onTheMean.cls = RX11 ∧ yX11_onTheMean.cls ≠ "java/lang/invoke/MethodHandle" ∧ yX11_onTheMean.cls ≠ "java/lang/invoke/VarHandle" ∧ (parseMethodDescriptor yX11_onTheMean.desc).map (fun d => d.parameters.length) = some 4 := by decide +kernel
theorem hs_X11_onTheMean : yX11_onTheMean.name ≠ "<init>" ∧ (parseMethodDescriptor yX11_onTheMean.desc).map (fun d => d.parameters.length) = some 4 := by decide +kernel
theorem w_X11_onTheMean {p : Program} {l : Launch} {e : Env} {s : State} {m : MethodId} {args : Array Value} {below : List Frame} {meth : Method} {c : Code} {D : va_G} {X : cc_X} {r : Int64} {st' : cc_S} (Cx : cc_C p s m args meth c cX11_onTheMean 5 (some .long) RX11 D X) (fu : Nat) (x0 : Nat) (x1 : Int32) (x2 : Int32) (x3 : Int32) (x4 : Int32) (st : cc_S) (hf : C_X11_onTheMean X fu x0 x1 x2 x3 x4 st = some (r, st')) {H : Heap} {locs : List Loc} {ls : Array Slot} (hl : lv_has ls 5 [(0, .ref (cx_a X x0)), (1, .int x1), (2, .int x2), (3, .int x3), (4, .int x4)]) (hM : cc_H D X s.heap st H locs) : W p l e (mm_R 6 161) s m args below meth c H locs 0 0 (MQ below (cc_Ql D X r st') args s 0 0 (cc_A X)) (F0 m 0 ls []) := by
  unfold C_X11_onTheMean at hf
  refine lv_aload_n Cx.1 Cx.2.1 (dd_at td_X11_onTheMean 0 rfl) rfl (lv_at hl 0 rfl) ?_
  refine lv_iload_n Cx.1 Cx.2.1 (dd_at td_X11_onTheMean 1 rfl) rfl (lv_at hl 1 rfl) ?_
  refine lv_iload Cx.1 Cx.2.1 (dd_at td_X11_onTheMean 2 rfl) (lv_at hl 4 rfl) ?_
  obtain ⟨g1, hf⟩ := fc_of_gd hf
  obtain ⟨r4, st2, hx3, hf⟩ := fc_of_bn hf
  refine cc_ai hM (cc_rV (ci := 13) (As := [.int x1, .int x4]) (rest := []) (n := 2) Cx hM g1 rfl (c_X11_isAsked l D X fu x0 x1 x4 st r4 st2 hx3) (cc_gdV cw751 cw752 cw753 cw549 cw739) hd_X11_isAsked ⟨Nat.le_of_ble_eq_true rfl, Nat.le_of_ble_eq_true rfl⟩ rfl hl.1 rfl (Nat.le_of_ble_eq_true rfl) (dd_at td_X11_onTheMean 3 rfl) ⟨Nat.le_refl 0, Nat.le_refl 0⟩) (fun H locs hM => ?_)
  refine lv_if_ne (tgt := 14) Cx.1 Cx.2.1 (dd_at td_X11_onTheMean 4 rfl) (by decide) (fun c5 => ?_) (fun c5 => ?_)
  · replace hf := fc_of_f hf c5
    refine lv_aload_n Cx.1 Cx.2.1 (dd_at td_X11_onTheMean 7 rfl) rfl (lv_at hl 0 rfl) ?_
    refine cc_gO (ci := 13) (C := RX11) (T := TX11) (N := 8) (k := 2) (ref := "EclipsesKept") Cx hM g1 rfl cc_inX11 rfl (by decide) cw502 (fun _ h => h) (dd_at td_X11_onTheMean 8 rfl) rfl ?_
    show W p l e (mm_R 6 161) s m args below meth c H locs 0 0 (MQ below (cc_Ql D X r st') args s 0 0 (cc_A X)) (F0 m 18 ls [.ref (cx_a X 3)])
    refine lv_aload_n Cx.1 Cx.2.1 (dd_at td_X11_onTheMean 9 rfl) rfl (lv_at hl 0 rfl) ?_
    refine cc_gO (ci := 13) (C := RX11) (T := TX11) (N := 8) (k := 0) (ref := "EclipsesKept") Cx hM g1 rfl cc_inX11 rfl (by decide) cw498 (fun _ h => h) (dd_at td_X11_onTheMean 10 rfl) rfl ?_
    show W p l e (mm_R 6 161) s m args below meth c H locs 0 0 (MQ below (cc_Ql D X r st') args s 0 0 (cc_A X)) (F0 m 22 ls [.ref (cx_a X 1), .ref (cx_a X 3)])
    refine lv_iload_n Cx.1 Cx.2.1 (dd_at td_X11_onTheMean 11 rfl) rfl (lv_at hl 1 rfl) ?_
    refine lv_aload_n Cx.1 Cx.2.1 (dd_at td_X11_onTheMean 12 rfl) rfl (lv_at hl 0 rfl) ?_
    refine cc_gO (ci := 13) (C := RX11) (T := TX11) (N := 8) (k := 0) (ref := "EclipsesKept") Cx hM g1 rfl cc_inX11 rfl (by decide) cw498 (fun _ h => h) (dd_at td_X11_onTheMean 13 rfl) rfl ?_
    show W p l e (mm_R 6 161) s m args below meth c H locs 0 0 (MQ below (cc_Ql D X r st') args s 0 0 (cc_A X)) (F0 m 27 ls [.ref (cx_a X 1), .int x1, .ref (cx_a X 1), .ref (cx_a X 3)])
    obtain ⟨g6, hf⟩ := fc_of_gd hf
    refine cc_gI (ci := 9) (C := RX7) (T := TX7) (N := 17) (k := 13) (ref := "EclipsesKept$State") Cx hM g6 rfl cc_inX7 rfl (by decide) cw561 (fun _ h => h) (dd_at td_X11_onTheMean 14 rfl) rfl ?_
    obtain ⟨g7, hf⟩ := fc_of_gd hf
    obtain ⟨st8, hx9, hf⟩ := fc_of_bv hf
    refine cc_av hM (cc_rV (ci := 12) (As := [.ref (cx_a X 1), .int x1, .int (cc_I st2 1 13)]) (rest := []) (n := 3) Cx hM g7 rfl (c_X10_look l D X fu 3 1 x1 (cc_I st2 1 13) st2 st8 hx9) (cc_gdV cw754 cw755 cw756 cw431 cw433) hd_X10_look ⟨Nat.le_of_ble_eq_true rfl, Nat.le_of_ble_eq_true rfl⟩ rfl hl.1 rfl (Nat.le_of_ble_eq_true rfl) (dd_at td_X11_onTheMean 15 rfl) ⟨Nat.le_refl 0, Nat.le_refl 0⟩) (fun H locs hM => ?_)
    refine lv_aload_n Cx.1 Cx.2.1 (dd_at td_X11_onTheMean 16 rfl) rfl (lv_at hl 0 rfl) ?_
    refine cc_gO (ci := 13) (C := RX11) (T := TX11) (N := 8) (k := 2) (ref := "EclipsesKept") Cx hM g1 rfl cc_inX11 rfl (by decide) cw502 (fun _ h => h) (dd_at td_X11_onTheMean 17 rfl) rfl ?_
    show W p l e (mm_R 6 161) s m args below meth c H locs 0 0 (MQ below (cc_Ql D X r st') args s 0 0 (cc_A X)) (F0 m 37 ls [.ref (cx_a X 3)])
    refine lv_iload_n Cx.1 Cx.2.1 (dd_at td_X11_onTheMean 18 rfl) rfl (lv_at hl 1 rfl) ?_
    refine lv_iload_n Cx.1 Cx.2.1 (dd_at td_X11_onTheMean 19 rfl) rfl (lv_at hl 2 rfl) ?_
    refine lv_iload_n Cx.1 Cx.2.1 (dd_at td_X11_onTheMean 20 rfl) rfl (lv_at hl 3 rfl) ?_
    obtain ⟨st10, hx11, hf⟩ := fc_of_bv hf
    refine cc_av hM (cc_rV (ci := 12) (As := [.int x1, .int x2, .int x3]) (rest := []) (n := 3) Cx hM g7 rfl (c_X10_weigh l D X fu 3 x1 x2 x3 st8 st10 hx11) (cc_gdV cw757 cw452 cw453 cw431 cw450) hd_X10_weigh ⟨Nat.le_of_ble_eq_true rfl, Nat.le_of_ble_eq_true rfl⟩ rfl hl.1 rfl (Nat.le_of_ble_eq_true rfl) (dd_at td_X11_onTheMean 21 rfl) ⟨Nat.le_refl 0, Nat.le_refl 0⟩) (fun H locs hM => ?_)
    refine lv_aload_n Cx.1 Cx.2.1 (dd_at td_X11_onTheMean 22 rfl) rfl (lv_at hl 0 rfl) ?_
    refine cc_gO (ci := 13) (C := RX11) (T := TX11) (N := 8) (k := 2) (ref := "EclipsesKept") Cx hM g1 rfl cc_inX11 rfl (by decide) cw502 (fun _ h => h) (dd_at td_X11_onTheMean 23 rfl) rfl ?_
    show W p l e (mm_R 6 161) s m args below meth c H locs 0 0 (MQ below (cc_Ql D X r st') args s 0 0 (cc_A X)) (F0 m 47 ls [.ref (cx_a X 3)])
    refine cc_gA (ci := 12) (C := RX10) (T := TX10) (N := 8) (k := 2) (ref := "EclipsesKept$Years") Cx hM g7 rfl cc_inX10 rfl (by decide) cw749 (fun _ h => h) (dd_at td_X11_onTheMean 24 rfl) rfl ?_
    refine lv_iload_n Cx.1 Cx.2.1 (dd_at td_X11_onTheMean 25 rfl) rfl (lv_at hl 1 rfl) ?_
    obtain ⟨g12, hf⟩ := fc_of_gd hf
    refine cc_aldg Cx hM g12 (dd_at td_X11_onTheMean 26 rfl) ?_
    refine lv_aload_n Cx.1 Cx.2.1 (dd_at td_X11_onTheMean 27 rfl) rfl (lv_at hl 0 rfl) ?_
    refine cc_gO (ci := 13) (C := RX11) (T := TX11) (N := 8) (k := 0) (ref := "EclipsesKept") Cx hM g1 rfl cc_inX11 rfl (by decide) cw498 (fun _ h => h) (dd_at td_X11_onTheMean 28 rfl) rfl ?_
    show W p l e (mm_R 6 161) s m args below meth c H locs 0 0 (MQ below (cc_Ql D X r st') args s 0 0 (cc_A X)) (F0 m 56 ls [.ref (cx_a X 1), .ref (cx_b X 3 (100 * 2 + x1.toNatClampNeg))])
    refine cc_gI (ci := 9) (C := RX7) (T := TX7) (N := 17) (k := 13) (ref := "EclipsesKept$State") Cx hM g6 rfl cc_inX7 rfl (by decide) cw561 (fun _ h => h) (dd_at td_X11_onTheMean 29 rfl) rfl ?_
    obtain ⟨g13, hf⟩ := fc_of_gd hf
    refine cc_lald Cx hM g13 (dd_at td_X11_onTheMean 30 rfl) ?_
    refine lv_aload_n Cx.1 Cx.2.1 (dd_at td_X11_onTheMean 31 rfl) rfl (lv_at hl 0 rfl) ?_
    refine cc_gO (ci := 13) (C := RX11) (T := TX11) (N := 8) (k := 2) (ref := "EclipsesKept") Cx hM g1 rfl cc_inX11 rfl (by decide) cw502 (fun _ h => h) (dd_at td_X11_onTheMean 32 rfl) rfl ?_
    show W p l e (mm_R 6 161) s m args below meth c H locs 0 0 (MQ below (cc_Ql D X r st') args s 0 0 (cc_A X)) (F0 m 64 ls [.ref (cx_a X 3), .long (cc_J st10 3 (100 * 2 + x1.toNatClampNeg) (cc_I st10 1 13).toNatClampNeg)])
    refine cc_gA (ci := 12) (C := RX10) (T := TX10) (N := 8) (k := 1) (ref := "EclipsesKept$Years") Cx hM g7 rfl cc_inX10 rfl (by decide) cw750 (fun _ h => h) (dd_at td_X11_onTheMean 33 rfl) rfl ?_
    refine lv_iload_n Cx.1 Cx.2.1 (dd_at td_X11_onTheMean 34 rfl) rfl (lv_at hl 1 rfl) ?_
    obtain ⟨g14, hf⟩ := fc_of_gd hf
    refine cc_lald Cx hM g14 (dd_at td_X11_onTheMean 35 rfl) ?_
    refine lv_iload Cx.1 Cx.2.1 (dd_at td_X11_onTheMean 36 rfl) (lv_at hl 4 rfl) ?_
    obtain ⟨r17, st15, hx16, hf⟩ := fc_of_bn hf
    refine cc_all hM (cc_rS (As := [.long (cc_J st10 3 (100 * 2 + x1.toNatClampNeg) (cc_I st10 1 13).toNatClampNeg), .long (cc_J st10 3 1 x1.toNatClampNeg), .int x4]) (rest := []) (n := 3) Cx hM (c_X11_fraction l D X fu (cc_J st10 3 (100 * 2 + x1.toNatClampNeg) (cc_I st10 1 13).toNatClampNeg) (cc_J st10 3 1 x1.toNatClampNeg) x4 st10 r17 st15 hx16) (cc_gdS cw758 cw759 cw549 cw741) hd_X11_fraction ⟨Nat.le_of_ble_eq_true rfl, Nat.le_of_ble_eq_true rfl⟩ rfl hl.1 rfl (Nat.le_of_ble_eq_true rfl) (dd_at td_X11_onTheMean 37 rfl) ⟨Nat.le_refl 0, Nat.le_refl 0⟩) (fun H locs hM => ?_)
    exact cc_rl Cx hM (dd_at td_X11_onTheMean 38 rfl) hf
  · replace hf := fc_of_t hf c5
    refine lv_ldc2 (v := (-9223372036854775808 : Int64)) Cx.1 Cx.2.1 Cx.2.2.2.2.1 (Cx.2.2.2.2.2.1 _ cw748) (dd_at td_X11_onTheMean 5 rfl) ?_
    exact cc_rl Cx hM (dd_at td_X11_onTheMean 6 rfl) hf
theorem c_X11_onTheMean (l : Launch) (D : va_G) (X : cc_X) (fu : Nat) (x0 : Nat) (x1 : Int32) (x2 : Int32) (x3 : Int32) (x4 : Int32) (st : cc_S) : cc_Ml l D X yX11_onTheMean cX11_onTheMean 5 (some .long) 6 161 [.ref (cx_a X x0), .int x1, .int x2, .int x3, .int x4] st (C_X11_onTheMean X fu x0 x1 x2 x3 x4 st) := by
  intro r st' hf
  refine cc_enter (cc := cX11_onTheMean) (nL := 5) (ret := some .long) (by decide +kernel) rfl (Nat.le_of_ble_eq_true rfl) ?_
  intro p e s m args below meth c ls Cx hl hM
  exact w_X11_onTheMean Cx fu x0 x1 x2 x3 x4 st hf hl hM

/-! X11_mean -/
def tb_X11_mean : List (Nat × Instr × Nat) := [(0, .aload_n 0, 1), (1, .iload_n 1, 1), (2, .iconst 0, 1), (3, .iconst 0, 1), (4, .iload_n 2, 1), (5, .invokevirtual 147, 3), (8, .lreturn, 1)]
theorem td_X11_mean : tb_X11_mean.all (fun q => decide (decode cX11_mean q.1 = .ok (q.2.1, q.2.2))) = true := by decide +kernel
theorem hd_X11_mean : yX11_mean.cls = RX11 ∧ yX11_mean.cls ≠ "java/lang/invoke/MethodHandle" ∧ yX11_mean.cls ≠ "java/lang/invoke/VarHandle" ∧ (parseMethodDescriptor yX11_mean.desc).map (fun d => d.parameters.length) = some 2 := by decide +kernel
theorem hs_X11_mean : yX11_mean.name ≠ "<init>" ∧ (parseMethodDescriptor yX11_mean.desc).map (fun d => d.parameters.length) = some 2 := by decide +kernel
theorem w_X11_mean {p : Program} {l : Launch} {e : Env} {s : State} {m : MethodId} {args : Array Value} {below : List Frame} {meth : Method} {c : Code} {D : va_G} {X : cc_X} {r : Int64} {st' : cc_S} (Cx : cc_C p s m args meth c cX11_mean 3 (some .long) RX11 D X) (fu : Nat) (x0 : Nat) (x1 : Int32) (x2 : Int32) (st : cc_S) (hf : C_X11_mean X fu x0 x1 x2 st = some (r, st')) {H : Heap} {locs : List Loc} {ls : Array Slot} (hl : lv_has ls 3 [(0, .ref (cx_a X x0)), (1, .int x1), (2, .int x2)]) (hM : cc_H D X s.heap st H locs) : W p l e (mm_R 7 185) s m args below meth c H locs 0 0 (MQ below (cc_Ql D X r st') args s 0 0 (cc_A X)) (F0 m 0 ls []) := by
  unfold C_X11_mean at hf
  refine lv_aload_n Cx.1 Cx.2.1 (dd_at td_X11_mean 0 rfl) rfl (lv_at hl 0 rfl) ?_
  refine lv_iload_n Cx.1 Cx.2.1 (dd_at td_X11_mean 1 rfl) rfl (lv_at hl 1 rfl) ?_
  refine lv_iconst (v := (0 : Int32)) Cx.1 Cx.2.1 (dd_at td_X11_mean 2 rfl) (by decide) ?_
  refine lv_iconst (v := (0 : Int32)) Cx.1 Cx.2.1 (dd_at td_X11_mean 3 rfl) (by decide) ?_
  refine lv_iload_n Cx.1 Cx.2.1 (dd_at td_X11_mean 4 rfl) rfl (lv_at hl 2 rfl) ?_
  obtain ⟨g1, hf⟩ := fc_of_gd hf
  obtain ⟨r4, st2, hx3, hf⟩ := fc_of_bn hf
  refine cc_all hM (cc_rV (ci := 13) (As := [.int x1, .int (0 : Int32), .int (0 : Int32), .int x2]) (rest := []) (n := 4) Cx hM g1 rfl (c_X11_onTheMean l D X fu x0 x1 (0 : Int32) (0 : Int32) x2 st r4 st2 hx3) (cc_gdV cw761 cw762 cw763 cw549 cw760) hd_X11_onTheMean ⟨Nat.le_of_ble_eq_true rfl, Nat.le_of_ble_eq_true rfl⟩ rfl hl.1 rfl (Nat.le_of_ble_eq_true rfl) (dd_at td_X11_mean 5 rfl) ⟨Nat.le_refl 0, Nat.le_refl 0⟩) (fun H locs hM => ?_)
  exact cc_rl Cx hM (dd_at td_X11_mean 6 rfl) hf
theorem c_X11_mean (l : Launch) (D : va_G) (X : cc_X) (fu : Nat) (x0 : Nat) (x1 : Int32) (x2 : Int32) (st : cc_S) : cc_Ml l D X yX11_mean cX11_mean 3 (some .long) 7 185 [.ref (cx_a X x0), .int x1, .int x2] st (C_X11_mean X fu x0 x1 x2 st) := by
  intro r st' hf
  refine cc_enter (cc := cX11_mean) (nL := 3) (ret := some .long) (by decide +kernel) rfl (Nat.le_of_ble_eq_true rfl) ?_
  intro p e s m args below meth c ls Cx hl hM
  exact w_X11_mean Cx fu x0 x1 x2 st hf hl hM

/-! X11_wise -/
def tb_X11_wise : List (Nat × Instr × Nat) := [(0, .aload_n 0, 1), (1, .getfield 12, 3), (4, .iload_n 1, 1), (5, .invokevirtual 94, 3), (8, .ifCond .ne 5, 3), (11, .iconst (-1), 1), (12, .ireturn, 1), (13, .iload_n 2, 1), (14, .iconst 1, 1), (15, .if_icmp .lt 9, 3), (18, .iload_n 2, 1), (19, .bipush 8, 2), (21, .if_icmp .le 6, 3), (24, .bipush (-2), 2), (26, .ireturn, 1), (27, .aload_n 0, 1), (28, .getfield 24, 3), (31, .aload_n 0, 1), (32, .getfield 12, 3), (35, .iload_n 2, 1), (36, .aload_n 0, 1), (37, .getfield 12, 3), (40, .getfield 87, 3), (43, .invokevirtual 151, 3), (46, .aload_n 0, 1), (47, .getfield 24, 3), (50, .iload_n 2, 1), (51, .iconst 0, 1), (52, .iconst 0, 1), (53, .invokevirtual 155, 3), (56, .aload_n 0, 1), (57, .getfield 24, 3), (60, .iload_n 1, 1), (61, .iload_n 2, 1), (62, .aload_n 0, 1), (63, .getfield 12, 3), (66, .getfield 87, 3), (69, .iconst 0, 1), (70, .iconst 0, 1), (71, .invokevirtual 159, 3), (74, .ifCond .eq 7, 3), (77, .iconst 1, 1), (78, .goto 4, 3), (81, .iconst 0, 1), (82, .ireturn, 1)]
theorem td_X11_wise : tb_X11_wise.all (fun q => decide (decode cX11_wise q.1 = .ok (q.2.1, q.2.2))) = true := by decide +kernel
theorem hd_X11_wise : yX11_wise.cls = RX11 ∧ yX11_wise.cls ≠ "java/lang/invoke/MethodHandle" ∧ yX11_wise.cls ≠ "java/lang/invoke/VarHandle" ∧ (parseMethodDescriptor yX11_wise.desc).map (fun d => d.parameters.length) = some 2 := by decide +kernel
theorem hs_X11_wise : yX11_wise.name ≠ "<init>" ∧ (parseMethodDescriptor yX11_wise.desc).map (fun d => d.parameters.length) = some 2 := by decide +kernel
theorem w_X11_wise {p : Program} {l : Launch} {e : Env} {s : State} {m : MethodId} {args : Array Value} {below : List Frame} {meth : Method} {c : Code} {D : va_G} {X : cc_X} {r : Int32} {st' : cc_S} (Cx : cc_C p s m args meth c cX11_wise 3 (some .int) RX11 D X) (fu : Nat) (x0 : Nat) (x1 : Int32) (x2 : Int32) (st : cc_S) (hf : C_X11_wise X fu x0 x1 x2 st = some (r, st')) {H : Heap} {locs : List Loc} {ls : Array Slot} (hl : lv_has ls 3 [(0, .ref (cx_a X x0)), (1, .int x1), (2, .int x2)]) (hM : cc_H D X s.heap st H locs) : W p l e (mm_R 6 161) s m args below meth c H locs 0 0 (MQ below (cc_Qi D X r st') args s 0 0 (cc_A X)) (F0 m 0 ls []) := by
  unfold C_X11_wise at hf
  refine lv_aload_n Cx.1 Cx.2.1 (dd_at td_X11_wise 0 rfl) rfl (lv_at hl 0 rfl) ?_
  obtain ⟨g1, hf⟩ := fc_of_gd hf
  refine cc_gO (ci := 13) (C := RX11) (T := TX11) (N := 8) (k := 0) (ref := "EclipsesKept") Cx hM g1 rfl cc_inX11 rfl (by decide) cw498 (fun _ h => h) (dd_at td_X11_wise 1 rfl) rfl ?_
  show W p l e (mm_R 6 161) s m args below meth c H locs 0 0 (MQ below (cc_Qi D X r st') args s 0 0 (cc_A X)) (F0 m 4 ls [.ref (cx_a X 1)])
  refine lv_iload_n Cx.1 Cx.2.1 (dd_at td_X11_wise 2 rfl) rfl (lv_at hl 1 rfl) ?_
  obtain ⟨g2, hf⟩ := fc_of_gd hf
  obtain ⟨r5, st3, hx4, hf⟩ := fc_of_bn hf
  refine cc_ai hM (cc_rV (ci := 9) (As := [.int x1]) (rest := []) (n := 1) Cx hM g2 rfl (c_X7_has l D X fu 1 x1 st r5 st3 hx4) (cc_gdV cw565 cw343 cw344 cw345 cw340) hd_X7_has ⟨Nat.le_of_ble_eq_true rfl, Nat.le_of_ble_eq_true rfl⟩ rfl hl.1 rfl (Nat.le_of_ble_eq_true rfl) (dd_at td_X11_wise 3 rfl) ⟨Nat.le_refl 0, Nat.le_refl 0⟩) (fun H locs hM => ?_)
  refine lv_if_ne (tgt := 13) Cx.1 Cx.2.1 (dd_at td_X11_wise 4 rfl) (by decide) (fun c6 => ?_) (fun c6 => ?_)
  · replace hf := fc_of_f hf c6
    refine lv_iload_n Cx.1 Cx.2.1 (dd_at td_X11_wise 7 rfl) rfl (lv_at hl 2 rfl) ?_
    refine lv_iconst (v := (1 : Int32)) Cx.1 Cx.2.1 (dd_at td_X11_wise 8 rfl) (by decide) ?_
    refine lv_icmp_lt (tgt := 24) Cx.1 Cx.2.1 (dd_at td_X11_wise 9 rfl) (by decide) (fun c7 => ?_) (fun c7 => ?_)
    · replace hf := fc_of_t hf c7
      refine lv_bipush (v := (-2 : Int32)) Cx.1 Cx.2.1 (dd_at td_X11_wise 13 rfl) (by decide) ?_
      exact cc_ri Cx hM (dd_at td_X11_wise 14 rfl) hf
    · replace hf := fc_of_f hf c7
      refine lv_iload_n Cx.1 Cx.2.1 (dd_at td_X11_wise 10 rfl) rfl (lv_at hl 2 rfl) ?_
      refine lv_bipush (v := (8 : Int32)) Cx.1 Cx.2.1 (dd_at td_X11_wise 11 rfl) (by decide) ?_
      refine lv_icmp_le (tgt := 27) Cx.1 Cx.2.1 (dd_at td_X11_wise 12 rfl) (by decide) (fun c8 => ?_) (fun c8 => ?_)
      · replace hf := fc_of_t hf c8
        refine lv_aload_n Cx.1 Cx.2.1 (dd_at td_X11_wise 15 rfl) rfl (lv_at hl 0 rfl) ?_
        refine cc_gO (ci := 13) (C := RX11) (T := TX11) (N := 8) (k := 2) (ref := "EclipsesKept") Cx hM g1 rfl cc_inX11 rfl (by decide) cw502 (fun _ h => h) (dd_at td_X11_wise 16 rfl) rfl ?_
        show W p l e (mm_R 6 161) s m args below meth c H locs 0 0 (MQ below (cc_Qi D X r st') args s 0 0 (cc_A X)) (F0 m 31 ls [.ref (cx_a X 3)])
        refine lv_aload_n Cx.1 Cx.2.1 (dd_at td_X11_wise 17 rfl) rfl (lv_at hl 0 rfl) ?_
        refine cc_gO (ci := 13) (C := RX11) (T := TX11) (N := 8) (k := 0) (ref := "EclipsesKept") Cx hM g1 rfl cc_inX11 rfl (by decide) cw498 (fun _ h => h) (dd_at td_X11_wise 18 rfl) rfl ?_
        show W p l e (mm_R 6 161) s m args below meth c H locs 0 0 (MQ below (cc_Qi D X r st') args s 0 0 (cc_A X)) (F0 m 35 ls [.ref (cx_a X 1), .ref (cx_a X 3)])
        refine lv_iload_n Cx.1 Cx.2.1 (dd_at td_X11_wise 19 rfl) rfl (lv_at hl 2 rfl) ?_
        refine lv_aload_n Cx.1 Cx.2.1 (dd_at td_X11_wise 20 rfl) rfl (lv_at hl 0 rfl) ?_
        refine cc_gO (ci := 13) (C := RX11) (T := TX11) (N := 8) (k := 0) (ref := "EclipsesKept") Cx hM g1 rfl cc_inX11 rfl (by decide) cw498 (fun _ h => h) (dd_at td_X11_wise 21 rfl) rfl ?_
        show W p l e (mm_R 6 161) s m args below meth c H locs 0 0 (MQ below (cc_Qi D X r st') args s 0 0 (cc_A X)) (F0 m 40 ls [.ref (cx_a X 1), .int x2, .ref (cx_a X 1), .ref (cx_a X 3)])
        refine cc_gI (ci := 9) (C := RX7) (T := TX7) (N := 17) (k := 13) (ref := "EclipsesKept$State") Cx hM g2 rfl cc_inX7 rfl (by decide) cw561 (fun _ h => h) (dd_at td_X11_wise 22 rfl) rfl ?_
        obtain ⟨g9, hf⟩ := fc_of_gd hf
        obtain ⟨st10, hx11, hf⟩ := fc_of_bv hf
        refine cc_av hM (cc_rV (ci := 12) (As := [.ref (cx_a X 1), .int x2, .int (cc_I st3 1 13)]) (rest := []) (n := 3) Cx hM g9 rfl (c_X10_look l D X fu 3 1 x2 (cc_I st3 1 13) st3 st10 hx11) (cc_gdV cw754 cw755 cw756 cw431 cw433) hd_X10_look ⟨Nat.le_of_ble_eq_true rfl, Nat.le_of_ble_eq_true rfl⟩ rfl hl.1 rfl (Nat.le_of_ble_eq_true rfl) (dd_at td_X11_wise 23 rfl) ⟨Nat.le_refl 0, Nat.le_refl 0⟩) (fun H locs hM => ?_)
        refine lv_aload_n Cx.1 Cx.2.1 (dd_at td_X11_wise 24 rfl) rfl (lv_at hl 0 rfl) ?_
        refine cc_gO (ci := 13) (C := RX11) (T := TX11) (N := 8) (k := 2) (ref := "EclipsesKept") Cx hM g1 rfl cc_inX11 rfl (by decide) cw502 (fun _ h => h) (dd_at td_X11_wise 25 rfl) rfl ?_
        show W p l e (mm_R 6 161) s m args below meth c H locs 0 0 (MQ below (cc_Qi D X r st') args s 0 0 (cc_A X)) (F0 m 50 ls [.ref (cx_a X 3)])
        refine lv_iload_n Cx.1 Cx.2.1 (dd_at td_X11_wise 26 rfl) rfl (lv_at hl 2 rfl) ?_
        refine lv_iconst (v := (0 : Int32)) Cx.1 Cx.2.1 (dd_at td_X11_wise 27 rfl) (by decide) ?_
        refine lv_iconst (v := (0 : Int32)) Cx.1 Cx.2.1 (dd_at td_X11_wise 28 rfl) (by decide) ?_
        obtain ⟨st12, hx13, hf⟩ := fc_of_bv hf
        refine cc_av hM (cc_rV (ci := 12) (As := [.int x2, .int (0 : Int32), .int (0 : Int32)]) (rest := []) (n := 3) Cx hM g9 rfl (c_X10_weigh l D X fu 3 x2 (0 : Int32) (0 : Int32) st10 st12 hx13) (cc_gdV cw757 cw452 cw453 cw431 cw450) hd_X10_weigh ⟨Nat.le_of_ble_eq_true rfl, Nat.le_of_ble_eq_true rfl⟩ rfl hl.1 rfl (Nat.le_of_ble_eq_true rfl) (dd_at td_X11_wise 29 rfl) ⟨Nat.le_refl 0, Nat.le_refl 0⟩) (fun H locs hM => ?_)
        refine lv_aload_n Cx.1 Cx.2.1 (dd_at td_X11_wise 30 rfl) rfl (lv_at hl 0 rfl) ?_
        refine cc_gO (ci := 13) (C := RX11) (T := TX11) (N := 8) (k := 2) (ref := "EclipsesKept") Cx hM g1 rfl cc_inX11 rfl (by decide) cw502 (fun _ h => h) (dd_at td_X11_wise 31 rfl) rfl ?_
        show W p l e (mm_R 6 161) s m args below meth c H locs 0 0 (MQ below (cc_Qi D X r st') args s 0 0 (cc_A X)) (F0 m 60 ls [.ref (cx_a X 3)])
        refine lv_iload_n Cx.1 Cx.2.1 (dd_at td_X11_wise 32 rfl) rfl (lv_at hl 1 rfl) ?_
        refine lv_iload_n Cx.1 Cx.2.1 (dd_at td_X11_wise 33 rfl) rfl (lv_at hl 2 rfl) ?_
        refine lv_aload_n Cx.1 Cx.2.1 (dd_at td_X11_wise 34 rfl) rfl (lv_at hl 0 rfl) ?_
        refine cc_gO (ci := 13) (C := RX11) (T := TX11) (N := 8) (k := 0) (ref := "EclipsesKept") Cx hM g1 rfl cc_inX11 rfl (by decide) cw498 (fun _ h => h) (dd_at td_X11_wise 35 rfl) rfl ?_
        show W p l e (mm_R 6 161) s m args below meth c H locs 0 0 (MQ below (cc_Qi D X r st') args s 0 0 (cc_A X)) (F0 m 66 ls [.ref (cx_a X 1), .int x2, .int x1, .ref (cx_a X 3)])
        refine cc_gI (ci := 9) (C := RX7) (T := TX7) (N := 17) (k := 13) (ref := "EclipsesKept$State") Cx hM g2 rfl cc_inX7 rfl (by decide) cw561 (fun _ h => h) (dd_at td_X11_wise 36 rfl) rfl ?_
        refine lv_iconst (v := (0 : Int32)) Cx.1 Cx.2.1 (dd_at td_X11_wise 37 rfl) (by decide) ?_
        refine lv_iconst (v := (0 : Int32)) Cx.1 Cx.2.1 (dd_at td_X11_wise 38 rfl) (by decide) ?_
        obtain ⟨r16, st14, hx15, hf⟩ := fc_of_bn hf
        refine cc_ai hM (cc_rV (ci := 12) (As := [.int x1, .int x2, .int (cc_I st12 1 13), .int (0 : Int32), .int (0 : Int32)]) (rest := []) (n := 5) Cx hM g9 rfl (c_X10_serves l D X fu 3 x1 x2 (cc_I st12 1 13) (0 : Int32) (0 : Int32) st12 r16 st14 hx15) (cc_gdV cw765 cw445 cw446 cw431 cw436) hd_X10_serves ⟨Nat.le_of_ble_eq_true rfl, Nat.le_of_ble_eq_true rfl⟩ rfl hl.1 rfl (Nat.le_of_ble_eq_true rfl) (dd_at td_X11_wise 39 rfl) ⟨Nat.le_refl 0, Nat.le_refl 0⟩) (fun H locs hM => ?_)
        refine lv_if_eq (tgt := 81) Cx.1 Cx.2.1 (dd_at td_X11_wise 40 rfl) (by decide) (fun c17 => ?_) (fun c17 => ?_)
        · replace hf := fc_of_t hf c17
          refine lv_iconst (v := (0 : Int32)) Cx.1 Cx.2.1 (dd_at td_X11_wise 43 rfl) (by decide) ?_
          exact cc_ri Cx hM (dd_at td_X11_wise 44 rfl) hf
        · replace hf := fc_of_f hf c17
          refine lv_iconst (v := (1 : Int32)) Cx.1 Cx.2.1 (dd_at td_X11_wise 41 rfl) (by decide) ?_
          refine lv_goto (tgt := 82) Cx.1 Cx.2.1 (dd_at td_X11_wise 42 rfl) (by decide) ?_
          exact cc_ri Cx hM (dd_at td_X11_wise 44 rfl) hf
      · replace hf := fc_of_f hf c8
        refine lv_bipush (v := (-2 : Int32)) Cx.1 Cx.2.1 (dd_at td_X11_wise 13 rfl) (by decide) ?_
        exact cc_ri Cx hM (dd_at td_X11_wise 14 rfl) hf
  · replace hf := fc_of_t hf c6
    refine lv_iconst (v := (-1 : Int32)) Cx.1 Cx.2.1 (dd_at td_X11_wise 5 rfl) (by decide) ?_
    exact cc_ri Cx hM (dd_at td_X11_wise 6 rfl) hf
theorem c_X11_wise (l : Launch) (D : va_G) (X : cc_X) (fu : Nat) (x0 : Nat) (x1 : Int32) (x2 : Int32) (st : cc_S) : cc_Mi l D X yX11_wise cX11_wise 3 (some .int) 6 161 [.ref (cx_a X x0), .int x1, .int x2] st (C_X11_wise X fu x0 x1 x2 st) := by
  intro r st' hf
  refine cc_enter (cc := cX11_wise) (nL := 3) (ret := some .int) (by decide +kernel) rfl (Nat.le_of_ble_eq_true rfl) ?_
  intro p e s m args below meth c ls Cx hl hM
  exact w_X11_wise Cx fu x0 x1 x2 st hf hl hM

/-! X11_price -/
def tb_X11_price : List (Nat × Instr × Nat) := [(0, .aload_n 0, 1), (1, .iload_n 1, 1), (2, .iload_n 2, 1), (3, .invokevirtual 163, 3), (6, .ifCond .eq 15, 3), (9, .aload_n 0, 1), (10, .getfield 12, 3), (13, .getfield 87, 3), (16, .bipush 8, 2), (18, .if_icmp .lt 7, 3), (21, .ldc2_w 166, 3), (24, .lreturn, 1), (25, .aload_n 0, 1), (26, .getfield 12, 3), (29, .getfield 87, 3), (32, .iconst 1, 1), (33, .iadd, 1), (34, .istore_n 3, 1), (35, .aload_n 0, 1), (36, .getfield 24, 3), (39, .aload_n 0, 1), (40, .getfield 12, 3), (43, .iload_n 1, 1), (44, .iload_n 3, 1), (45, .invokevirtual 151, 3), (48, .aload_n 0, 1), (49, .getfield 24, 3), (52, .iload_n 1, 1), (53, .iconst 0, 1), (54, .iconst 0, 1), (55, .invokevirtual 155, 3), (58, .aload_n 0, 1), (59, .getfield 24, 3), (62, .getfield 168, 3), (65, .iload_n 1, 1), (66, .aaload, 1), (67, .iload_n 3, 1), (68, .laload, 1), (69, .aload_n 0, 1), (70, .getfield 24, 3), (73, .getfield 168, 3), (76, .iload_n 1, 1), (77, .aaload, 1), (78, .aload_n 0, 1), (79, .getfield 12, 3), (82, .getfield 87, 3), (85, .laload, 1), (86, .lsub, 1), (87, .aload_n 0, 1), (88, .getfield 24, 3), (91, .getfield 172, 3), (94, .iload_n 1, 1), (95, .laload, 1), (96, .iload_n 2, 1), (97, .invokestatic 176, 3), (100, .lreturn, 1)]
theorem td_X11_price : tb_X11_price.all (fun q => decide (decode cX11_price q.1 = .ok (q.2.1, q.2.2))) = true := by decide +kernel
theorem hd_X11_price : yX11_price.cls = RX11 ∧ yX11_price.cls ≠ "java/lang/invoke/MethodHandle" ∧ yX11_price.cls ≠ "java/lang/invoke/VarHandle" ∧ (parseMethodDescriptor yX11_price.desc).map (fun d => d.parameters.length) = some 2 := by decide +kernel
theorem hs_X11_price : yX11_price.name ≠ "<init>" ∧ (parseMethodDescriptor yX11_price.desc).map (fun d => d.parameters.length) = some 2 := by decide +kernel
theorem w_X11_price {p : Program} {l : Launch} {e : Env} {s : State} {m : MethodId} {args : Array Value} {below : List Frame} {meth : Method} {c : Code} {D : va_G} {X : cc_X} {r : Int64} {st' : cc_S} (Cx : cc_C p s m args meth c cX11_price 4 (some .long) RX11 D X) (fu : Nat) (x0 : Nat) (x1 : Int32) (x2 : Int32) (st : cc_S) (hf : C_X11_price X fu x0 x1 x2 st = some (r, st')) {H : Heap} {locs : List Loc} {ls : Array Slot} (hl : lv_has ls 4 [(0, .ref (cx_a X x0)), (1, .int x1), (2, .int x2)]) (hM : cc_H D X s.heap st H locs) : W p l e (mm_R 6 161) s m args below meth c H locs 0 0 (MQ below (cc_Ql D X r st') args s 0 0 (cc_A X)) (F0 m 0 ls []) := by
  unfold C_X11_price at hf
  refine lv_aload_n Cx.1 Cx.2.1 (dd_at td_X11_price 0 rfl) rfl (lv_at hl 0 rfl) ?_
  refine lv_iload_n Cx.1 Cx.2.1 (dd_at td_X11_price 1 rfl) rfl (lv_at hl 1 rfl) ?_
  refine lv_iload_n Cx.1 Cx.2.1 (dd_at td_X11_price 2 rfl) rfl (lv_at hl 2 rfl) ?_
  obtain ⟨g1, hf⟩ := fc_of_gd hf
  obtain ⟨r4, st2, hx3, hf⟩ := fc_of_bn hf
  refine cc_ai hM (cc_rV (ci := 13) (As := [.int x1, .int x2]) (rest := []) (n := 2) Cx hM g1 rfl (c_X11_isAsked l D X fu x0 x1 x2 st r4 st2 hx3) (cc_gdV cw751 cw752 cw753 cw549 cw739) hd_X11_isAsked ⟨Nat.le_of_ble_eq_true rfl, Nat.le_of_ble_eq_true rfl⟩ rfl hl.1 rfl (Nat.le_of_ble_eq_true rfl) (dd_at td_X11_price 3 rfl) ⟨Nat.le_refl 0, Nat.le_refl 0⟩) (fun H locs hM => ?_)
  refine lv_if_eq (tgt := 21) Cx.1 Cx.2.1 (dd_at td_X11_price 4 rfl) (by decide) (fun c5 => ?_) (fun c5 => ?_)
  · replace hf := fc_of_t hf c5
    refine lv_ldc2 (v := (-9223372036854775808 : Int64)) Cx.1 Cx.2.1 Cx.2.2.2.2.1 (Cx.2.2.2.2.2.1 _ cw748) (dd_at td_X11_price 10 rfl) ?_
    exact cc_rl Cx hM (dd_at td_X11_price 11 rfl) hf
  · replace hf := fc_of_f hf c5
    refine lv_aload_n Cx.1 Cx.2.1 (dd_at td_X11_price 5 rfl) rfl (lv_at hl 0 rfl) ?_
    refine cc_gO (ci := 13) (C := RX11) (T := TX11) (N := 8) (k := 0) (ref := "EclipsesKept") Cx hM g1 rfl cc_inX11 rfl (by decide) cw498 (fun _ h => h) (dd_at td_X11_price 6 rfl) rfl ?_
    show W p l e (mm_R 6 161) s m args below meth c H locs 0 0 (MQ below (cc_Ql D X r st') args s 0 0 (cc_A X)) (F0 m 13 ls [.ref (cx_a X 1)])
    obtain ⟨g6, hf⟩ := fc_of_gd hf
    refine cc_gI (ci := 9) (C := RX7) (T := TX7) (N := 17) (k := 13) (ref := "EclipsesKept$State") Cx hM g6 rfl cc_inX7 rfl (by decide) cw561 (fun _ h => h) (dd_at td_X11_price 7 rfl) rfl ?_
    refine lv_bipush (v := (8 : Int32)) Cx.1 Cx.2.1 (dd_at td_X11_price 8 rfl) (by decide) ?_
    refine lv_icmp_lt (tgt := 25) Cx.1 Cx.2.1 (dd_at td_X11_price 9 rfl) (by decide) (fun c7 => ?_) (fun c7 => ?_)
    · replace hf := fc_of_t hf c7
      refine lv_aload_n Cx.1 Cx.2.1 (dd_at td_X11_price 12 rfl) rfl (lv_at hl 0 rfl) ?_
      refine cc_gO (ci := 13) (C := RX11) (T := TX11) (N := 8) (k := 0) (ref := "EclipsesKept") Cx hM g1 rfl cc_inX11 rfl (by decide) cw498 (fun _ h => h) (dd_at td_X11_price 13 rfl) rfl ?_
      show W p l e (mm_R 6 161) s m args below meth c H locs 0 0 (MQ below (cc_Ql D X r st') args s 0 0 (cc_A X)) (F0 m 29 ls [.ref (cx_a X 1)])
      refine cc_gI (ci := 9) (C := RX7) (T := TX7) (N := 17) (k := 13) (ref := "EclipsesKept$State") Cx hM g6 rfl cc_inX7 rfl (by decide) cw561 (fun _ h => h) (dd_at td_X11_price 14 rfl) rfl ?_
      refine lv_iconst (v := (1 : Int32)) Cx.1 Cx.2.1 (dd_at td_X11_price 15 rfl) (by decide) ?_
      refine lv_iadd Cx.1 Cx.2.1 (dd_at td_X11_price 16 rfl) ?_
      refine lv_topi (fun v8 ev8 => ?_)
      replace hf := fc_of_nm hf v8 ev8
      refine lv_istore_n (lv' := [(3, .int v8), (0, .ref (cx_a X x0)), (1, .int x1), (2, .int x2)]) Cx.1 Cx.2.1 (dd_at td_X11_price 17 rfl) rfl hl (by decide) rfl (fun ls hl => ?_)
      refine lv_aload_n Cx.1 Cx.2.1 (dd_at td_X11_price 18 rfl) rfl (lv_at hl 1 rfl) ?_
      refine cc_gO (ci := 13) (C := RX11) (T := TX11) (N := 8) (k := 2) (ref := "EclipsesKept") Cx hM g1 rfl cc_inX11 rfl (by decide) cw502 (fun _ h => h) (dd_at td_X11_price 19 rfl) rfl ?_
      show W p l e (mm_R 6 161) s m args below meth c H locs 0 0 (MQ below (cc_Ql D X r st') args s 0 0 (cc_A X)) (F0 m 39 ls [.ref (cx_a X 3)])
      refine lv_aload_n Cx.1 Cx.2.1 (dd_at td_X11_price 20 rfl) rfl (lv_at hl 1 rfl) ?_
      refine cc_gO (ci := 13) (C := RX11) (T := TX11) (N := 8) (k := 0) (ref := "EclipsesKept") Cx hM g1 rfl cc_inX11 rfl (by decide) cw498 (fun _ h => h) (dd_at td_X11_price 21 rfl) rfl ?_
      show W p l e (mm_R 6 161) s m args below meth c H locs 0 0 (MQ below (cc_Ql D X r st') args s 0 0 (cc_A X)) (F0 m 43 ls [.ref (cx_a X 1), .ref (cx_a X 3)])
      refine lv_iload_n Cx.1 Cx.2.1 (dd_at td_X11_price 22 rfl) rfl (lv_at hl 2 rfl) ?_
      refine lv_iload_n Cx.1 Cx.2.1 (dd_at td_X11_price 23 rfl) rfl (lv_at hl 0 rfl) ?_
      obtain ⟨g9, hf⟩ := fc_of_gd hf
      obtain ⟨st10, hx11, hf⟩ := fc_of_bv hf
      refine cc_av hM (cc_rV (ci := 12) (As := [.ref (cx_a X 1), .int x1, .int v8]) (rest := []) (n := 3) Cx hM g9 rfl (c_X10_look l D X fu 3 1 x1 v8 st2 st10 hx11) (cc_gdV cw754 cw755 cw756 cw431 cw433) hd_X10_look ⟨Nat.le_of_ble_eq_true rfl, Nat.le_of_ble_eq_true rfl⟩ rfl hl.1 rfl (Nat.le_of_ble_eq_true rfl) (dd_at td_X11_price 24 rfl) ⟨Nat.le_refl 0, Nat.le_refl 0⟩) (fun H locs hM => ?_)
      refine lv_aload_n Cx.1 Cx.2.1 (dd_at td_X11_price 25 rfl) rfl (lv_at hl 1 rfl) ?_
      refine cc_gO (ci := 13) (C := RX11) (T := TX11) (N := 8) (k := 2) (ref := "EclipsesKept") Cx hM g1 rfl cc_inX11 rfl (by decide) cw502 (fun _ h => h) (dd_at td_X11_price 26 rfl) rfl ?_
      show W p l e (mm_R 6 161) s m args below meth c H locs 0 0 (MQ below (cc_Ql D X r st') args s 0 0 (cc_A X)) (F0 m 52 ls [.ref (cx_a X 3)])
      refine lv_iload_n Cx.1 Cx.2.1 (dd_at td_X11_price 27 rfl) rfl (lv_at hl 2 rfl) ?_
      refine lv_iconst (v := (0 : Int32)) Cx.1 Cx.2.1 (dd_at td_X11_price 28 rfl) (by decide) ?_
      refine lv_iconst (v := (0 : Int32)) Cx.1 Cx.2.1 (dd_at td_X11_price 29 rfl) (by decide) ?_
      obtain ⟨st12, hx13, hf⟩ := fc_of_bv hf
      refine cc_av hM (cc_rV (ci := 12) (As := [.int x1, .int (0 : Int32), .int (0 : Int32)]) (rest := []) (n := 3) Cx hM g9 rfl (c_X10_weigh l D X fu 3 x1 (0 : Int32) (0 : Int32) st10 st12 hx13) (cc_gdV cw757 cw452 cw453 cw431 cw450) hd_X10_weigh ⟨Nat.le_of_ble_eq_true rfl, Nat.le_of_ble_eq_true rfl⟩ rfl hl.1 rfl (Nat.le_of_ble_eq_true rfl) (dd_at td_X11_price 30 rfl) ⟨Nat.le_refl 0, Nat.le_refl 0⟩) (fun H locs hM => ?_)
      refine lv_aload_n Cx.1 Cx.2.1 (dd_at td_X11_price 31 rfl) rfl (lv_at hl 1 rfl) ?_
      refine cc_gO (ci := 13) (C := RX11) (T := TX11) (N := 8) (k := 2) (ref := "EclipsesKept") Cx hM g1 rfl cc_inX11 rfl (by decide) cw502 (fun _ h => h) (dd_at td_X11_price 32 rfl) rfl ?_
      show W p l e (mm_R 6 161) s m args below meth c H locs 0 0 (MQ below (cc_Ql D X r st') args s 0 0 (cc_A X)) (F0 m 62 ls [.ref (cx_a X 3)])
      refine cc_gA (ci := 12) (C := RX10) (T := TX10) (N := 8) (k := 2) (ref := "EclipsesKept$Years") Cx hM g9 rfl cc_inX10 rfl (by decide) cw749 (fun _ h => h) (dd_at td_X11_price 33 rfl) rfl ?_
      refine lv_iload_n Cx.1 Cx.2.1 (dd_at td_X11_price 34 rfl) rfl (lv_at hl 2 rfl) ?_
      obtain ⟨g14, hf⟩ := fc_of_gd hf
      refine cc_aldg Cx hM g14 (dd_at td_X11_price 35 rfl) ?_
      refine lv_iload_n Cx.1 Cx.2.1 (dd_at td_X11_price 36 rfl) rfl (lv_at hl 0 rfl) ?_
      obtain ⟨g15, hf⟩ := fc_of_gd hf
      refine cc_lald Cx hM g15 (dd_at td_X11_price 37 rfl) ?_
      refine lv_aload_n Cx.1 Cx.2.1 (dd_at td_X11_price 38 rfl) rfl (lv_at hl 1 rfl) ?_
      refine cc_gO (ci := 13) (C := RX11) (T := TX11) (N := 8) (k := 2) (ref := "EclipsesKept") Cx hM g1 rfl cc_inX11 rfl (by decide) cw502 (fun _ h => h) (dd_at td_X11_price 39 rfl) rfl ?_
      show W p l e (mm_R 6 161) s m args below meth c H locs 0 0 (MQ below (cc_Ql D X r st') args s 0 0 (cc_A X)) (F0 m 73 ls [.ref (cx_a X 3), .long (cc_J st12 3 (100 * 2 + x1.toNatClampNeg) v8.toNatClampNeg)])
      refine cc_gA (ci := 12) (C := RX10) (T := TX10) (N := 8) (k := 2) (ref := "EclipsesKept$Years") Cx hM g9 rfl cc_inX10 rfl (by decide) cw749 (fun _ h => h) (dd_at td_X11_price 40 rfl) rfl ?_
      refine lv_iload_n Cx.1 Cx.2.1 (dd_at td_X11_price 41 rfl) rfl (lv_at hl 2 rfl) ?_
      obtain ⟨g16, hf⟩ := fc_of_gd hf
      refine cc_aldg Cx hM g16 (dd_at td_X11_price 42 rfl) ?_
      refine lv_aload_n Cx.1 Cx.2.1 (dd_at td_X11_price 43 rfl) rfl (lv_at hl 1 rfl) ?_
      refine cc_gO (ci := 13) (C := RX11) (T := TX11) (N := 8) (k := 0) (ref := "EclipsesKept") Cx hM g1 rfl cc_inX11 rfl (by decide) cw498 (fun _ h => h) (dd_at td_X11_price 44 rfl) rfl ?_
      show W p l e (mm_R 6 161) s m args below meth c H locs 0 0 (MQ below (cc_Ql D X r st') args s 0 0 (cc_A X)) (F0 m 82 ls [.ref (cx_a X 1), .ref (cx_b X 3 (100 * 2 + x1.toNatClampNeg)), .long (cc_J st12 3 (100 * 2 + x1.toNatClampNeg) v8.toNatClampNeg)])
      refine cc_gI (ci := 9) (C := RX7) (T := TX7) (N := 17) (k := 13) (ref := "EclipsesKept$State") Cx hM g6 rfl cc_inX7 rfl (by decide) cw561 (fun _ h => h) (dd_at td_X11_price 45 rfl) rfl ?_
      obtain ⟨g17, hf⟩ := fc_of_gd hf
      refine cc_lald Cx hM g17 (dd_at td_X11_price 46 rfl) ?_
      refine lv_lsub Cx.1 Cx.2.1 (dd_at td_X11_price 47 rfl) ?_
      refine lv_aload_n Cx.1 Cx.2.1 (dd_at td_X11_price 48 rfl) rfl (lv_at hl 1 rfl) ?_
      refine cc_gO (ci := 13) (C := RX11) (T := TX11) (N := 8) (k := 2) (ref := "EclipsesKept") Cx hM g1 rfl cc_inX11 rfl (by decide) cw502 (fun _ h => h) (dd_at td_X11_price 49 rfl) rfl ?_
      show W p l e (mm_R 6 161) s m args below meth c H locs 0 0 (MQ below (cc_Ql D X r st') args s 0 0 (cc_A X)) (F0 m 91 ls [.ref (cx_a X 3), .long ((cc_J st12 3 (100 * 2 + x1.toNatClampNeg) v8.toNatClampNeg) - (cc_J st12 3 (100 * 2 + x1.toNatClampNeg) (cc_I st12 1 13).toNatClampNeg))])
      refine cc_gA (ci := 12) (C := RX10) (T := TX10) (N := 8) (k := 1) (ref := "EclipsesKept$Years") Cx hM g9 rfl cc_inX10 rfl (by decide) cw750 (fun _ h => h) (dd_at td_X11_price 50 rfl) rfl ?_
      refine lv_iload_n Cx.1 Cx.2.1 (dd_at td_X11_price 51 rfl) rfl (lv_at hl 2 rfl) ?_
      obtain ⟨g18, hf⟩ := fc_of_gd hf
      refine cc_lald Cx hM g18 (dd_at td_X11_price 52 rfl) ?_
      refine lv_iload_n Cx.1 Cx.2.1 (dd_at td_X11_price 53 rfl) rfl (lv_at hl 3 rfl) ?_
      obtain ⟨r21, st19, hx20, hf⟩ := fc_of_bn hf
      refine cc_all hM (cc_rS (As := [.long ((cc_J st12 3 (100 * 2 + x1.toNatClampNeg) v8.toNatClampNeg) - (cc_J st12 3 (100 * 2 + x1.toNatClampNeg) (cc_I st12 1 13).toNatClampNeg)), .long (cc_J st12 3 1 x1.toNatClampNeg), .int x2]) (rest := []) (n := 3) Cx hM (c_X11_fraction l D X fu ((cc_J st12 3 (100 * 2 + x1.toNatClampNeg) v8.toNatClampNeg) - (cc_J st12 3 (100 * 2 + x1.toNatClampNeg) (cc_I st12 1 13).toNatClampNeg)) (cc_J st12 3 1 x1.toNatClampNeg) x2 st12 r21 st19 hx20) (cc_gdS cw758 cw759 cw549 cw741) hd_X11_fraction ⟨Nat.le_of_ble_eq_true rfl, Nat.le_of_ble_eq_true rfl⟩ rfl hl.1 rfl (Nat.le_of_ble_eq_true rfl) (dd_at td_X11_price 54 rfl) ⟨Nat.le_refl 0, Nat.le_refl 0⟩) (fun H locs hM => ?_)
      exact cc_rl Cx hM (dd_at td_X11_price 55 rfl) hf
    · replace hf := fc_of_f hf c7
      refine lv_ldc2 (v := (-9223372036854775808 : Int64)) Cx.1 Cx.2.1 Cx.2.2.2.2.1 (Cx.2.2.2.2.2.1 _ cw748) (dd_at td_X11_price 10 rfl) ?_
      exact cc_rl Cx hM (dd_at td_X11_price 11 rfl) hf
theorem c_X11_price (l : Launch) (D : va_G) (X : cc_X) (fu : Nat) (x0 : Nat) (x1 : Int32) (x2 : Int32) (st : cc_S) : cc_Ml l D X yX11_price cX11_price 4 (some .long) 6 161 [.ref (cx_a X x0), .int x1, .int x2] st (C_X11_price X fu x0 x1 x2 st) := by
  intro r st' hf
  refine cc_enter (cc := cX11_price) (nL := 4) (ret := some .long) (by decide +kernel) rfl (Nat.le_of_ble_eq_true rfl) ?_
  intro p e s m args below meth c ls Cx hl hM
  exact w_X11_price Cx fu x0 x1 x2 st hf hl hM

/-! X11_greedy -/
def tb_X11_greedy : List (Nat × Instr × Nat) := [(0, .aload_n 0, 1), (1, .iload_n 1, 1), (2, .iconst 1, 1), (3, .iconst 0, 1), (4, .iload_n 2, 1), (5, .invokevirtual 147, 3), (8, .lreturn, 1)]
theorem td_X11_greedy : tb_X11_greedy.all (fun q => decide (decode cX11_greedy q.1 = .ok (q.2.1, q.2.2))) = true := by decide +kernel
theorem hd_X11_greedy : yX11_greedy.cls = RX11 ∧ yX11_greedy.cls ≠ "java/lang/invoke/MethodHandle" ∧ yX11_greedy.cls ≠ "java/lang/invoke/VarHandle" ∧ (parseMethodDescriptor yX11_greedy.desc).map (fun d => d.parameters.length) = some 2 := by decide +kernel
theorem hs_X11_greedy : yX11_greedy.name ≠ "<init>" ∧ (parseMethodDescriptor yX11_greedy.desc).map (fun d => d.parameters.length) = some 2 := by decide +kernel
theorem w_X11_greedy {p : Program} {l : Launch} {e : Env} {s : State} {m : MethodId} {args : Array Value} {below : List Frame} {meth : Method} {c : Code} {D : va_G} {X : cc_X} {r : Int64} {st' : cc_S} (Cx : cc_C p s m args meth c cX11_greedy 3 (some .long) RX11 D X) (fu : Nat) (x0 : Nat) (x1 : Int32) (x2 : Int32) (st : cc_S) (hf : C_X11_greedy X fu x0 x1 x2 st = some (r, st')) {H : Heap} {locs : List Loc} {ls : Array Slot} (hl : lv_has ls 3 [(0, .ref (cx_a X x0)), (1, .int x1), (2, .int x2)]) (hM : cc_H D X s.heap st H locs) : W p l e (mm_R 7 185) s m args below meth c H locs 0 0 (MQ below (cc_Ql D X r st') args s 0 0 (cc_A X)) (F0 m 0 ls []) := by
  unfold C_X11_greedy at hf
  refine lv_aload_n Cx.1 Cx.2.1 (dd_at td_X11_greedy 0 rfl) rfl (lv_at hl 0 rfl) ?_
  refine lv_iload_n Cx.1 Cx.2.1 (dd_at td_X11_greedy 1 rfl) rfl (lv_at hl 1 rfl) ?_
  refine lv_iconst (v := (1 : Int32)) Cx.1 Cx.2.1 (dd_at td_X11_greedy 2 rfl) (by decide) ?_
  refine lv_iconst (v := (0 : Int32)) Cx.1 Cx.2.1 (dd_at td_X11_greedy 3 rfl) (by decide) ?_
  refine lv_iload_n Cx.1 Cx.2.1 (dd_at td_X11_greedy 4 rfl) rfl (lv_at hl 2 rfl) ?_
  obtain ⟨g1, hf⟩ := fc_of_gd hf
  obtain ⟨r4, st2, hx3, hf⟩ := fc_of_bn hf
  refine cc_all hM (cc_rV (ci := 13) (As := [.int x1, .int (1 : Int32), .int (0 : Int32), .int x2]) (rest := []) (n := 4) Cx hM g1 rfl (c_X11_onTheMean l D X fu x0 x1 (1 : Int32) (0 : Int32) x2 st r4 st2 hx3) (cc_gdV cw761 cw762 cw763 cw549 cw760) hd_X11_onTheMean ⟨Nat.le_of_ble_eq_true rfl, Nat.le_of_ble_eq_true rfl⟩ rfl hl.1 rfl (Nat.le_of_ble_eq_true rfl) (dd_at td_X11_greedy 5 rfl) ⟨Nat.le_refl 0, Nat.le_refl 0⟩) (fun H locs hM => ?_)
  exact cc_rl Cx hM (dd_at td_X11_greedy 6 rfl) hf
theorem c_X11_greedy (l : Launch) (D : va_G) (X : cc_X) (fu : Nat) (x0 : Nat) (x1 : Int32) (x2 : Int32) (st : cc_S) : cc_Ml l D X yX11_greedy cX11_greedy 3 (some .long) 7 185 [.ref (cx_a X x0), .int x1, .int x2] st (C_X11_greedy X fu x0 x1 x2 st) := by
  intro r st' hf
  refine cc_enter (cc := cX11_greedy) (nL := 3) (ret := some .long) (by decide +kernel) rfl (Nat.le_of_ble_eq_true rfl) ?_
  intro p e s m args below meth c ls Cx hl hM
  exact w_X11_greedy Cx fu x0 x1 x2 st hf hl hM

/-! X11_only -/
def tb_X11_only : List (Nat × Instr × Nat) := [(0, .iload_n 1, 1), (1, .bipush 63, 2), (3, .invokestatic 54, 3), (6, .ifCond .eq 14, 3), (9, .aload_n 0, 1), (10, .iload_n 2, 1), (11, .iconst 2, 1), (12, .iload_n 1, 1), (13, .iload_n 3, 1), (14, .invokevirtual 147, 3), (17, .goto 6, 3), (20, .ldc2_w 166, 3), (23, .lreturn, 1)]
theorem td_X11_only : tb_X11_only.all (fun q => decide (decode cX11_only q.1 = .ok (q.2.1, q.2.2))) = true := by decide +kernel
theorem hd_X11_only : yX11_only.cls = RX11 ∧ yX11_only.cls ≠ "java/lang/invoke/MethodHandle" ∧ yX11_only.cls ≠ "java/lang/invoke/VarHandle" ∧ (parseMethodDescriptor yX11_only.desc).map (fun d => d.parameters.length) = some 3 := by decide +kernel
theorem hs_X11_only : yX11_only.name ≠ "<init>" ∧ (parseMethodDescriptor yX11_only.desc).map (fun d => d.parameters.length) = some 3 := by decide +kernel
theorem w_X11_only {p : Program} {l : Launch} {e : Env} {s : State} {m : MethodId} {args : Array Value} {below : List Frame} {meth : Method} {c : Code} {D : va_G} {X : cc_X} {r : Int64} {st' : cc_S} (Cx : cc_C p s m args meth c cX11_only 4 (some .long) RX11 D X) (fu : Nat) (x0 : Nat) (x1 : Int32) (x2 : Int32) (x3 : Int32) (st : cc_S) (hf : C_X11_only X fu x0 x1 x2 x3 st = some (r, st')) {H : Heap} {locs : List Loc} {ls : Array Slot} (hl : lv_has ls 4 [(0, .ref (cx_a X x0)), (1, .int x1), (2, .int x2), (3, .int x3)]) (hM : cc_H D X s.heap st H locs) : W p l e (mm_R 7 185) s m args below meth c H locs 0 0 (MQ below (cc_Ql D X r st') args s 0 0 (cc_A X)) (F0 m 0 ls []) := by
  unfold C_X11_only at hf
  refine lv_iload_n Cx.1 Cx.2.1 (dd_at td_X11_only 0 rfl) rfl (lv_at hl 1 rfl) ?_
  refine lv_bipush (v := (63 : Int32)) Cx.1 Cx.2.1 (dd_at td_X11_only 1 rfl) (by decide) ?_
  obtain ⟨r3, st1, hx2, hf⟩ := fc_of_bn hf
  refine cc_ai hM (cc_rS (As := [.int x1, .int (63 : Int32)]) (rest := []) (n := 2) Cx hM (c_X11_isWithin l D X fu x1 (63 : Int32) st r3 st1 hx2) (cc_gdS cw547 cw548 cw549 cw520) hd_X11_isWithin ⟨Nat.le_of_ble_eq_true rfl, Nat.le_of_ble_eq_true rfl⟩ rfl hl.1 rfl (Nat.le_of_ble_eq_true rfl) (dd_at td_X11_only 2 rfl) ⟨Nat.le_refl 0, Nat.le_refl 0⟩) (fun H locs hM => ?_)
  refine lv_if_eq (tgt := 20) Cx.1 Cx.2.1 (dd_at td_X11_only 3 rfl) (by decide) (fun c4 => ?_) (fun c4 => ?_)
  · replace hf := fc_of_t hf c4
    refine lv_ldc2 (v := (-9223372036854775808 : Int64)) Cx.1 Cx.2.1 Cx.2.2.2.2.1 (Cx.2.2.2.2.2.1 _ cw748) (dd_at td_X11_only 11 rfl) ?_
    exact cc_rl Cx hM (dd_at td_X11_only 12 rfl) hf
  · replace hf := fc_of_f hf c4
    refine lv_aload_n Cx.1 Cx.2.1 (dd_at td_X11_only 4 rfl) rfl (lv_at hl 0 rfl) ?_
    refine lv_iload_n Cx.1 Cx.2.1 (dd_at td_X11_only 5 rfl) rfl (lv_at hl 2 rfl) ?_
    refine lv_iconst (v := (2 : Int32)) Cx.1 Cx.2.1 (dd_at td_X11_only 6 rfl) (by decide) ?_
    refine lv_iload_n Cx.1 Cx.2.1 (dd_at td_X11_only 7 rfl) rfl (lv_at hl 1 rfl) ?_
    refine lv_iload_n Cx.1 Cx.2.1 (dd_at td_X11_only 8 rfl) rfl (lv_at hl 3 rfl) ?_
    obtain ⟨g5, hf⟩ := fc_of_gd hf
    obtain ⟨r8, st6, hx7, hf⟩ := fc_of_bn hf
    refine cc_all hM (cc_rV (ci := 13) (As := [.int x2, .int (2 : Int32), .int x1, .int x3]) (rest := []) (n := 4) Cx hM g5 rfl (c_X11_onTheMean l D X fu x0 x2 (2 : Int32) x1 x3 st1 r8 st6 hx7) (cc_gdV cw761 cw762 cw763 cw549 cw760) hd_X11_onTheMean ⟨Nat.le_of_ble_eq_true rfl, Nat.le_of_ble_eq_true rfl⟩ rfl hl.1 rfl (Nat.le_of_ble_eq_true rfl) (dd_at td_X11_only 9 rfl) ⟨Nat.le_refl 0, Nat.le_refl 0⟩) (fun H locs hM => ?_)
    refine lv_goto (tgt := 23) Cx.1 Cx.2.1 (dd_at td_X11_only 10 rfl) (by decide) ?_
    exact cc_rl Cx hM (dd_at td_X11_only 12 rfl) hf
theorem c_X11_only (l : Launch) (D : va_G) (X : cc_X) (fu : Nat) (x0 : Nat) (x1 : Int32) (x2 : Int32) (x3 : Int32) (st : cc_S) : cc_Ml l D X yX11_only cX11_only 4 (some .long) 7 185 [.ref (cx_a X x0), .int x1, .int x2, .int x3] st (C_X11_only X fu x0 x1 x2 x3 st) := by
  intro r st' hf
  refine cc_enter (cc := cX11_only) (nL := 4) (ret := some .long) (by decide +kernel) rfl (Nat.le_of_ble_eq_true rfl) ?_
  intro p e s m args below meth c ls Cx hl hM
  exact w_X11_only Cx fu x0 x1 x2 x3 st hf hl hM

/-! X11_chosen -/
def tb_X11_chosen : List (Nat × Instr × Nat) := [(0, .iload_n 1, 1), (1, .bipush 8, 2), (3, .invokestatic 54, 3), (6, .ifCond .ne 6, 3), (9, .bipush (-2), 2), (11, .ireturn, 1), (12, .aload_n 0, 1), (13, .getfield 12, 3), (16, .getfield 58, 3), (19, .ifCond .ne 6, 3), (22, .bipush (-5), 2), (24, .ireturn, 1), (25, .aload_n 0, 1), (26, .getfield 24, 3), (29, .aload_n 0, 1), (30, .getfield 12, 3), (33, .iload_n 1, 1), (34, .aload_n 0, 1), (35, .getfield 12, 3), (38, .getfield 87, 3), (41, .invokevirtual 151, 3), (44, .aload_n 0, 1), (45, .getfield 24, 3), (48, .iload_n 1, 1), (49, .aload_n 0, 1), (50, .getfield 12, 3), (53, .getfield 87, 3), (56, .invokevirtual 180, 3), (59, .ireturn, 1)]
theorem td_X11_chosen : tb_X11_chosen.all (fun q => decide (decode cX11_chosen q.1 = .ok (q.2.1, q.2.2))) = true := by decide +kernel
theorem hd_X11_chosen : yX11_chosen.cls = RX11 ∧ yX11_chosen.cls ≠ "java/lang/invoke/MethodHandle" ∧ yX11_chosen.cls ≠ "java/lang/invoke/VarHandle" ∧ (parseMethodDescriptor yX11_chosen.desc).map (fun d => d.parameters.length) = some 1 := by decide +kernel
theorem hs_X11_chosen : yX11_chosen.name ≠ "<init>" ∧ (parseMethodDescriptor yX11_chosen.desc).map (fun d => d.parameters.length) = some 1 := by decide +kernel
theorem w_X11_chosen {p : Program} {l : Launch} {e : Env} {s : State} {m : MethodId} {args : Array Value} {below : List Frame} {meth : Method} {c : Code} {D : va_G} {X : cc_X} {r : Int32} {st' : cc_S} (Cx : cc_C p s m args meth c cX11_chosen 2 (some .int) RX11 D X) (fu : Nat) (x0 : Nat) (x1 : Int32) (st : cc_S) (hf : C_X11_chosen X fu x0 x1 st = some (r, st')) {H : Heap} {locs : List Loc} {ls : Array Slot} (hl : lv_has ls 2 [(0, .ref (cx_a X x0)), (1, .int x1)]) (hM : cc_H D X s.heap st H locs) : W p l e (mm_R 6 161) s m args below meth c H locs 0 0 (MQ below (cc_Qi D X r st') args s 0 0 (cc_A X)) (F0 m 0 ls []) := by
  unfold C_X11_chosen at hf
  refine lv_iload_n Cx.1 Cx.2.1 (dd_at td_X11_chosen 0 rfl) rfl (lv_at hl 1 rfl) ?_
  refine lv_bipush (v := (8 : Int32)) Cx.1 Cx.2.1 (dd_at td_X11_chosen 1 rfl) (by decide) ?_
  obtain ⟨r3, st1, hx2, hf⟩ := fc_of_bn hf
  refine cc_ai hM (cc_rS (As := [.int x1, .int (8 : Int32)]) (rest := []) (n := 2) Cx hM (c_X11_isWithin l D X fu x1 (8 : Int32) st r3 st1 hx2) (cc_gdS cw547 cw548 cw549 cw520) hd_X11_isWithin ⟨Nat.le_of_ble_eq_true rfl, Nat.le_of_ble_eq_true rfl⟩ rfl hl.1 rfl (Nat.le_of_ble_eq_true rfl) (dd_at td_X11_chosen 2 rfl) ⟨Nat.le_refl 0, Nat.le_refl 0⟩) (fun H locs hM => ?_)
  refine lv_if_ne (tgt := 12) Cx.1 Cx.2.1 (dd_at td_X11_chosen 3 rfl) (by decide) (fun c4 => ?_) (fun c4 => ?_)
  · replace hf := fc_of_f hf c4
    refine lv_aload_n Cx.1 Cx.2.1 (dd_at td_X11_chosen 6 rfl) rfl (lv_at hl 0 rfl) ?_
    obtain ⟨g5, hf⟩ := fc_of_gd hf
    refine cc_gO (ci := 13) (C := RX11) (T := TX11) (N := 8) (k := 0) (ref := "EclipsesKept") Cx hM g5 rfl cc_inX11 rfl (by decide) cw498 (fun _ h => h) (dd_at td_X11_chosen 7 rfl) rfl ?_
    show W p l e (mm_R 6 161) s m args below meth c H locs 0 0 (MQ below (cc_Qi D X r st') args s 0 0 (cc_A X)) (F0 m 16 ls [.ref (cx_a X 1)])
    obtain ⟨g6, hf⟩ := fc_of_gd hf
    refine cc_gI (ci := 9) (C := RX7) (T := TX7) (N := 17) (k := 9) (ref := "EclipsesKept$State") Cx hM g6 rfl cc_inX7 rfl (by decide) cw546 (fun _ h => h) (dd_at td_X11_chosen 8 rfl) rfl ?_
    refine lv_if_ne (tgt := 25) Cx.1 Cx.2.1 (dd_at td_X11_chosen 9 rfl) (by decide) (fun c7 => ?_) (fun c7 => ?_)
    · replace hf := fc_of_f hf c7
      refine lv_aload_n Cx.1 Cx.2.1 (dd_at td_X11_chosen 12 rfl) rfl (lv_at hl 0 rfl) ?_
      refine cc_gO (ci := 13) (C := RX11) (T := TX11) (N := 8) (k := 2) (ref := "EclipsesKept") Cx hM g5 rfl cc_inX11 rfl (by decide) cw502 (fun _ h => h) (dd_at td_X11_chosen 13 rfl) rfl ?_
      show W p l e (mm_R 6 161) s m args below meth c H locs 0 0 (MQ below (cc_Qi D X r st') args s 0 0 (cc_A X)) (F0 m 29 ls [.ref (cx_a X 3)])
      refine lv_aload_n Cx.1 Cx.2.1 (dd_at td_X11_chosen 14 rfl) rfl (lv_at hl 0 rfl) ?_
      refine cc_gO (ci := 13) (C := RX11) (T := TX11) (N := 8) (k := 0) (ref := "EclipsesKept") Cx hM g5 rfl cc_inX11 rfl (by decide) cw498 (fun _ h => h) (dd_at td_X11_chosen 15 rfl) rfl ?_
      show W p l e (mm_R 6 161) s m args below meth c H locs 0 0 (MQ below (cc_Qi D X r st') args s 0 0 (cc_A X)) (F0 m 33 ls [.ref (cx_a X 1), .ref (cx_a X 3)])
      refine lv_iload_n Cx.1 Cx.2.1 (dd_at td_X11_chosen 16 rfl) rfl (lv_at hl 1 rfl) ?_
      refine lv_aload_n Cx.1 Cx.2.1 (dd_at td_X11_chosen 17 rfl) rfl (lv_at hl 0 rfl) ?_
      refine cc_gO (ci := 13) (C := RX11) (T := TX11) (N := 8) (k := 0) (ref := "EclipsesKept") Cx hM g5 rfl cc_inX11 rfl (by decide) cw498 (fun _ h => h) (dd_at td_X11_chosen 18 rfl) rfl ?_
      show W p l e (mm_R 6 161) s m args below meth c H locs 0 0 (MQ below (cc_Qi D X r st') args s 0 0 (cc_A X)) (F0 m 38 ls [.ref (cx_a X 1), .int x1, .ref (cx_a X 1), .ref (cx_a X 3)])
      refine cc_gI (ci := 9) (C := RX7) (T := TX7) (N := 17) (k := 13) (ref := "EclipsesKept$State") Cx hM g6 rfl cc_inX7 rfl (by decide) cw561 (fun _ h => h) (dd_at td_X11_chosen 19 rfl) rfl ?_
      obtain ⟨g8, hf⟩ := fc_of_gd hf
      obtain ⟨st9, hx10, hf⟩ := fc_of_bv hf
      refine cc_av hM (cc_rV (ci := 12) (As := [.ref (cx_a X 1), .int x1, .int (cc_I st1 1 13)]) (rest := []) (n := 3) Cx hM g8 rfl (c_X10_look l D X fu 3 1 x1 (cc_I st1 1 13) st1 st9 hx10) (cc_gdV cw754 cw755 cw756 cw431 cw433) hd_X10_look ⟨Nat.le_of_ble_eq_true rfl, Nat.le_of_ble_eq_true rfl⟩ rfl hl.1 rfl (Nat.le_of_ble_eq_true rfl) (dd_at td_X11_chosen 20 rfl) ⟨Nat.le_refl 0, Nat.le_refl 0⟩) (fun H locs hM => ?_)
      refine lv_aload_n Cx.1 Cx.2.1 (dd_at td_X11_chosen 21 rfl) rfl (lv_at hl 0 rfl) ?_
      refine cc_gO (ci := 13) (C := RX11) (T := TX11) (N := 8) (k := 2) (ref := "EclipsesKept") Cx hM g5 rfl cc_inX11 rfl (by decide) cw502 (fun _ h => h) (dd_at td_X11_chosen 22 rfl) rfl ?_
      show W p l e (mm_R 6 161) s m args below meth c H locs 0 0 (MQ below (cc_Qi D X r st') args s 0 0 (cc_A X)) (F0 m 48 ls [.ref (cx_a X 3)])
      refine lv_iload_n Cx.1 Cx.2.1 (dd_at td_X11_chosen 23 rfl) rfl (lv_at hl 1 rfl) ?_
      refine lv_aload_n Cx.1 Cx.2.1 (dd_at td_X11_chosen 24 rfl) rfl (lv_at hl 0 rfl) ?_
      refine cc_gO (ci := 13) (C := RX11) (T := TX11) (N := 8) (k := 0) (ref := "EclipsesKept") Cx hM g5 rfl cc_inX11 rfl (by decide) cw498 (fun _ h => h) (dd_at td_X11_chosen 25 rfl) rfl ?_
      show W p l e (mm_R 6 161) s m args below meth c H locs 0 0 (MQ below (cc_Qi D X r st') args s 0 0 (cc_A X)) (F0 m 53 ls [.ref (cx_a X 1), .int x1, .ref (cx_a X 3)])
      refine cc_gI (ci := 9) (C := RX7) (T := TX7) (N := 17) (k := 13) (ref := "EclipsesKept$State") Cx hM g6 rfl cc_inX7 rfl (by decide) cw561 (fun _ h => h) (dd_at td_X11_chosen 26 rfl) rfl ?_
      obtain ⟨r13, st11, hx12, hf⟩ := fc_of_bn hf
      refine cc_ai hM (cc_rV (ci := 12) (As := [.int x1, .int (cc_I st9 1 13)]) (rest := []) (n := 2) Cx hM g8 rfl (c_X10_bestSet l D X fu 3 x1 (cc_I st9 1 13) st9 r13 st11 hx12) (cc_gdV cw770 cw771 cw772 cw431 cw454) hd_X10_bestSet ⟨Nat.le_of_ble_eq_true rfl, Nat.le_of_ble_eq_true rfl⟩ rfl hl.1 rfl (Nat.le_of_ble_eq_true rfl) (dd_at td_X11_chosen 27 rfl) ⟨Nat.le_refl 0, Nat.le_refl 0⟩) (fun H locs hM => ?_)
      exact cc_ri Cx hM (dd_at td_X11_chosen 28 rfl) hf
    · replace hf := fc_of_t hf c7
      refine lv_bipush (v := (-5 : Int32)) Cx.1 Cx.2.1 (dd_at td_X11_chosen 10 rfl) (by decide) ?_
      exact cc_ri Cx hM (dd_at td_X11_chosen 11 rfl) hf
  · replace hf := fc_of_t hf c4
    refine lv_bipush (v := (-2 : Int32)) Cx.1 Cx.2.1 (dd_at td_X11_chosen 4 rfl) (by decide) ?_
    exact cc_ri Cx hM (dd_at td_X11_chosen 5 rfl) hf
theorem c_X11_chosen (l : Launch) (D : va_G) (X : cc_X) (fu : Nat) (x0 : Nat) (x1 : Int32) (st : cc_S) : cc_Mi l D X yX11_chosen cX11_chosen 2 (some .int) 6 161 [.ref (cx_a X x0), .int x1] st (C_X11_chosen X fu x0 x1 st) := by
  intro r st' hf
  refine cc_enter (cc := cX11_chosen) (nL := 2) (ret := some .int) (by decide +kernel) rfl (Nat.le_of_ble_eq_true rfl) ?_
  intro p e s m args below meth c ls Cx hl hM
  exact w_X11_chosen Cx fu x0 x1 st hf hl hM

/-! X11_spent -/
def tb_X11_spent : List (Nat × Instr × Nat) := [(0, .aload_n 0, 1), (1, .iload_n 1, 1), (2, .iload_n 2, 1), (3, .invokevirtual 163, 3), (6, .ifCond .ne 7, 3), (9, .ldc2_w 166, 3), (12, .lreturn, 1), (13, .aload_n 0, 1), (14, .getfield 24, 3), (17, .aload_n 0, 1), (18, .getfield 12, 3), (21, .iload_n 1, 1), (22, .aload_n 0, 1), (23, .getfield 12, 3), (26, .getfield 87, 3), (29, .invokevirtual 151, 3), (32, .aload_n 0, 1), (33, .getfield 24, 3), (36, .iload_n 1, 1), (37, .iconst 0, 1), (38, .iconst 0, 1), (39, .invokevirtual 155, 3), (42, .aload_n 0, 1), (43, .getfield 24, 3), (46, .iload_n 1, 1), (47, .aload_n 0, 1), (48, .getfield 12, 3), (51, .getfield 87, 3), (54, .invokevirtual 184, 3), (57, .aload_n 0, 1), (58, .getfield 24, 3), (61, .getfield 172, 3), (64, .iload_n 1, 1), (65, .laload, 1), (66, .iload_n 2, 1), (67, .invokestatic 176, 3), (70, .lreturn, 1)]
theorem td_X11_spent : tb_X11_spent.all (fun q => decide (decode cX11_spent q.1 = .ok (q.2.1, q.2.2))) = true := by decide +kernel
theorem hd_X11_spent : yX11_spent.cls = RX11 ∧ yX11_spent.cls ≠ "java/lang/invoke/MethodHandle" ∧ yX11_spent.cls ≠ "java/lang/invoke/VarHandle" ∧ (parseMethodDescriptor yX11_spent.desc).map (fun d => d.parameters.length) = some 2 := by decide +kernel
theorem hs_X11_spent : yX11_spent.name ≠ "<init>" ∧ (parseMethodDescriptor yX11_spent.desc).map (fun d => d.parameters.length) = some 2 := by decide +kernel
theorem w_X11_spent {p : Program} {l : Launch} {e : Env} {s : State} {m : MethodId} {args : Array Value} {below : List Frame} {meth : Method} {c : Code} {D : va_G} {X : cc_X} {r : Int64} {st' : cc_S} (Cx : cc_C p s m args meth c cX11_spent 3 (some .long) RX11 D X) (fu : Nat) (x0 : Nat) (x1 : Int32) (x2 : Int32) (st : cc_S) (hf : C_X11_spent X fu x0 x1 x2 st = some (r, st')) {H : Heap} {locs : List Loc} {ls : Array Slot} (hl : lv_has ls 3 [(0, .ref (cx_a X x0)), (1, .int x1), (2, .int x2)]) (hM : cc_H D X s.heap st H locs) : W p l e (mm_R 6 161) s m args below meth c H locs 0 0 (MQ below (cc_Ql D X r st') args s 0 0 (cc_A X)) (F0 m 0 ls []) := by
  unfold C_X11_spent at hf
  refine lv_aload_n Cx.1 Cx.2.1 (dd_at td_X11_spent 0 rfl) rfl (lv_at hl 0 rfl) ?_
  refine lv_iload_n Cx.1 Cx.2.1 (dd_at td_X11_spent 1 rfl) rfl (lv_at hl 1 rfl) ?_
  refine lv_iload_n Cx.1 Cx.2.1 (dd_at td_X11_spent 2 rfl) rfl (lv_at hl 2 rfl) ?_
  obtain ⟨g1, hf⟩ := fc_of_gd hf
  obtain ⟨r4, st2, hx3, hf⟩ := fc_of_bn hf
  refine cc_ai hM (cc_rV (ci := 13) (As := [.int x1, .int x2]) (rest := []) (n := 2) Cx hM g1 rfl (c_X11_isAsked l D X fu x0 x1 x2 st r4 st2 hx3) (cc_gdV cw751 cw752 cw753 cw549 cw739) hd_X11_isAsked ⟨Nat.le_of_ble_eq_true rfl, Nat.le_of_ble_eq_true rfl⟩ rfl hl.1 rfl (Nat.le_of_ble_eq_true rfl) (dd_at td_X11_spent 3 rfl) ⟨Nat.le_refl 0, Nat.le_refl 0⟩) (fun H locs hM => ?_)
  refine lv_if_ne (tgt := 13) Cx.1 Cx.2.1 (dd_at td_X11_spent 4 rfl) (by decide) (fun c5 => ?_) (fun c5 => ?_)
  · replace hf := fc_of_f hf c5
    refine lv_aload_n Cx.1 Cx.2.1 (dd_at td_X11_spent 7 rfl) rfl (lv_at hl 0 rfl) ?_
    refine cc_gO (ci := 13) (C := RX11) (T := TX11) (N := 8) (k := 2) (ref := "EclipsesKept") Cx hM g1 rfl cc_inX11 rfl (by decide) cw502 (fun _ h => h) (dd_at td_X11_spent 8 rfl) rfl ?_
    show W p l e (mm_R 6 161) s m args below meth c H locs 0 0 (MQ below (cc_Ql D X r st') args s 0 0 (cc_A X)) (F0 m 17 ls [.ref (cx_a X 3)])
    refine lv_aload_n Cx.1 Cx.2.1 (dd_at td_X11_spent 9 rfl) rfl (lv_at hl 0 rfl) ?_
    refine cc_gO (ci := 13) (C := RX11) (T := TX11) (N := 8) (k := 0) (ref := "EclipsesKept") Cx hM g1 rfl cc_inX11 rfl (by decide) cw498 (fun _ h => h) (dd_at td_X11_spent 10 rfl) rfl ?_
    show W p l e (mm_R 6 161) s m args below meth c H locs 0 0 (MQ below (cc_Ql D X r st') args s 0 0 (cc_A X)) (F0 m 21 ls [.ref (cx_a X 1), .ref (cx_a X 3)])
    refine lv_iload_n Cx.1 Cx.2.1 (dd_at td_X11_spent 11 rfl) rfl (lv_at hl 1 rfl) ?_
    refine lv_aload_n Cx.1 Cx.2.1 (dd_at td_X11_spent 12 rfl) rfl (lv_at hl 0 rfl) ?_
    refine cc_gO (ci := 13) (C := RX11) (T := TX11) (N := 8) (k := 0) (ref := "EclipsesKept") Cx hM g1 rfl cc_inX11 rfl (by decide) cw498 (fun _ h => h) (dd_at td_X11_spent 13 rfl) rfl ?_
    show W p l e (mm_R 6 161) s m args below meth c H locs 0 0 (MQ below (cc_Ql D X r st') args s 0 0 (cc_A X)) (F0 m 26 ls [.ref (cx_a X 1), .int x1, .ref (cx_a X 1), .ref (cx_a X 3)])
    obtain ⟨g6, hf⟩ := fc_of_gd hf
    refine cc_gI (ci := 9) (C := RX7) (T := TX7) (N := 17) (k := 13) (ref := "EclipsesKept$State") Cx hM g6 rfl cc_inX7 rfl (by decide) cw561 (fun _ h => h) (dd_at td_X11_spent 14 rfl) rfl ?_
    obtain ⟨g7, hf⟩ := fc_of_gd hf
    obtain ⟨st8, hx9, hf⟩ := fc_of_bv hf
    refine cc_av hM (cc_rV (ci := 12) (As := [.ref (cx_a X 1), .int x1, .int (cc_I st2 1 13)]) (rest := []) (n := 3) Cx hM g7 rfl (c_X10_look l D X fu 3 1 x1 (cc_I st2 1 13) st2 st8 hx9) (cc_gdV cw754 cw755 cw756 cw431 cw433) hd_X10_look ⟨Nat.le_of_ble_eq_true rfl, Nat.le_of_ble_eq_true rfl⟩ rfl hl.1 rfl (Nat.le_of_ble_eq_true rfl) (dd_at td_X11_spent 15 rfl) ⟨Nat.le_refl 0, Nat.le_refl 0⟩) (fun H locs hM => ?_)
    refine lv_aload_n Cx.1 Cx.2.1 (dd_at td_X11_spent 16 rfl) rfl (lv_at hl 0 rfl) ?_
    refine cc_gO (ci := 13) (C := RX11) (T := TX11) (N := 8) (k := 2) (ref := "EclipsesKept") Cx hM g1 rfl cc_inX11 rfl (by decide) cw502 (fun _ h => h) (dd_at td_X11_spent 17 rfl) rfl ?_
    show W p l e (mm_R 6 161) s m args below meth c H locs 0 0 (MQ below (cc_Ql D X r st') args s 0 0 (cc_A X)) (F0 m 36 ls [.ref (cx_a X 3)])
    refine lv_iload_n Cx.1 Cx.2.1 (dd_at td_X11_spent 18 rfl) rfl (lv_at hl 1 rfl) ?_
    refine lv_iconst (v := (0 : Int32)) Cx.1 Cx.2.1 (dd_at td_X11_spent 19 rfl) (by decide) ?_
    refine lv_iconst (v := (0 : Int32)) Cx.1 Cx.2.1 (dd_at td_X11_spent 20 rfl) (by decide) ?_
    obtain ⟨st10, hx11, hf⟩ := fc_of_bv hf
    refine cc_av hM (cc_rV (ci := 12) (As := [.int x1, .int (0 : Int32), .int (0 : Int32)]) (rest := []) (n := 3) Cx hM g7 rfl (c_X10_weigh l D X fu 3 x1 (0 : Int32) (0 : Int32) st8 st10 hx11) (cc_gdV cw757 cw452 cw453 cw431 cw450) hd_X10_weigh ⟨Nat.le_of_ble_eq_true rfl, Nat.le_of_ble_eq_true rfl⟩ rfl hl.1 rfl (Nat.le_of_ble_eq_true rfl) (dd_at td_X11_spent 21 rfl) ⟨Nat.le_refl 0, Nat.le_refl 0⟩) (fun H locs hM => ?_)
    refine lv_aload_n Cx.1 Cx.2.1 (dd_at td_X11_spent 22 rfl) rfl (lv_at hl 0 rfl) ?_
    refine cc_gO (ci := 13) (C := RX11) (T := TX11) (N := 8) (k := 2) (ref := "EclipsesKept") Cx hM g1 rfl cc_inX11 rfl (by decide) cw502 (fun _ h => h) (dd_at td_X11_spent 23 rfl) rfl ?_
    show W p l e (mm_R 6 161) s m args below meth c H locs 0 0 (MQ below (cc_Ql D X r st') args s 0 0 (cc_A X)) (F0 m 46 ls [.ref (cx_a X 3)])
    refine lv_iload_n Cx.1 Cx.2.1 (dd_at td_X11_spent 24 rfl) rfl (lv_at hl 1 rfl) ?_
    refine lv_aload_n Cx.1 Cx.2.1 (dd_at td_X11_spent 25 rfl) rfl (lv_at hl 0 rfl) ?_
    refine cc_gO (ci := 13) (C := RX11) (T := TX11) (N := 8) (k := 0) (ref := "EclipsesKept") Cx hM g1 rfl cc_inX11 rfl (by decide) cw498 (fun _ h => h) (dd_at td_X11_spent 26 rfl) rfl ?_
    show W p l e (mm_R 6 161) s m args below meth c H locs 0 0 (MQ below (cc_Ql D X r st') args s 0 0 (cc_A X)) (F0 m 51 ls [.ref (cx_a X 1), .int x1, .ref (cx_a X 3)])
    refine cc_gI (ci := 9) (C := RX7) (T := TX7) (N := 17) (k := 13) (ref := "EclipsesKept$State") Cx hM g6 rfl cc_inX7 rfl (by decide) cw561 (fun _ h => h) (dd_at td_X11_spent 27 rfl) rfl ?_
    obtain ⟨r14, st12, hx13, hf⟩ := fc_of_bn hf
    refine cc_all hM (cc_rV (ci := 12) (As := [.int x1, .int (cc_I st10 1 13)]) (rest := []) (n := 2) Cx hM g7 rfl (c_X10_waysToSpend l D X fu 3 x1 (cc_I st10 1 13) st10 r14 st12 hx13) (cc_gdV cw774 cw775 cw776 cw431 cw455) hd_X10_waysToSpend ⟨Nat.le_of_ble_eq_true rfl, Nat.le_of_ble_eq_true rfl⟩ rfl hl.1 rfl (Nat.le_of_ble_eq_true rfl) (dd_at td_X11_spent 28 rfl) ⟨Nat.le_refl 0, Nat.le_refl 0⟩) (fun H locs hM => ?_)
    refine lv_aload_n Cx.1 Cx.2.1 (dd_at td_X11_spent 29 rfl) rfl (lv_at hl 0 rfl) ?_
    refine cc_gO (ci := 13) (C := RX11) (T := TX11) (N := 8) (k := 2) (ref := "EclipsesKept") Cx hM g1 rfl cc_inX11 rfl (by decide) cw502 (fun _ h => h) (dd_at td_X11_spent 30 rfl) rfl ?_
    show W p l e (mm_R 6 161) s m args below meth c H locs 0 0 (MQ below (cc_Ql D X r st') args s 0 0 (cc_A X)) (F0 m 61 ls [.ref (cx_a X 3), .long r14])
    refine cc_gA (ci := 12) (C := RX10) (T := TX10) (N := 8) (k := 1) (ref := "EclipsesKept$Years") Cx hM g7 rfl cc_inX10 rfl (by decide) cw750 (fun _ h => h) (dd_at td_X11_spent 31 rfl) rfl ?_
    refine lv_iload_n Cx.1 Cx.2.1 (dd_at td_X11_spent 32 rfl) rfl (lv_at hl 1 rfl) ?_
    obtain ⟨g15, hf⟩ := fc_of_gd hf
    refine cc_lald Cx hM g15 (dd_at td_X11_spent 33 rfl) ?_
    refine lv_iload_n Cx.1 Cx.2.1 (dd_at td_X11_spent 34 rfl) rfl (lv_at hl 2 rfl) ?_
    obtain ⟨r18, st16, hx17, hf⟩ := fc_of_bn hf
    refine cc_all hM (cc_rS (As := [.long r14, .long (cc_J st12 3 1 x1.toNatClampNeg), .int x2]) (rest := []) (n := 3) Cx hM (c_X11_fraction l D X fu r14 (cc_J st12 3 1 x1.toNatClampNeg) x2 st12 r18 st16 hx17) (cc_gdS cw758 cw759 cw549 cw741) hd_X11_fraction ⟨Nat.le_of_ble_eq_true rfl, Nat.le_of_ble_eq_true rfl⟩ rfl hl.1 rfl (Nat.le_of_ble_eq_true rfl) (dd_at td_X11_spent 35 rfl) ⟨Nat.le_refl 0, Nat.le_refl 0⟩) (fun H locs hM => ?_)
    exact cc_rl Cx hM (dd_at td_X11_spent 36 rfl) hf
  · replace hf := fc_of_t hf c5
    refine lv_ldc2 (v := (-9223372036854775808 : Int64)) Cx.1 Cx.2.1 Cx.2.2.2.2.1 (Cx.2.2.2.2.2.1 _ cw748) (dd_at td_X11_spent 5 rfl) ?_
    exact cc_rl Cx hM (dd_at td_X11_spent 6 rfl) hf
theorem c_X11_spent (l : Launch) (D : va_G) (X : cc_X) (fu : Nat) (x0 : Nat) (x1 : Int32) (x2 : Int32) (st : cc_S) : cc_Ml l D X yX11_spent cX11_spent 3 (some .long) 6 161 [.ref (cx_a X x0), .int x1, .int x2] st (C_X11_spent X fu x0 x1 x2 st) := by
  intro r st' hf
  refine cc_enter (cc := cX11_spent) (nL := 3) (ret := some .long) (by decide +kernel) rfl (Nat.le_of_ble_eq_true rfl) ?_
  intro p e s m args below meth c ls Cx hl hM
  exact w_X11_spent Cx fu x0 x1 x2 st hf hl hM

/-! X11_threshold -/
def tb_X11_threshold : List (Nat × Instr × Nat) := [(0, .iload_n 1, 1), (1, .iconst 1, 1), (2, .if_icmp .lt 9, 3), (5, .iload_n 1, 1), (6, .bipush 8, 2), (8, .if_icmp .le 6, 3), (11, .bipush (-2), 2), (13, .ireturn, 1), (14, .aload_n 0, 1), (15, .getfield 12, 3), (18, .getfield 58, 3), (21, .ifCond .eq 13, 3), (24, .aload_n 0, 1), (25, .getfield 12, 3), (28, .getfield 87, 3), (31, .ifCond .ne 6, 3), (34, .bipush (-5), 2), (36, .ireturn, 1), (37, .aload_n 0, 1), (38, .getfield 24, 3), (41, .aload_n 0, 1), (42, .getfield 12, 3), (45, .iload_n 1, 1), (46, .aload_n 0, 1), (47, .getfield 12, 3), (50, .getfield 87, 3), (53, .invokevirtual 151, 3), (56, .aload_n 0, 1), (57, .getfield 24, 3), (60, .iload_n 1, 1), (61, .iconst 0, 1), (62, .iconst 0, 1), (63, .invokevirtual 155, 3), (66, .aload_n 0, 1), (67, .getfield 24, 3), (70, .iload_n 1, 1), (71, .aload_n 0, 1), (72, .getfield 12, 3), (75, .getfield 87, 3), (78, .invokevirtual 188, 3), (81, .lstore_n 2, 1), (82, .lload_n 2, 1), (83, .ldc2_w 191, 3), (86, .lcmp, 1), (87, .ifCond .le 8, 3), (90, .bipush (-5), 2), (92, .goto 5, 3), (95, .lload_n 2, 1), (96, .l2i, 1), (97, .ireturn, 1)]
theorem td_X11_threshold : tb_X11_threshold.all (fun q => decide (decode cX11_threshold q.1 = .ok (q.2.1, q.2.2))) = true := by decide +kernel
theorem hd_X11_threshold : yX11_threshold.cls = RX11 ∧ yX11_threshold.cls ≠ "java/lang/invoke/MethodHandle" ∧ yX11_threshold.cls ≠ "java/lang/invoke/VarHandle" ∧ (parseMethodDescriptor yX11_threshold.desc).map (fun d => d.parameters.length) = some 1 := by decide +kernel
theorem hs_X11_threshold : yX11_threshold.name ≠ "<init>" ∧ (parseMethodDescriptor yX11_threshold.desc).map (fun d => d.parameters.length) = some 1 := by decide +kernel
theorem w_X11_threshold {p : Program} {l : Launch} {e : Env} {s : State} {m : MethodId} {args : Array Value} {below : List Frame} {meth : Method} {c : Code} {D : va_G} {X : cc_X} {r : Int32} {st' : cc_S} (Cx : cc_C p s m args meth c cX11_threshold 4 (some .int) RX11 D X) (fu : Nat) (x0 : Nat) (x1 : Int32) (st : cc_S) (hf : C_X11_threshold X fu x0 x1 st = some (r, st')) {H : Heap} {locs : List Loc} {ls : Array Slot} (hl : lv_has ls 4 [(0, .ref (cx_a X x0)), (1, .int x1)]) (hM : cc_H D X s.heap st H locs) : W p l e (mm_R 6 161) s m args below meth c H locs 0 0 (MQ below (cc_Qi D X r st') args s 0 0 (cc_A X)) (F0 m 0 ls []) := by
  unfold C_X11_threshold at hf
  refine lv_iload_n Cx.1 Cx.2.1 (dd_at td_X11_threshold 0 rfl) rfl (lv_at hl 1 rfl) ?_
  refine lv_iconst (v := (1 : Int32)) Cx.1 Cx.2.1 (dd_at td_X11_threshold 1 rfl) (by decide) ?_
  refine lv_icmp_lt (tgt := 11) Cx.1 Cx.2.1 (dd_at td_X11_threshold 2 rfl) (by decide) (fun c1 => ?_) (fun c1 => ?_)
  · replace hf := fc_of_t hf c1
    refine lv_bipush (v := (-2 : Int32)) Cx.1 Cx.2.1 (dd_at td_X11_threshold 6 rfl) (by decide) ?_
    exact cc_ri Cx hM (dd_at td_X11_threshold 7 rfl) hf
  · replace hf := fc_of_f hf c1
    refine lv_iload_n Cx.1 Cx.2.1 (dd_at td_X11_threshold 3 rfl) rfl (lv_at hl 1 rfl) ?_
    refine lv_bipush (v := (8 : Int32)) Cx.1 Cx.2.1 (dd_at td_X11_threshold 4 rfl) (by decide) ?_
    refine lv_icmp_le (tgt := 14) Cx.1 Cx.2.1 (dd_at td_X11_threshold 5 rfl) (by decide) (fun c2 => ?_) (fun c2 => ?_)
    · replace hf := fc_of_t hf c2
      refine lv_aload_n Cx.1 Cx.2.1 (dd_at td_X11_threshold 8 rfl) rfl (lv_at hl 0 rfl) ?_
      obtain ⟨g3, hf⟩ := fc_of_gd hf
      refine cc_gO (ci := 13) (C := RX11) (T := TX11) (N := 8) (k := 0) (ref := "EclipsesKept") Cx hM g3 rfl cc_inX11 rfl (by decide) cw498 (fun _ h => h) (dd_at td_X11_threshold 9 rfl) rfl ?_
      show W p l e (mm_R 6 161) s m args below meth c H locs 0 0 (MQ below (cc_Qi D X r st') args s 0 0 (cc_A X)) (F0 m 18 ls [.ref (cx_a X 1)])
      obtain ⟨g4, hf⟩ := fc_of_gd hf
      refine cc_gI (ci := 9) (C := RX7) (T := TX7) (N := 17) (k := 9) (ref := "EclipsesKept$State") Cx hM g4 rfl cc_inX7 rfl (by decide) cw546 (fun _ h => h) (dd_at td_X11_threshold 10 rfl) rfl ?_
      refine lv_if_eq (tgt := 34) Cx.1 Cx.2.1 (dd_at td_X11_threshold 11 rfl) (by decide) (fun c5 => ?_) (fun c5 => ?_)
      · replace hf := fc_of_t hf c5
        refine lv_bipush (v := (-5 : Int32)) Cx.1 Cx.2.1 (dd_at td_X11_threshold 16 rfl) (by decide) ?_
        exact cc_ri Cx hM (dd_at td_X11_threshold 17 rfl) hf
      · replace hf := fc_of_f hf c5
        refine lv_aload_n Cx.1 Cx.2.1 (dd_at td_X11_threshold 12 rfl) rfl (lv_at hl 0 rfl) ?_
        refine cc_gO (ci := 13) (C := RX11) (T := TX11) (N := 8) (k := 0) (ref := "EclipsesKept") Cx hM g3 rfl cc_inX11 rfl (by decide) cw498 (fun _ h => h) (dd_at td_X11_threshold 13 rfl) rfl ?_
        show W p l e (mm_R 6 161) s m args below meth c H locs 0 0 (MQ below (cc_Qi D X r st') args s 0 0 (cc_A X)) (F0 m 28 ls [.ref (cx_a X 1)])
        refine cc_gI (ci := 9) (C := RX7) (T := TX7) (N := 17) (k := 13) (ref := "EclipsesKept$State") Cx hM g4 rfl cc_inX7 rfl (by decide) cw561 (fun _ h => h) (dd_at td_X11_threshold 14 rfl) rfl ?_
        refine lv_if_ne (tgt := 37) Cx.1 Cx.2.1 (dd_at td_X11_threshold 15 rfl) (by decide) (fun c6 => ?_) (fun c6 => ?_)
        · replace hf := fc_of_f hf c6
          refine lv_aload_n Cx.1 Cx.2.1 (dd_at td_X11_threshold 18 rfl) rfl (lv_at hl 0 rfl) ?_
          refine cc_gO (ci := 13) (C := RX11) (T := TX11) (N := 8) (k := 2) (ref := "EclipsesKept") Cx hM g3 rfl cc_inX11 rfl (by decide) cw502 (fun _ h => h) (dd_at td_X11_threshold 19 rfl) rfl ?_
          show W p l e (mm_R 6 161) s m args below meth c H locs 0 0 (MQ below (cc_Qi D X r st') args s 0 0 (cc_A X)) (F0 m 41 ls [.ref (cx_a X 3)])
          refine lv_aload_n Cx.1 Cx.2.1 (dd_at td_X11_threshold 20 rfl) rfl (lv_at hl 0 rfl) ?_
          refine cc_gO (ci := 13) (C := RX11) (T := TX11) (N := 8) (k := 0) (ref := "EclipsesKept") Cx hM g3 rfl cc_inX11 rfl (by decide) cw498 (fun _ h => h) (dd_at td_X11_threshold 21 rfl) rfl ?_
          show W p l e (mm_R 6 161) s m args below meth c H locs 0 0 (MQ below (cc_Qi D X r st') args s 0 0 (cc_A X)) (F0 m 45 ls [.ref (cx_a X 1), .ref (cx_a X 3)])
          refine lv_iload_n Cx.1 Cx.2.1 (dd_at td_X11_threshold 22 rfl) rfl (lv_at hl 1 rfl) ?_
          refine lv_aload_n Cx.1 Cx.2.1 (dd_at td_X11_threshold 23 rfl) rfl (lv_at hl 0 rfl) ?_
          refine cc_gO (ci := 13) (C := RX11) (T := TX11) (N := 8) (k := 0) (ref := "EclipsesKept") Cx hM g3 rfl cc_inX11 rfl (by decide) cw498 (fun _ h => h) (dd_at td_X11_threshold 24 rfl) rfl ?_
          show W p l e (mm_R 6 161) s m args below meth c H locs 0 0 (MQ below (cc_Qi D X r st') args s 0 0 (cc_A X)) (F0 m 50 ls [.ref (cx_a X 1), .int x1, .ref (cx_a X 1), .ref (cx_a X 3)])
          refine cc_gI (ci := 9) (C := RX7) (T := TX7) (N := 17) (k := 13) (ref := "EclipsesKept$State") Cx hM g4 rfl cc_inX7 rfl (by decide) cw561 (fun _ h => h) (dd_at td_X11_threshold 25 rfl) rfl ?_
          obtain ⟨g7, hf⟩ := fc_of_gd hf
          obtain ⟨st8, hx9, hf⟩ := fc_of_bv hf
          refine cc_av hM (cc_rV (ci := 12) (As := [.ref (cx_a X 1), .int x1, .int (cc_I st 1 13)]) (rest := []) (n := 3) Cx hM g7 rfl (c_X10_look l D X fu 3 1 x1 (cc_I st 1 13) st st8 hx9) (cc_gdV cw754 cw755 cw756 cw431 cw433) hd_X10_look ⟨Nat.le_of_ble_eq_true rfl, Nat.le_of_ble_eq_true rfl⟩ rfl hl.1 rfl (Nat.le_of_ble_eq_true rfl) (dd_at td_X11_threshold 26 rfl) ⟨Nat.le_refl 0, Nat.le_refl 0⟩) (fun H locs hM => ?_)
          refine lv_aload_n Cx.1 Cx.2.1 (dd_at td_X11_threshold 27 rfl) rfl (lv_at hl 0 rfl) ?_
          refine cc_gO (ci := 13) (C := RX11) (T := TX11) (N := 8) (k := 2) (ref := "EclipsesKept") Cx hM g3 rfl cc_inX11 rfl (by decide) cw502 (fun _ h => h) (dd_at td_X11_threshold 28 rfl) rfl ?_
          show W p l e (mm_R 6 161) s m args below meth c H locs 0 0 (MQ below (cc_Qi D X r st') args s 0 0 (cc_A X)) (F0 m 60 ls [.ref (cx_a X 3)])
          refine lv_iload_n Cx.1 Cx.2.1 (dd_at td_X11_threshold 29 rfl) rfl (lv_at hl 1 rfl) ?_
          refine lv_iconst (v := (0 : Int32)) Cx.1 Cx.2.1 (dd_at td_X11_threshold 30 rfl) (by decide) ?_
          refine lv_iconst (v := (0 : Int32)) Cx.1 Cx.2.1 (dd_at td_X11_threshold 31 rfl) (by decide) ?_
          obtain ⟨st10, hx11, hf⟩ := fc_of_bv hf
          refine cc_av hM (cc_rV (ci := 12) (As := [.int x1, .int (0 : Int32), .int (0 : Int32)]) (rest := []) (n := 3) Cx hM g7 rfl (c_X10_weigh l D X fu 3 x1 (0 : Int32) (0 : Int32) st8 st10 hx11) (cc_gdV cw757 cw452 cw453 cw431 cw450) hd_X10_weigh ⟨Nat.le_of_ble_eq_true rfl, Nat.le_of_ble_eq_true rfl⟩ rfl hl.1 rfl (Nat.le_of_ble_eq_true rfl) (dd_at td_X11_threshold 32 rfl) ⟨Nat.le_refl 0, Nat.le_refl 0⟩) (fun H locs hM => ?_)
          refine lv_aload_n Cx.1 Cx.2.1 (dd_at td_X11_threshold 33 rfl) rfl (lv_at hl 0 rfl) ?_
          refine cc_gO (ci := 13) (C := RX11) (T := TX11) (N := 8) (k := 2) (ref := "EclipsesKept") Cx hM g3 rfl cc_inX11 rfl (by decide) cw502 (fun _ h => h) (dd_at td_X11_threshold 34 rfl) rfl ?_
          show W p l e (mm_R 6 161) s m args below meth c H locs 0 0 (MQ below (cc_Qi D X r st') args s 0 0 (cc_A X)) (F0 m 70 ls [.ref (cx_a X 3)])
          refine lv_iload_n Cx.1 Cx.2.1 (dd_at td_X11_threshold 35 rfl) rfl (lv_at hl 1 rfl) ?_
          refine lv_aload_n Cx.1 Cx.2.1 (dd_at td_X11_threshold 36 rfl) rfl (lv_at hl 0 rfl) ?_
          refine cc_gO (ci := 13) (C := RX11) (T := TX11) (N := 8) (k := 0) (ref := "EclipsesKept") Cx hM g3 rfl cc_inX11 rfl (by decide) cw498 (fun _ h => h) (dd_at td_X11_threshold 37 rfl) rfl ?_
          show W p l e (mm_R 6 161) s m args below meth c H locs 0 0 (MQ below (cc_Qi D X r st') args s 0 0 (cc_A X)) (F0 m 75 ls [.ref (cx_a X 1), .int x1, .ref (cx_a X 3)])
          refine cc_gI (ci := 9) (C := RX7) (T := TX7) (N := 17) (k := 13) (ref := "EclipsesKept$State") Cx hM g4 rfl cc_inX7 rfl (by decide) cw561 (fun _ h => h) (dd_at td_X11_threshold 38 rfl) rfl ?_
          obtain ⟨r14, st12, hx13, hf⟩ := fc_of_bn hf
          refine cc_all hM (cc_rV (ci := 12) (As := [.int x1, .int (cc_I st10 1 13)]) (rest := []) (n := 2) Cx hM g7 rfl (c_X10_leastWise l D X fu 3 x1 (cc_I st10 1 13) st10 r14 st12 hx13) (cc_gdV cw779 cw780 cw781 cw431 cw457) hd_X10_leastWise ⟨Nat.le_of_ble_eq_true rfl, Nat.le_of_ble_eq_true rfl⟩ rfl hl.1 rfl (Nat.le_of_ble_eq_true rfl) (dd_at td_X11_threshold 39 rfl) ⟨Nat.le_refl 0, Nat.le_refl 0⟩) (fun H locs hM => ?_)
          refine lv_lstore_n (lv' := [(2, .long r14), (0, .ref (cx_a X x0)), (1, .int x1)]) Cx.1 Cx.2.1 (dd_at td_X11_threshold 40 rfl) rfl hl (by decide) rfl (fun ls hl => ?_)
          refine lv_lload_n Cx.1 Cx.2.1 (dd_at td_X11_threshold 41 rfl) rfl (lv_at hl 0 rfl) ?_
          refine lv_ldc2 (v := (999 : Int64)) Cx.1 Cx.2.1 Cx.2.2.2.2.1 (Cx.2.2.2.2.2.1 _ cw778) (dd_at td_X11_threshold 42 rfl) ?_
          refine W.lcmp Cx.1 Cx.2.1 (dd_at td_X11_threshold 43 rfl) ?_
          refine lv_if_le (tgt := 95) Cx.1 Cx.2.1 (dd_at td_X11_threshold 44 rfl) (by decide) (fun c15 => ?_) (fun c15 => ?_)
          · replace hf := fc_of_t hf c15
            refine lv_lload_n Cx.1 Cx.2.1 (dd_at td_X11_threshold 47 rfl) rfl (lv_at hl 0 rfl) ?_
            refine lv_l2i Cx.1 Cx.2.1 (dd_at td_X11_threshold 48 rfl) rfl ?_
            exact cc_ri Cx hM (dd_at td_X11_threshold 49 rfl) hf
          · replace hf := fc_of_f hf c15
            refine lv_bipush (v := (-5 : Int32)) Cx.1 Cx.2.1 (dd_at td_X11_threshold 45 rfl) (by decide) ?_
            refine lv_goto (tgt := 97) Cx.1 Cx.2.1 (dd_at td_X11_threshold 46 rfl) (by decide) ?_
            exact cc_ri Cx hM (dd_at td_X11_threshold 49 rfl) hf
        · replace hf := fc_of_t hf c6
          refine lv_bipush (v := (-5 : Int32)) Cx.1 Cx.2.1 (dd_at td_X11_threshold 16 rfl) (by decide) ?_
          exact cc_ri Cx hM (dd_at td_X11_threshold 17 rfl) hf
    · replace hf := fc_of_f hf c2
      refine lv_bipush (v := (-2 : Int32)) Cx.1 Cx.2.1 (dd_at td_X11_threshold 6 rfl) (by decide) ?_
      exact cc_ri Cx hM (dd_at td_X11_threshold 7 rfl) hf
theorem c_X11_threshold (l : Launch) (D : va_G) (X : cc_X) (fu : Nat) (x0 : Nat) (x1 : Int32) (st : cc_S) : cc_Mi l D X yX11_threshold cX11_threshold 4 (some .int) 6 161 [.ref (cx_a X x0), .int x1] st (C_X11_threshold X fu x0 x1 st) := by
  intro r st' hf
  refine cc_enter (cc := cX11_threshold) (nL := 4) (ret := some .int) (by decide +kernel) rfl (Nat.le_of_ble_eq_true rfl) ?_
  intro p e s m args below meth c ls Cx hl hM
  exact w_X11_threshold Cx fu x0 x1 st hf hl hM

/-! X11_century -/
def tb_X11_century : List (Nat × Instr × Nat) := [(0, .iload_n 1, 1), (1, .iconst (-1), 1), (2, .if_icmp .ne 13, 3), (5, .aload_n 0, 1), (6, .getfield 12, 3), (9, .iconst 0, 1), (10, .putfield 193, 3), (13, .iconst 0, 1), (14, .ireturn, 1), (15, .aload_n 0, 1), (16, .getfield 12, 3), (19, .iload_n 1, 1), (20, .invokevirtual 94, 3), (23, .ifCond .ne 5, 3), (26, .iconst (-1), 1), (27, .ireturn, 1), (28, .aload_n 0, 1), (29, .getfield 12, 3), (32, .getfield 193, 3), (35, .bipush 8, 2), (37, .if_icmp .lt 6, 3), (40, .bipush (-4), 2), (42, .ireturn, 1), (43, .aload_n 0, 1), (44, .getfield 12, 3), (47, .getfield 196, 3), (50, .aload_n 0, 1), (51, .getfield 12, 3), (54, .getfield 193, 3), (57, .iload_n 1, 1), (58, .iastore, 1), (59, .aload_n 0, 1), (60, .getfield 12, 3), (63, .dup, 1), (64, .getfield 193, 3), (67, .iconst 1, 1), (68, .iadd, 1), (69, .putfield 193, 3), (72, .aload_n 0, 1), (73, .getfield 12, 3), (76, .getfield 193, 3), (79, .ireturn, 1)]
theorem td_X11_century : tb_X11_century.all (fun q => decide (decode cX11_century q.1 = .ok (q.2.1, q.2.2))) = true := by decide +kernel
theorem hd_X11_century : yX11_century.cls = RX11 ∧ yX11_century.cls ≠ "java/lang/invoke/MethodHandle" ∧ yX11_century.cls ≠ "java/lang/invoke/VarHandle" ∧ (parseMethodDescriptor yX11_century.desc).map (fun d => d.parameters.length) = some 1 := by decide +kernel
theorem hs_X11_century : yX11_century.name ≠ "<init>" ∧ (parseMethodDescriptor yX11_century.desc).map (fun d => d.parameters.length) = some 1 := by decide +kernel
theorem w_X11_century {p : Program} {l : Launch} {e : Env} {s : State} {m : MethodId} {args : Array Value} {below : List Frame} {meth : Method} {c : Code} {D : va_G} {X : cc_X} {r : Int32} {st' : cc_S} (Cx : cc_C p s m args meth c cX11_century 2 (some .int) RX11 D X) (fu : Nat) (x0 : Nat) (x1 : Int32) (st : cc_S) (hf : C_X11_century X fu x0 x1 st = some (r, st')) {H : Heap} {locs : List Loc} {ls : Array Slot} (hl : lv_has ls 2 [(0, .ref (cx_a X x0)), (1, .int x1)]) (hM : cc_H D X s.heap st H locs) : W p l e (mm_R 1 21) s m args below meth c H locs 0 0 (MQ below (cc_Qi D X r st') args s 0 0 (cc_A X)) (F0 m 0 ls []) := by
  unfold C_X11_century at hf
  refine lv_iload_n Cx.1 Cx.2.1 (dd_at td_X11_century 0 rfl) rfl (lv_at hl 1 rfl) ?_
  refine lv_iconst (v := (-1 : Int32)) Cx.1 Cx.2.1 (dd_at td_X11_century 1 rfl) (by decide) ?_
  refine lv_icmp_ne (tgt := 15) Cx.1 Cx.2.1 (dd_at td_X11_century 2 rfl) (by decide) (fun c1 => ?_) (fun c1 => ?_)
  · replace hf := fc_of_f hf c1
    refine lv_aload_n Cx.1 Cx.2.1 (dd_at td_X11_century 9 rfl) rfl (lv_at hl 0 rfl) ?_
    obtain ⟨g2, hf⟩ := fc_of_gd hf
    refine cc_gO (ci := 13) (C := RX11) (T := TX11) (N := 8) (k := 0) (ref := "EclipsesKept") Cx hM g2 rfl cc_inX11 rfl (by decide) cw498 (fun _ h => h) (dd_at td_X11_century 10 rfl) rfl ?_
    show W p l e (mm_R 1 21) s m args below meth c H locs 0 0 (MQ below (cc_Qi D X r st') args s 0 0 (cc_A X)) (F0 m 19 ls [.ref (cx_a X 1)])
    refine lv_iload_n Cx.1 Cx.2.1 (dd_at td_X11_century 11 rfl) rfl (lv_at hl 1 rfl) ?_
    obtain ⟨g3, hf⟩ := fc_of_gd hf
    obtain ⟨r6, st4, hx5, hf⟩ := fc_of_bn hf
    refine cc_ai hM (cc_rV (ci := 9) (As := [.int x1]) (rest := []) (n := 1) Cx hM g3 rfl (c_X7_has l D X fu 1 x1 st r6 st4 hx5) (cc_gdV cw565 cw343 cw344 cw345 cw340) hd_X7_has ⟨Nat.le_of_ble_eq_true rfl, Nat.le_of_ble_eq_true rfl⟩ rfl hl.1 rfl (Nat.le_of_ble_eq_true rfl) (dd_at td_X11_century 12 rfl) ⟨Nat.le_refl 0, Nat.le_refl 0⟩) (fun H locs hM => ?_)
    refine lv_if_ne (tgt := 28) Cx.1 Cx.2.1 (dd_at td_X11_century 13 rfl) (by decide) (fun c7 => ?_) (fun c7 => ?_)
    · replace hf := fc_of_f hf c7
      refine lv_aload_n Cx.1 Cx.2.1 (dd_at td_X11_century 16 rfl) rfl (lv_at hl 0 rfl) ?_
      refine cc_gO (ci := 13) (C := RX11) (T := TX11) (N := 8) (k := 0) (ref := "EclipsesKept") Cx hM g2 rfl cc_inX11 rfl (by decide) cw498 (fun _ h => h) (dd_at td_X11_century 17 rfl) rfl ?_
      show W p l e (mm_R 1 21) s m args below meth c H locs 0 0 (MQ below (cc_Qi D X r st') args s 0 0 (cc_A X)) (F0 m 32 ls [.ref (cx_a X 1)])
      refine cc_gI (ci := 9) (C := RX7) (T := TX7) (N := 17) (k := 10) (ref := "EclipsesKept$State") Cx hM g3 rfl cc_inX7 rfl (by decide) cw784 (fun _ h => h) (dd_at td_X11_century 18 rfl) rfl ?_
      refine lv_bipush (v := (8 : Int32)) Cx.1 Cx.2.1 (dd_at td_X11_century 19 rfl) (by decide) ?_
      refine lv_icmp_lt (tgt := 43) Cx.1 Cx.2.1 (dd_at td_X11_century 20 rfl) (by decide) (fun c8 => ?_) (fun c8 => ?_)
      · replace hf := fc_of_t hf c8
        refine lv_aload_n Cx.1 Cx.2.1 (dd_at td_X11_century 23 rfl) rfl (lv_at hl 0 rfl) ?_
        refine cc_gO (ci := 13) (C := RX11) (T := TX11) (N := 8) (k := 0) (ref := "EclipsesKept") Cx hM g2 rfl cc_inX11 rfl (by decide) cw498 (fun _ h => h) (dd_at td_X11_century 24 rfl) rfl ?_
        show W p l e (mm_R 1 21) s m args below meth c H locs 0 0 (MQ below (cc_Qi D X r st') args s 0 0 (cc_A X)) (F0 m 47 ls [.ref (cx_a X 1)])
        refine cc_gA (ci := 9) (C := RX7) (T := TX7) (N := 17) (k := 3) (ref := "EclipsesKept$State") Cx hM g3 rfl cc_inX7 rfl (by decide) cw785 (fun _ h => h) (dd_at td_X11_century 25 rfl) rfl ?_
        refine lv_aload_n Cx.1 Cx.2.1 (dd_at td_X11_century 26 rfl) rfl (lv_at hl 0 rfl) ?_
        refine cc_gO (ci := 13) (C := RX11) (T := TX11) (N := 8) (k := 0) (ref := "EclipsesKept") Cx hM g2 rfl cc_inX11 rfl (by decide) cw498 (fun _ h => h) (dd_at td_X11_century 27 rfl) rfl ?_
        show W p l e (mm_R 1 21) s m args below meth c H locs 0 0 (MQ below (cc_Qi D X r st') args s 0 0 (cc_A X)) (F0 m 54 ls [.ref (cx_a X 1), .ref (cx_b X 1 3)])
        refine cc_gI (ci := 9) (C := RX7) (T := TX7) (N := 17) (k := 10) (ref := "EclipsesKept$State") Cx hM g3 rfl cc_inX7 rfl (by decide) cw784 (fun _ h => h) (dd_at td_X11_century 28 rfl) rfl ?_
        refine lv_iload_n Cx.1 Cx.2.1 (dd_at td_X11_century 29 rfl) rfl (lv_at hl 1 rfl) ?_
        obtain ⟨g9, hf⟩ := fc_of_gd hf
        refine cc_iast Cx hM g9 (dd_at td_X11_century 30 rfl) (fun st10 H locs est10 hM => ?_)
        replace hf := fc_of_nm hf st10 est10
        refine lv_aload_n Cx.1 Cx.2.1 (dd_at td_X11_century 31 rfl) rfl (lv_at hl 0 rfl) ?_
        refine cc_gO (ci := 13) (C := RX11) (T := TX11) (N := 8) (k := 0) (ref := "EclipsesKept") Cx hM g2 rfl cc_inX11 rfl (by decide) cw498 (fun _ h => h) (dd_at td_X11_century 32 rfl) rfl ?_
        show W p l e (mm_R 1 21) s m args below meth c H locs 0 0 (MQ below (cc_Qi D X r st') args s 0 0 (cc_A X)) (F0 m 63 ls [.ref (cx_a X 1)])
        refine lv_dup Cx.1 Cx.2.1 (dd_at td_X11_century 33 rfl) rfl ?_
        refine cc_gI (ci := 9) (C := RX7) (T := TX7) (N := 17) (k := 10) (ref := "EclipsesKept$State") Cx hM g3 rfl cc_inX7 rfl (by decide) cw784 (fun _ h => h) (dd_at td_X11_century 34 rfl) rfl ?_
        refine lv_iconst (v := (1 : Int32)) Cx.1 Cx.2.1 (dd_at td_X11_century 35 rfl) (by decide) ?_
        refine lv_iadd Cx.1 Cx.2.1 (dd_at td_X11_century 36 rfl) ?_
        refine cc_pI (ci := 9) (C := RX7) (T := TX7) (N := 17) (k := 10) (ref := "EclipsesKept$State") (ty0 := tyX7) Cx hM g3 rfl cc_inX7 rfl (by decide) cw784 (fun _ h => h) tyX7_ok nmX7 rfl rfl rfl (dd_at td_X11_century 37 rfl) rfl (fun st11 H locs est11 hM => ?_)
        replace hf := fc_of_nm hf st11 est11
        refine lv_aload_n Cx.1 Cx.2.1 (dd_at td_X11_century 38 rfl) rfl (lv_at hl 0 rfl) ?_
        refine cc_gO (ci := 13) (C := RX11) (T := TX11) (N := 8) (k := 0) (ref := "EclipsesKept") Cx hM g2 rfl cc_inX11 rfl (by decide) cw498 (fun _ h => h) (dd_at td_X11_century 39 rfl) rfl ?_
        show W p l e (mm_R 1 21) s m args below meth c H locs 0 0 (MQ below (cc_Qi D X r st') args s 0 0 (cc_A X)) (F0 m 76 ls [.ref (cx_a X 1)])
        refine cc_gI (ci := 9) (C := RX7) (T := TX7) (N := 17) (k := 10) (ref := "EclipsesKept$State") Cx hM g3 rfl cc_inX7 rfl (by decide) cw784 (fun _ h => h) (dd_at td_X11_century 40 rfl) rfl ?_
        exact cc_ri Cx hM (dd_at td_X11_century 41 rfl) hf
      · replace hf := fc_of_f hf c8
        refine lv_bipush (v := (-4 : Int32)) Cx.1 Cx.2.1 (dd_at td_X11_century 21 rfl) (by decide) ?_
        exact cc_ri Cx hM (dd_at td_X11_century 22 rfl) hf
    · replace hf := fc_of_t hf c7
      refine lv_iconst (v := (-1 : Int32)) Cx.1 Cx.2.1 (dd_at td_X11_century 14 rfl) (by decide) ?_
      exact cc_ri Cx hM (dd_at td_X11_century 15 rfl) hf
  · replace hf := fc_of_t hf c1
    refine lv_aload_n Cx.1 Cx.2.1 (dd_at td_X11_century 3 rfl) rfl (lv_at hl 0 rfl) ?_
    obtain ⟨g12, hf⟩ := fc_of_gd hf
    refine cc_gO (ci := 13) (C := RX11) (T := TX11) (N := 8) (k := 0) (ref := "EclipsesKept") Cx hM g12 rfl cc_inX11 rfl (by decide) cw498 (fun _ h => h) (dd_at td_X11_century 4 rfl) rfl ?_
    show W p l e (mm_R 1 21) s m args below meth c H locs 0 0 (MQ below (cc_Qi D X r st') args s 0 0 (cc_A X)) (F0 m 9 ls [.ref (cx_a X 1)])
    refine lv_iconst (v := (0 : Int32)) Cx.1 Cx.2.1 (dd_at td_X11_century 5 rfl) (by decide) ?_
    obtain ⟨g13, hf⟩ := fc_of_gd hf
    refine cc_pI (ci := 9) (C := RX7) (T := TX7) (N := 17) (k := 10) (ref := "EclipsesKept$State") (ty0 := tyX7) Cx hM g13 rfl cc_inX7 rfl (by decide) cw784 (fun _ h => h) tyX7_ok nmX7 rfl rfl rfl (dd_at td_X11_century 6 rfl) rfl (fun st14 H locs est14 hM => ?_)
    replace hf := fc_of_nm hf st14 est14
    refine lv_iconst (v := (0 : Int32)) Cx.1 Cx.2.1 (dd_at td_X11_century 7 rfl) (by decide) ?_
    exact cc_ri Cx hM (dd_at td_X11_century 8 rfl) hf
theorem c_X11_century (l : Launch) (D : va_G) (X : cc_X) (fu : Nat) (x0 : Nat) (x1 : Int32) (st : cc_S) : cc_Mi l D X yX11_century cX11_century 2 (some .int) 1 21 [.ref (cx_a X x0), .int x1] st (C_X11_century X fu x0 x1 st) := by
  intro r st' hf
  refine cc_enter (cc := cX11_century) (nL := 2) (ret := some .int) (by decide +kernel) rfl (Nat.le_of_ble_eq_true rfl) ?_
  intro p e s m args below meth c ls Cx hl hM
  exact w_X11_century Cx fu x0 x1 st hf hl hM

/-! X11_plan -/
def tb_X11_plan : List (Nat × Instr × Nat) := [(0, .iload_n 1, 1), (1, .iconst 1, 1), (2, .invokestatic 54, 3), (5, .ifCond .ne 6, 3), (8, .ldc 98, 2), (10, .ireturn, 1), (11, .aload_n 0, 1), (12, .getfield 24, 3), (15, .aload_n 0, 1), (16, .getfield 12, 3), (19, .aload_n 0, 1), (20, .getfield 12, 3), (23, .getfield 193, 3), (26, .aload_n 0, 1), (27, .getfield 12, 3), (30, .getfield 87, 3), (33, .invokevirtual 151, 3), (36, .aload_n 0, 1), (37, .getfield 24, 3), (40, .aload_n 0, 1), (41, .getfield 12, 3), (44, .invokevirtual 199, 3), (47, .istore_n 2, 1), (48, .iload_n 1, 1), (49, .ifCond .ne 7, 3), (52, .iload_n 2, 1), (53, .goto 15, 3), (56, .aload_n 0, 1), (57, .getfield 24, 3), (60, .aload_n 0, 1), (61, .getfield 12, 3), (64, .iload_n 2, 1), (65, .invokevirtual 203, 3), (68, .ireturn, 1)]
theorem td_X11_plan : tb_X11_plan.all (fun q => decide (decode cX11_plan q.1 = .ok (q.2.1, q.2.2))) = true := by decide +kernel
theorem hd_X11_plan : yX11_plan.cls = RX11 ∧ yX11_plan.cls ≠ "java/lang/invoke/MethodHandle" ∧ yX11_plan.cls ≠ "java/lang/invoke/VarHandle" ∧ (parseMethodDescriptor yX11_plan.desc).map (fun d => d.parameters.length) = some 1 := by decide +kernel
theorem hs_X11_plan : yX11_plan.name ≠ "<init>" ∧ (parseMethodDescriptor yX11_plan.desc).map (fun d => d.parameters.length) = some 1 := by decide +kernel
theorem w_X11_plan {p : Program} {l : Launch} {e : Env} {s : State} {m : MethodId} {args : Array Value} {below : List Frame} {meth : Method} {c : Code} {D : va_G} {X : cc_X} {r : Int32} {st' : cc_S} (Cx : cc_C p s m args meth c cX11_plan 3 (some .int) RX11 D X) (fu : Nat) (x0 : Nat) (x1 : Int32) (st : cc_S) (hf : C_X11_plan X fu x0 x1 st = some (r, st')) {H : Heap} {locs : List Loc} {ls : Array Slot} (hl : lv_has ls 3 [(0, .ref (cx_a X x0)), (1, .int x1)]) (hM : cc_H D X s.heap st H locs) : W p l e (mm_R 6 161) s m args below meth c H locs 0 0 (MQ below (cc_Qi D X r st') args s 0 0 (cc_A X)) (F0 m 0 ls []) := by
  unfold C_X11_plan at hf
  refine lv_iload_n Cx.1 Cx.2.1 (dd_at td_X11_plan 0 rfl) rfl (lv_at hl 1 rfl) ?_
  refine lv_iconst (v := (1 : Int32)) Cx.1 Cx.2.1 (dd_at td_X11_plan 1 rfl) (by decide) ?_
  obtain ⟨r3, st1, hx2, hf⟩ := fc_of_bn hf
  refine cc_ai hM (cc_rS (As := [.int x1, .int (1 : Int32)]) (rest := []) (n := 2) Cx hM (c_X11_isWithin l D X fu x1 (1 : Int32) st r3 st1 hx2) (cc_gdS cw547 cw548 cw549 cw520) hd_X11_isWithin ⟨Nat.le_of_ble_eq_true rfl, Nat.le_of_ble_eq_true rfl⟩ rfl hl.1 rfl (Nat.le_of_ble_eq_true rfl) (dd_at td_X11_plan 2 rfl) ⟨Nat.le_refl 0, Nat.le_refl 0⟩) (fun H locs hM => ?_)
  refine lv_if_ne (tgt := 11) Cx.1 Cx.2.1 (dd_at td_X11_plan 3 rfl) (by decide) (fun c4 => ?_) (fun c4 => ?_)
  · replace hf := fc_of_f hf c4
    refine lv_aload_n Cx.1 Cx.2.1 (dd_at td_X11_plan 6 rfl) rfl (lv_at hl 0 rfl) ?_
    obtain ⟨g5, hf⟩ := fc_of_gd hf
    refine cc_gO (ci := 13) (C := RX11) (T := TX11) (N := 8) (k := 2) (ref := "EclipsesKept") Cx hM g5 rfl cc_inX11 rfl (by decide) cw502 (fun _ h => h) (dd_at td_X11_plan 7 rfl) rfl ?_
    show W p l e (mm_R 6 161) s m args below meth c H locs 0 0 (MQ below (cc_Qi D X r st') args s 0 0 (cc_A X)) (F0 m 15 ls [.ref (cx_a X 3)])
    refine lv_aload_n Cx.1 Cx.2.1 (dd_at td_X11_plan 8 rfl) rfl (lv_at hl 0 rfl) ?_
    refine cc_gO (ci := 13) (C := RX11) (T := TX11) (N := 8) (k := 0) (ref := "EclipsesKept") Cx hM g5 rfl cc_inX11 rfl (by decide) cw498 (fun _ h => h) (dd_at td_X11_plan 9 rfl) rfl ?_
    show W p l e (mm_R 6 161) s m args below meth c H locs 0 0 (MQ below (cc_Qi D X r st') args s 0 0 (cc_A X)) (F0 m 19 ls [.ref (cx_a X 1), .ref (cx_a X 3)])
    refine lv_aload_n Cx.1 Cx.2.1 (dd_at td_X11_plan 10 rfl) rfl (lv_at hl 0 rfl) ?_
    refine cc_gO (ci := 13) (C := RX11) (T := TX11) (N := 8) (k := 0) (ref := "EclipsesKept") Cx hM g5 rfl cc_inX11 rfl (by decide) cw498 (fun _ h => h) (dd_at td_X11_plan 11 rfl) rfl ?_
    show W p l e (mm_R 6 161) s m args below meth c H locs 0 0 (MQ below (cc_Qi D X r st') args s 0 0 (cc_A X)) (F0 m 23 ls [.ref (cx_a X 1), .ref (cx_a X 1), .ref (cx_a X 3)])
    obtain ⟨g6, hf⟩ := fc_of_gd hf
    refine cc_gI (ci := 9) (C := RX7) (T := TX7) (N := 17) (k := 10) (ref := "EclipsesKept$State") Cx hM g6 rfl cc_inX7 rfl (by decide) cw784 (fun _ h => h) (dd_at td_X11_plan 12 rfl) rfl ?_
    refine lv_aload_n Cx.1 Cx.2.1 (dd_at td_X11_plan 13 rfl) rfl (lv_at hl 0 rfl) ?_
    refine cc_gO (ci := 13) (C := RX11) (T := TX11) (N := 8) (k := 0) (ref := "EclipsesKept") Cx hM g5 rfl cc_inX11 rfl (by decide) cw498 (fun _ h => h) (dd_at td_X11_plan 14 rfl) rfl ?_
    show W p l e (mm_R 6 161) s m args below meth c H locs 0 0 (MQ below (cc_Qi D X r st') args s 0 0 (cc_A X)) (F0 m 30 ls [.ref (cx_a X 1), .int (cc_I st1 1 10), .ref (cx_a X 1), .ref (cx_a X 3)])
    refine cc_gI (ci := 9) (C := RX7) (T := TX7) (N := 17) (k := 13) (ref := "EclipsesKept$State") Cx hM g6 rfl cc_inX7 rfl (by decide) cw561 (fun _ h => h) (dd_at td_X11_plan 15 rfl) rfl ?_
    obtain ⟨g7, hf⟩ := fc_of_gd hf
    obtain ⟨st8, hx9, hf⟩ := fc_of_bv hf
    refine cc_av hM (cc_rV (ci := 12) (As := [.ref (cx_a X 1), .int (cc_I st1 1 10), .int (cc_I st1 1 13)]) (rest := []) (n := 3) Cx hM g7 rfl (c_X10_look l D X fu 3 1 (cc_I st1 1 10) (cc_I st1 1 13) st1 st8 hx9) (cc_gdV cw754 cw755 cw756 cw431 cw433) hd_X10_look ⟨Nat.le_of_ble_eq_true rfl, Nat.le_of_ble_eq_true rfl⟩ rfl hl.1 rfl (Nat.le_of_ble_eq_true rfl) (dd_at td_X11_plan 16 rfl) ⟨Nat.le_refl 0, Nat.le_refl 0⟩) (fun H locs hM => ?_)
    refine lv_aload_n Cx.1 Cx.2.1 (dd_at td_X11_plan 17 rfl) rfl (lv_at hl 0 rfl) ?_
    refine cc_gO (ci := 13) (C := RX11) (T := TX11) (N := 8) (k := 2) (ref := "EclipsesKept") Cx hM g5 rfl cc_inX11 rfl (by decide) cw502 (fun _ h => h) (dd_at td_X11_plan 18 rfl) rfl ?_
    show W p l e (mm_R 6 161) s m args below meth c H locs 0 0 (MQ below (cc_Qi D X r st') args s 0 0 (cc_A X)) (F0 m 40 ls [.ref (cx_a X 3)])
    refine lv_aload_n Cx.1 Cx.2.1 (dd_at td_X11_plan 19 rfl) rfl (lv_at hl 0 rfl) ?_
    refine cc_gO (ci := 13) (C := RX11) (T := TX11) (N := 8) (k := 0) (ref := "EclipsesKept") Cx hM g5 rfl cc_inX11 rfl (by decide) cw498 (fun _ h => h) (dd_at td_X11_plan 20 rfl) rfl ?_
    show W p l e (mm_R 6 161) s m args below meth c H locs 0 0 (MQ below (cc_Qi D X r st') args s 0 0 (cc_A X)) (F0 m 44 ls [.ref (cx_a X 1), .ref (cx_a X 3)])
    obtain ⟨r12, st10, hx11, hf⟩ := fc_of_bn hf
    refine cc_ai hM (cc_rV (ci := 12) (As := [.ref (cx_a X 1)]) (rest := []) (n := 1) Cx hM g7 rfl (c_X10_bestPlan l D X fu 3 1 st8 r12 st10 hx11) (cc_gdV cw786 cw787 cw788 cw431 cw471) hd_X10_bestPlan ⟨Nat.le_of_ble_eq_true rfl, Nat.le_of_ble_eq_true rfl⟩ rfl hl.1 rfl (Nat.le_of_ble_eq_true rfl) (dd_at td_X11_plan 21 rfl) ⟨Nat.le_refl 0, Nat.le_refl 0⟩) (fun H locs hM => ?_)
    refine lv_istore_n (lv' := [(2, .int r12), (0, .ref (cx_a X x0)), (1, .int x1)]) Cx.1 Cx.2.1 (dd_at td_X11_plan 22 rfl) rfl hl (by decide) rfl (fun ls hl => ?_)
    refine lv_iload_n Cx.1 Cx.2.1 (dd_at td_X11_plan 23 rfl) rfl (lv_at hl 2 rfl) ?_
    refine lv_if_ne (tgt := 56) Cx.1 Cx.2.1 (dd_at td_X11_plan 24 rfl) (by decide) (fun c13 => ?_) (fun c13 => ?_)
    · replace hf := fc_of_f hf c13
      refine lv_aload_n Cx.1 Cx.2.1 (dd_at td_X11_plan 27 rfl) rfl (lv_at hl 1 rfl) ?_
      refine cc_gO (ci := 13) (C := RX11) (T := TX11) (N := 8) (k := 2) (ref := "EclipsesKept") Cx hM g5 rfl cc_inX11 rfl (by decide) cw502 (fun _ h => h) (dd_at td_X11_plan 28 rfl) rfl ?_
      show W p l e (mm_R 6 161) s m args below meth c H locs 0 0 (MQ below (cc_Qi D X r st') args s 0 0 (cc_A X)) (F0 m 60 ls [.ref (cx_a X 3)])
      refine lv_aload_n Cx.1 Cx.2.1 (dd_at td_X11_plan 29 rfl) rfl (lv_at hl 1 rfl) ?_
      refine cc_gO (ci := 13) (C := RX11) (T := TX11) (N := 8) (k := 0) (ref := "EclipsesKept") Cx hM g5 rfl cc_inX11 rfl (by decide) cw498 (fun _ h => h) (dd_at td_X11_plan 30 rfl) rfl ?_
      show W p l e (mm_R 6 161) s m args below meth c H locs 0 0 (MQ below (cc_Qi D X r st') args s 0 0 (cc_A X)) (F0 m 64 ls [.ref (cx_a X 1), .ref (cx_a X 3)])
      refine lv_iload_n Cx.1 Cx.2.1 (dd_at td_X11_plan 31 rfl) rfl (lv_at hl 0 rfl) ?_
      obtain ⟨r16, st14, hx15, hf⟩ := fc_of_bn hf
      refine cc_ai hM (cc_rV (ci := 12) (As := [.ref (cx_a X 1), .int r12]) (rest := []) (n := 2) Cx hM g7 rfl (c_X10_gain l D X fu 3 1 r12 st10 r16 st14 hx15) (cc_gdV cw789 cw473 cw474 cw431 cw463) hd_X10_gain ⟨Nat.le_of_ble_eq_true rfl, Nat.le_of_ble_eq_true rfl⟩ rfl hl.1 rfl (Nat.le_of_ble_eq_true rfl) (dd_at td_X11_plan 32 rfl) ⟨Nat.le_refl 0, Nat.le_refl 0⟩) (fun H locs hM => ?_)
      exact cc_ri Cx hM (dd_at td_X11_plan 33 rfl) hf
    · replace hf := fc_of_t hf c13
      refine lv_iload_n Cx.1 Cx.2.1 (dd_at td_X11_plan 25 rfl) rfl (lv_at hl 0 rfl) ?_
      refine lv_goto (tgt := 68) Cx.1 Cx.2.1 (dd_at td_X11_plan 26 rfl) (by decide) ?_
      exact cc_ri Cx hM (dd_at td_X11_plan 33 rfl) hf
  · replace hf := fc_of_t hf c4
    refine lv_ldc (v := (-10000001 : Int32)) Cx.1 Cx.2.1 Cx.2.2.2.2.1 (Cx.2.2.2.2.2.1 _ cw567) (dd_at td_X11_plan 4 rfl) ?_
    exact cc_ri Cx hM (dd_at td_X11_plan 5 rfl) hf
theorem c_X11_plan (l : Launch) (D : va_G) (X : cc_X) (fu : Nat) (x0 : Nat) (x1 : Int32) (st : cc_S) : cc_Mi l D X yX11_plan cX11_plan 3 (some .int) 6 161 [.ref (cx_a X x0), .int x1] st (C_X11_plan X fu x0 x1 st) := by
  intro r st' hf
  refine cc_enter (cc := cX11_plan) (nL := 3) (ret := some .int) (by decide +kernel) rfl (Nat.le_of_ble_eq_true rfl) ?_
  intro p e s m args below meth c ls Cx hl hM
  exact w_X11_plan Cx fu x0 x1 st hf hl hM

/-! X11_ends -/
def tb_X11_ends : List (Nat × Instr × Nat) := [(0, .iload_n 1, 1), (1, .iconst 1, 1), (2, .invokestatic 54, 3), (5, .ifCond .ne 6, 3), (8, .ldc 98, 2), (10, .ireturn, 1), (11, .aload_n 0, 1), (12, .getfield 24, 3), (15, .aload_n 0, 1), (16, .getfield 12, 3), (19, .aload_n 0, 1), (20, .getfield 12, 3), (23, .getfield 193, 3), (26, .aload_n 0, 1), (27, .getfield 12, 3), (30, .getfield 87, 3), (33, .invokevirtual 151, 3), (36, .aload_n 0, 1), (37, .getfield 24, 3), (40, .aload_n 0, 1), (41, .getfield 12, 3), (44, .iload_n 1, 1), (45, .ifCond .ne 7, 3), (48, .iconst 0, 1), (49, .goto 6, 3), (52, .sipush 255, 3), (55, .invokevirtual 203, 3), (58, .ireturn, 1)]
theorem td_X11_ends : tb_X11_ends.all (fun q => decide (decode cX11_ends q.1 = .ok (q.2.1, q.2.2))) = true := by decide +kernel
theorem hd_X11_ends : yX11_ends.cls = RX11 ∧ yX11_ends.cls ≠ "java/lang/invoke/MethodHandle" ∧ yX11_ends.cls ≠ "java/lang/invoke/VarHandle" ∧ (parseMethodDescriptor yX11_ends.desc).map (fun d => d.parameters.length) = some 1 := by decide +kernel
theorem hs_X11_ends : yX11_ends.name ≠ "<init>" ∧ (parseMethodDescriptor yX11_ends.desc).map (fun d => d.parameters.length) = some 1 := by decide +kernel
theorem w_X11_ends_b55 {p : Program} {l : Launch} {e : Env} {s : State} {m : MethodId} {args : Array Value} {below : List Frame} {meth : Method} {c : Code} {D : va_G} {X : cc_X} {r : Int32} {st' : cc_S} (Cx : cc_C p s m args meth c cX11_ends 2 (some .int) RX11 D X) (fu : Nat) (x0 : Nat) (s0 : Int32) (st : cc_S) (hf : C_X11_ends_b55 X fu x0 s0 st = some (r, st')) {H : Heap} {locs : List Loc} {ls : Array Slot} (hl : lv_has ls 2 [(0, .ref (cx_a X x0))]) (hM : cc_H D X s.heap st H locs) : W p l e (mm_R 6 161) s m args below meth c H locs 0 0 (MQ below (cc_Qi D X r st') args s 0 0 (cc_A X)) (F0 m 55 ls [.int s0, .ref (cx_a X 1), .ref (cx_a X 3)]) := by
  unfold C_X11_ends_b55 at hf
  obtain ⟨g11, hf⟩ := fc_of_gd hf
  obtain ⟨r14, st12, hx13, hf⟩ := fc_of_bn hf
  refine cc_ai hM (cc_rV (ci := 12) (As := [.ref (cx_a X 1), .int s0]) (rest := []) (n := 2) Cx hM g11 rfl (c_X10_gain l D X fu 3 1 s0 st r14 st12 hx13) (cc_gdV cw789 cw473 cw474 cw431 cw463) hd_X10_gain ⟨Nat.le_of_ble_eq_true rfl, Nat.le_of_ble_eq_true rfl⟩ rfl hl.1 rfl (Nat.le_of_ble_eq_true rfl) (dd_at td_X11_ends 26 rfl) ⟨Nat.le_refl 0, Nat.le_refl 0⟩) (fun H locs hM => ?_)
  exact cc_ri Cx hM (dd_at td_X11_ends 27 rfl) hf
theorem w_X11_ends {p : Program} {l : Launch} {e : Env} {s : State} {m : MethodId} {args : Array Value} {below : List Frame} {meth : Method} {c : Code} {D : va_G} {X : cc_X} {r : Int32} {st' : cc_S} (Cx : cc_C p s m args meth c cX11_ends 2 (some .int) RX11 D X) (fu : Nat) (x0 : Nat) (x1 : Int32) (st : cc_S) (hf : C_X11_ends X fu x0 x1 st = some (r, st')) {H : Heap} {locs : List Loc} {ls : Array Slot} (hl : lv_has ls 2 [(0, .ref (cx_a X x0)), (1, .int x1)]) (hM : cc_H D X s.heap st H locs) : W p l e (mm_R 6 161) s m args below meth c H locs 0 0 (MQ below (cc_Qi D X r st') args s 0 0 (cc_A X)) (F0 m 0 ls []) := by
  unfold C_X11_ends at hf
  refine lv_iload_n Cx.1 Cx.2.1 (dd_at td_X11_ends 0 rfl) rfl (lv_at hl 1 rfl) ?_
  refine lv_iconst (v := (1 : Int32)) Cx.1 Cx.2.1 (dd_at td_X11_ends 1 rfl) (by decide) ?_
  obtain ⟨r3, st1, hx2, hf⟩ := fc_of_bn hf
  refine cc_ai hM (cc_rS (As := [.int x1, .int (1 : Int32)]) (rest := []) (n := 2) Cx hM (c_X11_isWithin l D X fu x1 (1 : Int32) st r3 st1 hx2) (cc_gdS cw547 cw548 cw549 cw520) hd_X11_isWithin ⟨Nat.le_of_ble_eq_true rfl, Nat.le_of_ble_eq_true rfl⟩ rfl hl.1 rfl (Nat.le_of_ble_eq_true rfl) (dd_at td_X11_ends 2 rfl) ⟨Nat.le_refl 0, Nat.le_refl 0⟩) (fun H locs hM => ?_)
  refine lv_if_ne (tgt := 11) Cx.1 Cx.2.1 (dd_at td_X11_ends 3 rfl) (by decide) (fun c4 => ?_) (fun c4 => ?_)
  · replace hf := fc_of_f hf c4
    refine lv_aload_n Cx.1 Cx.2.1 (dd_at td_X11_ends 6 rfl) rfl (lv_at hl 0 rfl) ?_
    obtain ⟨g5, hf⟩ := fc_of_gd hf
    refine cc_gO (ci := 13) (C := RX11) (T := TX11) (N := 8) (k := 2) (ref := "EclipsesKept") Cx hM g5 rfl cc_inX11 rfl (by decide) cw502 (fun _ h => h) (dd_at td_X11_ends 7 rfl) rfl ?_
    show W p l e (mm_R 6 161) s m args below meth c H locs 0 0 (MQ below (cc_Qi D X r st') args s 0 0 (cc_A X)) (F0 m 15 ls [.ref (cx_a X 3)])
    refine lv_aload_n Cx.1 Cx.2.1 (dd_at td_X11_ends 8 rfl) rfl (lv_at hl 0 rfl) ?_
    refine cc_gO (ci := 13) (C := RX11) (T := TX11) (N := 8) (k := 0) (ref := "EclipsesKept") Cx hM g5 rfl cc_inX11 rfl (by decide) cw498 (fun _ h => h) (dd_at td_X11_ends 9 rfl) rfl ?_
    show W p l e (mm_R 6 161) s m args below meth c H locs 0 0 (MQ below (cc_Qi D X r st') args s 0 0 (cc_A X)) (F0 m 19 ls [.ref (cx_a X 1), .ref (cx_a X 3)])
    refine lv_aload_n Cx.1 Cx.2.1 (dd_at td_X11_ends 10 rfl) rfl (lv_at hl 0 rfl) ?_
    refine cc_gO (ci := 13) (C := RX11) (T := TX11) (N := 8) (k := 0) (ref := "EclipsesKept") Cx hM g5 rfl cc_inX11 rfl (by decide) cw498 (fun _ h => h) (dd_at td_X11_ends 11 rfl) rfl ?_
    show W p l e (mm_R 6 161) s m args below meth c H locs 0 0 (MQ below (cc_Qi D X r st') args s 0 0 (cc_A X)) (F0 m 23 ls [.ref (cx_a X 1), .ref (cx_a X 1), .ref (cx_a X 3)])
    obtain ⟨g6, hf⟩ := fc_of_gd hf
    refine cc_gI (ci := 9) (C := RX7) (T := TX7) (N := 17) (k := 10) (ref := "EclipsesKept$State") Cx hM g6 rfl cc_inX7 rfl (by decide) cw784 (fun _ h => h) (dd_at td_X11_ends 12 rfl) rfl ?_
    refine lv_aload_n Cx.1 Cx.2.1 (dd_at td_X11_ends 13 rfl) rfl (lv_at hl 0 rfl) ?_
    refine cc_gO (ci := 13) (C := RX11) (T := TX11) (N := 8) (k := 0) (ref := "EclipsesKept") Cx hM g5 rfl cc_inX11 rfl (by decide) cw498 (fun _ h => h) (dd_at td_X11_ends 14 rfl) rfl ?_
    show W p l e (mm_R 6 161) s m args below meth c H locs 0 0 (MQ below (cc_Qi D X r st') args s 0 0 (cc_A X)) (F0 m 30 ls [.ref (cx_a X 1), .int (cc_I st1 1 10), .ref (cx_a X 1), .ref (cx_a X 3)])
    refine cc_gI (ci := 9) (C := RX7) (T := TX7) (N := 17) (k := 13) (ref := "EclipsesKept$State") Cx hM g6 rfl cc_inX7 rfl (by decide) cw561 (fun _ h => h) (dd_at td_X11_ends 15 rfl) rfl ?_
    obtain ⟨g7, hf⟩ := fc_of_gd hf
    obtain ⟨st8, hx9, hf⟩ := fc_of_bv hf
    refine cc_av hM (cc_rV (ci := 12) (As := [.ref (cx_a X 1), .int (cc_I st1 1 10), .int (cc_I st1 1 13)]) (rest := []) (n := 3) Cx hM g7 rfl (c_X10_look l D X fu 3 1 (cc_I st1 1 10) (cc_I st1 1 13) st1 st8 hx9) (cc_gdV cw754 cw755 cw756 cw431 cw433) hd_X10_look ⟨Nat.le_of_ble_eq_true rfl, Nat.le_of_ble_eq_true rfl⟩ rfl hl.1 rfl (Nat.le_of_ble_eq_true rfl) (dd_at td_X11_ends 16 rfl) ⟨Nat.le_refl 0, Nat.le_refl 0⟩) (fun H locs hM => ?_)
    refine lv_aload_n Cx.1 Cx.2.1 (dd_at td_X11_ends 17 rfl) rfl (lv_at hl 0 rfl) ?_
    refine cc_gO (ci := 13) (C := RX11) (T := TX11) (N := 8) (k := 2) (ref := "EclipsesKept") Cx hM g5 rfl cc_inX11 rfl (by decide) cw502 (fun _ h => h) (dd_at td_X11_ends 18 rfl) rfl ?_
    show W p l e (mm_R 6 161) s m args below meth c H locs 0 0 (MQ below (cc_Qi D X r st') args s 0 0 (cc_A X)) (F0 m 40 ls [.ref (cx_a X 3)])
    refine lv_aload_n Cx.1 Cx.2.1 (dd_at td_X11_ends 19 rfl) rfl (lv_at hl 0 rfl) ?_
    refine cc_gO (ci := 13) (C := RX11) (T := TX11) (N := 8) (k := 0) (ref := "EclipsesKept") Cx hM g5 rfl cc_inX11 rfl (by decide) cw498 (fun _ h => h) (dd_at td_X11_ends 20 rfl) rfl ?_
    show W p l e (mm_R 6 161) s m args below meth c H locs 0 0 (MQ below (cc_Qi D X r st') args s 0 0 (cc_A X)) (F0 m 44 ls [.ref (cx_a X 1), .ref (cx_a X 3)])
    refine lv_iload_n Cx.1 Cx.2.1 (dd_at td_X11_ends 21 rfl) rfl (lv_at hl 1 rfl) ?_
    refine lv_if_ne (tgt := 52) Cx.1 Cx.2.1 (dd_at td_X11_ends 22 rfl) (by decide) (fun c10 => ?_) (fun c10 => ?_)
    · replace hf := fc_of_f hf c10
      refine lv_sipush (v := (255 : Int32)) Cx.1 Cx.2.1 (dd_at td_X11_ends 25 rfl) (by decide) ?_
      exact w_X11_ends_b55 Cx fu x0 (255 : Int32) st8 hf (lv_sub hl [0] rfl) hM
    · replace hf := fc_of_t hf c10
      refine lv_iconst (v := (0 : Int32)) Cx.1 Cx.2.1 (dd_at td_X11_ends 23 rfl) (by decide) ?_
      refine lv_goto (tgt := 55) Cx.1 Cx.2.1 (dd_at td_X11_ends 24 rfl) (by decide) ?_
      exact w_X11_ends_b55 Cx fu x0 (0 : Int32) st8 hf (lv_sub hl [0] rfl) hM
  · replace hf := fc_of_t hf c4
    refine lv_ldc (v := (-10000001 : Int32)) Cx.1 Cx.2.1 Cx.2.2.2.2.1 (Cx.2.2.2.2.2.1 _ cw567) (dd_at td_X11_ends 4 rfl) ?_
    exact cc_ri Cx hM (dd_at td_X11_ends 5 rfl) hf
theorem c_X11_ends (l : Launch) (D : va_G) (X : cc_X) (fu : Nat) (x0 : Nat) (x1 : Int32) (st : cc_S) : cc_Mi l D X yX11_ends cX11_ends 2 (some .int) 6 161 [.ref (cx_a X x0), .int x1] st (C_X11_ends X fu x0 x1 st) := by
  intro r st' hf
  refine cc_enter (cc := cX11_ends) (nL := 2) (ret := some .int) (by decide +kernel) rfl (Nat.le_of_ble_eq_true rfl) ?_
  intro p e s m args below meth c ls Cx hl hM
  exact w_X11_ends Cx fu x0 x1 st hf hl hM

/-! X11_see -/
def tb_X11_see : List (Nat × Instr × Nat) := [(0, .iload_n 1, 1), (1, .iconst (-1), 1), (2, .if_icmp .ne 13, 3), (5, .aload_n 0, 1), (6, .getfield 12, 3), (9, .iconst 0, 1), (10, .putfield 207, 3), (13, .iconst 0, 1), (14, .ireturn, 1), (15, .aload_n 0, 1), (16, .getfield 12, 3), (19, .iload_n 1, 1), (20, .invokevirtual 94, 3), (23, .ifCond .ne 5, 3), (26, .iconst (-1), 1), (27, .ireturn, 1), (28, .iload_n 2, 1), (29, .sipush 999, 3), (32, .invokestatic 54, 3), (35, .ifCond .eq 12, 3), (38, .iload_n 3, 1), (39, .bipush 20, 2), (41, .invokestatic 54, 3), (44, .ifCond .ne 6, 3), (47, .bipush (-2), 2), (49, .ireturn, 1), (50, .aload_n 0, 1), (51, .getfield 12, 3), (54, .getfield 207, 3), (57, .iconst 5, 1), (58, .if_icmp .lt 6, 3), (61, .bipush (-4), 2), (63, .ireturn, 1), (64, .aload_n 0, 1), (65, .getfield 12, 3), (68, .getfield 207, 3), (71, .istore 4, 2), (73, .aload_n 0, 1), (74, .getfield 12, 3), (77, .getfield 210, 3), (80, .iload 4, 2), (82, .iload_n 1, 1), (83, .iastore, 1), (84, .aload_n 0, 1), (85, .getfield 12, 3), (88, .getfield 213, 3), (91, .iload 4, 2), (93, .iload_n 2, 1), (94, .iastore, 1), (95, .aload_n 0, 1), (96, .getfield 12, 3), (99, .getfield 216, 3), (102, .iload 4, 2), (104, .iload_n 3, 1), (105, .iastore, 1), (106, .aload_n 0, 1), (107, .getfield 12, 3), (110, .dup, 1), (111, .getfield 207, 3), (114, .iconst 1, 1), (115, .iadd, 1), (116, .putfield 207, 3), (119, .aload_n 0, 1), (120, .getfield 12, 3), (123, .getfield 207, 3), (126, .ireturn, 1)]
theorem td_X11_see : tb_X11_see.all (fun q => decide (decode cX11_see q.1 = .ok (q.2.1, q.2.2))) = true := by decide +kernel
theorem hd_X11_see : yX11_see.cls = RX11 ∧ yX11_see.cls ≠ "java/lang/invoke/MethodHandle" ∧ yX11_see.cls ≠ "java/lang/invoke/VarHandle" ∧ (parseMethodDescriptor yX11_see.desc).map (fun d => d.parameters.length) = some 3 := by decide +kernel
theorem hs_X11_see : yX11_see.name ≠ "<init>" ∧ (parseMethodDescriptor yX11_see.desc).map (fun d => d.parameters.length) = some 3 := by decide +kernel
theorem w_X11_see {p : Program} {l : Launch} {e : Env} {s : State} {m : MethodId} {args : Array Value} {below : List Frame} {meth : Method} {c : Code} {D : va_G} {X : cc_X} {r : Int32} {st' : cc_S} (Cx : cc_C p s m args meth c cX11_see 5 (some .int) RX11 D X) (fu : Nat) (x0 : Nat) (x1 : Int32) (x2 : Int32) (x3 : Int32) (st : cc_S) (hf : C_X11_see X fu x0 x1 x2 x3 st = some (r, st')) {H : Heap} {locs : List Loc} {ls : Array Slot} (hl : lv_has ls 5 [(0, .ref (cx_a X x0)), (1, .int x1), (2, .int x2), (3, .int x3)]) (hM : cc_H D X s.heap st H locs) : W p l e (mm_R 1 21) s m args below meth c H locs 0 0 (MQ below (cc_Qi D X r st') args s 0 0 (cc_A X)) (F0 m 0 ls []) := by
  unfold C_X11_see at hf
  refine lv_iload_n Cx.1 Cx.2.1 (dd_at td_X11_see 0 rfl) rfl (lv_at hl 1 rfl) ?_
  refine lv_iconst (v := (-1 : Int32)) Cx.1 Cx.2.1 (dd_at td_X11_see 1 rfl) (by decide) ?_
  refine lv_icmp_ne (tgt := 15) Cx.1 Cx.2.1 (dd_at td_X11_see 2 rfl) (by decide) (fun c1 => ?_) (fun c1 => ?_)
  · replace hf := fc_of_f hf c1
    refine lv_aload_n Cx.1 Cx.2.1 (dd_at td_X11_see 9 rfl) rfl (lv_at hl 0 rfl) ?_
    obtain ⟨g2, hf⟩ := fc_of_gd hf
    refine cc_gO (ci := 13) (C := RX11) (T := TX11) (N := 8) (k := 0) (ref := "EclipsesKept") Cx hM g2 rfl cc_inX11 rfl (by decide) cw498 (fun _ h => h) (dd_at td_X11_see 10 rfl) rfl ?_
    show W p l e (mm_R 1 21) s m args below meth c H locs 0 0 (MQ below (cc_Qi D X r st') args s 0 0 (cc_A X)) (F0 m 19 ls [.ref (cx_a X 1)])
    refine lv_iload_n Cx.1 Cx.2.1 (dd_at td_X11_see 11 rfl) rfl (lv_at hl 1 rfl) ?_
    obtain ⟨g3, hf⟩ := fc_of_gd hf
    obtain ⟨r6, st4, hx5, hf⟩ := fc_of_bn hf
    refine cc_ai hM (cc_rV (ci := 9) (As := [.int x1]) (rest := []) (n := 1) Cx hM g3 rfl (c_X7_has l D X fu 1 x1 st r6 st4 hx5) (cc_gdV cw565 cw343 cw344 cw345 cw340) hd_X7_has ⟨Nat.le_of_ble_eq_true rfl, Nat.le_of_ble_eq_true rfl⟩ rfl hl.1 rfl (Nat.le_of_ble_eq_true rfl) (dd_at td_X11_see 12 rfl) ⟨Nat.le_refl 0, Nat.le_refl 0⟩) (fun H locs hM => ?_)
    refine lv_if_ne (tgt := 28) Cx.1 Cx.2.1 (dd_at td_X11_see 13 rfl) (by decide) (fun c7 => ?_) (fun c7 => ?_)
    · replace hf := fc_of_f hf c7
      refine lv_iload_n Cx.1 Cx.2.1 (dd_at td_X11_see 16 rfl) rfl (lv_at hl 2 rfl) ?_
      refine lv_sipush (v := (999 : Int32)) Cx.1 Cx.2.1 (dd_at td_X11_see 17 rfl) (by decide) ?_
      obtain ⟨r10, st8, hx9, hf⟩ := fc_of_bn hf
      refine cc_ai hM (cc_rS (As := [.int x2, .int (999 : Int32)]) (rest := []) (n := 2) Cx hM (c_X11_isWithin l D X fu x2 (999 : Int32) st4 r10 st8 hx9) (cc_gdS cw547 cw548 cw549 cw520) hd_X11_isWithin ⟨Nat.le_of_ble_eq_true rfl, Nat.le_of_ble_eq_true rfl⟩ rfl hl.1 rfl (Nat.le_of_ble_eq_true rfl) (dd_at td_X11_see 18 rfl) ⟨Nat.le_refl 0, Nat.le_refl 0⟩) (fun H locs hM => ?_)
      refine lv_if_eq (tgt := 47) Cx.1 Cx.2.1 (dd_at td_X11_see 19 rfl) (by decide) (fun c11 => ?_) (fun c11 => ?_)
      · replace hf := fc_of_t hf c11
        refine lv_bipush (v := (-2 : Int32)) Cx.1 Cx.2.1 (dd_at td_X11_see 24 rfl) (by decide) ?_
        exact cc_ri Cx hM (dd_at td_X11_see 25 rfl) hf
      · replace hf := fc_of_f hf c11
        refine lv_iload_n Cx.1 Cx.2.1 (dd_at td_X11_see 20 rfl) rfl (lv_at hl 3 rfl) ?_
        refine lv_bipush (v := (20 : Int32)) Cx.1 Cx.2.1 (dd_at td_X11_see 21 rfl) (by decide) ?_
        obtain ⟨r14, st12, hx13, hf⟩ := fc_of_bn hf
        refine cc_ai hM (cc_rS (As := [.int x3, .int (20 : Int32)]) (rest := []) (n := 2) Cx hM (c_X11_isWithin l D X fu x3 (20 : Int32) st8 r14 st12 hx13) (cc_gdS cw547 cw548 cw549 cw520) hd_X11_isWithin ⟨Nat.le_of_ble_eq_true rfl, Nat.le_of_ble_eq_true rfl⟩ rfl hl.1 rfl (Nat.le_of_ble_eq_true rfl) (dd_at td_X11_see 22 rfl) ⟨Nat.le_refl 0, Nat.le_refl 0⟩) (fun H locs hM => ?_)
        refine lv_if_ne (tgt := 50) Cx.1 Cx.2.1 (dd_at td_X11_see 23 rfl) (by decide) (fun c15 => ?_) (fun c15 => ?_)
        · replace hf := fc_of_f hf c15
          refine lv_aload_n Cx.1 Cx.2.1 (dd_at td_X11_see 26 rfl) rfl (lv_at hl 0 rfl) ?_
          refine cc_gO (ci := 13) (C := RX11) (T := TX11) (N := 8) (k := 0) (ref := "EclipsesKept") Cx hM g2 rfl cc_inX11 rfl (by decide) cw498 (fun _ h => h) (dd_at td_X11_see 27 rfl) rfl ?_
          show W p l e (mm_R 1 21) s m args below meth c H locs 0 0 (MQ below (cc_Qi D X r st') args s 0 0 (cc_A X)) (F0 m 54 ls [.ref (cx_a X 1)])
          refine cc_gI (ci := 9) (C := RX7) (T := TX7) (N := 17) (k := 11) (ref := "EclipsesKept$State") Cx hM g3 rfl cc_inX7 rfl (by decide) cw793 (fun _ h => h) (dd_at td_X11_see 28 rfl) rfl ?_
          refine lv_iconst (v := (5 : Int32)) Cx.1 Cx.2.1 (dd_at td_X11_see 29 rfl) (by decide) ?_
          refine lv_icmp_lt (tgt := 64) Cx.1 Cx.2.1 (dd_at td_X11_see 30 rfl) (by decide) (fun c16 => ?_) (fun c16 => ?_)
          · replace hf := fc_of_t hf c16
            refine lv_aload_n Cx.1 Cx.2.1 (dd_at td_X11_see 33 rfl) rfl (lv_at hl 0 rfl) ?_
            refine cc_gO (ci := 13) (C := RX11) (T := TX11) (N := 8) (k := 0) (ref := "EclipsesKept") Cx hM g2 rfl cc_inX11 rfl (by decide) cw498 (fun _ h => h) (dd_at td_X11_see 34 rfl) rfl ?_
            show W p l e (mm_R 1 21) s m args below meth c H locs 0 0 (MQ below (cc_Qi D X r st') args s 0 0 (cc_A X)) (F0 m 68 ls [.ref (cx_a X 1)])
            refine cc_gI (ci := 9) (C := RX7) (T := TX7) (N := 17) (k := 11) (ref := "EclipsesKept$State") Cx hM g3 rfl cc_inX7 rfl (by decide) cw793 (fun _ h => h) (dd_at td_X11_see 35 rfl) rfl ?_
            refine lv_topi (fun v17 ev17 => ?_)
            replace hf := fc_of_nm hf v17 ev17
            refine lv_istore (lv' := [(4, .int v17), (0, .ref (cx_a X x0)), (1, .int x1), (2, .int x2), (3, .int x3)]) Cx.1 Cx.2.1 (dd_at td_X11_see 36 rfl) hl (by decide) rfl (fun ls hl => ?_)
            refine lv_aload_n Cx.1 Cx.2.1 (dd_at td_X11_see 37 rfl) rfl (lv_at hl 1 rfl) ?_
            refine cc_gO (ci := 13) (C := RX11) (T := TX11) (N := 8) (k := 0) (ref := "EclipsesKept") Cx hM g2 rfl cc_inX11 rfl (by decide) cw498 (fun _ h => h) (dd_at td_X11_see 38 rfl) rfl ?_
            show W p l e (mm_R 1 21) s m args below meth c H locs 0 0 (MQ below (cc_Qi D X r st') args s 0 0 (cc_A X)) (F0 m 77 ls [.ref (cx_a X 1)])
            refine cc_gA (ci := 9) (C := RX7) (T := TX7) (N := 17) (k := 4) (ref := "EclipsesKept$State") Cx hM g3 rfl cc_inX7 rfl (by decide) cw794 (fun _ h => h) (dd_at td_X11_see 39 rfl) rfl ?_
            refine lv_iload Cx.1 Cx.2.1 (dd_at td_X11_see 40 rfl) (lv_at hl 0 rfl) ?_
            refine lv_iload_n Cx.1 Cx.2.1 (dd_at td_X11_see 41 rfl) rfl (lv_at hl 2 rfl) ?_
            obtain ⟨g18, hf⟩ := fc_of_gd hf
            refine cc_iast Cx hM g18 (dd_at td_X11_see 42 rfl) (fun st19 H locs est19 hM => ?_)
            replace hf := fc_of_nm hf st19 est19
            refine lv_aload_n Cx.1 Cx.2.1 (dd_at td_X11_see 43 rfl) rfl (lv_at hl 1 rfl) ?_
            refine cc_gO (ci := 13) (C := RX11) (T := TX11) (N := 8) (k := 0) (ref := "EclipsesKept") Cx hM g2 rfl cc_inX11 rfl (by decide) cw498 (fun _ h => h) (dd_at td_X11_see 44 rfl) rfl ?_
            show W p l e (mm_R 1 21) s m args below meth c H locs 0 0 (MQ below (cc_Qi D X r st') args s 0 0 (cc_A X)) (F0 m 88 ls [.ref (cx_a X 1)])
            refine cc_gA (ci := 9) (C := RX7) (T := TX7) (N := 17) (k := 5) (ref := "EclipsesKept$State") Cx hM g3 rfl cc_inX7 rfl (by decide) cw795 (fun _ h => h) (dd_at td_X11_see 45 rfl) rfl ?_
            refine lv_iload Cx.1 Cx.2.1 (dd_at td_X11_see 46 rfl) (lv_at hl 0 rfl) ?_
            refine lv_iload_n Cx.1 Cx.2.1 (dd_at td_X11_see 47 rfl) rfl (lv_at hl 3 rfl) ?_
            obtain ⟨g20, hf⟩ := fc_of_gd hf
            refine cc_iast Cx hM g20 (dd_at td_X11_see 48 rfl) (fun st21 H locs est21 hM => ?_)
            replace hf := fc_of_nm hf st21 est21
            refine lv_aload_n Cx.1 Cx.2.1 (dd_at td_X11_see 49 rfl) rfl (lv_at hl 1 rfl) ?_
            refine cc_gO (ci := 13) (C := RX11) (T := TX11) (N := 8) (k := 0) (ref := "EclipsesKept") Cx hM g2 rfl cc_inX11 rfl (by decide) cw498 (fun _ h => h) (dd_at td_X11_see 50 rfl) rfl ?_
            show W p l e (mm_R 1 21) s m args below meth c H locs 0 0 (MQ below (cc_Qi D X r st') args s 0 0 (cc_A X)) (F0 m 99 ls [.ref (cx_a X 1)])
            refine cc_gA (ci := 9) (C := RX7) (T := TX7) (N := 17) (k := 6) (ref := "EclipsesKept$State") Cx hM g3 rfl cc_inX7 rfl (by decide) cw796 (fun _ h => h) (dd_at td_X11_see 51 rfl) rfl ?_
            refine lv_iload Cx.1 Cx.2.1 (dd_at td_X11_see 52 rfl) (lv_at hl 0 rfl) ?_
            refine lv_iload_n Cx.1 Cx.2.1 (dd_at td_X11_see 53 rfl) rfl (lv_at hl 4 rfl) ?_
            obtain ⟨g22, hf⟩ := fc_of_gd hf
            refine cc_iast Cx hM g22 (dd_at td_X11_see 54 rfl) (fun st23 H locs est23 hM => ?_)
            replace hf := fc_of_nm hf st23 est23
            refine lv_aload_n Cx.1 Cx.2.1 (dd_at td_X11_see 55 rfl) rfl (lv_at hl 1 rfl) ?_
            refine cc_gO (ci := 13) (C := RX11) (T := TX11) (N := 8) (k := 0) (ref := "EclipsesKept") Cx hM g2 rfl cc_inX11 rfl (by decide) cw498 (fun _ h => h) (dd_at td_X11_see 56 rfl) rfl ?_
            show W p l e (mm_R 1 21) s m args below meth c H locs 0 0 (MQ below (cc_Qi D X r st') args s 0 0 (cc_A X)) (F0 m 110 ls [.ref (cx_a X 1)])
            refine lv_dup Cx.1 Cx.2.1 (dd_at td_X11_see 57 rfl) rfl ?_
            refine cc_gI (ci := 9) (C := RX7) (T := TX7) (N := 17) (k := 11) (ref := "EclipsesKept$State") Cx hM g3 rfl cc_inX7 rfl (by decide) cw793 (fun _ h => h) (dd_at td_X11_see 58 rfl) rfl ?_
            refine lv_iconst (v := (1 : Int32)) Cx.1 Cx.2.1 (dd_at td_X11_see 59 rfl) (by decide) ?_
            refine lv_iadd Cx.1 Cx.2.1 (dd_at td_X11_see 60 rfl) ?_
            refine cc_pI (ci := 9) (C := RX7) (T := TX7) (N := 17) (k := 11) (ref := "EclipsesKept$State") (ty0 := tyX7) Cx hM g3 rfl cc_inX7 rfl (by decide) cw793 (fun _ h => h) tyX7_ok nmX7 rfl rfl rfl (dd_at td_X11_see 61 rfl) rfl (fun st24 H locs est24 hM => ?_)
            replace hf := fc_of_nm hf st24 est24
            refine lv_aload_n Cx.1 Cx.2.1 (dd_at td_X11_see 62 rfl) rfl (lv_at hl 1 rfl) ?_
            refine cc_gO (ci := 13) (C := RX11) (T := TX11) (N := 8) (k := 0) (ref := "EclipsesKept") Cx hM g2 rfl cc_inX11 rfl (by decide) cw498 (fun _ h => h) (dd_at td_X11_see 63 rfl) rfl ?_
            show W p l e (mm_R 1 21) s m args below meth c H locs 0 0 (MQ below (cc_Qi D X r st') args s 0 0 (cc_A X)) (F0 m 123 ls [.ref (cx_a X 1)])
            refine cc_gI (ci := 9) (C := RX7) (T := TX7) (N := 17) (k := 11) (ref := "EclipsesKept$State") Cx hM g3 rfl cc_inX7 rfl (by decide) cw793 (fun _ h => h) (dd_at td_X11_see 64 rfl) rfl ?_
            exact cc_ri Cx hM (dd_at td_X11_see 65 rfl) hf
          · replace hf := fc_of_f hf c16
            refine lv_bipush (v := (-4 : Int32)) Cx.1 Cx.2.1 (dd_at td_X11_see 31 rfl) (by decide) ?_
            exact cc_ri Cx hM (dd_at td_X11_see 32 rfl) hf
        · replace hf := fc_of_t hf c15
          refine lv_bipush (v := (-2 : Int32)) Cx.1 Cx.2.1 (dd_at td_X11_see 24 rfl) (by decide) ?_
          exact cc_ri Cx hM (dd_at td_X11_see 25 rfl) hf
    · replace hf := fc_of_t hf c7
      refine lv_iconst (v := (-1 : Int32)) Cx.1 Cx.2.1 (dd_at td_X11_see 14 rfl) (by decide) ?_
      exact cc_ri Cx hM (dd_at td_X11_see 15 rfl) hf
  · replace hf := fc_of_t hf c1
    refine lv_aload_n Cx.1 Cx.2.1 (dd_at td_X11_see 3 rfl) rfl (lv_at hl 0 rfl) ?_
    obtain ⟨g25, hf⟩ := fc_of_gd hf
    refine cc_gO (ci := 13) (C := RX11) (T := TX11) (N := 8) (k := 0) (ref := "EclipsesKept") Cx hM g25 rfl cc_inX11 rfl (by decide) cw498 (fun _ h => h) (dd_at td_X11_see 4 rfl) rfl ?_
    show W p l e (mm_R 1 21) s m args below meth c H locs 0 0 (MQ below (cc_Qi D X r st') args s 0 0 (cc_A X)) (F0 m 9 ls [.ref (cx_a X 1)])
    refine lv_iconst (v := (0 : Int32)) Cx.1 Cx.2.1 (dd_at td_X11_see 5 rfl) (by decide) ?_
    obtain ⟨g26, hf⟩ := fc_of_gd hf
    refine cc_pI (ci := 9) (C := RX7) (T := TX7) (N := 17) (k := 11) (ref := "EclipsesKept$State") (ty0 := tyX7) Cx hM g26 rfl cc_inX7 rfl (by decide) cw793 (fun _ h => h) tyX7_ok nmX7 rfl rfl rfl (dd_at td_X11_see 6 rfl) rfl (fun st27 H locs est27 hM => ?_)
    replace hf := fc_of_nm hf st27 est27
    refine lv_iconst (v := (0 : Int32)) Cx.1 Cx.2.1 (dd_at td_X11_see 7 rfl) (by decide) ?_
    exact cc_ri Cx hM (dd_at td_X11_see 8 rfl) hf
theorem c_X11_see (l : Launch) (D : va_G) (X : cc_X) (fu : Nat) (x0 : Nat) (x1 : Int32) (x2 : Int32) (x3 : Int32) (st : cc_S) : cc_Mi l D X yX11_see cX11_see 5 (some .int) 1 21 [.ref (cx_a X x0), .int x1, .int x2, .int x3] st (C_X11_see X fu x0 x1 x2 x3 st) := by
  intro r st' hf
  refine cc_enter (cc := cX11_see) (nL := 5) (ret := some .int) (by decide +kernel) rfl (Nat.le_of_ble_eq_true rfl) ?_
  intro p e s m args below meth c ls Cx hl hM
  exact w_X11_see Cx fu x0 x1 x2 x3 st hf hl hM

