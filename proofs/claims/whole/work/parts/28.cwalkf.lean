/-! X11_can -/
def tb_X11_can : List (Nat × Instr × Nat) := [(0, .aload_n 0, 1), (1, .getfield 12, 3), (4, .iload_n 1, 1), (5, .invokevirtual 94, 3), (8, .ifCond .eq 11, 3), (11, .iload_n 2, 1), (12, .iconst 1, 1), (13, .invokestatic 54, 3), (16, .ifCond .ne 5, 3), (19, .iconst (-1), 1), (20, .ireturn, 1), (21, .iconst 0, 1), (22, .istore_n 3, 1), (23, .bipush (-5), 2), (25, .istore 4, 2), (27, .bipush 9, 2), (29, .istore 5, 2), (31, .iload 5, 2), (33, .ifCond .lt 36, 3), (36, .aload_n 0, 1), (37, .getfield 12, 3), (40, .iload_n 1, 1), (41, .iload 5, 2), (43, .aload_n 0, 1), (44, .getfield 12, 3), (47, .getfield 87, 3), (50, .invokevirtual 219, 3), (53, .ifCond .eq 10, 3), (56, .iinc 3 1, 3), (59, .iload 5, 2), (61, .istore 4, 2), (63, .iinc 5 (-1), 3), (66, .goto (-35), 3), (69, .iload_n 2, 1), (70, .ifCond .ne 7, 3), (73, .iload_n 3, 1), (74, .goto 5, 3), (77, .iload 4, 2), (79, .ireturn, 1)]
theorem td_X11_can : tb_X11_can.all (fun q => decide (decode cX11_can q.1 = .ok (q.2.1, q.2.2))) = true := by decide +kernel
theorem hd_X11_can : yX11_can.cls = RX11 ∧ yX11_can.cls ≠ "java/lang/invoke/MethodHandle" ∧ yX11_can.cls ≠ "java/lang/invoke/VarHandle" ∧ (parseMethodDescriptor yX11_can.desc).map (fun d => d.parameters.length) = some 2 := by decide +kernel
theorem hs_X11_can : yX11_can.name ≠ "<init>" ∧ (parseMethodDescriptor yX11_can.desc).map (fun d => d.parameters.length) = some 2 := by decide +kernel
theorem w_X11_can_b63 {p : Program} {l : Launch} {e : Env} {s : State} {m : MethodId} {args : Array Value} {below : List Frame} {meth : Method} {c : Code} {D : va_G} {X : cc_X} {r : Int32} {st' : cc_S} (Cx : cc_C p s m args meth c cX11_can 6 (some .int) RX11 D X) (fu : Nat) (K31 : Nat → Int32 → Int32 → Int32 → Int32 → Int32 → cc_S → Option (Int32 × cc_S)) (hK31 : ∀ (x0 : Nat) (x1 : Int32) (x2 : Int32) (x3 : Int32) (x4 : Int32) (x5 : Int32) (st : cc_S) (H : Heap) (locs : List Loc) (ls : Array Slot), K31 x0 x1 x2 x3 x4 x5 st = some (r, st') → lv_has ls 6 [(0, .ref (cx_a X x0)), (1, .int x1), (2, .int x2), (3, .int x3), (4, .int x4), (5, .int x5)] → cc_H D X s.heap st H locs → W p l e (mm_R 6 162) s m args below meth c H locs 0 0 (MQ below (cc_Qi D X r st') args s 0 0 (cc_A X)) (F0 m 31 ls [])) (x0 : Nat) (x1 : Int32) (x2 : Int32) (x3 : Int32) (x4 : Int32) (x5 : Int32) (st : cc_S) (hf : C_X11_can_b63 X fu K31 x0 x1 x2 x3 x4 x5 st = some (r, st')) {H : Heap} {locs : List Loc} {ls : Array Slot} (hl : lv_has ls 6 [(0, .ref (cx_a X x0)), (1, .int x1), (2, .int x2), (3, .int x3), (4, .int x4), (5, .int x5)]) (hM : cc_H D X s.heap st H locs) : W p l e (mm_R 6 162) s m args below meth c H locs 0 0 (MQ below (cc_Qi D X r st') args s 0 0 (cc_A X)) (F0 m 63 ls []) := by
  unfold C_X11_can_b63 at hf
  obtain ⟨v20, ev20⟩ : ∃ y : Int32, y = x5 + (-1 : Int32) := ⟨_, rfl⟩
  replace hf := fc_of_nm hf v20 ev20
  refine lv_iinc (v := v20) (lv' := [(5, .int v20), (0, .ref (cx_a X x0)), (1, .int x1), (2, .int x2), (3, .int x3), (4, .int x4)]) Cx.1 Cx.2.1 (dd_at td_X11_can 31 rfl) hl (k := 5) rfl (by rw [ev20]; rfl) (by decide) rfl (fun ls hl => ?_)
  refine lv_goto (tgt := 31) Cx.1 Cx.2.1 (dd_at td_X11_can 32 rfl) (by decide) ?_
  exact hK31 x0 x1 x2 x3 x4 v20 st _ _ _ hf (lv_sub hl [1, 2, 3, 4, 5, 0] rfl) hM
theorem w_X11_can_b31F {p : Program} {l : Launch} {e : Env} {s : State} {m : MethodId} {args : Array Value} {below : List Frame} {meth : Method} {c : Code} {D : va_G} {X : cc_X} {r : Int32} {st' : cc_S} (Cx : cc_C p s m args meth c cX11_can 6 (some .int) RX11 D X) (fu : Nat) (K31 : Nat → Int32 → Int32 → Int32 → Int32 → Int32 → cc_S → Option (Int32 × cc_S)) (hK31 : ∀ (x0 : Nat) (x1 : Int32) (x2 : Int32) (x3 : Int32) (x4 : Int32) (x5 : Int32) (st : cc_S) (H : Heap) (locs : List Loc) (ls : Array Slot), K31 x0 x1 x2 x3 x4 x5 st = some (r, st') → lv_has ls 6 [(0, .ref (cx_a X x0)), (1, .int x1), (2, .int x2), (3, .int x3), (4, .int x4), (5, .int x5)] → cc_H D X s.heap st H locs → W p l e (mm_R 6 162) s m args below meth c H locs 0 0 (MQ below (cc_Qi D X r st') args s 0 0 (cc_A X)) (F0 m 31 ls [])) (x0 : Nat) (x1 : Int32) (x2 : Int32) (x3 : Int32) (x4 : Int32) (x5 : Int32) (st : cc_S) (hf : C_X11_can_b31F X fu K31 x0 x1 x2 x3 x4 x5 st = some (r, st')) {H : Heap} {locs : List Loc} {ls : Array Slot} (hl : lv_has ls 6 [(0, .ref (cx_a X x0)), (1, .int x1), (2, .int x2), (3, .int x3), (4, .int x4), (5, .int x5)]) (hM : cc_H D X s.heap st H locs) : W p l e (mm_R 6 162) s m args below meth c H locs 0 0 (MQ below (cc_Qi D X r st') args s 0 0 (cc_A X)) (F0 m 31 ls []) := by
  unfold C_X11_can_b31F at hf
  refine lv_iload Cx.1 Cx.2.1 (dd_at td_X11_can 17 rfl) (lv_at hl 5 rfl) ?_
  refine lv_if_lt (tgt := 69) Cx.1 Cx.2.1 (dd_at td_X11_can 18 rfl) (by decide) (fun c11 => ?_) (fun c11 => ?_)
  · replace hf := fc_of_t hf c11
    refine lv_iload_n Cx.1 Cx.2.1 (dd_at td_X11_can 33 rfl) rfl (lv_at hl 2 rfl) ?_
    refine lv_if_ne (tgt := 77) Cx.1 Cx.2.1 (dd_at td_X11_can 34 rfl) (by decide) (fun c12 => ?_) (fun c12 => ?_)
    · replace hf := fc_of_f hf c12
      refine lv_iload Cx.1 Cx.2.1 (dd_at td_X11_can 37 rfl) (lv_at hl 4 rfl) ?_
      exact cc_ri Cx hM (dd_at td_X11_can 38 rfl) hf
    · replace hf := fc_of_t hf c12
      refine lv_iload_n Cx.1 Cx.2.1 (dd_at td_X11_can 35 rfl) rfl (lv_at hl 3 rfl) ?_
      refine lv_goto (tgt := 79) Cx.1 Cx.2.1 (dd_at td_X11_can 36 rfl) (by decide) ?_
      exact cc_ri Cx hM (dd_at td_X11_can 38 rfl) hf
  · replace hf := fc_of_f hf c11
    refine lv_aload_n Cx.1 Cx.2.1 (dd_at td_X11_can 19 rfl) rfl (lv_at hl 0 rfl) ?_
    obtain ⟨g13, hf⟩ := fc_of_gd hf
    refine cc_gO (ci := 13) (C := RX11) (T := TX11) (N := 8) (k := 0) (ref := "EclipsesKept") Cx hM g13 rfl cc_inX11 rfl (by decide) cw498 (fun _ h => h) (dd_at td_X11_can 20 rfl) rfl ?_
    show W p l e (mm_R 6 162) s m args below meth c H locs 0 0 (MQ below (cc_Qi D X r st') args s 0 0 (cc_A X)) (F0 m 40 ls [.ref (cx_a X 1)])
    refine lv_iload_n Cx.1 Cx.2.1 (dd_at td_X11_can 21 rfl) rfl (lv_at hl 1 rfl) ?_
    refine lv_iload Cx.1 Cx.2.1 (dd_at td_X11_can 22 rfl) (lv_at hl 5 rfl) ?_
    refine lv_aload_n Cx.1 Cx.2.1 (dd_at td_X11_can 23 rfl) rfl (lv_at hl 0 rfl) ?_
    refine cc_gO (ci := 13) (C := RX11) (T := TX11) (N := 8) (k := 0) (ref := "EclipsesKept") Cx hM g13 rfl cc_inX11 rfl (by decide) cw498 (fun _ h => h) (dd_at td_X11_can 24 rfl) rfl ?_
    show W p l e (mm_R 6 162) s m args below meth c H locs 0 0 (MQ below (cc_Qi D X r st') args s 0 0 (cc_A X)) (F0 m 47 ls [.ref (cx_a X 1), .int x5, .int x1, .ref (cx_a X 1)])
    obtain ⟨g14, hf⟩ := fc_of_gd hf
    refine cc_gI (ci := 9) (C := RX7) (T := TX7) (N := 17) (k := 13) (ref := "EclipsesKept$State") Cx hM g14 rfl cc_inX7 rfl (by decide) cw561 (fun _ h => h) (dd_at td_X11_can 25 rfl) rfl ?_
    obtain ⟨r17, st15, hx16, hf⟩ := fc_of_bn hf
    refine cc_ai hM (cc_rV (ci := 9) (As := [.int x1, .int x5, .int (cc_I st 1 13)]) (rest := []) (n := 3) Cx hM g14 rfl (c_X7_isAllSeen l D X fu 1 x1 x5 (cc_I st 1 13) st r17 st15 hx16) (cc_gdV cw797 cw798 cw799 cw345 cw399) hd_X7_isAllSeen ⟨Nat.le_of_ble_eq_true rfl, Nat.le_of_ble_eq_true rfl⟩ rfl hl.1 rfl (Nat.le_of_ble_eq_true rfl) (dd_at td_X11_can 26 rfl) ⟨Nat.le_refl 0, Nat.le_refl 0⟩) (fun H locs hM => ?_)
    refine lv_if_eq (tgt := 63) Cx.1 Cx.2.1 (dd_at td_X11_can 27 rfl) (by decide) (fun c18 => ?_) (fun c18 => ?_)
    · replace hf := fc_of_t hf c18
      exact w_X11_can_b63 Cx fu K31 hK31 x0 x1 x2 x3 x4 x5 st15 hf (lv_sub hl [0, 1, 2, 3, 4, 5] rfl) hM
    · replace hf := fc_of_f hf c18
      obtain ⟨v19, ev19⟩ : ∃ y : Int32, y = x3 + (1 : Int32) := ⟨_, rfl⟩
      replace hf := fc_of_nm hf v19 ev19
      refine lv_iinc (v := v19) (lv' := [(3, .int v19), (0, .ref (cx_a X x0)), (1, .int x1), (2, .int x2), (4, .int x4), (5, .int x5)]) Cx.1 Cx.2.1 (dd_at td_X11_can 28 rfl) hl (k := 3) rfl (by rw [ev19]; rfl) (by decide) rfl (fun ls hl => ?_)
      refine lv_iload Cx.1 Cx.2.1 (dd_at td_X11_can 29 rfl) (lv_at hl 5 rfl) ?_
      refine lv_istore (lv' := [(4, .int x5), (3, .int v19), (0, .ref (cx_a X x0)), (1, .int x1), (2, .int x2), (5, .int x5)]) Cx.1 Cx.2.1 (dd_at td_X11_can 30 rfl) hl (by decide) rfl (fun ls hl => ?_)
      exact w_X11_can_b63 Cx fu K31 hK31 x0 x1 x2 v19 x5 x5 st15 hf (lv_sub hl [2, 3, 4, 1, 0, 5] rfl) hM
theorem w_X11_can_b31 {p : Program} {l : Launch} {e : Env} {s : State} {m : MethodId} {args : Array Value} {below : List Frame} {meth : Method} {c : Code} {D : va_G} {X : cc_X} {r : Int32} {st' : cc_S} (Cx : cc_C p s m args meth c cX11_can 6 (some .int) RX11 D X) (fu : Nat) (n : Nat) : ∀ (x0 : Nat) (x1 : Int32) (x2 : Int32) (x3 : Int32) (x4 : Int32) (x5 : Int32) (st : cc_S), C_X11_can_b31 X fu n x0 x1 x2 x3 x4 x5 st = some (r, st') → ∀ (H : Heap) (locs : List Loc) (ls : Array Slot), lv_has ls 6 [(0, .ref (cx_a X x0)), (1, .int x1), (2, .int x2), (3, .int x3), (4, .int x4), (5, .int x5)] → cc_H D X s.heap st H locs → W p l e (mm_R 6 162) s m args below meth c H locs 0 0 (MQ below (cc_Qi D X r st') args s 0 0 (cc_A X)) (F0 m 31 ls []) := by
  induction n with
  | zero => exact fun _ _ _ _ _ _ _ hf => fc_no hf
  | succ n ih =>
    intro x0 x1 x2 x3 x4 x5 st hf H locs ls hl hM
    exact w_X11_can_b31F Cx fu (fun x0 x1 x2 x3 x4 x5 st => C_X11_can_b31 X fu n x0 x1 x2 x3 x4 x5 st) (fun x0 x1 x2 x3 x4 x5 st H locs ls hf hl hM => ih x0 x1 x2 x3 x4 x5 st hf H locs ls hl hM) x0 x1 x2 x3 x4 x5 st hf hl hM
theorem w_X11_can {p : Program} {l : Launch} {e : Env} {s : State} {m : MethodId} {args : Array Value} {below : List Frame} {meth : Method} {c : Code} {D : va_G} {X : cc_X} {r : Int32} {st' : cc_S} (Cx : cc_C p s m args meth c cX11_can 6 (some .int) RX11 D X) (fu : Nat) (x0 : Nat) (x1 : Int32) (x2 : Int32) (st : cc_S) (hf : C_X11_can X fu x0 x1 x2 st = some (r, st')) {H : Heap} {locs : List Loc} {ls : Array Slot} (hl : lv_has ls 6 [(0, .ref (cx_a X x0)), (1, .int x1), (2, .int x2)]) (hM : cc_H D X s.heap st H locs) : W p l e (mm_R 6 162) s m args below meth c H locs 0 0 (MQ below (cc_Qi D X r st') args s 0 0 (cc_A X)) (F0 m 0 ls []) := by
  unfold C_X11_can at hf
  refine lv_aload_n Cx.1 Cx.2.1 (dd_at td_X11_can 0 rfl) rfl (lv_at hl 0 rfl) ?_
  obtain ⟨g1, hf⟩ := fc_of_gd hf
  refine cc_gO (ci := 13) (C := RX11) (T := TX11) (N := 8) (k := 0) (ref := "EclipsesKept") Cx hM g1 rfl cc_inX11 rfl (by decide) cw498 (fun _ h => h) (dd_at td_X11_can 1 rfl) rfl ?_
  show W p l e (mm_R 6 162) s m args below meth c H locs 0 0 (MQ below (cc_Qi D X r st') args s 0 0 (cc_A X)) (F0 m 4 ls [.ref (cx_a X 1)])
  refine lv_iload_n Cx.1 Cx.2.1 (dd_at td_X11_can 2 rfl) rfl (lv_at hl 1 rfl) ?_
  obtain ⟨g2, hf⟩ := fc_of_gd hf
  obtain ⟨r5, st3, hx4, hf⟩ := fc_of_bn hf
  refine cc_ai hM (cc_rV (ci := 9) (As := [.int x1]) (rest := []) (n := 1) Cx hM g2 rfl (c_X7_has l D X fu 1 x1 st r5 st3 hx4) (cc_gdV cw565 cw343 cw344 cw345 cw340) hd_X7_has ⟨Nat.le_of_ble_eq_true rfl, Nat.le_of_ble_eq_true rfl⟩ rfl hl.1 rfl (Nat.le_of_ble_eq_true rfl) (dd_at td_X11_can 3 rfl) ⟨Nat.le_refl 0, Nat.le_refl 0⟩) (fun H locs hM => ?_)
  refine lv_if_eq (tgt := 19) Cx.1 Cx.2.1 (dd_at td_X11_can 4 rfl) (by decide) (fun c6 => ?_) (fun c6 => ?_)
  · replace hf := fc_of_t hf c6
    refine lv_iconst (v := (-1 : Int32)) Cx.1 Cx.2.1 (dd_at td_X11_can 9 rfl) (by decide) ?_
    exact cc_ri Cx hM (dd_at td_X11_can 10 rfl) hf
  · replace hf := fc_of_f hf c6
    refine lv_iload_n Cx.1 Cx.2.1 (dd_at td_X11_can 5 rfl) rfl (lv_at hl 2 rfl) ?_
    refine lv_iconst (v := (1 : Int32)) Cx.1 Cx.2.1 (dd_at td_X11_can 6 rfl) (by decide) ?_
    obtain ⟨r9, st7, hx8, hf⟩ := fc_of_bn hf
    refine cc_ai hM (cc_rS (As := [.int x2, .int (1 : Int32)]) (rest := []) (n := 2) Cx hM (c_X11_isWithin l D X fu x2 (1 : Int32) st3 r9 st7 hx8) (cc_gdS cw547 cw548 cw549 cw520) hd_X11_isWithin ⟨Nat.le_of_ble_eq_true rfl, Nat.le_of_ble_eq_true rfl⟩ rfl hl.1 rfl (Nat.le_of_ble_eq_true rfl) (dd_at td_X11_can 7 rfl) ⟨Nat.le_refl 0, Nat.le_refl 0⟩) (fun H locs hM => ?_)
    refine lv_if_ne (tgt := 21) Cx.1 Cx.2.1 (dd_at td_X11_can 8 rfl) (by decide) (fun c10 => ?_) (fun c10 => ?_)
    · replace hf := fc_of_f hf c10
      refine lv_iconst (v := (0 : Int32)) Cx.1 Cx.2.1 (dd_at td_X11_can 11 rfl) (by decide) ?_
      refine lv_istore_n (lv' := [(3, .int (0 : Int32)), (0, .ref (cx_a X x0)), (1, .int x1), (2, .int x2)]) Cx.1 Cx.2.1 (dd_at td_X11_can 12 rfl) rfl hl (by decide) rfl (fun ls hl => ?_)
      refine lv_bipush (v := (-5 : Int32)) Cx.1 Cx.2.1 (dd_at td_X11_can 13 rfl) (by decide) ?_
      refine lv_istore (lv' := [(4, .int (-5 : Int32)), (3, .int (0 : Int32)), (0, .ref (cx_a X x0)), (1, .int x1), (2, .int x2)]) Cx.1 Cx.2.1 (dd_at td_X11_can 14 rfl) hl (by decide) rfl (fun ls hl => ?_)
      refine lv_bipush (v := (9 : Int32)) Cx.1 Cx.2.1 (dd_at td_X11_can 15 rfl) (by decide) ?_
      refine lv_istore (lv' := [(5, .int (9 : Int32)), (4, .int (-5 : Int32)), (3, .int (0 : Int32)), (0, .ref (cx_a X x0)), (1, .int x1), (2, .int x2)]) Cx.1 Cx.2.1 (dd_at td_X11_can 16 rfl) hl (by decide) rfl (fun ls hl => ?_)
      exact w_X11_can_b31 Cx fu fu x0 x1 x2 (0 : Int32) (-5 : Int32) (9 : Int32) st7 hf _ _ _ (lv_sub hl [3, 4, 5, 2, 1, 0] rfl) hM
    · replace hf := fc_of_t hf c10
      refine lv_iconst (v := (-1 : Int32)) Cx.1 Cx.2.1 (dd_at td_X11_can 9 rfl) (by decide) ?_
      exact cc_ri Cx hM (dd_at td_X11_can 10 rfl) hf
theorem c_X11_can (l : Launch) (D : va_G) (X : cc_X) (fu : Nat) (x0 : Nat) (x1 : Int32) (x2 : Int32) (st : cc_S) : cc_Mi l D X yX11_can cX11_can 6 (some .int) 6 162 [.ref (cx_a X x0), .int x1, .int x2] st (C_X11_can X fu x0 x1 x2 st) := by
  intro r st' hf
  refine cc_enter (cc := cX11_can) (nL := 6) (ret := some .int) (by decide +kernel) rfl (Nat.le_of_ble_eq_true rfl) ?_
  intro p e s m args below meth c ls Cx hl hM
  exact w_X11_can Cx fu x0 x1 x2 st hf hl hM

/-! X11_darked -/
def tb_X11_darked : List (Nat × Instr × Nat) := [(0, .iload_n 1, 1), (1, .iconst 1, 1), (2, .invokestatic 54, 3), (5, .ifCond .ne 5, 3), (8, .iconst (-1), 1), (9, .ireturn, 1), (10, .iconst 0, 1), (11, .istore_n 2, 1), (12, .bipush (-5), 2), (14, .istore_n 3, 1), (15, .bipush 8, 2), (17, .istore 4, 2), (19, .iload 4, 2), (21, .ifCond .lt 29, 3), (24, .aload_n 0, 1), (25, .getfield 12, 3), (28, .iconst (-1), 1), (29, .iconst 0, 1), (30, .iload 4, 2), (32, .invokevirtual 219, 3), (35, .ifCond .eq 9, 3), (38, .iinc 2 1, 3), (41, .iload 4, 2), (43, .istore_n 3, 1), (44, .iinc 4 (-1), 3), (47, .goto (-28), 3), (50, .iload_n 1, 1), (51, .ifCond .ne 7, 3), (54, .iload_n 2, 1), (55, .goto 4, 3), (58, .iload_n 3, 1), (59, .ireturn, 1)]
theorem td_X11_darked : tb_X11_darked.all (fun q => decide (decode cX11_darked q.1 = .ok (q.2.1, q.2.2))) = true := by decide +kernel
theorem hd_X11_darked : yX11_darked.cls = RX11 ∧ yX11_darked.cls ≠ "java/lang/invoke/MethodHandle" ∧ yX11_darked.cls ≠ "java/lang/invoke/VarHandle" ∧ (parseMethodDescriptor yX11_darked.desc).map (fun d => d.parameters.length) = some 1 := by decide +kernel
theorem hs_X11_darked : yX11_darked.name ≠ "<init>" ∧ (parseMethodDescriptor yX11_darked.desc).map (fun d => d.parameters.length) = some 1 := by decide +kernel
theorem w_X11_darked_b44 {p : Program} {l : Launch} {e : Env} {s : State} {m : MethodId} {args : Array Value} {below : List Frame} {meth : Method} {c : Code} {D : va_G} {X : cc_X} {r : Int32} {st' : cc_S} (Cx : cc_C p s m args meth c cX11_darked 5 (some .int) RX11 D X) (fu : Nat) (K19 : Nat → Int32 → Int32 → Int32 → Int32 → cc_S → Option (Int32 × cc_S)) (hK19 : ∀ (x0 : Nat) (x1 : Int32) (x2 : Int32) (x3 : Int32) (x4 : Int32) (st : cc_S) (H : Heap) (locs : List Loc) (ls : Array Slot), K19 x0 x1 x2 x3 x4 st = some (r, st') → lv_has ls 5 [(0, .ref (cx_a X x0)), (1, .int x1), (2, .int x2), (3, .int x3), (4, .int x4)] → cc_H D X s.heap st H locs → W p l e (mm_R 6 162) s m args below meth c H locs 0 0 (MQ below (cc_Qi D X r st') args s 0 0 (cc_A X)) (F0 m 19 ls [])) (x0 : Nat) (x1 : Int32) (x2 : Int32) (x3 : Int32) (x4 : Int32) (st : cc_S) (hf : C_X11_darked_b44 X fu K19 x0 x1 x2 x3 x4 st = some (r, st')) {H : Heap} {locs : List Loc} {ls : Array Slot} (hl : lv_has ls 5 [(0, .ref (cx_a X x0)), (1, .int x1), (2, .int x2), (3, .int x3), (4, .int x4)]) (hM : cc_H D X s.heap st H locs) : W p l e (mm_R 6 162) s m args below meth c H locs 0 0 (MQ below (cc_Qi D X r st') args s 0 0 (cc_A X)) (F0 m 44 ls []) := by
  unfold C_X11_darked_b44 at hf
  obtain ⟨v14, ev14⟩ : ∃ y : Int32, y = x4 + (-1 : Int32) := ⟨_, rfl⟩
  replace hf := fc_of_nm hf v14 ev14
  refine lv_iinc (v := v14) (lv' := [(4, .int v14), (0, .ref (cx_a X x0)), (1, .int x1), (2, .int x2), (3, .int x3)]) Cx.1 Cx.2.1 (dd_at td_X11_darked 24 rfl) hl (k := 4) rfl (by rw [ev14]; rfl) (by decide) rfl (fun ls hl => ?_)
  refine lv_goto (tgt := 19) Cx.1 Cx.2.1 (dd_at td_X11_darked 25 rfl) (by decide) ?_
  exact hK19 x0 x1 x2 x3 v14 st _ _ _ hf (lv_sub hl [1, 2, 3, 4, 0] rfl) hM
theorem w_X11_darked_b19F {p : Program} {l : Launch} {e : Env} {s : State} {m : MethodId} {args : Array Value} {below : List Frame} {meth : Method} {c : Code} {D : va_G} {X : cc_X} {r : Int32} {st' : cc_S} (Cx : cc_C p s m args meth c cX11_darked 5 (some .int) RX11 D X) (fu : Nat) (K19 : Nat → Int32 → Int32 → Int32 → Int32 → cc_S → Option (Int32 × cc_S)) (hK19 : ∀ (x0 : Nat) (x1 : Int32) (x2 : Int32) (x3 : Int32) (x4 : Int32) (st : cc_S) (H : Heap) (locs : List Loc) (ls : Array Slot), K19 x0 x1 x2 x3 x4 st = some (r, st') → lv_has ls 5 [(0, .ref (cx_a X x0)), (1, .int x1), (2, .int x2), (3, .int x3), (4, .int x4)] → cc_H D X s.heap st H locs → W p l e (mm_R 6 162) s m args below meth c H locs 0 0 (MQ below (cc_Qi D X r st') args s 0 0 (cc_A X)) (F0 m 19 ls [])) (x0 : Nat) (x1 : Int32) (x2 : Int32) (x3 : Int32) (x4 : Int32) (st : cc_S) (hf : C_X11_darked_b19F X fu K19 x0 x1 x2 x3 x4 st = some (r, st')) {H : Heap} {locs : List Loc} {ls : Array Slot} (hl : lv_has ls 5 [(0, .ref (cx_a X x0)), (1, .int x1), (2, .int x2), (3, .int x3), (4, .int x4)]) (hM : cc_H D X s.heap st H locs) : W p l e (mm_R 6 162) s m args below meth c H locs 0 0 (MQ below (cc_Qi D X r st') args s 0 0 (cc_A X)) (F0 m 19 ls []) := by
  unfold C_X11_darked_b19F at hf
  refine lv_iload Cx.1 Cx.2.1 (dd_at td_X11_darked 12 rfl) (lv_at hl 4 rfl) ?_
  refine lv_if_lt (tgt := 50) Cx.1 Cx.2.1 (dd_at td_X11_darked 13 rfl) (by decide) (fun c5 => ?_) (fun c5 => ?_)
  · replace hf := fc_of_t hf c5
    refine lv_iload_n Cx.1 Cx.2.1 (dd_at td_X11_darked 26 rfl) rfl (lv_at hl 1 rfl) ?_
    refine lv_if_ne (tgt := 58) Cx.1 Cx.2.1 (dd_at td_X11_darked 27 rfl) (by decide) (fun c6 => ?_) (fun c6 => ?_)
    · replace hf := fc_of_f hf c6
      refine lv_iload_n Cx.1 Cx.2.1 (dd_at td_X11_darked 30 rfl) rfl (lv_at hl 3 rfl) ?_
      exact cc_ri Cx hM (dd_at td_X11_darked 31 rfl) hf
    · replace hf := fc_of_t hf c6
      refine lv_iload_n Cx.1 Cx.2.1 (dd_at td_X11_darked 28 rfl) rfl (lv_at hl 2 rfl) ?_
      refine lv_goto (tgt := 59) Cx.1 Cx.2.1 (dd_at td_X11_darked 29 rfl) (by decide) ?_
      exact cc_ri Cx hM (dd_at td_X11_darked 31 rfl) hf
  · replace hf := fc_of_f hf c5
    refine lv_aload_n Cx.1 Cx.2.1 (dd_at td_X11_darked 14 rfl) rfl (lv_at hl 0 rfl) ?_
    obtain ⟨g7, hf⟩ := fc_of_gd hf
    refine cc_gO (ci := 13) (C := RX11) (T := TX11) (N := 8) (k := 0) (ref := "EclipsesKept") Cx hM g7 rfl cc_inX11 rfl (by decide) cw498 (fun _ h => h) (dd_at td_X11_darked 15 rfl) rfl ?_
    show W p l e (mm_R 6 162) s m args below meth c H locs 0 0 (MQ below (cc_Qi D X r st') args s 0 0 (cc_A X)) (F0 m 28 ls [.ref (cx_a X 1)])
    refine lv_iconst (v := (-1 : Int32)) Cx.1 Cx.2.1 (dd_at td_X11_darked 16 rfl) (by decide) ?_
    refine lv_iconst (v := (0 : Int32)) Cx.1 Cx.2.1 (dd_at td_X11_darked 17 rfl) (by decide) ?_
    refine lv_iload Cx.1 Cx.2.1 (dd_at td_X11_darked 18 rfl) (lv_at hl 4 rfl) ?_
    obtain ⟨g8, hf⟩ := fc_of_gd hf
    obtain ⟨r11, st9, hx10, hf⟩ := fc_of_bn hf
    refine cc_ai hM (cc_rV (ci := 9) (As := [.int (-1 : Int32), .int (0 : Int32), .int x4]) (rest := []) (n := 3) Cx hM g8 rfl (c_X7_isAllSeen l D X fu 1 (-1 : Int32) (0 : Int32) x4 st r11 st9 hx10) (cc_gdV cw797 cw798 cw799 cw345 cw399) hd_X7_isAllSeen ⟨Nat.le_of_ble_eq_true rfl, Nat.le_of_ble_eq_true rfl⟩ rfl hl.1 rfl (Nat.le_of_ble_eq_true rfl) (dd_at td_X11_darked 19 rfl) ⟨Nat.le_refl 0, Nat.le_refl 0⟩) (fun H locs hM => ?_)
    refine lv_if_eq (tgt := 44) Cx.1 Cx.2.1 (dd_at td_X11_darked 20 rfl) (by decide) (fun c12 => ?_) (fun c12 => ?_)
    · replace hf := fc_of_t hf c12
      exact w_X11_darked_b44 Cx fu K19 hK19 x0 x1 x2 x3 x4 st9 hf (lv_sub hl [0, 1, 2, 3, 4] rfl) hM
    · replace hf := fc_of_f hf c12
      obtain ⟨v13, ev13⟩ : ∃ y : Int32, y = x2 + (1 : Int32) := ⟨_, rfl⟩
      replace hf := fc_of_nm hf v13 ev13
      refine lv_iinc (v := v13) (lv' := [(2, .int v13), (0, .ref (cx_a X x0)), (1, .int x1), (3, .int x3), (4, .int x4)]) Cx.1 Cx.2.1 (dd_at td_X11_darked 21 rfl) hl (k := 2) rfl (by rw [ev13]; rfl) (by decide) rfl (fun ls hl => ?_)
      refine lv_iload Cx.1 Cx.2.1 (dd_at td_X11_darked 22 rfl) (lv_at hl 4 rfl) ?_
      refine lv_istore_n (lv' := [(3, .int x4), (2, .int v13), (0, .ref (cx_a X x0)), (1, .int x1), (4, .int x4)]) Cx.1 Cx.2.1 (dd_at td_X11_darked 23 rfl) rfl hl (by decide) rfl (fun ls hl => ?_)
      exact w_X11_darked_b44 Cx fu K19 hK19 x0 x1 v13 x4 x4 st9 hf (lv_sub hl [2, 3, 1, 0, 4] rfl) hM
theorem w_X11_darked_b19 {p : Program} {l : Launch} {e : Env} {s : State} {m : MethodId} {args : Array Value} {below : List Frame} {meth : Method} {c : Code} {D : va_G} {X : cc_X} {r : Int32} {st' : cc_S} (Cx : cc_C p s m args meth c cX11_darked 5 (some .int) RX11 D X) (fu : Nat) (n : Nat) : ∀ (x0 : Nat) (x1 : Int32) (x2 : Int32) (x3 : Int32) (x4 : Int32) (st : cc_S), C_X11_darked_b19 X fu n x0 x1 x2 x3 x4 st = some (r, st') → ∀ (H : Heap) (locs : List Loc) (ls : Array Slot), lv_has ls 5 [(0, .ref (cx_a X x0)), (1, .int x1), (2, .int x2), (3, .int x3), (4, .int x4)] → cc_H D X s.heap st H locs → W p l e (mm_R 6 162) s m args below meth c H locs 0 0 (MQ below (cc_Qi D X r st') args s 0 0 (cc_A X)) (F0 m 19 ls []) := by
  induction n with
  | zero => exact fun _ _ _ _ _ _ hf => fc_no hf
  | succ n ih =>
    intro x0 x1 x2 x3 x4 st hf H locs ls hl hM
    exact w_X11_darked_b19F Cx fu (fun x0 x1 x2 x3 x4 st => C_X11_darked_b19 X fu n x0 x1 x2 x3 x4 st) (fun x0 x1 x2 x3 x4 st H locs ls hf hl hM => ih x0 x1 x2 x3 x4 st hf H locs ls hl hM) x0 x1 x2 x3 x4 st hf hl hM
theorem w_X11_darked {p : Program} {l : Launch} {e : Env} {s : State} {m : MethodId} {args : Array Value} {below : List Frame} {meth : Method} {c : Code} {D : va_G} {X : cc_X} {r : Int32} {st' : cc_S} (Cx : cc_C p s m args meth c cX11_darked 5 (some .int) RX11 D X) (fu : Nat) (x0 : Nat) (x1 : Int32) (st : cc_S) (hf : C_X11_darked X fu x0 x1 st = some (r, st')) {H : Heap} {locs : List Loc} {ls : Array Slot} (hl : lv_has ls 5 [(0, .ref (cx_a X x0)), (1, .int x1)]) (hM : cc_H D X s.heap st H locs) : W p l e (mm_R 6 162) s m args below meth c H locs 0 0 (MQ below (cc_Qi D X r st') args s 0 0 (cc_A X)) (F0 m 0 ls []) := by
  unfold C_X11_darked at hf
  refine lv_iload_n Cx.1 Cx.2.1 (dd_at td_X11_darked 0 rfl) rfl (lv_at hl 1 rfl) ?_
  refine lv_iconst (v := (1 : Int32)) Cx.1 Cx.2.1 (dd_at td_X11_darked 1 rfl) (by decide) ?_
  obtain ⟨r3, st1, hx2, hf⟩ := fc_of_bn hf
  refine cc_ai hM (cc_rS (As := [.int x1, .int (1 : Int32)]) (rest := []) (n := 2) Cx hM (c_X11_isWithin l D X fu x1 (1 : Int32) st r3 st1 hx2) (cc_gdS cw547 cw548 cw549 cw520) hd_X11_isWithin ⟨Nat.le_of_ble_eq_true rfl, Nat.le_of_ble_eq_true rfl⟩ rfl hl.1 rfl (Nat.le_of_ble_eq_true rfl) (dd_at td_X11_darked 2 rfl) ⟨Nat.le_refl 0, Nat.le_refl 0⟩) (fun H locs hM => ?_)
  refine lv_if_ne (tgt := 10) Cx.1 Cx.2.1 (dd_at td_X11_darked 3 rfl) (by decide) (fun c4 => ?_) (fun c4 => ?_)
  · replace hf := fc_of_f hf c4
    refine lv_iconst (v := (0 : Int32)) Cx.1 Cx.2.1 (dd_at td_X11_darked 6 rfl) (by decide) ?_
    refine lv_istore_n (lv' := [(2, .int (0 : Int32)), (0, .ref (cx_a X x0)), (1, .int x1)]) Cx.1 Cx.2.1 (dd_at td_X11_darked 7 rfl) rfl hl (by decide) rfl (fun ls hl => ?_)
    refine lv_bipush (v := (-5 : Int32)) Cx.1 Cx.2.1 (dd_at td_X11_darked 8 rfl) (by decide) ?_
    refine lv_istore_n (lv' := [(3, .int (-5 : Int32)), (2, .int (0 : Int32)), (0, .ref (cx_a X x0)), (1, .int x1)]) Cx.1 Cx.2.1 (dd_at td_X11_darked 9 rfl) rfl hl (by decide) rfl (fun ls hl => ?_)
    refine lv_bipush (v := (8 : Int32)) Cx.1 Cx.2.1 (dd_at td_X11_darked 10 rfl) (by decide) ?_
    refine lv_istore (lv' := [(4, .int (8 : Int32)), (3, .int (-5 : Int32)), (2, .int (0 : Int32)), (0, .ref (cx_a X x0)), (1, .int x1)]) Cx.1 Cx.2.1 (dd_at td_X11_darked 11 rfl) hl (by decide) rfl (fun ls hl => ?_)
    exact w_X11_darked_b19 Cx fu fu x0 x1 (0 : Int32) (-5 : Int32) (8 : Int32) st1 hf _ _ _ (lv_sub hl [3, 4, 2, 1, 0] rfl) hM
  · replace hf := fc_of_t hf c4
    refine lv_iconst (v := (-1 : Int32)) Cx.1 Cx.2.1 (dd_at td_X11_darked 4 rfl) (by decide) ?_
    exact cc_ri Cx hM (dd_at td_X11_darked 5 rfl) hf
theorem c_X11_darked (l : Launch) (D : va_G) (X : cc_X) (fu : Nat) (x0 : Nat) (x1 : Int32) (st : cc_S) : cc_Mi l D X yX11_darked cX11_darked 5 (some .int) 6 162 [.ref (cx_a X x0), .int x1] st (C_X11_darked X fu x0 x1 st) := by
  intro r st' hf
  refine cc_enter (cc := cX11_darked) (nL := 5) (ret := some .int) (by decide +kernel) rfl (Nat.le_of_ble_eq_true rfl) ?_
  intro p e s m args below meth c ls Cx hl hM
  exact w_X11_darked Cx fu x0 x1 st hf hl hM

/-! X11_book -/
def tb_X11_book : List (Nat × Instr × Nat) := [(0, .iload_n 1, 1), (1, .iconst (-1), 1), (2, .if_icmp .ne 13, 3), (5, .aload_n 0, 1), (6, .getfield 12, 3), (9, .iconst 0, 1), (10, .putfield 223, 3), (13, .iconst 0, 1), (14, .ireturn, 1), (15, .aload_n 0, 1), (16, .getfield 12, 3), (19, .iload_n 1, 1), (20, .invokevirtual 94, 3), (23, .ifCond .ne 5, 3), (26, .iconst (-1), 1), (27, .ireturn, 1), (28, .iload_n 2, 1), (29, .sipush 9999, 3), (32, .invokestatic 54, 3), (35, .ifCond .ne 6, 3), (38, .bipush (-2), 2), (40, .ireturn, 1), (41, .aload_n 0, 1), (42, .getfield 12, 3), (45, .getfield 223, 3), (48, .bipush 8, 2), (50, .if_icmp .lt 6, 3), (53, .bipush (-4), 2), (55, .ireturn, 1), (56, .aload_n 0, 1), (57, .getfield 12, 3), (60, .getfield 226, 3), (63, .aload_n 0, 1), (64, .getfield 12, 3), (67, .getfield 223, 3), (70, .iload_n 1, 1), (71, .iastore, 1), (72, .aload_n 0, 1), (73, .getfield 12, 3), (76, .getfield 229, 3), (79, .aload_n 0, 1), (80, .getfield 12, 3), (83, .getfield 223, 3), (86, .iload_n 2, 1), (87, .iastore, 1), (88, .aload_n 0, 1), (89, .getfield 12, 3), (92, .dup, 1), (93, .getfield 223, 3), (96, .iconst 1, 1), (97, .iadd, 1), (98, .putfield 223, 3), (101, .aload_n 0, 1), (102, .getfield 12, 3), (105, .getfield 223, 3), (108, .ireturn, 1)]
theorem td_X11_book : tb_X11_book.all (fun q => decide (decode cX11_book q.1 = .ok (q.2.1, q.2.2))) = true := by decide +kernel
theorem hd_X11_book : yX11_book.cls = RX11 ∧ yX11_book.cls ≠ "java/lang/invoke/MethodHandle" ∧ yX11_book.cls ≠ "java/lang/invoke/VarHandle" ∧ (parseMethodDescriptor yX11_book.desc).map (fun d => d.parameters.length) = some 2 := by decide +kernel
theorem hs_X11_book : yX11_book.name ≠ "<init>" ∧ (parseMethodDescriptor yX11_book.desc).map (fun d => d.parameters.length) = some 2 := by decide +kernel
theorem w_X11_book {p : Program} {l : Launch} {e : Env} {s : State} {m : MethodId} {args : Array Value} {below : List Frame} {meth : Method} {c : Code} {D : va_G} {X : cc_X} {r : Int32} {st' : cc_S} (Cx : cc_C p s m args meth c cX11_book 3 (some .int) RX11 D X) (fu : Nat) (x0 : Nat) (x1 : Int32) (x2 : Int32) (st : cc_S) (hf : C_X11_book X fu x0 x1 x2 st = some (r, st')) {H : Heap} {locs : List Loc} {ls : Array Slot} (hl : lv_has ls 3 [(0, .ref (cx_a X x0)), (1, .int x1), (2, .int x2)]) (hM : cc_H D X s.heap st H locs) : W p l e (mm_R 1 21) s m args below meth c H locs 0 0 (MQ below (cc_Qi D X r st') args s 0 0 (cc_A X)) (F0 m 0 ls []) := by
  unfold C_X11_book at hf
  refine lv_iload_n Cx.1 Cx.2.1 (dd_at td_X11_book 0 rfl) rfl (lv_at hl 1 rfl) ?_
  refine lv_iconst (v := (-1 : Int32)) Cx.1 Cx.2.1 (dd_at td_X11_book 1 rfl) (by decide) ?_
  refine lv_icmp_ne (tgt := 15) Cx.1 Cx.2.1 (dd_at td_X11_book 2 rfl) (by decide) (fun c1 => ?_) (fun c1 => ?_)
  · replace hf := fc_of_f hf c1
    refine lv_aload_n Cx.1 Cx.2.1 (dd_at td_X11_book 9 rfl) rfl (lv_at hl 0 rfl) ?_
    obtain ⟨g2, hf⟩ := fc_of_gd hf
    refine cc_gO (ci := 13) (C := RX11) (T := TX11) (N := 8) (k := 0) (ref := "EclipsesKept") Cx hM g2 rfl cc_inX11 rfl (by decide) cw498 (fun _ h => h) (dd_at td_X11_book 10 rfl) rfl ?_
    show W p l e (mm_R 1 21) s m args below meth c H locs 0 0 (MQ below (cc_Qi D X r st') args s 0 0 (cc_A X)) (F0 m 19 ls [.ref (cx_a X 1)])
    refine lv_iload_n Cx.1 Cx.2.1 (dd_at td_X11_book 11 rfl) rfl (lv_at hl 1 rfl) ?_
    obtain ⟨g3, hf⟩ := fc_of_gd hf
    obtain ⟨r6, st4, hx5, hf⟩ := fc_of_bn hf
    refine cc_ai hM (cc_rV (ci := 9) (As := [.int x1]) (rest := []) (n := 1) Cx hM g3 rfl (c_X7_has l D X fu 1 x1 st r6 st4 hx5) (cc_gdV cw565 cw343 cw344 cw345 cw340) hd_X7_has ⟨Nat.le_of_ble_eq_true rfl, Nat.le_of_ble_eq_true rfl⟩ rfl hl.1 rfl (Nat.le_of_ble_eq_true rfl) (dd_at td_X11_book 12 rfl) ⟨Nat.le_refl 0, Nat.le_refl 0⟩) (fun H locs hM => ?_)
    refine lv_if_ne (tgt := 28) Cx.1 Cx.2.1 (dd_at td_X11_book 13 rfl) (by decide) (fun c7 => ?_) (fun c7 => ?_)
    · replace hf := fc_of_f hf c7
      refine lv_iload_n Cx.1 Cx.2.1 (dd_at td_X11_book 16 rfl) rfl (lv_at hl 2 rfl) ?_
      refine lv_sipush (v := (9999 : Int32)) Cx.1 Cx.2.1 (dd_at td_X11_book 17 rfl) (by decide) ?_
      obtain ⟨r10, st8, hx9, hf⟩ := fc_of_bn hf
      refine cc_ai hM (cc_rS (As := [.int x2, .int (9999 : Int32)]) (rest := []) (n := 2) Cx hM (c_X11_isWithin l D X fu x2 (9999 : Int32) st4 r10 st8 hx9) (cc_gdS cw547 cw548 cw549 cw520) hd_X11_isWithin ⟨Nat.le_of_ble_eq_true rfl, Nat.le_of_ble_eq_true rfl⟩ rfl hl.1 rfl (Nat.le_of_ble_eq_true rfl) (dd_at td_X11_book 18 rfl) ⟨Nat.le_refl 0, Nat.le_refl 0⟩) (fun H locs hM => ?_)
      refine lv_if_ne (tgt := 41) Cx.1 Cx.2.1 (dd_at td_X11_book 19 rfl) (by decide) (fun c11 => ?_) (fun c11 => ?_)
      · replace hf := fc_of_f hf c11
        refine lv_aload_n Cx.1 Cx.2.1 (dd_at td_X11_book 22 rfl) rfl (lv_at hl 0 rfl) ?_
        refine cc_gO (ci := 13) (C := RX11) (T := TX11) (N := 8) (k := 0) (ref := "EclipsesKept") Cx hM g2 rfl cc_inX11 rfl (by decide) cw498 (fun _ h => h) (dd_at td_X11_book 23 rfl) rfl ?_
        show W p l e (mm_R 1 21) s m args below meth c H locs 0 0 (MQ below (cc_Qi D X r st') args s 0 0 (cc_A X)) (F0 m 45 ls [.ref (cx_a X 1)])
        refine cc_gI (ci := 9) (C := RX7) (T := TX7) (N := 17) (k := 12) (ref := "EclipsesKept$State") Cx hM g3 rfl cc_inX7 rfl (by decide) cw803 (fun _ h => h) (dd_at td_X11_book 24 rfl) rfl ?_
        refine lv_bipush (v := (8 : Int32)) Cx.1 Cx.2.1 (dd_at td_X11_book 25 rfl) (by decide) ?_
        refine lv_icmp_lt (tgt := 56) Cx.1 Cx.2.1 (dd_at td_X11_book 26 rfl) (by decide) (fun c12 => ?_) (fun c12 => ?_)
        · replace hf := fc_of_t hf c12
          refine lv_aload_n Cx.1 Cx.2.1 (dd_at td_X11_book 29 rfl) rfl (lv_at hl 0 rfl) ?_
          refine cc_gO (ci := 13) (C := RX11) (T := TX11) (N := 8) (k := 0) (ref := "EclipsesKept") Cx hM g2 rfl cc_inX11 rfl (by decide) cw498 (fun _ h => h) (dd_at td_X11_book 30 rfl) rfl ?_
          show W p l e (mm_R 1 21) s m args below meth c H locs 0 0 (MQ below (cc_Qi D X r st') args s 0 0 (cc_A X)) (F0 m 60 ls [.ref (cx_a X 1)])
          refine cc_gA (ci := 9) (C := RX7) (T := TX7) (N := 17) (k := 7) (ref := "EclipsesKept$State") Cx hM g3 rfl cc_inX7 rfl (by decide) cw804 (fun _ h => h) (dd_at td_X11_book 31 rfl) rfl ?_
          refine lv_aload_n Cx.1 Cx.2.1 (dd_at td_X11_book 32 rfl) rfl (lv_at hl 0 rfl) ?_
          refine cc_gO (ci := 13) (C := RX11) (T := TX11) (N := 8) (k := 0) (ref := "EclipsesKept") Cx hM g2 rfl cc_inX11 rfl (by decide) cw498 (fun _ h => h) (dd_at td_X11_book 33 rfl) rfl ?_
          show W p l e (mm_R 1 21) s m args below meth c H locs 0 0 (MQ below (cc_Qi D X r st') args s 0 0 (cc_A X)) (F0 m 67 ls [.ref (cx_a X 1), .ref (cx_b X 1 7)])
          refine cc_gI (ci := 9) (C := RX7) (T := TX7) (N := 17) (k := 12) (ref := "EclipsesKept$State") Cx hM g3 rfl cc_inX7 rfl (by decide) cw803 (fun _ h => h) (dd_at td_X11_book 34 rfl) rfl ?_
          refine lv_iload_n Cx.1 Cx.2.1 (dd_at td_X11_book 35 rfl) rfl (lv_at hl 1 rfl) ?_
          obtain ⟨g13, hf⟩ := fc_of_gd hf
          refine cc_iast Cx hM g13 (dd_at td_X11_book 36 rfl) (fun st14 H locs est14 hM => ?_)
          replace hf := fc_of_nm hf st14 est14
          refine lv_aload_n Cx.1 Cx.2.1 (dd_at td_X11_book 37 rfl) rfl (lv_at hl 0 rfl) ?_
          refine cc_gO (ci := 13) (C := RX11) (T := TX11) (N := 8) (k := 0) (ref := "EclipsesKept") Cx hM g2 rfl cc_inX11 rfl (by decide) cw498 (fun _ h => h) (dd_at td_X11_book 38 rfl) rfl ?_
          show W p l e (mm_R 1 21) s m args below meth c H locs 0 0 (MQ below (cc_Qi D X r st') args s 0 0 (cc_A X)) (F0 m 76 ls [.ref (cx_a X 1)])
          refine cc_gA (ci := 9) (C := RX7) (T := TX7) (N := 17) (k := 8) (ref := "EclipsesKept$State") Cx hM g3 rfl cc_inX7 rfl (by decide) cw805 (fun _ h => h) (dd_at td_X11_book 39 rfl) rfl ?_
          refine lv_aload_n Cx.1 Cx.2.1 (dd_at td_X11_book 40 rfl) rfl (lv_at hl 0 rfl) ?_
          refine cc_gO (ci := 13) (C := RX11) (T := TX11) (N := 8) (k := 0) (ref := "EclipsesKept") Cx hM g2 rfl cc_inX11 rfl (by decide) cw498 (fun _ h => h) (dd_at td_X11_book 41 rfl) rfl ?_
          show W p l e (mm_R 1 21) s m args below meth c H locs 0 0 (MQ below (cc_Qi D X r st') args s 0 0 (cc_A X)) (F0 m 83 ls [.ref (cx_a X 1), .ref (cx_b X 1 8)])
          refine cc_gI (ci := 9) (C := RX7) (T := TX7) (N := 17) (k := 12) (ref := "EclipsesKept$State") Cx hM g3 rfl cc_inX7 rfl (by decide) cw803 (fun _ h => h) (dd_at td_X11_book 42 rfl) rfl ?_
          refine lv_iload_n Cx.1 Cx.2.1 (dd_at td_X11_book 43 rfl) rfl (lv_at hl 2 rfl) ?_
          obtain ⟨g15, hf⟩ := fc_of_gd hf
          refine cc_iast Cx hM g15 (dd_at td_X11_book 44 rfl) (fun st16 H locs est16 hM => ?_)
          replace hf := fc_of_nm hf st16 est16
          refine lv_aload_n Cx.1 Cx.2.1 (dd_at td_X11_book 45 rfl) rfl (lv_at hl 0 rfl) ?_
          refine cc_gO (ci := 13) (C := RX11) (T := TX11) (N := 8) (k := 0) (ref := "EclipsesKept") Cx hM g2 rfl cc_inX11 rfl (by decide) cw498 (fun _ h => h) (dd_at td_X11_book 46 rfl) rfl ?_
          show W p l e (mm_R 1 21) s m args below meth c H locs 0 0 (MQ below (cc_Qi D X r st') args s 0 0 (cc_A X)) (F0 m 92 ls [.ref (cx_a X 1)])
          refine lv_dup Cx.1 Cx.2.1 (dd_at td_X11_book 47 rfl) rfl ?_
          refine cc_gI (ci := 9) (C := RX7) (T := TX7) (N := 17) (k := 12) (ref := "EclipsesKept$State") Cx hM g3 rfl cc_inX7 rfl (by decide) cw803 (fun _ h => h) (dd_at td_X11_book 48 rfl) rfl ?_
          refine lv_iconst (v := (1 : Int32)) Cx.1 Cx.2.1 (dd_at td_X11_book 49 rfl) (by decide) ?_
          refine lv_iadd Cx.1 Cx.2.1 (dd_at td_X11_book 50 rfl) ?_
          refine cc_pI (ci := 9) (C := RX7) (T := TX7) (N := 17) (k := 12) (ref := "EclipsesKept$State") (ty0 := tyX7) Cx hM g3 rfl cc_inX7 rfl (by decide) cw803 (fun _ h => h) tyX7_ok nmX7 rfl rfl rfl (dd_at td_X11_book 51 rfl) rfl (fun st17 H locs est17 hM => ?_)
          replace hf := fc_of_nm hf st17 est17
          refine lv_aload_n Cx.1 Cx.2.1 (dd_at td_X11_book 52 rfl) rfl (lv_at hl 0 rfl) ?_
          refine cc_gO (ci := 13) (C := RX11) (T := TX11) (N := 8) (k := 0) (ref := "EclipsesKept") Cx hM g2 rfl cc_inX11 rfl (by decide) cw498 (fun _ h => h) (dd_at td_X11_book 53 rfl) rfl ?_
          show W p l e (mm_R 1 21) s m args below meth c H locs 0 0 (MQ below (cc_Qi D X r st') args s 0 0 (cc_A X)) (F0 m 105 ls [.ref (cx_a X 1)])
          refine cc_gI (ci := 9) (C := RX7) (T := TX7) (N := 17) (k := 12) (ref := "EclipsesKept$State") Cx hM g3 rfl cc_inX7 rfl (by decide) cw803 (fun _ h => h) (dd_at td_X11_book 54 rfl) rfl ?_
          exact cc_ri Cx hM (dd_at td_X11_book 55 rfl) hf
        · replace hf := fc_of_f hf c12
          refine lv_bipush (v := (-4 : Int32)) Cx.1 Cx.2.1 (dd_at td_X11_book 27 rfl) (by decide) ?_
          exact cc_ri Cx hM (dd_at td_X11_book 28 rfl) hf
      · replace hf := fc_of_t hf c11
        refine lv_bipush (v := (-2 : Int32)) Cx.1 Cx.2.1 (dd_at td_X11_book 20 rfl) (by decide) ?_
        exact cc_ri Cx hM (dd_at td_X11_book 21 rfl) hf
    · replace hf := fc_of_t hf c7
      refine lv_iconst (v := (-1 : Int32)) Cx.1 Cx.2.1 (dd_at td_X11_book 14 rfl) (by decide) ?_
      exact cc_ri Cx hM (dd_at td_X11_book 15 rfl) hf
  · replace hf := fc_of_t hf c1
    refine lv_aload_n Cx.1 Cx.2.1 (dd_at td_X11_book 3 rfl) rfl (lv_at hl 0 rfl) ?_
    obtain ⟨g18, hf⟩ := fc_of_gd hf
    refine cc_gO (ci := 13) (C := RX11) (T := TX11) (N := 8) (k := 0) (ref := "EclipsesKept") Cx hM g18 rfl cc_inX11 rfl (by decide) cw498 (fun _ h => h) (dd_at td_X11_book 4 rfl) rfl ?_
    show W p l e (mm_R 1 21) s m args below meth c H locs 0 0 (MQ below (cc_Qi D X r st') args s 0 0 (cc_A X)) (F0 m 9 ls [.ref (cx_a X 1)])
    refine lv_iconst (v := (0 : Int32)) Cx.1 Cx.2.1 (dd_at td_X11_book 5 rfl) (by decide) ?_
    obtain ⟨g19, hf⟩ := fc_of_gd hf
    refine cc_pI (ci := 9) (C := RX7) (T := TX7) (N := 17) (k := 12) (ref := "EclipsesKept$State") (ty0 := tyX7) Cx hM g19 rfl cc_inX7 rfl (by decide) cw803 (fun _ h => h) tyX7_ok nmX7 rfl rfl rfl (dd_at td_X11_book 6 rfl) rfl (fun st20 H locs est20 hM => ?_)
    replace hf := fc_of_nm hf st20 est20
    refine lv_iconst (v := (0 : Int32)) Cx.1 Cx.2.1 (dd_at td_X11_book 7 rfl) (by decide) ?_
    exact cc_ri Cx hM (dd_at td_X11_book 8 rfl) hf
theorem c_X11_book (l : Launch) (D : va_G) (X : cc_X) (fu : Nat) (x0 : Nat) (x1 : Int32) (x2 : Int32) (st : cc_S) : cc_Mi l D X yX11_book cX11_book 3 (some .int) 1 21 [.ref (cx_a X x0), .int x1, .int x2] st (C_X11_book X fu x0 x1 x2 st) := by
  intro r st' hf
  refine cc_enter (cc := cX11_book) (nL := 3) (ret := some .int) (by decide +kernel) rfl (Nat.le_of_ble_eq_true rfl) ?_
  intro p e s m args below meth c ls Cx hl hM
  exact w_X11_book Cx fu x0 x1 x2 st hf hl hM

/-! X11_looked -/
def tb_X11_looked : List (Nat × Instr × Nat) := [(0, .iconst 0, 1), (1, .istore_n 1, 1), (2, .iload_n 1, 1), (3, .aload_n 0, 1), (4, .getfield 12, 3), (7, .getfield 223, 3), (10, .if_icmp .ge 40, 3), (13, .aload_n 0, 1), (14, .getfield 12, 3), (17, .getfield 81, 3), (20, .aload_n 0, 1), (21, .getfield 12, 3), (24, .getfield 226, 3), (27, .iload_n 1, 1), (28, .iaload, 1), (29, .iaload, 1), (30, .aload_n 0, 1), (31, .getfield 12, 3), (34, .getfield 229, 3), (37, .iload_n 1, 1), (38, .iaload, 1), (39, .if_icmp .eq 5, 3), (42, .iload_n 1, 1), (43, .ireturn, 1), (44, .iinc 1 1, 3), (47, .goto (-45), 3), (50, .bipush (-5), 2), (52, .ireturn, 1)]
theorem td_X11_looked : tb_X11_looked.all (fun q => decide (decode cX11_looked q.1 = .ok (q.2.1, q.2.2))) = true := by decide +kernel
theorem hd_X11_looked : yX11_looked.cls = RX11 ∧ yX11_looked.cls ≠ "java/lang/invoke/MethodHandle" ∧ yX11_looked.cls ≠ "java/lang/invoke/VarHandle" ∧ (parseMethodDescriptor yX11_looked.desc).map (fun d => d.parameters.length) = some 0 := by decide +kernel
theorem hs_X11_looked : yX11_looked.name ≠ "<init>" ∧ (parseMethodDescriptor yX11_looked.desc).map (fun d => d.parameters.length) = some 0 := by decide +kernel
theorem w_X11_looked_b2F {p : Program} {l : Launch} {e : Env} {s : State} {m : MethodId} {args : Array Value} {below : List Frame} {meth : Method} {c : Code} {D : va_G} {X : cc_X} {r : Int32} {st' : cc_S} (Cx : cc_C p s m args meth c cX11_looked 2 (some .int) RX11 D X) (fu : Nat) (K2 : Nat → Int32 → cc_S → Option (Int32 × cc_S)) (hK2 : ∀ (x0 : Nat) (x1 : Int32) (st : cc_S) (H : Heap) (locs : List Loc) (ls : Array Slot), K2 x0 x1 st = some (r, st') → lv_has ls 2 [(0, .ref (cx_a X x0)), (1, .int x1)] → cc_H D X s.heap st H locs → W p l e (mm_R 0 0) s m args below meth c H locs 0 0 (MQ below (cc_Qi D X r st') args s 0 0 (cc_A X)) (F0 m 2 ls [])) (x0 : Nat) (x1 : Int32) (st : cc_S) (hf : C_X11_looked_b2F X fu K2 x0 x1 st = some (r, st')) {H : Heap} {locs : List Loc} {ls : Array Slot} (hl : lv_has ls 2 [(0, .ref (cx_a X x0)), (1, .int x1)]) (hM : cc_H D X s.heap st H locs) : W p l e (mm_R 0 0) s m args below meth c H locs 0 0 (MQ below (cc_Qi D X r st') args s 0 0 (cc_A X)) (F0 m 2 ls []) := by
  unfold C_X11_looked_b2F at hf
  refine lv_iload_n Cx.1 Cx.2.1 (dd_at td_X11_looked 2 rfl) rfl (lv_at hl 1 rfl) ?_
  refine lv_aload_n Cx.1 Cx.2.1 (dd_at td_X11_looked 3 rfl) rfl (lv_at hl 0 rfl) ?_
  obtain ⟨g1, hf⟩ := fc_of_gd hf
  refine cc_gO (ci := 13) (C := RX11) (T := TX11) (N := 8) (k := 0) (ref := "EclipsesKept") Cx hM g1 rfl cc_inX11 rfl (by decide) cw498 (fun _ h => h) (dd_at td_X11_looked 4 rfl) rfl ?_
  show W p l e (mm_R 0 0) s m args below meth c H locs 0 0 (MQ below (cc_Qi D X r st') args s 0 0 (cc_A X)) (F0 m 7 ls [.ref (cx_a X 1), .int x1])
  obtain ⟨g2, hf⟩ := fc_of_gd hf
  refine cc_gI (ci := 9) (C := RX7) (T := TX7) (N := 17) (k := 12) (ref := "EclipsesKept$State") Cx hM g2 rfl cc_inX7 rfl (by decide) cw803 (fun _ h => h) (dd_at td_X11_looked 5 rfl) rfl ?_
  refine lv_icmp_ge (tgt := 50) Cx.1 Cx.2.1 (dd_at td_X11_looked 6 rfl) (by decide) (fun c3 => ?_) (fun c3 => ?_)
  · replace hf := fc_of_t hf c3
    refine lv_bipush (v := (-5 : Int32)) Cx.1 Cx.2.1 (dd_at td_X11_looked 26 rfl) (by decide) ?_
    exact cc_ri Cx hM (dd_at td_X11_looked 27 rfl) hf
  · replace hf := fc_of_f hf c3
    refine lv_aload_n Cx.1 Cx.2.1 (dd_at td_X11_looked 7 rfl) rfl (lv_at hl 0 rfl) ?_
    refine cc_gO (ci := 13) (C := RX11) (T := TX11) (N := 8) (k := 0) (ref := "EclipsesKept") Cx hM g1 rfl cc_inX11 rfl (by decide) cw498 (fun _ h => h) (dd_at td_X11_looked 8 rfl) rfl ?_
    show W p l e (mm_R 0 0) s m args below meth c H locs 0 0 (MQ below (cc_Qi D X r st') args s 0 0 (cc_A X)) (F0 m 17 ls [.ref (cx_a X 1)])
    refine cc_gA (ci := 9) (C := RX7) (T := TX7) (N := 17) (k := 1) (ref := "EclipsesKept$State") Cx hM g2 rfl cc_inX7 rfl (by decide) cw559 (fun _ h => h) (dd_at td_X11_looked 9 rfl) rfl ?_
    refine lv_aload_n Cx.1 Cx.2.1 (dd_at td_X11_looked 10 rfl) rfl (lv_at hl 0 rfl) ?_
    refine cc_gO (ci := 13) (C := RX11) (T := TX11) (N := 8) (k := 0) (ref := "EclipsesKept") Cx hM g1 rfl cc_inX11 rfl (by decide) cw498 (fun _ h => h) (dd_at td_X11_looked 11 rfl) rfl ?_
    show W p l e (mm_R 0 0) s m args below meth c H locs 0 0 (MQ below (cc_Qi D X r st') args s 0 0 (cc_A X)) (F0 m 24 ls [.ref (cx_a X 1), .ref (cx_b X 1 1)])
    refine cc_gA (ci := 9) (C := RX7) (T := TX7) (N := 17) (k := 7) (ref := "EclipsesKept$State") Cx hM g2 rfl cc_inX7 rfl (by decide) cw804 (fun _ h => h) (dd_at td_X11_looked 12 rfl) rfl ?_
    refine lv_iload_n Cx.1 Cx.2.1 (dd_at td_X11_looked 13 rfl) rfl (lv_at hl 1 rfl) ?_
    obtain ⟨g4, hf⟩ := fc_of_gd hf
    refine cc_iald Cx hM g4 (dd_at td_X11_looked 14 rfl) ?_
    obtain ⟨g5, hf⟩ := fc_of_gd hf
    refine cc_iald Cx hM g5 (dd_at td_X11_looked 15 rfl) ?_
    refine lv_aload_n Cx.1 Cx.2.1 (dd_at td_X11_looked 16 rfl) rfl (lv_at hl 0 rfl) ?_
    refine cc_gO (ci := 13) (C := RX11) (T := TX11) (N := 8) (k := 0) (ref := "EclipsesKept") Cx hM g1 rfl cc_inX11 rfl (by decide) cw498 (fun _ h => h) (dd_at td_X11_looked 17 rfl) rfl ?_
    show W p l e (mm_R 0 0) s m args below meth c H locs 0 0 (MQ below (cc_Qi D X r st') args s 0 0 (cc_A X)) (F0 m 34 ls [.ref (cx_a X 1), .int (cc_G st 1 1 (cc_G st 1 7 x1.toNatClampNeg).toNatClampNeg)])
    refine cc_gA (ci := 9) (C := RX7) (T := TX7) (N := 17) (k := 8) (ref := "EclipsesKept$State") Cx hM g2 rfl cc_inX7 rfl (by decide) cw805 (fun _ h => h) (dd_at td_X11_looked 18 rfl) rfl ?_
    refine lv_iload_n Cx.1 Cx.2.1 (dd_at td_X11_looked 19 rfl) rfl (lv_at hl 1 rfl) ?_
    obtain ⟨g6, hf⟩ := fc_of_gd hf
    refine cc_iald Cx hM g6 (dd_at td_X11_looked 20 rfl) ?_
    refine lv_icmp_eq (tgt := 44) Cx.1 Cx.2.1 (dd_at td_X11_looked 21 rfl) (by decide) (fun c7 => ?_) (fun c7 => ?_)
    · replace hf := fc_of_t hf c7
      obtain ⟨v8, ev8⟩ : ∃ y : Int32, y = x1 + (1 : Int32) := ⟨_, rfl⟩
      replace hf := fc_of_nm hf v8 ev8
      refine lv_iinc (v := v8) (lv' := [(1, .int v8), (0, .ref (cx_a X x0))]) Cx.1 Cx.2.1 (dd_at td_X11_looked 24 rfl) hl (k := 1) rfl (by rw [ev8]; rfl) (by decide) rfl (fun ls hl => ?_)
      refine lv_goto (tgt := 2) Cx.1 Cx.2.1 (dd_at td_X11_looked 25 rfl) (by decide) ?_
      exact hK2 x0 v8 st _ _ _ hf (lv_sub hl [1, 0] rfl) hM
    · replace hf := fc_of_f hf c7
      refine lv_iload_n Cx.1 Cx.2.1 (dd_at td_X11_looked 22 rfl) rfl (lv_at hl 1 rfl) ?_
      exact cc_ri Cx hM (dd_at td_X11_looked 23 rfl) hf
theorem w_X11_looked_b2 {p : Program} {l : Launch} {e : Env} {s : State} {m : MethodId} {args : Array Value} {below : List Frame} {meth : Method} {c : Code} {D : va_G} {X : cc_X} {r : Int32} {st' : cc_S} (Cx : cc_C p s m args meth c cX11_looked 2 (some .int) RX11 D X) (fu : Nat) (n : Nat) : ∀ (x0 : Nat) (x1 : Int32) (st : cc_S), C_X11_looked_b2 X fu n x0 x1 st = some (r, st') → ∀ (H : Heap) (locs : List Loc) (ls : Array Slot), lv_has ls 2 [(0, .ref (cx_a X x0)), (1, .int x1)] → cc_H D X s.heap st H locs → W p l e (mm_R 0 0) s m args below meth c H locs 0 0 (MQ below (cc_Qi D X r st') args s 0 0 (cc_A X)) (F0 m 2 ls []) := by
  induction n with
  | zero => exact fun _ _ _ hf => fc_no hf
  | succ n ih =>
    intro x0 x1 st hf H locs ls hl hM
    exact w_X11_looked_b2F Cx fu (fun x0 x1 st => C_X11_looked_b2 X fu n x0 x1 st) (fun x0 x1 st H locs ls hf hl hM => ih x0 x1 st hf H locs ls hl hM) x0 x1 st hf hl hM
theorem w_X11_looked {p : Program} {l : Launch} {e : Env} {s : State} {m : MethodId} {args : Array Value} {below : List Frame} {meth : Method} {c : Code} {D : va_G} {X : cc_X} {r : Int32} {st' : cc_S} (Cx : cc_C p s m args meth c cX11_looked 2 (some .int) RX11 D X) (fu : Nat) (x0 : Nat) (st : cc_S) (hf : C_X11_looked X fu x0 st = some (r, st')) {H : Heap} {locs : List Loc} {ls : Array Slot} (hl : lv_has ls 2 [(0, .ref (cx_a X x0))]) (hM : cc_H D X s.heap st H locs) : W p l e (mm_R 0 0) s m args below meth c H locs 0 0 (MQ below (cc_Qi D X r st') args s 0 0 (cc_A X)) (F0 m 0 ls []) := by
  unfold C_X11_looked at hf
  refine lv_iconst (v := (0 : Int32)) Cx.1 Cx.2.1 (dd_at td_X11_looked 0 rfl) (by decide) ?_
  refine lv_istore_n (lv' := [(1, .int (0 : Int32)), (0, .ref (cx_a X x0))]) Cx.1 Cx.2.1 (dd_at td_X11_looked 1 rfl) rfl hl (by decide) rfl (fun ls hl => ?_)
  exact w_X11_looked_b2 Cx fu fu x0 (0 : Int32) st hf _ _ _ (lv_sub hl [1, 0] rfl) hM
theorem c_X11_looked (l : Launch) (D : va_G) (X : cc_X) (fu : Nat) (x0 : Nat) (st : cc_S) : cc_Mi l D X yX11_looked cX11_looked 2 (some .int) 0 0 [.ref (cx_a X x0)] st (C_X11_looked X fu x0 st) := by
  intro r st' hf
  refine cc_enter (cc := cX11_looked) (nL := 2) (ret := some .int) (by decide +kernel) rfl (Nat.le_of_ble_eq_true rfl) ?_
  intro p e s m args below meth c ls Cx hl hM
  exact w_X11_looked Cx fu x0 st hf hl hM

/-! X11_tapeOf -/
def tb_X11_tapeOf : List (Nat × Instr × Nat) := [(0, .iload_n 1, 1), (1, .iconst 5, 1), (2, .invokestatic 54, 3), (5, .ifCond .eq 12, 3), (8, .aload_n 0, 1), (9, .getfield 30, 3), (12, .iload_n 1, 1), (13, .aaload, 1), (14, .goto 4, 3), (17, .aconst_null, 1), (18, .areturn, 1)]
theorem td_X11_tapeOf : tb_X11_tapeOf.all (fun q => decide (decode cX11_tapeOf q.1 = .ok (q.2.1, q.2.2))) = true := by decide +kernel
theorem hd_X11_tapeOf : yX11_tapeOf.cls = RX11 ∧ yX11_tapeOf.cls ≠ "java/lang/invoke/MethodHandle" ∧ yX11_tapeOf.cls ≠ "java/lang/invoke/VarHandle" ∧ (parseMethodDescriptor yX11_tapeOf.desc).map (fun d => d.parameters.length) = some 1 := by decide +kernel
theorem hs_X11_tapeOf : yX11_tapeOf.name ≠ "<init>" ∧ (parseMethodDescriptor yX11_tapeOf.desc).map (fun d => d.parameters.length) = some 1 := by decide +kernel
theorem w_X11_tapeOf {p : Program} {l : Launch} {e : Env} {s : State} {m : MethodId} {args : Array Value} {below : List Frame} {meth : Method} {c : Code} {D : va_G} {X : cc_X} {r : Option Nat} {st' : cc_S} (Cx : cc_C p s m args meth c cX11_tapeOf 2 (some (.object "EclipsesKept$Tape")) RX11 D X) (fu : Nat) (x0 : Nat) (x1 : Int32) (st : cc_S) (hf : C_X11_tapeOf X fu x0 x1 st = some (r, st')) {H : Heap} {locs : List Loc} {ls : Array Slot} (hl : lv_has ls 2 [(0, .ref (cx_a X x0)), (1, .int x1)]) (hM : cc_H D X s.heap st H locs) : W p l e (mm_R 1 21) s m args below meth c H locs 0 0 (MQ below (cc_Qq D X r st') args s 0 0 (cc_A X)) (F0 m 0 ls []) := by
  unfold C_X11_tapeOf at hf
  refine lv_iload_n Cx.1 Cx.2.1 (dd_at td_X11_tapeOf 0 rfl) rfl (lv_at hl 1 rfl) ?_
  refine lv_iconst (v := (5 : Int32)) Cx.1 Cx.2.1 (dd_at td_X11_tapeOf 1 rfl) (by decide) ?_
  obtain ⟨r3, st1, hx2, hf⟩ := fc_of_bn hf
  refine cc_ai hM (cc_rS (As := [.int x1, .int (5 : Int32)]) (rest := []) (n := 2) Cx hM (c_X11_isWithin l D X fu x1 (5 : Int32) st r3 st1 hx2) (cc_gdS cw547 cw548 cw549 cw520) hd_X11_isWithin ⟨Nat.le_of_ble_eq_true rfl, Nat.le_of_ble_eq_true rfl⟩ rfl hl.1 rfl (Nat.le_of_ble_eq_true rfl) (dd_at td_X11_tapeOf 2 rfl) ⟨Nat.le_refl 0, Nat.le_refl 0⟩) (fun H locs hM => ?_)
  refine lv_if_eq (tgt := 17) Cx.1 Cx.2.1 (dd_at td_X11_tapeOf 3 rfl) (by decide) (fun c4 => ?_) (fun c4 => ?_)
  · replace hf := fc_of_t hf c4
    refine lv_null Cx.1 Cx.2.1 (dd_at td_X11_tapeOf 9 rfl) ?_
    exact cc_rn Cx hM (dd_at td_X11_tapeOf 10 rfl) hf
  · replace hf := fc_of_f hf c4
    refine lv_aload_n Cx.1 Cx.2.1 (dd_at td_X11_tapeOf 4 rfl) rfl (lv_at hl 0 rfl) ?_
    obtain ⟨g5, hf⟩ := fc_of_gd hf
    refine cc_gA (ci := 13) (C := RX11) (T := TX11) (N := 8) (k := 3) (ref := "EclipsesKept") Cx hM g5 rfl cc_inX11 rfl (by decide) cw504 (fun _ h => h) (dd_at td_X11_tapeOf 5 rfl) rfl ?_
    refine lv_iload_n Cx.1 Cx.2.1 (dd_at td_X11_tapeOf 6 rfl) rfl (lv_at hl 1 rfl) ?_
    obtain ⟨g6, hf⟩ := fc_of_gd hf
    refine cc_aldq Cx hM g6 (Or.inr rfl) (dd_at td_X11_tapeOf 7 rfl) (fun hq => ?_) (fun y7 hq => ?_)
    · replace hf := fc_of_mn hf hq
      refine lv_goto (tgt := 18) Cx.1 Cx.2.1 (dd_at td_X11_tapeOf 8 rfl) (by decide) ?_
      exact cc_rn Cx hM (dd_at td_X11_tapeOf 10 rfl) hf
    · replace hf := fc_of_ms hf hq
      refine lv_goto (tgt := 18) Cx.1 Cx.2.1 (dd_at td_X11_tapeOf 8 rfl) (by decide) ?_
      exact cc_rr Cx hM (dd_at td_X11_tapeOf 10 rfl) hf
theorem c_X11_tapeOf (l : Launch) (D : va_G) (X : cc_X) (fu : Nat) (x0 : Nat) (x1 : Int32) (st : cc_S) : cc_Mq l D X yX11_tapeOf cX11_tapeOf 2 (some (.object "EclipsesKept$Tape")) 1 21 [.ref (cx_a X x0), .int x1] st (C_X11_tapeOf X fu x0 x1 st) := by
  intro r st' hf
  refine cc_enter (cc := cX11_tapeOf) (nL := 2) (ret := some (.object "EclipsesKept$Tape")) (by decide +kernel) rfl (Nat.le_of_ble_eq_true rfl) ?_
  intro p e s m args below meth c ls Cx hl hM
  exact w_X11_tapeOf Cx fu x0 x1 st hf hl hM

/-! X11_judge -/
def tb_X11_judge : List (Nat × Instr × Nat) := [(0, .aload_n 0, 1), (1, .iload_n 1, 1), (2, .invokevirtual 232, 3), (5, .astore_n 3, 1), (6, .aload_n 3, 1), (7, .ifnonnull 5, 3), (10, .iconst (-1), 1), (11, .ireturn, 1), (12, .aload_n 3, 1), (13, .invokevirtual 236, 3), (16, .ifCond .eq 14, 3), (19, .aload_n 3, 1), (20, .getfield 239, 3), (23, .iconst 2, 1), (24, .if_icmp .eq 6, 3), (27, .bipush (-12), 2), (29, .ireturn, 1), (30, .iconst 0, 1), (31, .istore 4, 2), (33, .iload 4, 2), (35, .aload_n 0, 1), (36, .getfield 12, 3), (39, .getfield 58, 3), (42, .if_icmp .ge 70, 3), (45, .iload_n 2, 1), (46, .ifCond .lt 14, 3), (49, .iload_n 2, 1), (50, .aload_n 3, 1), (51, .getfield 242, 3), (54, .iload 4, 2), (56, .isub, 1), (57, .if_icmp .lt 9, 3), (60, .bipush 100, 2), (62, .iload 4, 2), (64, .iadd, 1), (65, .ireturn, 1), (66, .aload_n 3, 1), (67, .getfield 244, 3), (70, .iload_n 2, 1), (71, .iload 4, 2), (73, .iadd, 1), (74, .laload, 1), (75, .aload_n 0, 1), (76, .getfield 12, 3), (79, .iload 4, 2), (81, .aload_n 0, 1), (82, .getfield 12, 3), (85, .getfield 84, 3), (88, .aload_n 0, 1), (89, .getfield 12, 3), (92, .getfield 87, 3), (95, .invokevirtual 90, 3), (98, .i2l, 1), (99, .lcmp, 1), (100, .ifCond .eq 6, 3), (103, .iload 4, 2), (105, .ireturn, 1), (106, .iinc 4 1, 3), (109, .goto (-76), 3), (112, .bipush (-5), 2), (114, .ireturn, 1)]
theorem td_X11_judge : tb_X11_judge.all (fun q => decide (decode cX11_judge q.1 = .ok (q.2.1, q.2.2))) = true := by decide +kernel
theorem hd_X11_judge : yX11_judge.cls = RX11 ∧ yX11_judge.cls ≠ "java/lang/invoke/MethodHandle" ∧ yX11_judge.cls ≠ "java/lang/invoke/VarHandle" ∧ (parseMethodDescriptor yX11_judge.desc).map (fun d => d.parameters.length) = some 2 := by decide +kernel
theorem hs_X11_judge : yX11_judge.name ≠ "<init>" ∧ (parseMethodDescriptor yX11_judge.desc).map (fun d => d.parameters.length) = some 2 := by decide +kernel
theorem w_X11_judge_b33F {p : Program} {l : Launch} {e : Env} {s : State} {m : MethodId} {args : Array Value} {below : List Frame} {meth : Method} {c : Code} {D : va_G} {X : cc_X} {r : Int32} {st' : cc_S} (Cx : cc_C p s m args meth c cX11_judge 5 (some .int) RX11 D X) (fu : Nat) (K33 : Nat → Int32 → Nat → Int32 → cc_S → Option (Int32 × cc_S)) (hK33 : ∀ (x0 : Nat) (x2 : Int32) (x3 : Nat) (x4 : Int32) (st : cc_S) (H : Heap) (locs : List Loc) (ls : Array Slot), K33 x0 x2 x3 x4 st = some (r, st') → lv_has ls 5 [(0, .ref (cx_a X x0)), (2, .int x2), (3, .ref (cx_a X x3)), (4, .int x4)] → cc_H D X s.heap st H locs → W p l e (mm_R 5 135) s m args below meth c H locs 0 0 (MQ below (cc_Qi D X r st') args s 0 0 (cc_A X)) (F0 m 33 ls [])) (x0 : Nat) (x2 : Int32) (x3 : Nat) (x4 : Int32) (st : cc_S) (hf : C_X11_judge_b33F X fu K33 x0 x2 x3 x4 st = some (r, st')) {H : Heap} {locs : List Loc} {ls : Array Slot} (hl : lv_has ls 5 [(0, .ref (cx_a X x0)), (2, .int x2), (3, .ref (cx_a X x3)), (4, .int x4)]) (hM : cc_H D X s.heap st H locs) : W p l e (mm_R 5 135) s m args below meth c H locs 0 0 (MQ below (cc_Qi D X r st') args s 0 0 (cc_A X)) (F0 m 33 ls []) := by
  unfold C_X11_judge_b33F at hf
  refine lv_iload Cx.1 Cx.2.1 (dd_at td_X11_judge 19 rfl) (lv_at hl 3 rfl) ?_
  refine lv_aload_n Cx.1 Cx.2.1 (dd_at td_X11_judge 20 rfl) rfl (lv_at hl 0 rfl) ?_
  obtain ⟨g12, hf⟩ := fc_of_gd hf
  refine cc_gO (ci := 13) (C := RX11) (T := TX11) (N := 8) (k := 0) (ref := "EclipsesKept") Cx hM g12 rfl cc_inX11 rfl (by decide) cw498 (fun _ h => h) (dd_at td_X11_judge 21 rfl) rfl ?_
  show W p l e (mm_R 5 135) s m args below meth c H locs 0 0 (MQ below (cc_Qi D X r st') args s 0 0 (cc_A X)) (F0 m 39 ls [.ref (cx_a X 1), .int x4])
  obtain ⟨g13, hf⟩ := fc_of_gd hf
  refine cc_gI (ci := 9) (C := RX7) (T := TX7) (N := 17) (k := 9) (ref := "EclipsesKept$State") Cx hM g13 rfl cc_inX7 rfl (by decide) cw546 (fun _ h => h) (dd_at td_X11_judge 22 rfl) rfl ?_
  refine lv_icmp_ge (tgt := 112) Cx.1 Cx.2.1 (dd_at td_X11_judge 23 rfl) (by decide) (fun c14 => ?_) (fun c14 => ?_)
  · replace hf := fc_of_t hf c14
    refine lv_bipush (v := (-5 : Int32)) Cx.1 Cx.2.1 (dd_at td_X11_judge 59 rfl) (by decide) ?_
    exact cc_ri Cx hM (dd_at td_X11_judge 60 rfl) hf
  · replace hf := fc_of_f hf c14
    refine lv_iload_n Cx.1 Cx.2.1 (dd_at td_X11_judge 24 rfl) rfl (lv_at hl 1 rfl) ?_
    refine lv_if_lt (tgt := 60) Cx.1 Cx.2.1 (dd_at td_X11_judge 25 rfl) (by decide) (fun c15 => ?_) (fun c15 => ?_)
    · replace hf := fc_of_t hf c15
      refine lv_bipush (v := (100 : Int32)) Cx.1 Cx.2.1 (dd_at td_X11_judge 32 rfl) (by decide) ?_
      refine lv_iload Cx.1 Cx.2.1 (dd_at td_X11_judge 33 rfl) (lv_at hl 3 rfl) ?_
      refine lv_iadd Cx.1 Cx.2.1 (dd_at td_X11_judge 34 rfl) ?_
      exact cc_ri Cx hM (dd_at td_X11_judge 35 rfl) hf
    · replace hf := fc_of_f hf c15
      refine lv_iload_n Cx.1 Cx.2.1 (dd_at td_X11_judge 26 rfl) rfl (lv_at hl 1 rfl) ?_
      refine lv_aload_n Cx.1 Cx.2.1 (dd_at td_X11_judge 27 rfl) rfl (lv_at hl 2 rfl) ?_
      obtain ⟨g16, hf⟩ := fc_of_gd hf
      refine cc_gI (ci := 10) (C := RX8) (T := TX8) (N := 3) (k := 2) (ref := "EclipsesKept$Tape") Cx hM g16 rfl cc_inX8 rfl (by decide) cw809 (fun _ h => h) (dd_at td_X11_judge 28 rfl) rfl ?_
      refine lv_iload Cx.1 Cx.2.1 (dd_at td_X11_judge 29 rfl) (lv_at hl 3 rfl) ?_
      refine lv_isub Cx.1 Cx.2.1 (dd_at td_X11_judge 30 rfl) ?_
      refine lv_icmp_lt (tgt := 66) Cx.1 Cx.2.1 (dd_at td_X11_judge 31 rfl) (by decide) (fun c17 => ?_) (fun c17 => ?_)
      · replace hf := fc_of_t hf c17
        refine lv_aload_n Cx.1 Cx.2.1 (dd_at td_X11_judge 36 rfl) rfl (lv_at hl 2 rfl) ?_
        refine cc_gA (ci := 10) (C := RX8) (T := TX8) (N := 3) (k := 0) (ref := "EclipsesKept$Tape") Cx hM g16 rfl cc_inX8 rfl (by decide) cw810 (fun _ h => h) (dd_at td_X11_judge 37 rfl) rfl ?_
        refine lv_iload_n Cx.1 Cx.2.1 (dd_at td_X11_judge 38 rfl) rfl (lv_at hl 1 rfl) ?_
        refine lv_iload Cx.1 Cx.2.1 (dd_at td_X11_judge 39 rfl) (lv_at hl 3 rfl) ?_
        refine lv_iadd Cx.1 Cx.2.1 (dd_at td_X11_judge 40 rfl) ?_
        obtain ⟨g18, hf⟩ := fc_of_gd hf
        refine cc_lald Cx hM g18 (dd_at td_X11_judge 41 rfl) ?_
        refine lv_aload_n Cx.1 Cx.2.1 (dd_at td_X11_judge 42 rfl) rfl (lv_at hl 0 rfl) ?_
        refine cc_gO (ci := 13) (C := RX11) (T := TX11) (N := 8) (k := 0) (ref := "EclipsesKept") Cx hM g12 rfl cc_inX11 rfl (by decide) cw498 (fun _ h => h) (dd_at td_X11_judge 43 rfl) rfl ?_
        show W p l e (mm_R 5 135) s m args below meth c H locs 0 0 (MQ below (cc_Qi D X r st') args s 0 0 (cc_A X)) (F0 m 79 ls [.ref (cx_a X 1), .long (cc_J st x3 0 (x2 + x4).toNatClampNeg)])
        refine lv_iload Cx.1 Cx.2.1 (dd_at td_X11_judge 44 rfl) (lv_at hl 3 rfl) ?_
        refine lv_aload_n Cx.1 Cx.2.1 (dd_at td_X11_judge 45 rfl) rfl (lv_at hl 0 rfl) ?_
        refine cc_gO (ci := 13) (C := RX11) (T := TX11) (N := 8) (k := 0) (ref := "EclipsesKept") Cx hM g12 rfl cc_inX11 rfl (by decide) cw498 (fun _ h => h) (dd_at td_X11_judge 46 rfl) rfl ?_
        show W p l e (mm_R 5 135) s m args below meth c H locs 0 0 (MQ below (cc_Qi D X r st') args s 0 0 (cc_A X)) (F0 m 85 ls [.ref (cx_a X 1), .int x4, .ref (cx_a X 1), .long (cc_J st x3 0 (x2 + x4).toNatClampNeg)])
        refine cc_gI (ci := 9) (C := RX7) (T := TX7) (N := 17) (k := 15) (ref := "EclipsesKept$State") Cx hM g13 rfl cc_inX7 rfl (by decide) cw560 (fun _ h => h) (dd_at td_X11_judge 47 rfl) rfl ?_
        refine lv_aload_n Cx.1 Cx.2.1 (dd_at td_X11_judge 48 rfl) rfl (lv_at hl 0 rfl) ?_
        refine cc_gO (ci := 13) (C := RX11) (T := TX11) (N := 8) (k := 0) (ref := "EclipsesKept") Cx hM g12 rfl cc_inX11 rfl (by decide) cw498 (fun _ h => h) (dd_at td_X11_judge 49 rfl) rfl ?_
        show W p l e (mm_R 5 135) s m args below meth c H locs 0 0 (MQ below (cc_Qi D X r st') args s 0 0 (cc_A X)) (F0 m 92 ls [.ref (cx_a X 1), .int (cc_I st 1 15), .int x4, .ref (cx_a X 1), .long (cc_J st x3 0 (x2 + x4).toNatClampNeg)])
        refine cc_gI (ci := 9) (C := RX7) (T := TX7) (N := 17) (k := 13) (ref := "EclipsesKept$State") Cx hM g13 rfl cc_inX7 rfl (by decide) cw561 (fun _ h => h) (dd_at td_X11_judge 50 rfl) rfl ?_
        obtain ⟨r21, st19, hx20, hf⟩ := fc_of_bn hf
        refine cc_ai hM (cc_rV (ci := 9) (As := [.int x4, .int (cc_I st 1 15), .int (cc_I st 1 13)]) (rest := [.long (cc_J st x3 0 (x2 + x4).toNatClampNeg)]) (n := 3) Cx hM g13 rfl (c_X7_worthOf l D X fu 1 x4 (cc_I st 1 15) (cc_I st 1 13) st r21 st19 hx20) (cc_gdV cw563 cw397 cw398 cw345 cw395) hd_X7_worthOf ⟨Nat.le_of_ble_eq_true rfl, Nat.le_of_ble_eq_true rfl⟩ rfl hl.1 rfl (Nat.le_of_ble_eq_true rfl) (dd_at td_X11_judge 51 rfl) ⟨Nat.le_refl 0, Nat.le_refl 0⟩) (fun H locs hM => ?_)
        refine lv_i2l Cx.1 Cx.2.1 (dd_at td_X11_judge 52 rfl) rfl ?_
        refine W.lcmp Cx.1 Cx.2.1 (dd_at td_X11_judge 53 rfl) ?_
        refine lv_if_eq (tgt := 106) Cx.1 Cx.2.1 (dd_at td_X11_judge 54 rfl) (by decide) (fun c22 => ?_) (fun c22 => ?_)
        · replace hf := fc_of_t hf c22
          obtain ⟨v23, ev23⟩ : ∃ y : Int32, y = x4 + (1 : Int32) := ⟨_, rfl⟩
          replace hf := fc_of_nm hf v23 ev23
          refine lv_iinc (v := v23) (lv' := [(4, .int v23), (0, .ref (cx_a X x0)), (2, .int x2), (3, .ref (cx_a X x3))]) Cx.1 Cx.2.1 (dd_at td_X11_judge 57 rfl) hl (k := 3) rfl (by rw [ev23]; rfl) (by decide) rfl (fun ls hl => ?_)
          refine lv_goto (tgt := 33) Cx.1 Cx.2.1 (dd_at td_X11_judge 58 rfl) (by decide) ?_
          exact hK33 x0 x2 x3 v23 st19 _ _ _ hf (lv_sub hl [1, 2, 3, 0] rfl) hM
        · replace hf := fc_of_f hf c22
          refine lv_iload Cx.1 Cx.2.1 (dd_at td_X11_judge 55 rfl) (lv_at hl 3 rfl) ?_
          exact cc_ri Cx hM (dd_at td_X11_judge 56 rfl) hf
      · replace hf := fc_of_f hf c17
        refine lv_bipush (v := (100 : Int32)) Cx.1 Cx.2.1 (dd_at td_X11_judge 32 rfl) (by decide) ?_
        refine lv_iload Cx.1 Cx.2.1 (dd_at td_X11_judge 33 rfl) (lv_at hl 3 rfl) ?_
        refine lv_iadd Cx.1 Cx.2.1 (dd_at td_X11_judge 34 rfl) ?_
        exact cc_ri Cx hM (dd_at td_X11_judge 35 rfl) hf
theorem w_X11_judge_b33 {p : Program} {l : Launch} {e : Env} {s : State} {m : MethodId} {args : Array Value} {below : List Frame} {meth : Method} {c : Code} {D : va_G} {X : cc_X} {r : Int32} {st' : cc_S} (Cx : cc_C p s m args meth c cX11_judge 5 (some .int) RX11 D X) (fu : Nat) (n : Nat) : ∀ (x0 : Nat) (x2 : Int32) (x3 : Nat) (x4 : Int32) (st : cc_S), C_X11_judge_b33 X fu n x0 x2 x3 x4 st = some (r, st') → ∀ (H : Heap) (locs : List Loc) (ls : Array Slot), lv_has ls 5 [(0, .ref (cx_a X x0)), (2, .int x2), (3, .ref (cx_a X x3)), (4, .int x4)] → cc_H D X s.heap st H locs → W p l e (mm_R 5 135) s m args below meth c H locs 0 0 (MQ below (cc_Qi D X r st') args s 0 0 (cc_A X)) (F0 m 33 ls []) := by
  induction n with
  | zero => exact fun _ _ _ _ _ hf => fc_no hf
  | succ n ih =>
    intro x0 x2 x3 x4 st hf H locs ls hl hM
    exact w_X11_judge_b33F Cx fu (fun x0 x2 x3 x4 st => C_X11_judge_b33 X fu n x0 x2 x3 x4 st) (fun x0 x2 x3 x4 st H locs ls hf hl hM => ih x0 x2 x3 x4 st hf H locs ls hl hM) x0 x2 x3 x4 st hf hl hM
theorem w_X11_judge_b30 {p : Program} {l : Launch} {e : Env} {s : State} {m : MethodId} {args : Array Value} {below : List Frame} {meth : Method} {c : Code} {D : va_G} {X : cc_X} {r : Int32} {st' : cc_S} (Cx : cc_C p s m args meth c cX11_judge 5 (some .int) RX11 D X) (fu : Nat) (x0 : Nat) (x2 : Int32) (x3 : Nat) (st : cc_S) (hf : C_X11_judge_b30 X fu x0 x2 x3 st = some (r, st')) {H : Heap} {locs : List Loc} {ls : Array Slot} (hl : lv_has ls 5 [(0, .ref (cx_a X x0)), (2, .int x2), (3, .ref (cx_a X x3))]) (hM : cc_H D X s.heap st H locs) : W p l e (mm_R 5 135) s m args below meth c H locs 0 0 (MQ below (cc_Qi D X r st') args s 0 0 (cc_A X)) (F0 m 30 ls []) := by
  unfold C_X11_judge_b30 at hf
  refine lv_iconst (v := (0 : Int32)) Cx.1 Cx.2.1 (dd_at td_X11_judge 17 rfl) (by decide) ?_
  refine lv_istore (lv' := [(4, .int (0 : Int32)), (0, .ref (cx_a X x0)), (2, .int x2), (3, .ref (cx_a X x3))]) Cx.1 Cx.2.1 (dd_at td_X11_judge 18 rfl) hl (by decide) rfl (fun ls hl => ?_)
  exact w_X11_judge_b33 Cx fu fu x0 x2 x3 (0 : Int32) st hf _ _ _ (lv_sub hl [1, 2, 3, 0] rfl) hM
theorem w_X11_judge {p : Program} {l : Launch} {e : Env} {s : State} {m : MethodId} {args : Array Value} {below : List Frame} {meth : Method} {c : Code} {D : va_G} {X : cc_X} {r : Int32} {st' : cc_S} (Cx : cc_C p s m args meth c cX11_judge 5 (some .int) RX11 D X) (fu : Nat) (x0 : Nat) (x1 : Int32) (x2 : Int32) (st : cc_S) (hf : C_X11_judge X fu x0 x1 x2 st = some (r, st')) {H : Heap} {locs : List Loc} {ls : Array Slot} (hl : lv_has ls 5 [(0, .ref (cx_a X x0)), (1, .int x1), (2, .int x2)]) (hM : cc_H D X s.heap st H locs) : W p l e (mm_R 5 135) s m args below meth c H locs 0 0 (MQ below (cc_Qi D X r st') args s 0 0 (cc_A X)) (F0 m 0 ls []) := by
  unfold C_X11_judge at hf
  refine lv_aload_n Cx.1 Cx.2.1 (dd_at td_X11_judge 0 rfl) rfl (lv_at hl 0 rfl) ?_
  refine lv_iload_n Cx.1 Cx.2.1 (dd_at td_X11_judge 1 rfl) rfl (lv_at hl 1 rfl) ?_
  obtain ⟨g1, hf⟩ := fc_of_gd hf
  obtain ⟨r4, st2, hx3, hf⟩ := fc_of_bn hf
  refine cc_aq hM (cc_rV (ci := 13) (As := [.int x1]) (rest := []) (n := 1) Cx hM g1 rfl (c_X11_tapeOf l D X fu x0 x1 st r4 st2 hx3) (cc_gdV cw811 cw812 cw813 cw549 cw807) hd_X11_tapeOf ⟨Nat.le_of_ble_eq_true rfl, Nat.le_of_ble_eq_true rfl⟩ rfl hl.1 rfl (Nat.le_of_ble_eq_true rfl) (dd_at td_X11_judge 2 rfl) ⟨Nat.le_refl 0, Nat.le_refl 0⟩) (fun H locs hq hM => ?_) (fun y5 H locs hq hM => ?_)
  · replace hf := fc_of_mn hf hq
    refine lv_astore_nN (lv' := [(3, .null), (0, .ref (cx_a X x0)), (1, .int x1), (2, .int x2)]) Cx.1 Cx.2.1 (dd_at td_X11_judge 3 rfl) rfl hl (by decide) rfl (fun ls hl => ?_)
    refine lv_aload_nN Cx.1 Cx.2.1 (dd_at td_X11_judge 4 rfl) rfl (lv_at hl 0 rfl) ?_
    refine lv_ifnonnullN Cx.1 Cx.2.1 (dd_at td_X11_judge 5 rfl) ?_
    refine lv_iconst (v := (-1 : Int32)) Cx.1 Cx.2.1 (dd_at td_X11_judge 6 rfl) (by decide) ?_
    exact cc_ri Cx hM (dd_at td_X11_judge 7 rfl) hf
  · replace hf := fc_of_ms hf hq
    refine lv_astore_n (lv' := [(3, .ref (cx_a X y5)), (0, .ref (cx_a X x0)), (1, .int x1), (2, .int x2)]) Cx.1 Cx.2.1 (dd_at td_X11_judge 3 rfl) rfl hl (by decide) rfl (fun ls hl => ?_)
    refine lv_aload_n Cx.1 Cx.2.1 (dd_at td_X11_judge 4 rfl) rfl (lv_at hl 0 rfl) ?_
    refine lv_ifnonnull (tgt := 12) Cx.1 Cx.2.1 (dd_at td_X11_judge 5 rfl) (by decide) ?_
    refine lv_aload_n Cx.1 Cx.2.1 (dd_at td_X11_judge 8 rfl) rfl (lv_at hl 0 rfl) ?_
    obtain ⟨g6, hf⟩ := fc_of_gd hf
    obtain ⟨r9, st7, hx8, hf⟩ := fc_of_bn hf
    refine cc_ai hM (cc_rV (ci := 10) (As := []) (rest := []) (n := 0) Cx hM g6 rfl (c_X8_holds l D X fu y5 st2 r9 st7 hx8) (cc_gdV cw814 cw815 cw816 cw513 cw406) hd_X8_holds ⟨Nat.le_of_ble_eq_true rfl, Nat.le_of_ble_eq_true rfl⟩ rfl hl.1 rfl (Nat.le_of_ble_eq_true rfl) (dd_at td_X11_judge 9 rfl) ⟨Nat.le_refl 0, Nat.le_refl 0⟩) (fun H locs hM => ?_)
    refine lv_if_eq (tgt := 30) Cx.1 Cx.2.1 (dd_at td_X11_judge 10 rfl) (by decide) (fun c10 => ?_) (fun c10 => ?_)
    · replace hf := fc_of_t hf c10
      exact w_X11_judge_b30 Cx fu x0 x2 y5 st7 hf (lv_sub hl [1, 3, 0] rfl) hM
    · replace hf := fc_of_f hf c10
      refine lv_aload_n Cx.1 Cx.2.1 (dd_at td_X11_judge 11 rfl) rfl (lv_at hl 0 rfl) ?_
      refine cc_gI (ci := 10) (C := RX8) (T := TX8) (N := 3) (k := 1) (ref := "EclipsesKept$Tape") Cx hM g6 rfl cc_inX8 rfl (by decide) cw808 (fun _ h => h) (dd_at td_X11_judge 12 rfl) rfl ?_
      refine lv_iconst (v := (2 : Int32)) Cx.1 Cx.2.1 (dd_at td_X11_judge 13 rfl) (by decide) ?_
      refine lv_icmp_eq (tgt := 30) Cx.1 Cx.2.1 (dd_at td_X11_judge 14 rfl) (by decide) (fun c11 => ?_) (fun c11 => ?_)
      · replace hf := fc_of_t hf c11
        exact w_X11_judge_b30 Cx fu x0 x2 y5 st7 hf (lv_sub hl [1, 3, 0] rfl) hM
      · replace hf := fc_of_f hf c11
        refine lv_bipush (v := (-12 : Int32)) Cx.1 Cx.2.1 (dd_at td_X11_judge 15 rfl) (by decide) ?_
        exact cc_ri Cx hM (dd_at td_X11_judge 16 rfl) hf
theorem c_X11_judge (l : Launch) (D : va_G) (X : cc_X) (fu : Nat) (x0 : Nat) (x1 : Int32) (x2 : Int32) (st : cc_S) : cc_Mi l D X yX11_judge cX11_judge 5 (some .int) 5 135 [.ref (cx_a X x0), .int x1, .int x2] st (C_X11_judge X fu x0 x1 x2 st) := by
  intro r st' hf
  refine cc_enter (cc := cX11_judge) (nL := 5) (ret := some .int) (by decide +kernel) rfl (Nat.le_of_ble_eq_true rfl) ?_
  intro p e s m args below meth c ls Cx hl hM
  exact w_X11_judge Cx fu x0 x1 x2 st hf hl hM

/-! X11_act -/
def tb_X11_act : List (Nat × Instr × Nat) := [(0, .aload_n 0, 1), (1, .getfield 41, 3), (4, .iconst 0, 1), (5, .iconst 0, 1), (6, .iastore, 1), (7, .aload_n 0, 1), (8, .getfield 12, 3), (11, .iload_n 1, 1), (12, .invokevirtual 69, 3), (15, .astore 4, 2), (17, .aload 4, 2), (19, .ifnonnull 5, 3), (22, .iconst 0, 1), (23, .ireturn, 1), (24, .iload_n 2, 1), (25, .tableswitch 48 0 2 #[27, 34, 41], 27), (52, .aload 4, 2), (54, .iload_n 3, 1), (55, .invokevirtual 251, 3), (58, .ireturn, 1), (59, .aload 4, 2), (61, .iload_n 3, 1), (62, .invokevirtual 254, 3), (65, .ireturn, 1), (66, .aload 4, 2), (68, .iload_n 3, 1), (69, .invokevirtual 257, 3), (72, .ireturn, 1), (73, .iconst 0, 1), (74, .ireturn, 1)]
theorem td_X11_act : tb_X11_act.all (fun q => decide (decode cX11_act q.1 = .ok (q.2.1, q.2.2))) = true := by decide +kernel
theorem hd_X11_act : yX11_act.cls = RX11 ∧ yX11_act.cls ≠ "java/lang/invoke/MethodHandle" ∧ yX11_act.cls ≠ "java/lang/invoke/VarHandle" ∧ (parseMethodDescriptor yX11_act.desc).map (fun d => d.parameters.length) = some 3 := by decide +kernel
theorem hs_X11_act : yX11_act.name ≠ "<init>" ∧ (parseMethodDescriptor yX11_act.desc).map (fun d => d.parameters.length) = some 3 := by decide +kernel
theorem v_X11_act_55 {p : Program} {l : Launch} {e : Env} {s : State} {m : MethodId} {args : Array Value} {below : List Frame} {meth : Method} {c : Code} {H H0 : Heap} {locs : List Loc} {ls : Array Slot} {As rest stk : List Value} {D : va_G} {X : cc_X} {st : cc_S} {i fu : Nat} (Cx : cc_C p s m args meth c cX11_act 5 (some .int) RX11 D X) (hM : cc_H D X H0 st H locs) (hid : cc_go X i [3, 4, 5, 6, 7, 8, 11] = true) (a0 : Int32) {r : Int32} {st1 : cc_S} (hx : D_darkens_3_4_5_6_7_8_11 X fu i a0 st = some (r, st1)) (hsz : ls.size = 5) (hst : stk = [.int a0].reverse ++ .ref (cx_a X i) :: rest) (hW : (rest.map fun v => v.category).sum ≤ 8) : va_Run p l e (mm_R 8 169) s m args below meth c H locs 0 0 0 0 (F0 m 55 ls stk) rest (cc_Qi D X r st1 (Value.ref (cx_a X i) :: [.int a0]).toArray) (cc_A X) := by
  have hc := cc_go_c hid
  simp only [List.mem_cons, List.not_mem_nil, or_false] at hc
  rcases hc with h | h | h | h | h | h | h
  · have hx2 : C_X3_darkens X fu i a0 st = some (r, st1) := by simpa [D_darkens_3_4_5_6_7_8_11, h] using hx
    exact cc_rO (ci := 3) (x := ⟨"EclipsesKept$Need", "darkens", "(I)I"⟩) (owner := "EclipsesKept$Need") (As := [.int a0]) (n := 1) Cx hM (cc_go_1 hid h) rfl (c_X3_darkens l D X fu i a0 st r st1 hx2) (cc_gdO cw824 cw246 cw248 cw257 cw258 cw198 cw240) cw229 hu_darkens ⟨Nat.le_of_ble_eq_true rfl, Nat.le_of_ble_eq_true rfl⟩ rfl hsz hst hW (dd_at td_X11_act 18 rfl) ⟨Nat.le_refl 0, Nat.le_refl 0⟩
  · have hx2 : C_X2_darkens X fu i a0 st = some (r, st1) := by simpa [D_darkens_3_4_5_6_7_8_11, h] using hx
    exact cc_rO (ci := 4) (x := ⟨"EclipsesKept$Need", "darkens", "(I)I"⟩) (owner := "EclipsesKept$Need") (As := [.int a0]) (n := 1) Cx hM (cc_go_1 hid h) rfl (c_X2_darkens l D X fu i a0 st r st1 hx2) (cc_gdO cw824 cw246 cw248 cw259 cw260 cw261 cw225) cw229 hu_darkens ⟨Nat.le_of_ble_eq_true rfl, Nat.le_of_ble_eq_true rfl⟩ rfl hsz hst hW (dd_at td_X11_act 18 rfl) ⟨Nat.le_refl 0, Nat.le_refl 0⟩
  · have hx2 : C_X3_darkens X fu i a0 st = some (r, st1) := by simpa [D_darkens_3_4_5_6_7_8_11, h] using hx
    exact cc_rO (ci := 5) (x := ⟨"EclipsesKept$Need", "darkens", "(I)I"⟩) (owner := "EclipsesKept$Need") (As := [.int a0]) (n := 1) Cx hM (cc_go_1 hid h) rfl (c_X3_darkens l D X fu i a0 st r st1 hx2) (cc_gdO cw824 cw246 cw248 cw262 cw258 cw198 cw240) cw229 hu_darkens ⟨Nat.le_of_ble_eq_true rfl, Nat.le_of_ble_eq_true rfl⟩ rfl hsz hst hW (dd_at td_X11_act 18 rfl) ⟨Nat.le_refl 0, Nat.le_refl 0⟩
  · have hx2 : C_X4_darkens X fu i a0 st = some (r, st1) := by simpa [D_darkens_3_4_5_6_7_8_11, h] using hx
    exact cc_rV (ci := 6) (As := [.int a0]) (n := 1) Cx hM (cc_go_1 hid h) rfl (c_X4_darkens l D X fu i a0 st r st1 hx2) (cc_gdV cw824 cw248 cw264 cw194 cw229) hd_X4_darkens ⟨Nat.le_of_ble_eq_true rfl, Nat.le_of_ble_eq_true rfl⟩ rfl hsz hst hW (dd_at td_X11_act 18 rfl) ⟨Nat.le_refl 0, Nat.le_refl 0⟩
  · have hx2 : C_X4_darkens X fu i a0 st = some (r, st1) := by simpa [D_darkens_3_4_5_6_7_8_11, h] using hx
    exact cc_rU (ci := 7) (x := ⟨"EclipsesKept$Need", "darkens", "(I)I"⟩) (owner := "EclipsesKept$Need") (As := [.int a0]) (n := 1) Cx hM (cc_go_1 hid h) rfl (c_X4_darkens l D X fu i a0 st r st1 hx2) (cc_gdU cw824 cw246 cw265 cw248 cw194 cw229) rfl hu_darkens ⟨Nat.le_of_ble_eq_true rfl, Nat.le_of_ble_eq_true rfl⟩ rfl hsz hst hW (dd_at td_X11_act 18 rfl) ⟨Nat.le_refl 0, Nat.le_refl 0⟩
  · have hx2 : C_X4_darkens X fu i a0 st = some (r, st1) := by simpa [D_darkens_3_4_5_6_7_8_11, h] using hx
    exact cc_rU (ci := 8) (x := ⟨"EclipsesKept$Need", "darkens", "(I)I"⟩) (owner := "EclipsesKept$Need") (As := [.int a0]) (n := 1) Cx hM (cc_go_1 hid h) rfl (c_X4_darkens l D X fu i a0 st r st1 hx2) (cc_gdU cw824 cw246 cw266 cw248 cw194 cw229) rfl hu_darkens ⟨Nat.le_of_ble_eq_true rfl, Nat.le_of_ble_eq_true rfl⟩ rfl hsz hst hW (dd_at td_X11_act 18 rfl) ⟨Nat.le_refl 0, Nat.le_refl 0⟩
  · have hx2 : C_X9_darkens X fu i a0 st = some (r, st1) := by simpa [D_darkens_3_4_5_6_7_8_11, h] using hx
    exact cc_rO (ci := 11) (x := ⟨"EclipsesKept$Need", "darkens", "(I)I"⟩) (owner := "EclipsesKept$Need") (As := [.int a0]) (n := 1) Cx hM (cc_go_1 hid h) rfl (c_X9_darkens l D X fu i a0 st r st1 hx2) (cc_gdO cw824 cw246 cw248 cw267 cw268 cw269 cw249) cw229 hu_darkens ⟨Nat.le_of_ble_eq_true rfl, Nat.le_of_ble_eq_true rfl⟩ rfl hsz hst hW (dd_at td_X11_act 18 rfl) ⟨Nat.le_refl 0, Nat.le_refl 0⟩
theorem v_X11_act_62 {p : Program} {l : Launch} {e : Env} {s : State} {m : MethodId} {args : Array Value} {below : List Frame} {meth : Method} {c : Code} {H H0 : Heap} {locs : List Loc} {ls : Array Slot} {As rest stk : List Value} {D : va_G} {X : cc_X} {st : cc_S} {i fu : Nat} (Cx : cc_C p s m args meth c cX11_act 5 (some .int) RX11 D X) (hM : cc_H D X H0 st H locs) (hid : cc_go X i [3, 4, 5, 6, 7, 8, 11] = true) (a0 : Int32) {r : Int32} {st1 : cc_S} (hx : D_pleads_3_4_5_6_7_8_11 X fu i a0 st = some (r, st1)) (hsz : ls.size = 5) (hst : stk = [.int a0].reverse ++ .ref (cx_a X i) :: rest) (hW : (rest.map fun v => v.category).sum ≤ 8) : va_Run p l e (mm_R 8 169) s m args below meth c H locs 0 0 0 0 (F0 m 62 ls stk) rest (cc_Qi D X r st1 (Value.ref (cx_a X i) :: [.int a0]).toArray) (cc_A X) := by
  have hc := cc_go_c hid
  simp only [List.mem_cons, List.not_mem_nil, or_false] at hc
  rcases hc with h | h | h | h | h | h | h
  · have hx2 : C_X4_pleads X fu i a0 st = some (r, st1) := by simpa [D_pleads_3_4_5_6_7_8_11, h] using hx
    exact cc_rU (ci := 3) (x := ⟨"EclipsesKept$Need", "pleads", "(I)I"⟩) (owner := "EclipsesKept$Need") (As := [.int a0]) (n := 1) Cx hM (cc_go_1 hid h) rfl (c_X4_pleads l D X fu i a0 st r st1 hx2) (cc_gdU cw826 cw276 cw287 cw278 cw194 cw270) rfl hu_pleads ⟨Nat.le_of_ble_eq_true rfl, Nat.le_of_ble_eq_true rfl⟩ rfl hsz hst hW (dd_at td_X11_act 22 rfl) ⟨Nat.le_refl 0, Nat.le_refl 0⟩
  · have hx2 : C_X2_pleads X fu i a0 st = some (r, st1) := by simpa [D_pleads_3_4_5_6_7_8_11, h] using hx
    exact cc_rO (ci := 4) (x := ⟨"EclipsesKept$Need", "pleads", "(I)I"⟩) (owner := "EclipsesKept$Need") (As := [.int a0]) (n := 1) Cx hM (cc_go_1 hid h) rfl (c_X2_pleads l D X fu i a0 st r st1 hx2) (cc_gdO cw826 cw276 cw278 cw289 cw290 cw261 cw283) cw270 hu_pleads ⟨Nat.le_of_ble_eq_true rfl, Nat.le_of_ble_eq_true rfl⟩ rfl hsz hst hW (dd_at td_X11_act 22 rfl) ⟨Nat.le_refl 0, Nat.le_refl 0⟩
  · have hx2 : C_X4_pleads X fu i a0 st = some (r, st1) := by simpa [D_pleads_3_4_5_6_7_8_11, h] using hx
    exact cc_rU (ci := 5) (x := ⟨"EclipsesKept$Need", "pleads", "(I)I"⟩) (owner := "EclipsesKept$Need") (As := [.int a0]) (n := 1) Cx hM (cc_go_1 hid h) rfl (c_X4_pleads l D X fu i a0 st r st1 hx2) (cc_gdU cw826 cw276 cw291 cw278 cw194 cw270) rfl hu_pleads ⟨Nat.le_of_ble_eq_true rfl, Nat.le_of_ble_eq_true rfl⟩ rfl hsz hst hW (dd_at td_X11_act 22 rfl) ⟨Nat.le_refl 0, Nat.le_refl 0⟩
  · have hx2 : C_X4_pleads X fu i a0 st = some (r, st1) := by simpa [D_pleads_3_4_5_6_7_8_11, h] using hx
    exact cc_rV (ci := 6) (As := [.int a0]) (n := 1) Cx hM (cc_go_1 hid h) rfl (c_X4_pleads l D X fu i a0 st r st1 hx2) (cc_gdV cw826 cw278 cw293 cw194 cw270) hd_X4_pleads ⟨Nat.le_of_ble_eq_true rfl, Nat.le_of_ble_eq_true rfl⟩ rfl hsz hst hW (dd_at td_X11_act 22 rfl) ⟨Nat.le_refl 0, Nat.le_refl 0⟩
  · have hx2 : C_X4_pleads X fu i a0 st = some (r, st1) := by simpa [D_pleads_3_4_5_6_7_8_11, h] using hx
    exact cc_rU (ci := 7) (x := ⟨"EclipsesKept$Need", "pleads", "(I)I"⟩) (owner := "EclipsesKept$Need") (As := [.int a0]) (n := 1) Cx hM (cc_go_1 hid h) rfl (c_X4_pleads l D X fu i a0 st r st1 hx2) (cc_gdU cw826 cw276 cw294 cw278 cw194 cw270) rfl hu_pleads ⟨Nat.le_of_ble_eq_true rfl, Nat.le_of_ble_eq_true rfl⟩ rfl hsz hst hW (dd_at td_X11_act 22 rfl) ⟨Nat.le_refl 0, Nat.le_refl 0⟩
  · have hx2 : C_X6_pleads X fu i a0 st = some (r, st1) := by simpa [D_pleads_3_4_5_6_7_8_11, h] using hx
    exact cc_rO (ci := 8) (x := ⟨"EclipsesKept$Need", "pleads", "(I)I"⟩) (owner := "EclipsesKept$Need") (As := [.int a0]) (n := 1) Cx hM (cc_go_1 hid h) rfl (c_X6_pleads l D X fu i a0 st r st1 hx2) (cc_gdO cw826 cw276 cw278 cw295 cw282 cw218 cw279) cw270 hu_pleads ⟨Nat.le_of_ble_eq_true rfl, Nat.le_of_ble_eq_true rfl⟩ rfl hsz hst hW (dd_at td_X11_act 22 rfl) ⟨Nat.le_refl 0, Nat.le_refl 0⟩
  · have hx2 : C_X9_pleads X fu i a0 st = some (r, st1) := by simpa [D_pleads_3_4_5_6_7_8_11, h] using hx
    exact cc_rO (ci := 11) (x := ⟨"EclipsesKept$Need", "pleads", "(I)I"⟩) (owner := "EclipsesKept$Need") (As := [.int a0]) (n := 1) Cx hM (cc_go_1 hid h) rfl (c_X9_pleads l D X fu i a0 st r st1 hx2) (cc_gdO cw826 cw276 cw278 cw296 cw297 cw269 cw285) cw270 hu_pleads ⟨Nat.le_of_ble_eq_true rfl, Nat.le_of_ble_eq_true rfl⟩ rfl hsz hst hW (dd_at td_X11_act 22 rfl) ⟨Nat.le_refl 0, Nat.le_refl 0⟩
theorem v_X11_act_69 {p : Program} {l : Launch} {e : Env} {s : State} {m : MethodId} {args : Array Value} {below : List Frame} {meth : Method} {c : Code} {H H0 : Heap} {locs : List Loc} {ls : Array Slot} {As rest stk : List Value} {D : va_G} {X : cc_X} {st : cc_S} {i fu : Nat} (Cx : cc_C p s m args meth c cX11_act 5 (some .int) RX11 D X) (hM : cc_H D X H0 st H locs) (hid : cc_go X i [3, 4, 5, 6, 7, 8, 11] = true) (a0 : Int32) {r : Int32} {st1 : cc_S} (hx : D_tells_3_4_5_6_7_8_11 X fu i a0 st = some (r, st1)) (hsz : ls.size = 5) (hst : stk = [.int a0].reverse ++ .ref (cx_a X i) :: rest) (hW : (rest.map fun v => v.category).sum ≤ 8) : va_Run p l e (mm_R 8 169) s m args below meth c H locs 0 0 0 0 (F0 m 69 ls stk) rest (cc_Qi D X r st1 (Value.ref (cx_a X i) :: [.int a0]).toArray) (cc_A X) := by
  have hc := cc_go_c hid
  simp only [List.mem_cons, List.not_mem_nil, or_false] at hc
  rcases hc with h | h | h | h | h | h | h
  · have hx2 : C_X1_tells X fu i a0 st = some (r, st1) := by simpa [D_tells_3_4_5_6_7_8_11, h] using hx
    exact cc_rO (ci := 3) (x := ⟨"EclipsesKept$Need", "tells", "(I)I"⟩) (owner := "EclipsesKept$Need") (As := [.int a0]) (n := 1) Cx hM (cc_go_1 hid h) rfl (c_X1_tells l D X fu i a0 st r st1 hx2) (cc_gdO cw833 cw307 cw309 cw829 cw830 cw379 cw206) cw298 hu_tells ⟨Nat.le_of_ble_eq_true rfl, Nat.le_of_ble_eq_true rfl⟩ rfl hsz hst hW (dd_at td_X11_act 26 rfl) ⟨Nat.le_refl 0, Nat.le_refl 0⟩
  · have hx2 : C_X4_tells X fu i a0 st = some (r, st1) := by simpa [D_tells_3_4_5_6_7_8_11, h] using hx
    exact cc_rU (ci := 4) (x := ⟨"EclipsesKept$Need", "tells", "(I)I"⟩) (owner := "EclipsesKept$Need") (As := [.int a0]) (n := 1) Cx hM (cc_go_1 hid h) rfl (c_X4_tells l D X fu i a0 st r st1 hx2) (cc_gdU cw833 cw307 cw831 cw309 cw194 cw298) rfl hu_tells ⟨Nat.le_of_ble_eq_true rfl, Nat.le_of_ble_eq_true rfl⟩ rfl hsz hst hW (dd_at td_X11_act 26 rfl) ⟨Nat.le_refl 0, Nat.le_refl 0⟩
  · have hx2 : C_X4_tells X fu i a0 st = some (r, st1) := by simpa [D_tells_3_4_5_6_7_8_11, h] using hx
    exact cc_rU (ci := 5) (x := ⟨"EclipsesKept$Need", "tells", "(I)I"⟩) (owner := "EclipsesKept$Need") (As := [.int a0]) (n := 1) Cx hM (cc_go_1 hid h) rfl (c_X4_tells l D X fu i a0 st r st1 hx2) (cc_gdU cw833 cw307 cw832 cw309 cw194 cw298) rfl hu_tells ⟨Nat.le_of_ble_eq_true rfl, Nat.le_of_ble_eq_true rfl⟩ rfl hsz hst hW (dd_at td_X11_act 26 rfl) ⟨Nat.le_refl 0, Nat.le_refl 0⟩
  · have hx2 : C_X4_tells X fu i a0 st = some (r, st1) := by simpa [D_tells_3_4_5_6_7_8_11, h] using hx
    exact cc_rV (ci := 6) (As := [.int a0]) (n := 1) Cx hM (cc_go_1 hid h) rfl (c_X4_tells l D X fu i a0 st r st1 hx2) (cc_gdV cw833 cw309 cw834 cw194 cw298) hd_X4_tells ⟨Nat.le_of_ble_eq_true rfl, Nat.le_of_ble_eq_true rfl⟩ rfl hsz hst hW (dd_at td_X11_act 26 rfl) ⟨Nat.le_refl 0, Nat.le_refl 0⟩
  · have hx2 : C_X5_tells X fu i a0 st = some (r, st1) := by simpa [D_tells_3_4_5_6_7_8_11, h] using hx
    exact cc_rO (ci := 7) (x := ⟨"EclipsesKept$Need", "tells", "(I)I"⟩) (owner := "EclipsesKept$Need") (As := [.int a0]) (n := 1) Cx hM (cc_go_1 hid h) rfl (c_X5_tells l D X fu i a0 st r st1 hx2) (cc_gdO cw833 cw307 cw309 cw835 cw836 cw363 cw314) cw298 hu_tells ⟨Nat.le_of_ble_eq_true rfl, Nat.le_of_ble_eq_true rfl⟩ rfl hsz hst hW (dd_at td_X11_act 26 rfl) ⟨Nat.le_refl 0, Nat.le_refl 0⟩
  · have hx2 : C_X4_tells X fu i a0 st = some (r, st1) := by simpa [D_tells_3_4_5_6_7_8_11, h] using hx
    exact cc_rU (ci := 8) (x := ⟨"EclipsesKept$Need", "tells", "(I)I"⟩) (owner := "EclipsesKept$Need") (As := [.int a0]) (n := 1) Cx hM (cc_go_1 hid h) rfl (c_X4_tells l D X fu i a0 st r st1 hx2) (cc_gdU cw833 cw307 cw837 cw309 cw194 cw298) rfl hu_tells ⟨Nat.le_of_ble_eq_true rfl, Nat.le_of_ble_eq_true rfl⟩ rfl hsz hst hW (dd_at td_X11_act 26 rfl) ⟨Nat.le_refl 0, Nat.le_refl 0⟩
  · have hx2 : C_X5_tells X fu i a0 st = some (r, st1) := by simpa [D_tells_3_4_5_6_7_8_11, h] using hx
    exact cc_rO (ci := 11) (x := ⟨"EclipsesKept$Need", "tells", "(I)I"⟩) (owner := "EclipsesKept$Need") (As := [.int a0]) (n := 1) Cx hM (cc_go_1 hid h) rfl (c_X5_tells l D X fu i a0 st r st1 hx2) (cc_gdO cw833 cw307 cw309 cw838 cw836 cw363 cw314) cw298 hu_tells ⟨Nat.le_of_ble_eq_true rfl, Nat.le_of_ble_eq_true rfl⟩ rfl hsz hst hW (dd_at td_X11_act 26 rfl) ⟨Nat.le_refl 0, Nat.le_refl 0⟩
theorem w_X11_act {p : Program} {l : Launch} {e : Env} {s : State} {m : MethodId} {args : Array Value} {below : List Frame} {meth : Method} {c : Code} {D : va_G} {X : cc_X} {r : Int32} {st' : cc_S} (Cx : cc_C p s m args meth c cX11_act 5 (some .int) RX11 D X) (fu : Nat) (x0 : Nat) (x1 : Int32) (x2 : Int32) (x3 : Int32) (st : cc_S) (hf : C_X11_act X fu x0 x1 x2 x3 st = some (r, st')) {H : Heap} {locs : List Loc} {ls : Array Slot} (hl : lv_has ls 5 [(0, .ref (cx_a X x0)), (1, .int x1), (2, .int x2), (3, .int x3)]) (hM : cc_H D X s.heap st H locs) : W p l e (mm_R 8 169) s m args below meth c H locs 0 0 (MQ below (cc_Qi D X r st') args s 0 0 (cc_A X)) (F0 m 0 ls []) := by
  unfold C_X11_act at hf
  refine lv_aload_n Cx.1 Cx.2.1 (dd_at td_X11_act 0 rfl) rfl (lv_at hl 0 rfl) ?_
  obtain ⟨g1, hf⟩ := fc_of_gd hf
  refine cc_gA (ci := 13) (C := RX11) (T := TX11) (N := 8) (k := 5) (ref := "EclipsesKept") Cx hM g1 rfl cc_inX11 rfl (by decide) cw509 (fun _ h => h) (dd_at td_X11_act 1 rfl) rfl ?_
  refine lv_iconst (v := (0 : Int32)) Cx.1 Cx.2.1 (dd_at td_X11_act 2 rfl) (by decide) ?_
  refine lv_iconst (v := (0 : Int32)) Cx.1 Cx.2.1 (dd_at td_X11_act 3 rfl) (by decide) ?_
  obtain ⟨g2, hf⟩ := fc_of_gd hf
  refine cc_iast Cx hM g2 (dd_at td_X11_act 4 rfl) (fun st3 H locs est3 hM => ?_)
  replace hf := fc_of_nm hf st3 est3
  refine lv_aload_n Cx.1 Cx.2.1 (dd_at td_X11_act 5 rfl) rfl (lv_at hl 0 rfl) ?_
  refine cc_gO (ci := 13) (C := RX11) (T := TX11) (N := 8) (k := 0) (ref := "EclipsesKept") Cx hM g1 rfl cc_inX11 rfl (by decide) cw498 (fun _ h => h) (dd_at td_X11_act 6 rfl) rfl ?_
  show W p l e (mm_R 8 169) s m args below meth c H locs 0 0 (MQ below (cc_Qi D X r st') args s 0 0 (cc_A X)) (F0 m 11 ls [.ref (cx_a X 1)])
  refine lv_iload_n Cx.1 Cx.2.1 (dd_at td_X11_act 7 rfl) rfl (lv_at hl 1 rfl) ?_
  obtain ⟨g4, hf⟩ := fc_of_gd hf
  obtain ⟨r7, st5, hx6, hf⟩ := fc_of_bn hf
  refine cc_aq hM (cc_rV (ci := 9) (As := [.int x1]) (rest := []) (n := 1) Cx hM g4 rfl (c_X7_needOf l D X fu 1 x1 st3 r7 st5 hx6) (cc_gdV cw562 cw366 cw367 cw345 cw341) hd_X7_needOf ⟨Nat.le_of_ble_eq_true rfl, Nat.le_of_ble_eq_true rfl⟩ rfl hl.1 rfl (Nat.le_of_ble_eq_true rfl) (dd_at td_X11_act 8 rfl) ⟨Nat.le_refl 0, Nat.le_refl 0⟩) (fun H locs hq hM => ?_) (fun y8 H locs hq hM => ?_)
  · replace hf := fc_of_mn hf hq
    refine lv_astoreN (lv' := [(4, .null), (0, .ref (cx_a X x0)), (1, .int x1), (2, .int x2), (3, .int x3)]) Cx.1 Cx.2.1 (dd_at td_X11_act 9 rfl) hl (by decide) rfl (fun ls hl => ?_)
    refine lv_aloadN Cx.1 Cx.2.1 (dd_at td_X11_act 10 rfl) (lv_at hl 0 rfl) ?_
    refine lv_ifnonnullN Cx.1 Cx.2.1 (dd_at td_X11_act 11 rfl) ?_
    refine lv_iconst (v := (0 : Int32)) Cx.1 Cx.2.1 (dd_at td_X11_act 12 rfl) (by decide) ?_
    exact cc_ri Cx hM (dd_at td_X11_act 13 rfl) hf
  · replace hf := fc_of_ms hf hq
    refine lv_astore (lv' := [(4, .ref (cx_a X y8)), (0, .ref (cx_a X x0)), (1, .int x1), (2, .int x2), (3, .int x3)]) Cx.1 Cx.2.1 (dd_at td_X11_act 9 rfl) hl (by decide) rfl (fun ls hl => ?_)
    refine lv_aload Cx.1 Cx.2.1 (dd_at td_X11_act 10 rfl) (lv_at hl 0 rfl) ?_
    refine lv_ifnonnull (tgt := 24) Cx.1 Cx.2.1 (dd_at td_X11_act 11 rfl) (by decide) ?_
    refine lv_iload_n Cx.1 Cx.2.1 (dd_at td_X11_act 14 rfl) rfl (lv_at hl 3 rfl) ?_
    by_cases c9 : x2 = (0 : Int32)
    · replace hf := fc_of_t hf c9
      refine lv_tableIn (off := 27) (tgt := 52) Cx.1 Cx.2.1 (dd_at td_X11_act 15 rfl) (by rw [c9]; decide) (by rw [c9]; decide) (by rw [c9]; decide) (by decide) ?_
      refine lv_aload Cx.1 Cx.2.1 (dd_at td_X11_act 16 rfl) (lv_at hl 0 rfl) ?_
      refine lv_iload_n Cx.1 Cx.2.1 (dd_at td_X11_act 17 rfl) rfl (lv_at hl 4 rfl) ?_
      obtain ⟨g10, hf⟩ := fc_of_gd hf
      obtain ⟨r13, st11, hx12, hf⟩ := fc_of_bn hf
      refine cc_ai hM (v_X11_act_55 (As := [.int x3]) (rest := []) Cx hM g10 x3 hx12 hl.1 rfl (Nat.le_of_ble_eq_true rfl)) (fun H locs hM => ?_)
      exact cc_ri Cx hM (dd_at td_X11_act 19 rfl) hf
    · replace hf := fc_of_f hf c9
      by_cases c14 : x2 = (1 : Int32)
      · replace hf := fc_of_t hf c14
        refine lv_tableIn (off := 34) (tgt := 59) Cx.1 Cx.2.1 (dd_at td_X11_act 15 rfl) (by rw [c14]; decide) (by rw [c14]; decide) (by rw [c14]; decide) (by decide) ?_
        refine lv_aload Cx.1 Cx.2.1 (dd_at td_X11_act 20 rfl) (lv_at hl 0 rfl) ?_
        refine lv_iload_n Cx.1 Cx.2.1 (dd_at td_X11_act 21 rfl) rfl (lv_at hl 4 rfl) ?_
        obtain ⟨g15, hf⟩ := fc_of_gd hf
        obtain ⟨r18, st16, hx17, hf⟩ := fc_of_bn hf
        refine cc_ai hM (v_X11_act_62 (As := [.int x3]) (rest := []) Cx hM g15 x3 hx17 hl.1 rfl (Nat.le_of_ble_eq_true rfl)) (fun H locs hM => ?_)
        exact cc_ri Cx hM (dd_at td_X11_act 23 rfl) hf
      · replace hf := fc_of_f hf c14
        by_cases c19 : x2 = (2 : Int32)
        · replace hf := fc_of_t hf c19
          refine lv_tableIn (off := 41) (tgt := 66) Cx.1 Cx.2.1 (dd_at td_X11_act 15 rfl) (by rw [c19]; decide) (by rw [c19]; decide) (by rw [c19]; decide) (by decide) ?_
          refine lv_aload Cx.1 Cx.2.1 (dd_at td_X11_act 24 rfl) (lv_at hl 0 rfl) ?_
          refine lv_iload_n Cx.1 Cx.2.1 (dd_at td_X11_act 25 rfl) rfl (lv_at hl 4 rfl) ?_
          obtain ⟨g20, hf⟩ := fc_of_gd hf
          obtain ⟨r23, st21, hx22, hf⟩ := fc_of_bn hf
          refine cc_ai hM (v_X11_act_69 (As := [.int x3]) (rest := []) Cx hM g20 x3 hx22 hl.1 rfl (Nat.le_of_ble_eq_true rfl)) (fun H locs hM => ?_)
          exact cc_ri Cx hM (dd_at td_X11_act 27 rfl) hf
        · replace hf := fc_of_f hf c19
          refine lv_tableOut (tgt := 73) Cx.1 Cx.2.1 (dd_at td_X11_act 15 rfl) (by have q0 := lv_neT c9 (a := 0) (by decide); have q1 := lv_neT c14 (a := 1) (by decide); have q2 := lv_neT c19 (a := 2) (by decide); omega) (by decide) ?_
          refine lv_iconst (v := (0 : Int32)) Cx.1 Cx.2.1 (dd_at td_X11_act 28 rfl) (by decide) ?_
          exact cc_ri Cx hM (dd_at td_X11_act 29 rfl) hf
theorem c_X11_act (l : Launch) (D : va_G) (X : cc_X) (fu : Nat) (x0 : Nat) (x1 : Int32) (x2 : Int32) (x3 : Int32) (st : cc_S) : cc_Mi l D X yX11_act cX11_act 5 (some .int) 8 169 [.ref (cx_a X x0), .int x1, .int x2, .int x3] st (C_X11_act X fu x0 x1 x2 x3 st) := by
  intro r st' hf
  refine cc_enter (cc := cX11_act) (nL := 5) (ret := some .int) (by decide +kernel) rfl (Nat.le_of_ble_eq_true rfl) ?_
  intro p e s m args below meth c ls Cx hl hM
  exact w_X11_act Cx fu x0 x1 x2 x3 st hf hl hM

/-! X11_trace -/
def tb_X11_trace : List (Nat × Instr × Nat) := [(0, .iload_n 1, 1), (1, .ifCond .lt 19, 3), (4, .iload_n 1, 1), (5, .aload_n 0, 1), (6, .getfield 41, 3), (9, .iconst 0, 1), (10, .iaload, 1), (11, .if_icmp .ge 9, 3), (14, .iload_n 1, 1), (15, .bipush 20, 2), (17, .if_icmp .lt 5, 3), (20, .iconst (-1), 1), (21, .ireturn, 1), (22, .aload_n 0, 1), (23, .getfield 41, 3), (26, .iconst 1, 1), (27, .iload_n 1, 1), (28, .iadd, 1), (29, .iaload, 1), (30, .ireturn, 1)]
theorem td_X11_trace : tb_X11_trace.all (fun q => decide (decode cX11_trace q.1 = .ok (q.2.1, q.2.2))) = true := by decide +kernel
theorem hd_X11_trace : yX11_trace.cls = RX11 ∧ yX11_trace.cls ≠ "java/lang/invoke/MethodHandle" ∧ yX11_trace.cls ≠ "java/lang/invoke/VarHandle" ∧ (parseMethodDescriptor yX11_trace.desc).map (fun d => d.parameters.length) = some 1 := by decide +kernel
theorem hs_X11_trace : yX11_trace.name ≠ "<init>" ∧ (parseMethodDescriptor yX11_trace.desc).map (fun d => d.parameters.length) = some 1 := by decide +kernel
theorem w_X11_trace {p : Program} {l : Launch} {e : Env} {s : State} {m : MethodId} {args : Array Value} {below : List Frame} {meth : Method} {c : Code} {D : va_G} {X : cc_X} {r : Int32} {st' : cc_S} (Cx : cc_C p s m args meth c cX11_trace 2 (some .int) RX11 D X) (fu : Nat) (x0 : Nat) (x1 : Int32) (st : cc_S) (hf : C_X11_trace X fu x0 x1 st = some (r, st')) {H : Heap} {locs : List Loc} {ls : Array Slot} (hl : lv_has ls 2 [(0, .ref (cx_a X x0)), (1, .int x1)]) (hM : cc_H D X s.heap st H locs) : W p l e (mm_R 0 0) s m args below meth c H locs 0 0 (MQ below (cc_Qi D X r st') args s 0 0 (cc_A X)) (F0 m 0 ls []) := by
  unfold C_X11_trace at hf
  refine lv_iload_n Cx.1 Cx.2.1 (dd_at td_X11_trace 0 rfl) rfl (lv_at hl 1 rfl) ?_
  refine lv_if_lt (tgt := 20) Cx.1 Cx.2.1 (dd_at td_X11_trace 1 rfl) (by decide) (fun c1 => ?_) (fun c1 => ?_)
  · replace hf := fc_of_t hf c1
    refine lv_iconst (v := (-1 : Int32)) Cx.1 Cx.2.1 (dd_at td_X11_trace 11 rfl) (by decide) ?_
    exact cc_ri Cx hM (dd_at td_X11_trace 12 rfl) hf
  · replace hf := fc_of_f hf c1
    refine lv_iload_n Cx.1 Cx.2.1 (dd_at td_X11_trace 2 rfl) rfl (lv_at hl 1 rfl) ?_
    refine lv_aload_n Cx.1 Cx.2.1 (dd_at td_X11_trace 3 rfl) rfl (lv_at hl 0 rfl) ?_
    obtain ⟨g2, hf⟩ := fc_of_gd hf
    refine cc_gA (ci := 13) (C := RX11) (T := TX11) (N := 8) (k := 5) (ref := "EclipsesKept") Cx hM g2 rfl cc_inX11 rfl (by decide) cw509 (fun _ h => h) (dd_at td_X11_trace 4 rfl) rfl ?_
    refine lv_iconst (v := (0 : Int32)) Cx.1 Cx.2.1 (dd_at td_X11_trace 5 rfl) (by decide) ?_
    obtain ⟨g3, hf⟩ := fc_of_gd hf
    refine cc_iald Cx hM g3 (dd_at td_X11_trace 6 rfl) ?_
    refine lv_icmp_ge (tgt := 20) Cx.1 Cx.2.1 (dd_at td_X11_trace 7 rfl) (by decide) (fun c4 => ?_) (fun c4 => ?_)
    · replace hf := fc_of_t hf c4
      refine lv_iconst (v := (-1 : Int32)) Cx.1 Cx.2.1 (dd_at td_X11_trace 11 rfl) (by decide) ?_
      exact cc_ri Cx hM (dd_at td_X11_trace 12 rfl) hf
    · replace hf := fc_of_f hf c4
      refine lv_iload_n Cx.1 Cx.2.1 (dd_at td_X11_trace 8 rfl) rfl (lv_at hl 1 rfl) ?_
      refine lv_bipush (v := (20 : Int32)) Cx.1 Cx.2.1 (dd_at td_X11_trace 9 rfl) (by decide) ?_
      refine lv_icmp_lt (tgt := 22) Cx.1 Cx.2.1 (dd_at td_X11_trace 10 rfl) (by decide) (fun c5 => ?_) (fun c5 => ?_)
      · replace hf := fc_of_t hf c5
        refine lv_aload_n Cx.1 Cx.2.1 (dd_at td_X11_trace 13 rfl) rfl (lv_at hl 0 rfl) ?_
        refine cc_gA (ci := 13) (C := RX11) (T := TX11) (N := 8) (k := 5) (ref := "EclipsesKept") Cx hM g2 rfl cc_inX11 rfl (by decide) cw509 (fun _ h => h) (dd_at td_X11_trace 14 rfl) rfl ?_
        refine lv_iconst (v := (1 : Int32)) Cx.1 Cx.2.1 (dd_at td_X11_trace 15 rfl) (by decide) ?_
        refine lv_iload_n Cx.1 Cx.2.1 (dd_at td_X11_trace 16 rfl) rfl (lv_at hl 1 rfl) ?_
        refine lv_iadd Cx.1 Cx.2.1 (dd_at td_X11_trace 17 rfl) ?_
        obtain ⟨g6, hf⟩ := fc_of_gd hf
        refine cc_iald Cx hM g6 (dd_at td_X11_trace 18 rfl) ?_
        exact cc_ri Cx hM (dd_at td_X11_trace 19 rfl) hf
      · replace hf := fc_of_f hf c5
        refine lv_iconst (v := (-1 : Int32)) Cx.1 Cx.2.1 (dd_at td_X11_trace 11 rfl) (by decide) ?_
        exact cc_ri Cx hM (dd_at td_X11_trace 12 rfl) hf
theorem c_X11_trace (l : Launch) (D : va_G) (X : cc_X) (fu : Nat) (x0 : Nat) (x1 : Int32) (st : cc_S) : cc_Mi l D X yX11_trace cX11_trace 2 (some .int) 0 0 [.ref (cx_a X x0), .int x1] st (C_X11_trace X fu x0 x1 st) := by
  intro r st' hf
  refine cc_enter (cc := cX11_trace) (nL := 2) (ret := some .int) (by decide +kernel) rfl (Nat.le_of_ble_eq_true rfl) ?_
  intro p e s m args below meth c ls Cx hl hM
  exact w_X11_trace Cx fu x0 x1 st hf hl hM

/-! X11_isOfKind -/
def tb_X11_isOfKind : List (Nat × Instr × Nat) := [(0, .iload_n 1, 1), (1, .tableswitch 75 0 6 #[43, 45, 50, 55, 60, 65, 70], 43), (44, .iconst 1, 1), (45, .ireturn, 1), (46, .aload_n 0, 1), (47, .instanceof 283, 3), (50, .ireturn, 1), (51, .aload_n 0, 1), (52, .instanceof 288, 3), (55, .ireturn, 1), (56, .aload_n 0, 1), (57, .instanceof 291, 3), (60, .ireturn, 1), (61, .aload_n 0, 1), (62, .instanceof 294, 3), (65, .ireturn, 1), (66, .aload_n 0, 1), (67, .instanceof 297, 3), (70, .ireturn, 1), (71, .aload_n 0, 1), (72, .instanceof 104, 3), (75, .ireturn, 1), (76, .iconst 0, 1), (77, .ireturn, 1)]
theorem td_X11_isOfKind : tb_X11_isOfKind.all (fun q => decide (decode cX11_isOfKind q.1 = .ok (q.2.1, q.2.2))) = true := by decide +kernel
theorem hd_X11_isOfKind : yX11_isOfKind.cls ≠ "java/lang/invoke/MethodHandle" ∧ yX11_isOfKind.cls ≠ "java/lang/invoke/VarHandle" ∧ (parseMethodDescriptor yX11_isOfKind.desc).map (fun d => d.parameters.length) = some 2 := by decide +kernel
theorem i_X11_isOfKind_283 {p : Program} {l : Launch} {e : Env} {R : Room} {s : State} {m : MethodId} {args : Array Value} {below : List Frame} {meth : Method} {c : Code} {H H0 : Heap} {locs : List Loc} {cells slots : Nat} {Q : State → Prop} {pc : Nat} {ls : Array Slot} {rest : List Value} {D : va_G} {X : cc_X} {st : cc_S} {i : Nat} (Cx : cc_C p s m args meth c cX11_isOfKind 2 (some .boolean) RX11 D X) (hM : cc_H D X H0 st H locs) (hid : cc_go X i [3, 4, 5, 6, 7, 8, 11] = true) (hdg : decode cX11_isOfKind pc = .ok (.instanceof 283, 3)) (kk : W p l e R s m args below meth c H locs cells slots Q (F0 m (pc + 3) ls (.int (cc_io (cx_K X i) 8) :: rest))) : W p l e R s m args below meth c H locs cells slots Q (F0 m pc ls (.ref (cx_a X i) :: rest)) := by
  have hc := cc_go_c hid
  simp only [List.mem_cons, List.not_mem_nil, or_false] at hc
  have hown := Cx.2.2.2.2.1
  have hts := Cx.2.2.2.2.2.1
  rcases hc with h | h | h | h | h | h | h
  · have hid := cc_go_1 hid h
    rw [h] at kk
    exact va_instNo (C := RX1) Cx.1 Cx.2.1 hown (hts _ cw521) (Cx.2.2.2.2.2.2.2.2.1.1 ("EclipsesKept$Bird", "EclipsesKept$Siege") (List.mem_of_getElem? (i := 0) rfl)) (cc_rcv Cx hM hid rfl) hdg kk
  · have hid := cc_go_1 hid h
    rw [h] at kk
    exact va_instY (C := RX2) Cx.1 Cx.2.1 hown (hts _ cw521) (Cx.2.2.2.2.2.2.2.2.1.2 ("EclipsesKept$Child", "EclipsesKept$Siege") (List.mem_of_getElem? (i := 3) rfl)) (cc_rcv Cx hM hid rfl) hdg kk
  · have hid := cc_go_1 hid h
    rw [h] at kk
    exact va_instNo (C := RX3) Cx.1 Cx.2.1 hown (hts _ cw521) (Cx.2.2.2.2.2.2.2.2.1.1 ("EclipsesKept$Crown", "EclipsesKept$Siege") (List.mem_of_getElem? (i := 8) rfl)) (cc_rcv Cx hM hid rfl) hdg kk
  · have hid := cc_go_1 hid h
    rw [h] at kk
    exact va_instNo (C := RX4) Cx.1 Cx.2.1 hown (hts _ cw521) (Cx.2.2.2.2.2.2.2.2.1.1 ("EclipsesKept$Need", "EclipsesKept$Siege") (List.mem_of_getElem? (i := 13) rfl)) (cc_rcv Cx hM hid rfl) hdg kk
  · have hid := cc_go_1 hid h
    rw [h] at kk
    exact va_instNo (C := RX5) Cx.1 Cx.2.1 hown (hts _ cw521) (Cx.2.2.2.2.2.2.2.2.1.1 ("EclipsesKept$Photo", "EclipsesKept$Siege") (List.mem_of_getElem? (i := 19) rfl)) (cc_rcv Cx hM hid rfl) hdg kk
  · have hid := cc_go_1 hid h
    rw [h] at kk
    exact va_instS Cx.1 Cx.2.1 hown (hts _ cw521) ((Cx.2.2.2.2.2.2.2.1.1 8 _ rfl).2) (cc_rcv Cx hM hid rfl) hdg kk
  · have hid := cc_go_1 hid h
    rw [h] at kk
    exact va_instNo (C := RX9) Cx.1 Cx.2.1 hown (hts _ cw521) (Cx.2.2.2.2.2.2.2.2.1.1 ("EclipsesKept$Told", "EclipsesKept$Siege") (List.mem_of_getElem? (i := 29) rfl)) (cc_rcv Cx hM hid rfl) hdg kk
theorem i_X11_isOfKind_288 {p : Program} {l : Launch} {e : Env} {R : Room} {s : State} {m : MethodId} {args : Array Value} {below : List Frame} {meth : Method} {c : Code} {H H0 : Heap} {locs : List Loc} {cells slots : Nat} {Q : State → Prop} {pc : Nat} {ls : Array Slot} {rest : List Value} {D : va_G} {X : cc_X} {st : cc_S} {i : Nat} (Cx : cc_C p s m args meth c cX11_isOfKind 2 (some .boolean) RX11 D X) (hM : cc_H D X H0 st H locs) (hid : cc_go X i [3, 4, 5, 6, 7, 8, 11] = true) (hdg : decode cX11_isOfKind pc = .ok (.instanceof 288, 3)) (kk : W p l e R s m args below meth c H locs cells slots Q (F0 m (pc + 3) ls (.int (cc_io (cx_K X i) 5) :: rest))) : W p l e R s m args below meth c H locs cells slots Q (F0 m pc ls (.ref (cx_a X i) :: rest)) := by
  have hc := cc_go_c hid
  simp only [List.mem_cons, List.not_mem_nil, or_false] at hc
  have hown := Cx.2.2.2.2.1
  have hts := Cx.2.2.2.2.2.1
  rcases hc with h | h | h | h | h | h | h
  · have hid := cc_go_1 hid h
    rw [h] at kk
    exact va_instY (C := RX1) Cx.1 Cx.2.1 hown (hts _ cw523) (Cx.2.2.2.2.2.2.2.2.1.2 ("EclipsesKept$Bird", "EclipsesKept$Crown") (List.mem_of_getElem? (i := 0) rfl)) (cc_rcv Cx hM hid rfl) hdg kk
  · have hid := cc_go_1 hid h
    rw [h] at kk
    exact va_instNo (C := RX2) Cx.1 Cx.2.1 hown (hts _ cw523) (Cx.2.2.2.2.2.2.2.2.1.1 ("EclipsesKept$Child", "EclipsesKept$Crown") (List.mem_of_getElem? (i := 4) rfl)) (cc_rcv Cx hM hid rfl) hdg kk
  · have hid := cc_go_1 hid h
    rw [h] at kk
    exact va_instS Cx.1 Cx.2.1 hown (hts _ cw523) ((Cx.2.2.2.2.2.2.2.1.1 5 _ rfl).2) (cc_rcv Cx hM hid rfl) hdg kk
  · have hid := cc_go_1 hid h
    rw [h] at kk
    exact va_instNo (C := RX4) Cx.1 Cx.2.1 hown (hts _ cw523) (Cx.2.2.2.2.2.2.2.2.1.1 ("EclipsesKept$Need", "EclipsesKept$Crown") (List.mem_of_getElem? (i := 14) rfl)) (cc_rcv Cx hM hid rfl) hdg kk
  · have hid := cc_go_1 hid h
    rw [h] at kk
    exact va_instNo (C := RX5) Cx.1 Cx.2.1 hown (hts _ cw523) (Cx.2.2.2.2.2.2.2.2.1.1 ("EclipsesKept$Photo", "EclipsesKept$Crown") (List.mem_of_getElem? (i := 20) rfl)) (cc_rcv Cx hM hid rfl) hdg kk
  · have hid := cc_go_1 hid h
    rw [h] at kk
    exact va_instNo (C := RX6) Cx.1 Cx.2.1 hown (hts _ cw523) (Cx.2.2.2.2.2.2.2.2.1.1 ("EclipsesKept$Siege", "EclipsesKept$Crown") (List.mem_of_getElem? (i := 24) rfl)) (cc_rcv Cx hM hid rfl) hdg kk
  · have hid := cc_go_1 hid h
    rw [h] at kk
    exact va_instNo (C := RX9) Cx.1 Cx.2.1 hown (hts _ cw523) (Cx.2.2.2.2.2.2.2.2.1.1 ("EclipsesKept$Told", "EclipsesKept$Crown") (List.mem_of_getElem? (i := 30) rfl)) (cc_rcv Cx hM hid rfl) hdg kk
theorem i_X11_isOfKind_291 {p : Program} {l : Launch} {e : Env} {R : Room} {s : State} {m : MethodId} {args : Array Value} {below : List Frame} {meth : Method} {c : Code} {H H0 : Heap} {locs : List Loc} {cells slots : Nat} {Q : State → Prop} {pc : Nat} {ls : Array Slot} {rest : List Value} {D : va_G} {X : cc_X} {st : cc_S} {i : Nat} (Cx : cc_C p s m args meth c cX11_isOfKind 2 (some .boolean) RX11 D X) (hM : cc_H D X H0 st H locs) (hid : cc_go X i [3, 4, 5, 6, 7, 8, 11] = true) (hdg : decode cX11_isOfKind pc = .ok (.instanceof 291, 3)) (kk : W p l e R s m args below meth c H locs cells slots Q (F0 m (pc + 3) ls (.int (cc_io (cx_K X i) 7) :: rest))) : W p l e R s m args below meth c H locs cells slots Q (F0 m pc ls (.ref (cx_a X i) :: rest)) := by
  have hc := cc_go_c hid
  simp only [List.mem_cons, List.not_mem_nil, or_false] at hc
  have hown := Cx.2.2.2.2.1
  have hts := Cx.2.2.2.2.2.1
  rcases hc with h | h | h | h | h | h | h
  · have hid := cc_go_1 hid h
    rw [h] at kk
    exact va_instNo (C := RX1) Cx.1 Cx.2.1 hown (hts _ cw525) (Cx.2.2.2.2.2.2.2.2.1.1 ("EclipsesKept$Bird", "EclipsesKept$Photo") (List.mem_of_getElem? (i := 1) rfl)) (cc_rcv Cx hM hid rfl) hdg kk
  · have hid := cc_go_1 hid h
    rw [h] at kk
    exact va_instNo (C := RX2) Cx.1 Cx.2.1 hown (hts _ cw525) (Cx.2.2.2.2.2.2.2.2.1.1 ("EclipsesKept$Child", "EclipsesKept$Photo") (List.mem_of_getElem? (i := 5) rfl)) (cc_rcv Cx hM hid rfl) hdg kk
  · have hid := cc_go_1 hid h
    rw [h] at kk
    exact va_instNo (C := RX3) Cx.1 Cx.2.1 hown (hts _ cw525) (Cx.2.2.2.2.2.2.2.2.1.1 ("EclipsesKept$Crown", "EclipsesKept$Photo") (List.mem_of_getElem? (i := 9) rfl)) (cc_rcv Cx hM hid rfl) hdg kk
  · have hid := cc_go_1 hid h
    rw [h] at kk
    exact va_instNo (C := RX4) Cx.1 Cx.2.1 hown (hts _ cw525) (Cx.2.2.2.2.2.2.2.2.1.1 ("EclipsesKept$Need", "EclipsesKept$Photo") (List.mem_of_getElem? (i := 15) rfl)) (cc_rcv Cx hM hid rfl) hdg kk
  · have hid := cc_go_1 hid h
    rw [h] at kk
    exact va_instS Cx.1 Cx.2.1 hown (hts _ cw525) ((Cx.2.2.2.2.2.2.2.1.1 7 _ rfl).2) (cc_rcv Cx hM hid rfl) hdg kk
  · have hid := cc_go_1 hid h
    rw [h] at kk
    exact va_instNo (C := RX6) Cx.1 Cx.2.1 hown (hts _ cw525) (Cx.2.2.2.2.2.2.2.2.1.1 ("EclipsesKept$Siege", "EclipsesKept$Photo") (List.mem_of_getElem? (i := 25) rfl)) (cc_rcv Cx hM hid rfl) hdg kk
  · have hid := cc_go_1 hid h
    rw [h] at kk
    exact va_instY (C := RX9) Cx.1 Cx.2.1 hown (hts _ cw525) (Cx.2.2.2.2.2.2.2.2.1.2 ("EclipsesKept$Told", "EclipsesKept$Photo") (List.mem_of_getElem? (i := 8) rfl)) (cc_rcv Cx hM hid rfl) hdg kk
theorem i_X11_isOfKind_294 {p : Program} {l : Launch} {e : Env} {R : Room} {s : State} {m : MethodId} {args : Array Value} {below : List Frame} {meth : Method} {c : Code} {H H0 : Heap} {locs : List Loc} {cells slots : Nat} {Q : State → Prop} {pc : Nat} {ls : Array Slot} {rest : List Value} {D : va_G} {X : cc_X} {st : cc_S} {i : Nat} (Cx : cc_C p s m args meth c cX11_isOfKind 2 (some .boolean) RX11 D X) (hM : cc_H D X H0 st H locs) (hid : cc_go X i [3, 4, 5, 6, 7, 8, 11] = true) (hdg : decode cX11_isOfKind pc = .ok (.instanceof 294, 3)) (kk : W p l e R s m args below meth c H locs cells slots Q (F0 m (pc + 3) ls (.int (cc_io (cx_K X i) 4) :: rest))) : W p l e R s m args below meth c H locs cells slots Q (F0 m pc ls (.ref (cx_a X i) :: rest)) := by
  have hc := cc_go_c hid
  simp only [List.mem_cons, List.not_mem_nil, or_false] at hc
  have hown := Cx.2.2.2.2.1
  have hts := Cx.2.2.2.2.2.1
  rcases hc with h | h | h | h | h | h | h
  · have hid := cc_go_1 hid h
    rw [h] at kk
    exact va_instNo (C := RX1) Cx.1 Cx.2.1 hown (hts _ cw527) (Cx.2.2.2.2.2.2.2.2.1.1 ("EclipsesKept$Bird", "EclipsesKept$Child") (List.mem_of_getElem? (i := 2) rfl)) (cc_rcv Cx hM hid rfl) hdg kk
  · have hid := cc_go_1 hid h
    rw [h] at kk
    exact va_instS Cx.1 Cx.2.1 hown (hts _ cw527) ((Cx.2.2.2.2.2.2.2.1.1 4 _ rfl).2) (cc_rcv Cx hM hid rfl) hdg kk
  · have hid := cc_go_1 hid h
    rw [h] at kk
    exact va_instNo (C := RX3) Cx.1 Cx.2.1 hown (hts _ cw527) (Cx.2.2.2.2.2.2.2.2.1.1 ("EclipsesKept$Crown", "EclipsesKept$Child") (List.mem_of_getElem? (i := 10) rfl)) (cc_rcv Cx hM hid rfl) hdg kk
  · have hid := cc_go_1 hid h
    rw [h] at kk
    exact va_instNo (C := RX4) Cx.1 Cx.2.1 hown (hts _ cw527) (Cx.2.2.2.2.2.2.2.2.1.1 ("EclipsesKept$Need", "EclipsesKept$Child") (List.mem_of_getElem? (i := 16) rfl)) (cc_rcv Cx hM hid rfl) hdg kk
  · have hid := cc_go_1 hid h
    rw [h] at kk
    exact va_instNo (C := RX5) Cx.1 Cx.2.1 hown (hts _ cw527) (Cx.2.2.2.2.2.2.2.2.1.1 ("EclipsesKept$Photo", "EclipsesKept$Child") (List.mem_of_getElem? (i := 21) rfl)) (cc_rcv Cx hM hid rfl) hdg kk
  · have hid := cc_go_1 hid h
    rw [h] at kk
    exact va_instNo (C := RX6) Cx.1 Cx.2.1 hown (hts _ cw527) (Cx.2.2.2.2.2.2.2.2.1.1 ("EclipsesKept$Siege", "EclipsesKept$Child") (List.mem_of_getElem? (i := 26) rfl)) (cc_rcv Cx hM hid rfl) hdg kk
  · have hid := cc_go_1 hid h
    rw [h] at kk
    exact va_instNo (C := RX9) Cx.1 Cx.2.1 hown (hts _ cw527) (Cx.2.2.2.2.2.2.2.2.1.1 ("EclipsesKept$Told", "EclipsesKept$Child") (List.mem_of_getElem? (i := 31) rfl)) (cc_rcv Cx hM hid rfl) hdg kk
theorem i_X11_isOfKind_297 {p : Program} {l : Launch} {e : Env} {R : Room} {s : State} {m : MethodId} {args : Array Value} {below : List Frame} {meth : Method} {c : Code} {H H0 : Heap} {locs : List Loc} {cells slots : Nat} {Q : State → Prop} {pc : Nat} {ls : Array Slot} {rest : List Value} {D : va_G} {X : cc_X} {st : cc_S} {i : Nat} (Cx : cc_C p s m args meth c cX11_isOfKind 2 (some .boolean) RX11 D X) (hM : cc_H D X H0 st H locs) (hid : cc_go X i [3, 4, 5, 6, 7, 8, 11] = true) (hdg : decode cX11_isOfKind pc = .ok (.instanceof 297, 3)) (kk : W p l e R s m args below meth c H locs cells slots Q (F0 m (pc + 3) ls (.int (cc_io (cx_K X i) 3) :: rest))) : W p l e R s m args below meth c H locs cells slots Q (F0 m pc ls (.ref (cx_a X i) :: rest)) := by
  have hc := cc_go_c hid
  simp only [List.mem_cons, List.not_mem_nil, or_false] at hc
  have hown := Cx.2.2.2.2.1
  have hts := Cx.2.2.2.2.2.1
  rcases hc with h | h | h | h | h | h | h
  · have hid := cc_go_1 hid h
    rw [h] at kk
    exact va_instS Cx.1 Cx.2.1 hown (hts _ cw529) ((Cx.2.2.2.2.2.2.2.1.1 3 _ rfl).2) (cc_rcv Cx hM hid rfl) hdg kk
  · have hid := cc_go_1 hid h
    rw [h] at kk
    exact va_instNo (C := RX2) Cx.1 Cx.2.1 hown (hts _ cw529) (Cx.2.2.2.2.2.2.2.2.1.1 ("EclipsesKept$Child", "EclipsesKept$Bird") (List.mem_of_getElem? (i := 6) rfl)) (cc_rcv Cx hM hid rfl) hdg kk
  · have hid := cc_go_1 hid h
    rw [h] at kk
    exact va_instNo (C := RX3) Cx.1 Cx.2.1 hown (hts _ cw529) (Cx.2.2.2.2.2.2.2.2.1.1 ("EclipsesKept$Crown", "EclipsesKept$Bird") (List.mem_of_getElem? (i := 11) rfl)) (cc_rcv Cx hM hid rfl) hdg kk
  · have hid := cc_go_1 hid h
    rw [h] at kk
    exact va_instNo (C := RX4) Cx.1 Cx.2.1 hown (hts _ cw529) (Cx.2.2.2.2.2.2.2.2.1.1 ("EclipsesKept$Need", "EclipsesKept$Bird") (List.mem_of_getElem? (i := 17) rfl)) (cc_rcv Cx hM hid rfl) hdg kk
  · have hid := cc_go_1 hid h
    rw [h] at kk
    exact va_instNo (C := RX5) Cx.1 Cx.2.1 hown (hts _ cw529) (Cx.2.2.2.2.2.2.2.2.1.1 ("EclipsesKept$Photo", "EclipsesKept$Bird") (List.mem_of_getElem? (i := 22) rfl)) (cc_rcv Cx hM hid rfl) hdg kk
  · have hid := cc_go_1 hid h
    rw [h] at kk
    exact va_instNo (C := RX6) Cx.1 Cx.2.1 hown (hts _ cw529) (Cx.2.2.2.2.2.2.2.2.1.1 ("EclipsesKept$Siege", "EclipsesKept$Bird") (List.mem_of_getElem? (i := 27) rfl)) (cc_rcv Cx hM hid rfl) hdg kk
  · have hid := cc_go_1 hid h
    rw [h] at kk
    exact va_instNo (C := RX9) Cx.1 Cx.2.1 hown (hts _ cw529) (Cx.2.2.2.2.2.2.2.2.1.1 ("EclipsesKept$Told", "EclipsesKept$Bird") (List.mem_of_getElem? (i := 32) rfl)) (cc_rcv Cx hM hid rfl) hdg kk
theorem i_X11_isOfKind_104 {p : Program} {l : Launch} {e : Env} {R : Room} {s : State} {m : MethodId} {args : Array Value} {below : List Frame} {meth : Method} {c : Code} {H H0 : Heap} {locs : List Loc} {cells slots : Nat} {Q : State → Prop} {pc : Nat} {ls : Array Slot} {rest : List Value} {D : va_G} {X : cc_X} {st : cc_S} {i : Nat} (Cx : cc_C p s m args meth c cX11_isOfKind 2 (some .boolean) RX11 D X) (hM : cc_H D X H0 st H locs) (hid : cc_go X i [3, 4, 5, 6, 7, 8, 11] = true) (hdg : decode cX11_isOfKind pc = .ok (.instanceof 104, 3)) (kk : W p l e R s m args below meth c H locs cells slots Q (F0 m (pc + 3) ls (.int (cc_io (cx_K X i) 11) :: rest))) : W p l e R s m args below meth c H locs cells slots Q (F0 m pc ls (.ref (cx_a X i) :: rest)) := by
  have hc := cc_go_c hid
  simp only [List.mem_cons, List.not_mem_nil, or_false] at hc
  have hown := Cx.2.2.2.2.1
  have hts := Cx.2.2.2.2.2.1
  rcases hc with h | h | h | h | h | h | h
  · have hid := cc_go_1 hid h
    rw [h] at kk
    exact va_instNo (C := RX1) Cx.1 Cx.2.1 hown (hts _ cw531) (Cx.2.2.2.2.2.2.2.2.1.1 ("EclipsesKept$Bird", "EclipsesKept$Told") (List.mem_of_getElem? (i := 3) rfl)) (cc_rcv Cx hM hid rfl) hdg kk
  · have hid := cc_go_1 hid h
    rw [h] at kk
    exact va_instNo (C := RX2) Cx.1 Cx.2.1 hown (hts _ cw531) (Cx.2.2.2.2.2.2.2.2.1.1 ("EclipsesKept$Child", "EclipsesKept$Told") (List.mem_of_getElem? (i := 7) rfl)) (cc_rcv Cx hM hid rfl) hdg kk
  · have hid := cc_go_1 hid h
    rw [h] at kk
    exact va_instNo (C := RX3) Cx.1 Cx.2.1 hown (hts _ cw531) (Cx.2.2.2.2.2.2.2.2.1.1 ("EclipsesKept$Crown", "EclipsesKept$Told") (List.mem_of_getElem? (i := 12) rfl)) (cc_rcv Cx hM hid rfl) hdg kk
  · have hid := cc_go_1 hid h
    rw [h] at kk
    exact va_instNo (C := RX4) Cx.1 Cx.2.1 hown (hts _ cw531) (Cx.2.2.2.2.2.2.2.2.1.1 ("EclipsesKept$Need", "EclipsesKept$Told") (List.mem_of_getElem? (i := 18) rfl)) (cc_rcv Cx hM hid rfl) hdg kk
  · have hid := cc_go_1 hid h
    rw [h] at kk
    exact va_instNo (C := RX5) Cx.1 Cx.2.1 hown (hts _ cw531) (Cx.2.2.2.2.2.2.2.2.1.1 ("EclipsesKept$Photo", "EclipsesKept$Told") (List.mem_of_getElem? (i := 23) rfl)) (cc_rcv Cx hM hid rfl) hdg kk
  · have hid := cc_go_1 hid h
    rw [h] at kk
    exact va_instNo (C := RX6) Cx.1 Cx.2.1 hown (hts _ cw531) (Cx.2.2.2.2.2.2.2.2.1.1 ("EclipsesKept$Siege", "EclipsesKept$Told") (List.mem_of_getElem? (i := 28) rfl)) (cc_rcv Cx hM hid rfl) hdg kk
  · have hid := cc_go_1 hid h
    rw [h] at kk
    exact va_instS Cx.1 Cx.2.1 hown (hts _ cw531) ((Cx.2.2.2.2.2.2.2.1.1 11 _ rfl).2) (cc_rcv Cx hM hid rfl) hdg kk
theorem w_X11_isOfKind {p : Program} {l : Launch} {e : Env} {s : State} {m : MethodId} {args : Array Value} {below : List Frame} {meth : Method} {c : Code} {D : va_G} {X : cc_X} {r : Int32} {st' : cc_S} (Cx : cc_C p s m args meth c cX11_isOfKind 2 (some .boolean) RX11 D X) (fu : Nat) (x0 : Nat) (x1 : Int32) (st : cc_S) (hf : C_X11_isOfKind X fu x0 x1 st = some (r, st')) {H : Heap} {locs : List Loc} {ls : Array Slot} (hl : lv_has ls 2 [(0, .ref (cx_a X x0)), (1, .int x1)]) (hM : cc_H D X s.heap st H locs) : W p l e (mm_R 0 0) s m args below meth c H locs 0 0 (MQ below (cc_Qi D X r st') args s 0 0 (cc_A X)) (F0 m 0 ls []) := by
  unfold C_X11_isOfKind at hf
  refine lv_iload_n Cx.1 Cx.2.1 (dd_at td_X11_isOfKind 0 rfl) rfl (lv_at hl 1 rfl) ?_
  by_cases c1 : x1 = (0 : Int32)
  · replace hf := fc_of_t hf c1
    refine lv_tableIn (off := 43) (tgt := 44) Cx.1 Cx.2.1 (dd_at td_X11_isOfKind 1 rfl) (by rw [c1]; decide) (by rw [c1]; decide) (by rw [c1]; decide) (by decide) ?_
    refine lv_iconst (v := (1 : Int32)) Cx.1 Cx.2.1 (dd_at td_X11_isOfKind 2 rfl) (by decide) ?_
    exact cc_rz Cx hM (dd_at td_X11_isOfKind 3 rfl) rfl hf
  · replace hf := fc_of_f hf c1
    by_cases c2 : x1 = (1 : Int32)
    · replace hf := fc_of_t hf c2
      refine lv_tableIn (off := 45) (tgt := 46) Cx.1 Cx.2.1 (dd_at td_X11_isOfKind 1 rfl) (by rw [c2]; decide) (by rw [c2]; decide) (by rw [c2]; decide) (by decide) ?_
      refine lv_aload_n Cx.1 Cx.2.1 (dd_at td_X11_isOfKind 4 rfl) rfl (lv_at hl 0 rfl) ?_
      obtain ⟨g3, hf⟩ := fc_of_gd hf
      refine i_X11_isOfKind_283 Cx hM g3 (dd_at td_X11_isOfKind 5 rfl) ?_
      obtain ⟨g4, hf⟩ := fc_of_gd hf
      exact cc_rz Cx hM (dd_at td_X11_isOfKind 6 rfl) (fc_of_zb g4) hf
    · replace hf := fc_of_f hf c2
      by_cases c5 : x1 = (2 : Int32)
      · replace hf := fc_of_t hf c5
        refine lv_tableIn (off := 50) (tgt := 51) Cx.1 Cx.2.1 (dd_at td_X11_isOfKind 1 rfl) (by rw [c5]; decide) (by rw [c5]; decide) (by rw [c5]; decide) (by decide) ?_
        refine lv_aload_n Cx.1 Cx.2.1 (dd_at td_X11_isOfKind 7 rfl) rfl (lv_at hl 0 rfl) ?_
        obtain ⟨g6, hf⟩ := fc_of_gd hf
        refine i_X11_isOfKind_288 Cx hM g6 (dd_at td_X11_isOfKind 8 rfl) ?_
        obtain ⟨g7, hf⟩ := fc_of_gd hf
        exact cc_rz Cx hM (dd_at td_X11_isOfKind 9 rfl) (fc_of_zb g7) hf
      · replace hf := fc_of_f hf c5
        by_cases c8 : x1 = (3 : Int32)
        · replace hf := fc_of_t hf c8
          refine lv_tableIn (off := 55) (tgt := 56) Cx.1 Cx.2.1 (dd_at td_X11_isOfKind 1 rfl) (by rw [c8]; decide) (by rw [c8]; decide) (by rw [c8]; decide) (by decide) ?_
          refine lv_aload_n Cx.1 Cx.2.1 (dd_at td_X11_isOfKind 10 rfl) rfl (lv_at hl 0 rfl) ?_
          obtain ⟨g9, hf⟩ := fc_of_gd hf
          refine i_X11_isOfKind_291 Cx hM g9 (dd_at td_X11_isOfKind 11 rfl) ?_
          obtain ⟨g10, hf⟩ := fc_of_gd hf
          exact cc_rz Cx hM (dd_at td_X11_isOfKind 12 rfl) (fc_of_zb g10) hf
        · replace hf := fc_of_f hf c8
          by_cases c11 : x1 = (4 : Int32)
          · replace hf := fc_of_t hf c11
            refine lv_tableIn (off := 60) (tgt := 61) Cx.1 Cx.2.1 (dd_at td_X11_isOfKind 1 rfl) (by rw [c11]; decide) (by rw [c11]; decide) (by rw [c11]; decide) (by decide) ?_
            refine lv_aload_n Cx.1 Cx.2.1 (dd_at td_X11_isOfKind 13 rfl) rfl (lv_at hl 0 rfl) ?_
            obtain ⟨g12, hf⟩ := fc_of_gd hf
            refine i_X11_isOfKind_294 Cx hM g12 (dd_at td_X11_isOfKind 14 rfl) ?_
            obtain ⟨g13, hf⟩ := fc_of_gd hf
            exact cc_rz Cx hM (dd_at td_X11_isOfKind 15 rfl) (fc_of_zb g13) hf
          · replace hf := fc_of_f hf c11
            by_cases c14 : x1 = (5 : Int32)
            · replace hf := fc_of_t hf c14
              refine lv_tableIn (off := 65) (tgt := 66) Cx.1 Cx.2.1 (dd_at td_X11_isOfKind 1 rfl) (by rw [c14]; decide) (by rw [c14]; decide) (by rw [c14]; decide) (by decide) ?_
              refine lv_aload_n Cx.1 Cx.2.1 (dd_at td_X11_isOfKind 16 rfl) rfl (lv_at hl 0 rfl) ?_
              obtain ⟨g15, hf⟩ := fc_of_gd hf
              refine i_X11_isOfKind_297 Cx hM g15 (dd_at td_X11_isOfKind 17 rfl) ?_
              obtain ⟨g16, hf⟩ := fc_of_gd hf
              exact cc_rz Cx hM (dd_at td_X11_isOfKind 18 rfl) (fc_of_zb g16) hf
            · replace hf := fc_of_f hf c14
              by_cases c17 : x1 = (6 : Int32)
              · replace hf := fc_of_t hf c17
                refine lv_tableIn (off := 70) (tgt := 71) Cx.1 Cx.2.1 (dd_at td_X11_isOfKind 1 rfl) (by rw [c17]; decide) (by rw [c17]; decide) (by rw [c17]; decide) (by decide) ?_
                refine lv_aload_n Cx.1 Cx.2.1 (dd_at td_X11_isOfKind 19 rfl) rfl (lv_at hl 0 rfl) ?_
                obtain ⟨g18, hf⟩ := fc_of_gd hf
                refine i_X11_isOfKind_104 Cx hM g18 (dd_at td_X11_isOfKind 20 rfl) ?_
                obtain ⟨g19, hf⟩ := fc_of_gd hf
                exact cc_rz Cx hM (dd_at td_X11_isOfKind 21 rfl) (fc_of_zb g19) hf
              · replace hf := fc_of_f hf c17
                refine lv_tableOut (tgt := 76) Cx.1 Cx.2.1 (dd_at td_X11_isOfKind 1 rfl) (by have q0 := lv_neT c1 (a := 0) (by decide); have q1 := lv_neT c2 (a := 1) (by decide); have q2 := lv_neT c5 (a := 2) (by decide); have q3 := lv_neT c8 (a := 3) (by decide); have q4 := lv_neT c11 (a := 4) (by decide); have q5 := lv_neT c14 (a := 5) (by decide); have q6 := lv_neT c17 (a := 6) (by decide); omega) (by decide) ?_
                refine lv_iconst (v := (0 : Int32)) Cx.1 Cx.2.1 (dd_at td_X11_isOfKind 22 rfl) (by decide) ?_
                exact cc_rz Cx hM (dd_at td_X11_isOfKind 23 rfl) rfl hf
theorem c_X11_isOfKind (l : Launch) (D : va_G) (X : cc_X) (fu : Nat) (x0 : Nat) (x1 : Int32) (st : cc_S) : cc_Mi l D X yX11_isOfKind cX11_isOfKind 2 (some .boolean) 0 0 [.ref (cx_a X x0), .int x1] st (C_X11_isOfKind X fu x0 x1 st) := by
  intro r st' hf
  refine cc_enter (cc := cX11_isOfKind) (nL := 2) (ret := some .boolean) (by decide +kernel) rfl (Nat.le_of_ble_eq_true rfl) ?_
  intro p e s m args below meth c ls Cx hl hM
  exact w_X11_isOfKind Cx fu x0 x1 st hf hl hM

